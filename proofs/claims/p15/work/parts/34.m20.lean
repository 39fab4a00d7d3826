theorem d_MO_beside_0 : decode b_MO_beside 0 = .ok (.iload_n 2, 1) := dc_28 (by decide +kernel)
theorem d_MO_beside_1 : decode b_MO_beside 1 = .ok (.iconst 4, 1) := dc_7 (by decide +kernel)
theorem d_MO_beside_2 : decode b_MO_beside 2 = .ok (.if_icmp .ne 5, 3) := dc_160 (by decide +kernel)
theorem d_MO_beside_5 : decode b_MO_beside 5 = .ok (.iconst (-1), 1) := dc_2 (by decide +kernel)
theorem d_MO_beside_6 : decode b_MO_beside 6 = .ok (.ireturn, 1) := dc_172 (by decide +kernel)
theorem d_MO_beside_7 : decode b_MO_beside 7 = .ok (.iload_n 1, 1) := dc_27 (by decide +kernel)
theorem d_MO_beside_8 : decode b_MO_beside 8 = .ok (.aload_n 0, 1) := dc_42 (by decide +kernel)
theorem d_MO_beside_9 : decode b_MO_beside 9 = .ok (.getfield 13, 3) := dc_180 (by decide +kernel)
theorem d_MO_beside_12 : decode b_MO_beside 12 = .ok (.iconst 0, 1) := dc_3 (by decide +kernel)
theorem d_MO_beside_13 : decode b_MO_beside 13 = .ok (.iaload, 1) := dc_46 (by decide +kernel)
theorem d_MO_beside_14 : decode b_MO_beside 14 = .ok (.irem, 1) := dc_112 (by decide +kernel)
theorem d_MO_beside_15 : decode b_MO_beside 15 = .ok (.iload_n 2, 1) := dc_28 (by decide +kernel)
theorem d_MO_beside_16 : decode b_MO_beside 16 = .ok (.iconst 1, 1) := dc_4 (by decide +kernel)
theorem d_MO_beside_17 : decode b_MO_beside 17 = .ok (.if_icmp .ne 7, 3) := dc_160 (by decide +kernel)
theorem d_MO_beside_20 : decode b_MO_beside 20 = .ok (.iconst 1, 1) := dc_4 (by decide +kernel)
theorem d_MO_beside_21 : decode b_MO_beside 21 = .ok (.goto 13, 3) := dc_167 (by decide +kernel)
theorem d_MO_beside_24 : decode b_MO_beside 24 = .ok (.iload_n 2, 1) := dc_28 (by decide +kernel)
theorem d_MO_beside_25 : decode b_MO_beside 25 = .ok (.iconst 3, 1) := dc_6 (by decide +kernel)
theorem d_MO_beside_26 : decode b_MO_beside 26 = .ok (.if_icmp .ne 7, 3) := dc_160 (by decide +kernel)
theorem d_MO_beside_29 : decode b_MO_beside 29 = .ok (.iconst (-1), 1) := dc_2 (by decide +kernel)
theorem d_MO_beside_30 : decode b_MO_beside 30 = .ok (.goto 4, 3) := dc_167 (by decide +kernel)
theorem d_MO_beside_33 : decode b_MO_beside 33 = .ok (.iconst 0, 1) := dc_3 (by decide +kernel)
theorem d_MO_beside_34 : decode b_MO_beside 34 = .ok (.iadd, 1) := dc_96 (by decide +kernel)
theorem d_MO_beside_35 : decode b_MO_beside 35 = .ok (.istore_n 3, 1) := dc_62 (by decide +kernel)
theorem d_MO_beside_36 : decode b_MO_beside 36 = .ok (.iload_n 1, 1) := dc_27 (by decide +kernel)
theorem d_MO_beside_37 : decode b_MO_beside 37 = .ok (.aload_n 0, 1) := dc_42 (by decide +kernel)
theorem d_MO_beside_38 : decode b_MO_beside 38 = .ok (.getfield 13, 3) := dc_180 (by decide +kernel)
theorem d_MO_beside_41 : decode b_MO_beside 41 = .ok (.iconst 0, 1) := dc_3 (by decide +kernel)
theorem d_MO_beside_42 : decode b_MO_beside 42 = .ok (.iaload, 1) := dc_46 (by decide +kernel)
theorem d_MO_beside_43 : decode b_MO_beside 43 = .ok (.idiv, 1) := dc_108 (by decide +kernel)
theorem d_MO_beside_44 : decode b_MO_beside 44 = .ok (.iload_n 2, 1) := dc_28 (by decide +kernel)
theorem d_MO_beside_45 : decode b_MO_beside 45 = .ok (.iconst 2, 1) := dc_5 (by decide +kernel)
theorem d_MO_beside_46 : decode b_MO_beside 46 = .ok (.if_icmp .ne 7, 3) := dc_160 (by decide +kernel)
theorem d_MO_beside_49 : decode b_MO_beside 49 = .ok (.iconst 1, 1) := dc_4 (by decide +kernel)
theorem d_MO_beside_50 : decode b_MO_beside 50 = .ok (.goto 12, 3) := dc_167 (by decide +kernel)
theorem d_MO_beside_53 : decode b_MO_beside 53 = .ok (.iload_n 2, 1) := dc_28 (by decide +kernel)
theorem d_MO_beside_54 : decode b_MO_beside 54 = .ok (.ifCond .ne 7, 3) := dc_154 (by decide +kernel)
theorem d_MO_beside_57 : decode b_MO_beside 57 = .ok (.iconst (-1), 1) := dc_2 (by decide +kernel)
theorem d_MO_beside_58 : decode b_MO_beside 58 = .ok (.goto 4, 3) := dc_167 (by decide +kernel)
theorem d_MO_beside_61 : decode b_MO_beside 61 = .ok (.iconst 0, 1) := dc_3 (by decide +kernel)
theorem d_MO_beside_62 : decode b_MO_beside 62 = .ok (.iadd, 1) := dc_96 (by decide +kernel)
theorem d_MO_beside_63 : decode b_MO_beside 63 = .ok (.istore 4, 2) := dc_54 (by decide +kernel)
theorem d_MO_beside_65 : decode b_MO_beside 65 = .ok (.iload_n 3, 1) := dc_29 (by decide +kernel)
theorem d_MO_beside_66 : decode b_MO_beside 66 = .ok (.ifCond .lt 29, 3) := dc_155 (by decide +kernel)
theorem d_MO_beside_69 : decode b_MO_beside 69 = .ok (.iload 4, 2) := dc_21 (by decide +kernel)
theorem d_MO_beside_71 : decode b_MO_beside 71 = .ok (.ifCond .lt 24, 3) := dc_155 (by decide +kernel)
theorem d_MO_beside_74 : decode b_MO_beside 74 = .ok (.iload_n 3, 1) := dc_29 (by decide +kernel)
theorem d_MO_beside_75 : decode b_MO_beside 75 = .ok (.aload_n 0, 1) := dc_42 (by decide +kernel)
theorem d_MO_beside_76 : decode b_MO_beside 76 = .ok (.getfield 13, 3) := dc_180 (by decide +kernel)
theorem d_MO_beside_79 : decode b_MO_beside 79 = .ok (.iconst 0, 1) := dc_3 (by decide +kernel)
theorem d_MO_beside_80 : decode b_MO_beside 80 = .ok (.iaload, 1) := dc_46 (by decide +kernel)
theorem d_MO_beside_81 : decode b_MO_beside 81 = .ok (.if_icmp .ge 14, 3) := dc_162 (by decide +kernel)
theorem d_MO_beside_84 : decode b_MO_beside 84 = .ok (.iload 4, 2) := dc_21 (by decide +kernel)
theorem d_MO_beside_86 : decode b_MO_beside 86 = .ok (.aload_n 0, 1) := dc_42 (by decide +kernel)
theorem d_MO_beside_87 : decode b_MO_beside 87 = .ok (.getfield 13, 3) := dc_180 (by decide +kernel)
theorem d_MO_beside_90 : decode b_MO_beside 90 = .ok (.iconst 1, 1) := dc_4 (by decide +kernel)
theorem d_MO_beside_91 : decode b_MO_beside 91 = .ok (.iaload, 1) := dc_46 (by decide +kernel)
theorem d_MO_beside_92 : decode b_MO_beside 92 = .ok (.if_icmp .lt 7, 3) := dc_161 (by decide +kernel)
theorem d_MO_beside_95 : decode b_MO_beside 95 = .ok (.iconst (-1), 1) := dc_2 (by decide +kernel)
theorem d_MO_beside_96 : decode b_MO_beside 96 = .ok (.goto 14, 3) := dc_167 (by decide +kernel)
theorem d_MO_beside_99 : decode b_MO_beside 99 = .ok (.iload 4, 2) := dc_21 (by decide +kernel)
theorem d_MO_beside_101 : decode b_MO_beside 101 = .ok (.aload_n 0, 1) := dc_42 (by decide +kernel)
theorem d_MO_beside_102 : decode b_MO_beside 102 = .ok (.getfield 13, 3) := dc_180 (by decide +kernel)
theorem d_MO_beside_105 : decode b_MO_beside 105 = .ok (.iconst 0, 1) := dc_3 (by decide +kernel)
theorem d_MO_beside_106 : decode b_MO_beside 106 = .ok (.iaload, 1) := dc_46 (by decide +kernel)
theorem d_MO_beside_107 : decode b_MO_beside 107 = .ok (.imul, 1) := dc_104 (by decide +kernel)
theorem d_MO_beside_108 : decode b_MO_beside 108 = .ok (.iload_n 3, 1) := dc_29 (by decide +kernel)
theorem d_MO_beside_109 : decode b_MO_beside 109 = .ok (.iadd, 1) := dc_96 (by decide +kernel)
theorem d_MO_beside_110 : decode b_MO_beside 110 = .ok (.ireturn, 1) := dc_172 (by decide +kernel)
def t_MO_beside_L62 (x1 : Int) (x2 : Int)  (M : Mem) (v1_ : Int) (v2_ : Int) (v3_ : Int) : Option (Int) := (if v1_ < 0 then (some (-1)) else (if (w32 (v2_ + v3_)) < 0 then (some (-1)) else (if (M.1 193 0) ≤ v1_ then (some (-1)) else (if (w32 (v2_ + v3_)) < (M.1 193 1) then (some (w32 ((w32 ((w32 (v2_ + v3_)) * (M.1 193 0))) + v1_))) else (some (-1))))))
def t_MO_beside_L34 (x1 : Int) (x2 : Int)  (M : Mem) (v3_ : Int) (v4_ : Int) : Option (Int) := (if (M.1 193 0) = 0 then none else (if x2 = 2 then (t_MO_beside_L62 x1 x2 M (w32 (v3_ + v4_)) (q_div x1 (M.1 193 0)) 1) else (if x2 = 0 then (t_MO_beside_L62 x1 x2 M (w32 (v3_ + v4_)) (q_div x1 (M.1 193 0)) (-1)) else (t_MO_beside_L62 x1 x2 M (w32 (v3_ + v4_)) (q_div x1 (M.1 193 0)) 0))))
def t_MO_beside (M : Mem) (x1 : Int) (x2 : Int) : Option (Int) := (if x2 = 4 then (some (-1)) else (if (M.1 193 0) = 0 then none else (if x2 = 1 then (t_MO_beside_L34 x1 x2 M (q_rem x1 (M.1 193 0)) 1) else (if x2 = 3 then (t_MO_beside_L34 x1 x2 M (q_rem x1 (M.1 193 0)) (-1)) else (t_MO_beside_L34 x1 x2 M (q_rem x1 (M.1 193 0)) 0)))))
set_option maxHeartbeats 4000000 in
set_option maxRecDepth 100000 in
theorem k_MO_beside_L62 (l : Launch) {p : Program} {e : Env} {s : State} {m : MethodId} {below : List Frame} {meth : Method} {c : Code} {b n : Nat} {C : CT} (hlo : 231 ≤ n) (x1 : Int) (x2 : Int) (hx1 : InR x1) (hx2 : InR x2) (F : Cx b p m c b_MO_beside 5 s ([.ref (b + 191), vI x1, vI x2] : List Value).toArray "WardFallsModel" C n 231) (hlk : meth.locks = false) (hr : meth.sig.returnType = some .int) {res : Int} (M : Mem) (v1_ : Int) (hv1_ : InR v1_) (v2_ : Int) (hv2_ : InR v2_) (v3_ : Int) (hv3_ : InR v3_) (H : Heap) (locs : List Loc) (ls : Array Slot) (hS : St b C n M s H locs) (hl : lv_has ls 5 [(0, .ref (b + 191)), (3, vI v1_)]) (hT : t_MO_beside_L62 x1 x2 M v1_ v2_ v3_ = some res) : W p l e (headSpec (wsM y_MO_beside b_MO_beside 5 (some .int)) (rmD 0)).room s m ([.ref (b + 191), vI x1, vI x2] : List Value).toArray below meth c H locs 0 0 (MQ below (QI b C n M res) ([.ref (b + 191), vI x1, vI x2] : List Value).toArray s 0 0 (frb b)) (F0 m 62 ls [vI v3_, vI v2_]) := by
  unfold t_MO_beside_L62 at hT
  refine r_iadd F.hx F.hb d_MO_beside_62 ?_
  refine lv_istore (lv' := [(4, vI (w32 (v2_ + v3_))), (0, .ref (b + 191)), (3, vI v1_)]) F.hx F.hb d_MO_beside_63 hl (Nat.le_of_ble_eq_true rfl) rfl (fun ls hl => ?_)
  refine lv_iload_n F.hx F.hb d_MO_beside_65 rfl (lv_at hl 2 rfl) ?_
  refine r_if_lt (tgt := 95) F.hx F.hb hv1_ d_MO_beside_66 (by decide) (fun c10 => ?_) (fun c10 => ?_)
  · replace hT := (if_pos c10).symm.trans hT
    refine r_iconst F.hx F.hb d_MO_beside_95 ?_
    refine lv_goto (tgt := 110) F.hx F.hb d_MO_beside_96 (by decide) ?_
    cases hT
    exact r_iret F hlk hr rfl hS (inr_c rfl) d_MO_beside_110
  · replace hT := (if_neg c10).symm.trans hT
    refine lv_iload F.hx F.hb d_MO_beside_69 (lv_at hl 0 rfl) ?_
    refine r_if_lt (tgt := 95) F.hx F.hb (inr_w32 _) d_MO_beside_71 (by decide) (fun c11 => ?_) (fun c11 => ?_)
    · replace hT := (if_pos c11).symm.trans hT
      refine r_iconst F.hx F.hb d_MO_beside_95 ?_
      refine lv_goto (tgt := 110) F.hx F.hb d_MO_beside_96 (by decide) ?_
      cases hT
      exact r_iret F hlk hr rfl hS (inr_c rfl) d_MO_beside_110
    · replace hT := (if_neg c11).symm.trans hT
      refine lv_iload_n F.hx F.hb d_MO_beside_74 rfl (lv_at hl 2 rfl) ?_
      refine lv_aload_n F.hx F.hb d_MO_beside_75 rfl (lv_at hl 1 rfl) ?_
      refine r_get (v := .ref (b + 193)) (N := 68) (T := T1) (j := 3) F hS (show 191 < 231 by decide) (show shK 191 = 5 from rfl) (show shN 191 = 68 from rfl) rfl (Nat.le_of_ble_eq_true rfl) ing1 mw_1392 (fv_sg rfl rfl rfl) d_MO_beside_76 ?_
      refine r_iconst F.hx F.hb d_MO_beside_79 ?_
      refine r_iald F hS (show 193 < 231 by decide) (show shK 193 = 0 from rfl) (show shN 193 = 18 from rfl) (inr_c rfl) (by omega) (by omega) d_MO_beside_80 ?_
      have i12 := hS.rng 193 0
      refine r_icmp_ge (tgt := 95) F.hx F.hb hv1_ i12 d_MO_beside_81 (by decide) (fun c13 => ?_) (fun c13 => ?_)
      · replace hT := (if_pos c13).symm.trans hT
        refine r_iconst F.hx F.hb d_MO_beside_95 ?_
        refine lv_goto (tgt := 110) F.hx F.hb d_MO_beside_96 (by decide) ?_
        cases hT
        exact r_iret F hlk hr rfl hS (inr_c rfl) d_MO_beside_110
      · replace hT := (if_neg c13).symm.trans hT
        refine lv_iload F.hx F.hb d_MO_beside_84 (lv_at hl 0 rfl) ?_
        refine lv_aload_n F.hx F.hb d_MO_beside_86 rfl (lv_at hl 1 rfl) ?_
        refine r_get (v := .ref (b + 193)) (N := 68) (T := T1) (j := 3) F hS (show 191 < 231 by decide) (show shK 191 = 5 from rfl) (show shN 191 = 68 from rfl) rfl (Nat.le_of_ble_eq_true rfl) ing1 mw_1392 (fv_sg rfl rfl rfl) d_MO_beside_87 ?_
        refine r_iconst F.hx F.hb d_MO_beside_90 ?_
        refine r_iald F hS (show 193 < 231 by decide) (show shK 193 = 0 from rfl) (show shN 193 = 18 from rfl) (inr_c rfl) (by omega) (by omega) d_MO_beside_91 ?_
        have i14 := hS.rng 193 1
        refine r_icmp_lt (tgt := 99) F.hx F.hb (inr_w32 _) i14 d_MO_beside_92 (by decide) (fun c15 => ?_) (fun c15 => ?_)
        · replace hT := (if_pos c15).symm.trans hT
          refine lv_iload F.hx F.hb d_MO_beside_99 (lv_at hl 0 rfl) ?_
          refine lv_aload_n F.hx F.hb d_MO_beside_101 rfl (lv_at hl 1 rfl) ?_
          refine r_get (v := .ref (b + 193)) (N := 68) (T := T1) (j := 3) F hS (show 191 < 231 by decide) (show shK 191 = 5 from rfl) (show shN 191 = 68 from rfl) rfl (Nat.le_of_ble_eq_true rfl) ing1 mw_1392 (fv_sg rfl rfl rfl) d_MO_beside_102 ?_
          refine r_iconst F.hx F.hb d_MO_beside_105 ?_
          refine r_iald F hS (show 193 < 231 by decide) (show shK 193 = 0 from rfl) (show shN 193 = 18 from rfl) (inr_c rfl) (by omega) (by omega) d_MO_beside_106 ?_
          have i16 := hS.rng 193 0
          refine r_imul F.hx F.hb d_MO_beside_107 ?_
          refine lv_iload_n F.hx F.hb d_MO_beside_108 rfl (lv_at hl 2 rfl) ?_
          refine r_iadd F.hx F.hb d_MO_beside_109 ?_
          cases hT
          exact r_iret F hlk hr rfl hS (inr_w32 _) d_MO_beside_110
        · replace hT := (if_neg c15).symm.trans hT
          refine r_iconst F.hx F.hb d_MO_beside_95 ?_
          refine lv_goto (tgt := 110) F.hx F.hb d_MO_beside_96 (by decide) ?_
          cases hT
          exact r_iret F hlk hr rfl hS (inr_c rfl) d_MO_beside_110
set_option maxHeartbeats 4000000 in
set_option maxRecDepth 100000 in
theorem k_MO_beside_L34 (l : Launch) {p : Program} {e : Env} {s : State} {m : MethodId} {below : List Frame} {meth : Method} {c : Code} {b n : Nat} {C : CT} (hlo : 231 ≤ n) (x1 : Int) (x2 : Int) (hx1 : InR x1) (hx2 : InR x2) (F : Cx b p m c b_MO_beside 5 s ([.ref (b + 191), vI x1, vI x2] : List Value).toArray "WardFallsModel" C n 231) (hlk : meth.locks = false) (hr : meth.sig.returnType = some .int) {res : Int} (M : Mem) (v3_ : Int) (hv3_ : InR v3_) (v4_ : Int) (hv4_ : InR v4_) (H : Heap) (locs : List Loc) (ls : Array Slot) (hS : St b C n M s H locs) (hl : lv_has ls 5 [(0, .ref (b + 191)), (1, vI x1), (2, vI x2)]) (hT : t_MO_beside_L34 x1 x2 M v3_ v4_ = some res) : W p l e (headSpec (wsM y_MO_beside b_MO_beside 5 (some .int)) (rmD 0)).room s m ([.ref (b + 191), vI x1, vI x2] : List Value).toArray below meth c H locs 0 0 (MQ below (QI b C n M res) ([.ref (b + 191), vI x1, vI x2] : List Value).toArray s 0 0 (frb b)) (F0 m 34 ls [vI v4_, vI v3_]) := by
  unfold t_MO_beside_L34 at hT
  refine r_iadd F.hx F.hb d_MO_beside_34 ?_
  refine lv_istore_n (lv' := [(3, vI (w32 (v3_ + v4_))), (0, .ref (b + 191)), (1, vI x1), (2, vI x2)]) F.hx F.hb d_MO_beside_35 rfl hl (Nat.le_of_ble_eq_true rfl) rfl (fun ls hl => ?_)
  refine lv_iload_n F.hx F.hb d_MO_beside_36 rfl (lv_at hl 2 rfl) ?_
  refine lv_aload_n F.hx F.hb d_MO_beside_37 rfl (lv_at hl 1 rfl) ?_
  refine r_get (v := .ref (b + 193)) (N := 68) (T := T1) (j := 3) F hS (show 191 < 231 by decide) (show shK 191 = 5 from rfl) (show shN 191 = 68 from rfl) rfl (Nat.le_of_ble_eq_true rfl) ing1 mw_1392 (fv_sg rfl rfl rfl) d_MO_beside_38 ?_
  refine r_iconst F.hx F.hb d_MO_beside_41 ?_
  refine r_iald F hS (show 193 < 231 by decide) (show shK 193 = 0 from rfl) (show shN 193 = 18 from rfl) (inr_c rfl) (by omega) (by omega) d_MO_beside_42 ?_
  have i6 := hS.rng 193 0
  obtain ⟨c7, hT⟩ := q_guardn hT
  refine r_idiv F.hx F.hb i6 c7 d_MO_beside_43 ?_
  refine lv_iload_n F.hx F.hb d_MO_beside_44 rfl (lv_at hl 3 rfl) ?_
  refine r_iconst F.hx F.hb d_MO_beside_45 ?_
  refine r_icmp_ne (tgt := 53) F.hx F.hb hx2 (inr_c rfl) d_MO_beside_46 (by decide) (fun c8 => ?_) (fun c8 => ?_)
  · replace hT := (if_neg c8).symm.trans hT
    refine lv_iload_n F.hx F.hb d_MO_beside_53 rfl (lv_at hl 3 rfl) ?_
    refine r_if_ne (tgt := 61) F.hx F.hb hx2 d_MO_beside_54 (by decide) (fun c9 => ?_) (fun c9 => ?_)
    · replace hT := (if_neg c9).symm.trans hT
      refine r_iconst F.hx F.hb d_MO_beside_61 ?_
      exact k_MO_beside_L62 l hlo x1 x2 hx1 hx2 F hlk hr M (w32 (v3_ + v4_)) (inr_w32 _) (q_div x1 (M.1 193 0)) (q_inr_toInt _) 0 (inr_c rfl) _ _ _ hS (lv_sub hl [1, 0] rfl) hT
    · replace hT := (if_pos c9).symm.trans hT
      refine r_iconst F.hx F.hb d_MO_beside_57 ?_
      refine lv_goto (tgt := 62) F.hx F.hb d_MO_beside_58 (by decide) ?_
      exact k_MO_beside_L62 l hlo x1 x2 hx1 hx2 F hlk hr M (w32 (v3_ + v4_)) (inr_w32 _) (q_div x1 (M.1 193 0)) (q_inr_toInt _) (-1) (inr_c rfl) _ _ _ hS (lv_sub hl [1, 0] rfl) hT
  · replace hT := (if_pos c8).symm.trans hT
    refine r_iconst F.hx F.hb d_MO_beside_49 ?_
    refine lv_goto (tgt := 62) F.hx F.hb d_MO_beside_50 (by decide) ?_
    exact k_MO_beside_L62 l hlo x1 x2 hx1 hx2 F hlk hr M (w32 (v3_ + v4_)) (inr_w32 _) (q_div x1 (M.1 193 0)) (q_inr_toInt _) 1 (inr_c rfl) _ _ _ hS (lv_sub hl [1, 0] rfl) hT
set_option maxHeartbeats 4000000 in
set_option maxRecDepth 100000 in
theorem c_MO_beside (l : Launch) {b n : Nat} {C : CT} (hlo : 231 ≤ n) (M : Mem) (x1 : Int) (x2 : Int) (hx1 : InR x1) (hx2 : InR x2) (res : Int) (hT : t_MO_beside M x1 x2 = some res) : CM l b C n 0 y_MO_beside b_MO_beside 5 (some .int) [.ref (b + 191), vI x1, vI x2] M (QI b C n M res) := by
  refine CM.of (lo := 231) (ow := "WardFallsModel") (by decide) rfl (Nat.le_of_ble_eq_true rfl) hlo (fun p e s m below meth c F hlk hr hS ls hl => ?_)
  have hl : lv_has ls 5 [(0, .ref (b + 191)), (1, vI x1), (2, vI x2)] := hl
  unfold t_MO_beside at hT
  refine lv_iload_n F.hx F.hb d_MO_beside_0 rfl (lv_at hl 2 rfl) ?_
  refine r_iconst F.hx F.hb d_MO_beside_1 ?_
  refine r_icmp_ne (tgt := 7) F.hx F.hb hx2 (inr_c rfl) d_MO_beside_2 (by decide) (fun c1 => ?_) (fun c1 => ?_)
  · replace hT := (if_neg c1).symm.trans hT
    refine lv_iload_n F.hx F.hb d_MO_beside_7 rfl (lv_at hl 1 rfl) ?_
    refine lv_aload_n F.hx F.hb d_MO_beside_8 rfl (lv_at hl 0 rfl) ?_
    refine r_get (v := .ref (b + 193)) (N := 68) (T := T1) (j := 3) F hS (show 191 < 231 by decide) (show shK 191 = 5 from rfl) (show shN 191 = 68 from rfl) rfl (Nat.le_of_ble_eq_true rfl) ing1 mw_1392 (fv_sg rfl rfl rfl) d_MO_beside_9 ?_
    refine r_iconst F.hx F.hb d_MO_beside_12 ?_
    refine r_iald F hS (show 193 < 231 by decide) (show shK 193 = 0 from rfl) (show shN 193 = 18 from rfl) (inr_c rfl) (by omega) (by omega) d_MO_beside_13 ?_
    have i2 := hS.rng 193 0
    obtain ⟨c3, hT⟩ := q_guardn hT
    refine r_irem F.hx F.hb i2 c3 d_MO_beside_14 ?_
    refine lv_iload_n F.hx F.hb d_MO_beside_15 rfl (lv_at hl 2 rfl) ?_
    refine r_iconst F.hx F.hb d_MO_beside_16 ?_
    refine r_icmp_ne (tgt := 24) F.hx F.hb hx2 (inr_c rfl) d_MO_beside_17 (by decide) (fun c4 => ?_) (fun c4 => ?_)
    · replace hT := (if_neg c4).symm.trans hT
      refine lv_iload_n F.hx F.hb d_MO_beside_24 rfl (lv_at hl 2 rfl) ?_
      refine r_iconst F.hx F.hb d_MO_beside_25 ?_
      refine r_icmp_ne (tgt := 33) F.hx F.hb hx2 (inr_c rfl) d_MO_beside_26 (by decide) (fun c5 => ?_) (fun c5 => ?_)
      · replace hT := (if_neg c5).symm.trans hT
        refine r_iconst F.hx F.hb d_MO_beside_33 ?_
        exact k_MO_beside_L34 l hlo x1 x2 hx1 hx2 F hlk hr M (q_rem x1 (M.1 193 0)) (q_inr_toInt _) 0 (inr_c rfl) _ _ _ hS (lv_sub hl [0, 1, 2] rfl) hT
      · replace hT := (if_pos c5).symm.trans hT
        refine r_iconst F.hx F.hb d_MO_beside_29 ?_
        refine lv_goto (tgt := 34) F.hx F.hb d_MO_beside_30 (by decide) ?_
        exact k_MO_beside_L34 l hlo x1 x2 hx1 hx2 F hlk hr M (q_rem x1 (M.1 193 0)) (q_inr_toInt _) (-1) (inr_c rfl) _ _ _ hS (lv_sub hl [0, 1, 2] rfl) hT
    · replace hT := (if_pos c4).symm.trans hT
      refine r_iconst F.hx F.hb d_MO_beside_20 ?_
      refine lv_goto (tgt := 34) F.hx F.hb d_MO_beside_21 (by decide) ?_
      exact k_MO_beside_L34 l hlo x1 x2 hx1 hx2 F hlk hr M (q_rem x1 (M.1 193 0)) (q_inr_toInt _) 1 (inr_c rfl) _ _ _ hS (lv_sub hl [0, 1, 2] rfl) hT
  · replace hT := (if_pos c1).symm.trans hT
    refine r_iconst F.hx F.hb d_MO_beside_5 ?_
    cases hT
    exact r_iret F hlk hr rfl hS (inr_c rfl) d_MO_beside_6
theorem d_MO_downOf_0 : decode b_MO_downOf 0 = .ok (.aload_n 0, 1) := dc_42 (by decide +kernel)
theorem d_MO_downOf_1 : decode b_MO_downOf 1 = .ok (.getfield 25, 3) := dc_180 (by decide +kernel)
theorem d_MO_downOf_4 : decode b_MO_downOf 4 = .ok (.iload_n 2, 1) := dc_28 (by decide +kernel)
theorem d_MO_downOf_5 : decode b_MO_downOf 5 = .ok (.iaload, 1) := dc_46 (by decide +kernel)
theorem d_MO_downOf_6 : decode b_MO_downOf 6 = .ok (.iconst 1, 1) := dc_4 (by decide +kernel)
theorem d_MO_downOf_7 : decode b_MO_downOf 7 = .ok (.isub, 1) := dc_100 (by decide +kernel)
theorem d_MO_downOf_8 : decode b_MO_downOf 8 = .ok (.istore_n 3, 1) := dc_62 (by decide +kernel)
theorem d_MO_downOf_9 : decode b_MO_downOf 9 = .ok (.iload_n 3, 1) := dc_29 (by decide +kernel)
theorem d_MO_downOf_10 : decode b_MO_downOf 10 = .ok (.iconst (-1), 1) := dc_2 (by decide +kernel)
theorem d_MO_downOf_11 : decode b_MO_downOf 11 = .ok (.if_icmp .eq 19, 3) := dc_159 (by decide +kernel)
theorem d_MO_downOf_14 : decode b_MO_downOf 14 = .ok (.aload_n 0, 1) := dc_42 (by decide +kernel)
theorem d_MO_downOf_15 : decode b_MO_downOf 15 = .ok (.getfield 97, 3) := dc_180 (by decide +kernel)
theorem d_MO_downOf_18 : decode b_MO_downOf 18 = .ok (.iconst 3, 1) := dc_6 (by decide +kernel)
theorem d_MO_downOf_19 : decode b_MO_downOf 19 = .ok (.if_icmp .ne 15, 3) := dc_160 (by decide +kernel)
theorem d_MO_downOf_22 : decode b_MO_downOf 22 = .ok (.aload_n 0, 1) := dc_42 (by decide +kernel)
theorem d_MO_downOf_23 : decode b_MO_downOf 23 = .ok (.getfield 100, 3) := dc_180 (by decide +kernel)
theorem d_MO_downOf_26 : decode b_MO_downOf 26 = .ok (.iload_n 3, 1) := dc_29 (by decide +kernel)
theorem d_MO_downOf_27 : decode b_MO_downOf 27 = .ok (.if_icmp .ne 7, 3) := dc_160 (by decide +kernel)
theorem d_MO_downOf_30 : decode b_MO_downOf 30 = .ok (.iconst 4, 1) := dc_7 (by decide +kernel)
theorem d_MO_downOf_31 : decode b_MO_downOf 31 = .ok (.goto 13, 3) := dc_167 (by decide +kernel)
theorem d_MO_downOf_34 : decode b_MO_downOf 34 = .ok (.aload_n 0, 1) := dc_42 (by decide +kernel)
theorem d_MO_downOf_35 : decode b_MO_downOf 35 = .ok (.getfield 76, 3) := dc_180 (by decide +kernel)
theorem d_MO_downOf_38 : decode b_MO_downOf 38 = .ok (.iconst 4, 1) := dc_7 (by decide +kernel)
theorem d_MO_downOf_39 : decode b_MO_downOf 39 = .ok (.iload_n 1, 1) := dc_27 (by decide +kernel)
theorem d_MO_downOf_40 : decode b_MO_downOf 40 = .ok (.imul, 1) := dc_104 (by decide +kernel)
theorem d_MO_downOf_41 : decode b_MO_downOf 41 = .ok (.iload_n 3, 1) := dc_29 (by decide +kernel)
theorem d_MO_downOf_42 : decode b_MO_downOf 42 = .ok (.iadd, 1) := dc_96 (by decide +kernel)
theorem d_MO_downOf_43 : decode b_MO_downOf 43 = .ok (.iaload, 1) := dc_46 (by decide +kernel)
theorem d_MO_downOf_44 : decode b_MO_downOf 44 = .ok (.ireturn, 1) := dc_172 (by decide +kernel)
def t_MO_downOf_L34 (x1 : Int) (x2 : Int)  (M : Mem) (v2_ : Int) : Option (Int) := (qguard (0 ≤ (w32 ((w32 (4 * x1)) + v2_)) ∧ (w32 ((w32 (4 * x1)) + v2_)) < 92) (some (M.1 212 (w32 ((w32 (4 * x1)) + v2_)))))
def t_MO_downOf (M : Mem) (x1 : Int) (x2 : Int) : Option (Int) := (qguard (0 ≤ x2 ∧ x2 < 96) (if (w32 ((M.1 197 x2) - 1)) = (-1) then (some 4) else (if (M.1 191 44) = 3 then (if (M.1 191 45) = (w32 ((M.1 197 x2) - 1)) then (some 4) else (t_MO_downOf_L34 x1 x2 M (w32 ((M.1 197 x2) - 1)))) else (t_MO_downOf_L34 x1 x2 M (w32 ((M.1 197 x2) - 1))))))
set_option maxHeartbeats 4000000 in
set_option maxRecDepth 100000 in
theorem k_MO_downOf_L34 (l : Launch) {p : Program} {e : Env} {s : State} {m : MethodId} {below : List Frame} {meth : Method} {c : Code} {b n : Nat} {C : CT} (hlo : 231 ≤ n) (x1 : Int) (x2 : Int) (hx1 : InR x1) (hx2 : InR x2) (F : Cx b p m c b_MO_downOf 4 s ([.ref (b + 191), vI x1, vI x2] : List Value).toArray "WardFallsModel" C n 231) (hlk : meth.locks = false) (hr : meth.sig.returnType = some .int) {res : Int} (M : Mem) (v2_ : Int) (hv2_ : InR v2_) (H : Heap) (locs : List Loc) (ls : Array Slot) (hS : St b C n M s H locs) (hl : lv_has ls 4 [(0, .ref (b + 191)), (1, vI x1), (3, vI v2_)]) (hT : t_MO_downOf_L34 x1 x2 M v2_ = some res) : W p l e (headSpec (wsM y_MO_downOf b_MO_downOf 4 (some .int)) (rmD 0)).room s m ([.ref (b + 191), vI x1, vI x2] : List Value).toArray below meth c H locs 0 0 (MQ below (QI b C n M res) ([.ref (b + 191), vI x1, vI x2] : List Value).toArray s 0 0 (frb b)) (F0 m 34 ls []) := by
  unfold t_MO_downOf_L34 at hT
  refine lv_aload_n F.hx F.hb d_MO_downOf_34 rfl (lv_at hl 0 rfl) ?_
  refine r_get (v := .ref (b + 212)) (N := 68) (T := T1) (j := 35) F hS (show 191 < 231 by decide) (show shK 191 = 5 from rfl) (show shN 191 = 68 from rfl) rfl (Nat.le_of_ble_eq_true rfl) ing1 mw_1424 (fv_sg rfl rfl rfl) d_MO_downOf_35 ?_
  refine r_iconst F.hx F.hb d_MO_downOf_38 ?_
  refine lv_iload_n F.hx F.hb d_MO_downOf_39 rfl (lv_at hl 1 rfl) ?_
  refine r_imul F.hx F.hb d_MO_downOf_40 ?_
  refine lv_iload_n F.hx F.hb d_MO_downOf_41 rfl (lv_at hl 2 rfl) ?_
  refine r_iadd F.hx F.hb d_MO_downOf_42 ?_
  obtain ⟨⟨g8a, g8b⟩, hT⟩ := q_guard hT
  refine r_iald F hS (show 212 < 231 by decide) (show shK 212 = 0 from rfl) (show shN 212 = 92 from rfl) (inr_w32 _) g8a g8b d_MO_downOf_43 ?_
  have i9 := hS.rng 212 (w32 ((w32 (4 * x1)) + v2_))
  cases hT
  exact r_iret F hlk hr rfl hS i9 d_MO_downOf_44
set_option maxHeartbeats 4000000 in
set_option maxRecDepth 100000 in
theorem c_MO_downOf (l : Launch) {b n : Nat} {C : CT} (hlo : 231 ≤ n) (M : Mem) (x1 : Int) (x2 : Int) (hx1 : InR x1) (hx2 : InR x2) (res : Int) (hT : t_MO_downOf M x1 x2 = some res) : CM l b C n 0 y_MO_downOf b_MO_downOf 4 (some .int) [.ref (b + 191), vI x1, vI x2] M (QI b C n M res) := by
  refine CM.of (lo := 231) (ow := "WardFallsModel") (by decide) rfl (Nat.le_of_ble_eq_true rfl) hlo (fun p e s m below meth c F hlk hr hS ls hl => ?_)
  have hl : lv_has ls 4 [(0, .ref (b + 191)), (1, vI x1), (2, vI x2)] := hl
  unfold t_MO_downOf at hT
  refine lv_aload_n F.hx F.hb d_MO_downOf_0 rfl (lv_at hl 0 rfl) ?_
  refine r_get (v := .ref (b + 197)) (N := 68) (T := T1) (j := 7) F hS (show 191 < 231 by decide) (show shK 191 = 5 from rfl) (show shN 191 = 68 from rfl) rfl (Nat.le_of_ble_eq_true rfl) ing1 mw_1396 (fv_sg rfl rfl rfl) d_MO_downOf_1 ?_
  refine lv_iload_n F.hx F.hb d_MO_downOf_4 rfl (lv_at hl 2 rfl) ?_
  obtain ⟨⟨g1a, g1b⟩, hT⟩ := q_guard hT
  refine r_iald F hS (show 197 < 231 by decide) (show shK 197 = 0 from rfl) (show shN 197 = 96 from rfl) hx2 g1a g1b d_MO_downOf_5 ?_
  have i2 := hS.rng 197 x2
  refine r_iconst F.hx F.hb d_MO_downOf_6 ?_
  refine r_isub F.hx F.hb d_MO_downOf_7 ?_
  refine lv_istore_n (lv' := [(3, vI (w32 ((M.1 197 x2) - 1))), (0, .ref (b + 191)), (1, vI x1), (2, vI x2)]) F.hx F.hb d_MO_downOf_8 rfl hl (Nat.le_of_ble_eq_true rfl) rfl (fun ls hl => ?_)
  refine lv_iload_n F.hx F.hb d_MO_downOf_9 rfl (lv_at hl 0 rfl) ?_
  refine r_iconst F.hx F.hb d_MO_downOf_10 ?_
  refine r_icmp_eq (tgt := 30) F.hx F.hb (inr_w32 _) (inr_c rfl) d_MO_downOf_11 (by decide) (fun c3 => ?_) (fun c3 => ?_)
  · replace hT := (if_pos c3).symm.trans hT
    refine r_iconst F.hx F.hb d_MO_downOf_30 ?_
    refine lv_goto (tgt := 44) F.hx F.hb d_MO_downOf_31 (by decide) ?_
    cases hT
    exact r_iret F hlk hr rfl hS (inr_c rfl) d_MO_downOf_44
  · replace hT := (if_neg c3).symm.trans hT
    refine lv_aload_n F.hx F.hb d_MO_downOf_14 rfl (lv_at hl 1 rfl) ?_
    refine r_get (v := vI (M.1 191 44)) (N := 68) (T := T1) (j := 44) F hS (show 191 < 231 by decide) (show shK 191 = 5 from rfl) (show shN 191 = 68 from rfl) rfl (Nat.le_of_ble_eq_true rfl) ing1 mw_1433 (fv_int rfl) d_MO_downOf_15 ?_
    have i4 := hS.rng 191 44
    refine r_iconst F.hx F.hb d_MO_downOf_18 ?_
    refine r_icmp_ne (tgt := 34) F.hx F.hb i4 (inr_c rfl) d_MO_downOf_19 (by decide) (fun c5 => ?_) (fun c5 => ?_)
    · replace hT := (if_neg c5).symm.trans hT
      exact k_MO_downOf_L34 l hlo x1 x2 hx1 hx2 F hlk hr M (w32 ((M.1 197 x2) - 1)) (inr_w32 _) _ _ _ hS (lv_sub hl [1, 2, 0] rfl) hT
    · replace hT := (if_pos c5).symm.trans hT
      refine lv_aload_n F.hx F.hb d_MO_downOf_22 rfl (lv_at hl 1 rfl) ?_
      refine r_get (v := vI (M.1 191 45)) (N := 68) (T := T1) (j := 45) F hS (show 191 < 231 by decide) (show shK 191 = 5 from rfl) (show shN 191 = 68 from rfl) rfl (Nat.le_of_ble_eq_true rfl) ing1 mw_1434 (fv_int rfl) d_MO_downOf_23 ?_
      have i6 := hS.rng 191 45
      refine lv_iload_n F.hx F.hb d_MO_downOf_26 rfl (lv_at hl 0 rfl) ?_
      refine r_icmp_ne (tgt := 34) F.hx F.hb i6 (inr_w32 _) d_MO_downOf_27 (by decide) (fun c7 => ?_) (fun c7 => ?_)
      · replace hT := (if_neg c7).symm.trans hT
        exact k_MO_downOf_L34 l hlo x1 x2 hx1 hx2 F hlk hr M (w32 ((M.1 197 x2) - 1)) (inr_w32 _) _ _ _ hS (lv_sub hl [1, 2, 0] rfl) hT
      · replace hT := (if_pos c7).symm.trans hT
        refine r_iconst F.hx F.hb d_MO_downOf_30 ?_
        refine lv_goto (tgt := 44) F.hx F.hb d_MO_downOf_31 (by decide) ?_
        cases hT
        exact r_iret F hlk hr rfl hS (inr_c rfl) d_MO_downOf_44
theorem d_MO_nextOf_0 : decode b_MO_nextOf 0 = .ok (.aload_n 0, 1) := dc_42 (by decide +kernel)
theorem d_MO_nextOf_1 : decode b_MO_nextOf 1 = .ok (.getfield 97, 3) := dc_180 (by decide +kernel)
theorem d_MO_nextOf_4 : decode b_MO_nextOf 4 = .ok (.ifCond .eq 20, 3) := dc_153 (by decide +kernel)
theorem d_MO_nextOf_7 : decode b_MO_nextOf 7 = .ok (.aload_n 0, 1) := dc_42 (by decide +kernel)
theorem d_MO_nextOf_8 : decode b_MO_nextOf 8 = .ok (.getfield 69, 3) := dc_180 (by decide +kernel)
theorem d_MO_nextOf_11 : decode b_MO_nextOf 11 = .ok (.iload_n 1, 1) := dc_27 (by decide +kernel)
theorem d_MO_nextOf_12 : decode b_MO_nextOf 12 = .ok (.laload, 1) := dc_47 (by decide +kernel)
theorem d_MO_nextOf_13 : decode b_MO_nextOf 13 = .ok (.iload_n 2, 1) := dc_28 (by decide +kernel)
theorem d_MO_nextOf_14 : decode b_MO_nextOf 14 = .ok (.lshr, 1) := dc_123 (by decide +kernel)
theorem d_MO_nextOf_15 : decode b_MO_nextOf 15 = .ok (.lconst 1, 1) := dc_10 (by decide +kernel)
theorem d_MO_nextOf_16 : decode b_MO_nextOf 16 = .ok (.land, 1) := dc_127 (by decide +kernel)
theorem d_MO_nextOf_17 : decode b_MO_nextOf 17 = .ok (.lconst 1, 1) := dc_10 (by decide +kernel)
theorem d_MO_nextOf_18 : decode b_MO_nextOf 18 = .ok (.lcmp, 1) := dc_148 (by decide +kernel)
theorem d_MO_nextOf_19 : decode b_MO_nextOf 19 = .ok (.ifCond .ne 5, 3) := dc_154 (by decide +kernel)
theorem d_MO_nextOf_22 : decode b_MO_nextOf 22 = .ok (.iconst (-1), 1) := dc_2 (by decide +kernel)
theorem d_MO_nextOf_23 : decode b_MO_nextOf 23 = .ok (.ireturn, 1) := dc_172 (by decide +kernel)
theorem d_MO_nextOf_24 : decode b_MO_nextOf 24 = .ok (.aload_n 0, 1) := dc_42 (by decide +kernel)
theorem d_MO_nextOf_25 : decode b_MO_nextOf 25 = .ok (.iload_n 2, 1) := dc_28 (by decide +kernel)
theorem d_MO_nextOf_26 : decode b_MO_nextOf 26 = .ok (.aload_n 0, 1) := dc_42 (by decide +kernel)
theorem d_MO_nextOf_27 : decode b_MO_nextOf 27 = .ok (.iload_n 1, 1) := dc_27 (by decide +kernel)
theorem d_MO_nextOf_28 : decode b_MO_nextOf 28 = .ok (.iload_n 2, 1) := dc_28 (by decide +kernel)
theorem d_MO_nextOf_29 : decode b_MO_nextOf 29 = .ok (.invokevirtual 335, 3) := dc_182 (by decide +kernel)
theorem d_MO_nextOf_32 : decode b_MO_nextOf 32 = .ok (.invokevirtual 338, 3) := dc_182 (by decide +kernel)
theorem d_MO_nextOf_35 : decode b_MO_nextOf 35 = .ok (.istore_n 3, 1) := dc_62 (by decide +kernel)
theorem d_MO_nextOf_36 : decode b_MO_nextOf 36 = .ok (.iload_n 3, 1) := dc_29 (by decide +kernel)
theorem d_MO_nextOf_37 : decode b_MO_nextOf 37 = .ok (.iconst (-1), 1) := dc_2 (by decide +kernel)
theorem d_MO_nextOf_38 : decode b_MO_nextOf 38 = .ok (.if_icmp .eq 20, 3) := dc_159 (by decide +kernel)
theorem d_MO_nextOf_41 : decode b_MO_nextOf 41 = .ok (.aload_n 0, 1) := dc_42 (by decide +kernel)
theorem d_MO_nextOf_42 : decode b_MO_nextOf 42 = .ok (.getfield 97, 3) := dc_180 (by decide +kernel)
theorem d_MO_nextOf_45 : decode b_MO_nextOf 45 = .ok (.iconst 2, 1) := dc_5 (by decide +kernel)
theorem d_MO_nextOf_46 : decode b_MO_nextOf 46 = .ok (.if_icmp .eq 16, 3) := dc_159 (by decide +kernel)
theorem d_MO_nextOf_49 : decode b_MO_nextOf 49 = .ok (.aload_n 0, 1) := dc_42 (by decide +kernel)
theorem d_MO_nextOf_50 : decode b_MO_nextOf 50 = .ok (.getfield 28, 3) := dc_180 (by decide +kernel)
theorem d_MO_nextOf_53 : decode b_MO_nextOf 53 = .ok (.iload_n 3, 1) := dc_29 (by decide +kernel)
theorem d_MO_nextOf_54 : decode b_MO_nextOf 54 = .ok (.baload, 1) := dc_51 (by decide +kernel)
theorem d_MO_nextOf_55 : decode b_MO_nextOf 55 = .ok (.ifCond .eq 7, 3) := dc_153 (by decide +kernel)
theorem d_MO_nextOf_58 : decode b_MO_nextOf 58 = .ok (.iconst (-1), 1) := dc_2 (by decide +kernel)
theorem d_MO_nextOf_59 : decode b_MO_nextOf 59 = .ok (.goto 4, 3) := dc_167 (by decide +kernel)
theorem d_MO_nextOf_62 : decode b_MO_nextOf 62 = .ok (.iload_n 3, 1) := dc_29 (by decide +kernel)
theorem d_MO_nextOf_63 : decode b_MO_nextOf 63 = .ok (.ireturn, 1) := dc_172 (by decide +kernel)
def t_MO_nextOf_L24 (x1 : Int) (x2 : Int)  (M : Mem)  : Option (Int) := (obind (t_MO_downOf M x1 x2) fun q5 => (obind (t_MO_beside M x2 q5) fun q7 => (if q7 = (-1) then (some (-1)) else (if (M.1 191 44) = 2 then (some q7) else (qguard (0 ≤ q7 ∧ q7 < 96) (if (M.1 198 q7) = 0 then (some q7) else (some (-1))))))))
def t_MO_nextOf (M : Mem) (x1 : Int) (x2 : Int) : Option (Int) := (if (M.1 191 44) = 0 then (t_MO_nextOf_L24 x1 x2 M) else (qguard (0 ≤ x1 ∧ x1 < 23) (if ((q_lshr (M.2 210 x1) x2) &&& 1) = 1 then (some (-1)) else (t_MO_nextOf_L24 x1 x2 M))))
set_option maxHeartbeats 4000000 in
set_option maxRecDepth 100000 in
theorem k_MO_nextOf_L24 (l : Launch) {p : Program} {e : Env} {s : State} {m : MethodId} {below : List Frame} {meth : Method} {c : Code} {b n : Nat} {C : CT} (hlo : 231 ≤ n) (x1 : Int) (x2 : Int) (hx1 : InR x1) (hx2 : InR x2) (F : Cx b p m c b_MO_nextOf 4 s ([.ref (b + 191), vI x1, vI x2] : List Value).toArray "WardFallsModel" C n 231) (hlk : meth.locks = false) (hr : meth.sig.returnType = some .int) {res : Int} (M : Mem)  (H : Heap) (locs : List Loc) (ls : Array Slot) (hS : St b C n M s H locs) (hl : lv_has ls 4 [(0, .ref (b + 191)), (1, vI x1), (2, vI x2)]) (hT : t_MO_nextOf_L24 x1 x2 M = some res) : W p l e (headSpec (wsM y_MO_nextOf b_MO_nextOf 4 (some .int)) (rmD 1)).room s m ([.ref (b + 191), vI x1, vI x2] : List Value).toArray below meth c H locs 0 0 (MQ below (QI b C n M res) ([.ref (b + 191), vI x1, vI x2] : List Value).toArray s 0 0 (frb b)) (F0 m 24 ls []) := by
  unfold t_MO_nextOf_L24 at hT
  refine lv_aload_n F.hx F.hb d_MO_nextOf_24 rfl (lv_at hl 0 rfl) ?_
  refine lv_iload_n F.hx F.hb d_MO_nextOf_25 rfl (lv_at hl 2 rfl) ?_
  refine lv_aload_n F.hx F.hb d_MO_nextOf_26 rfl (lv_at hl 0 rfl) ?_
  refine lv_iload_n F.hx F.hb d_MO_nextOf_27 rfl (lv_at hl 1 rfl) ?_
  refine lv_iload_n F.hx F.hb d_MO_nextOf_28 rfl (lv_at hl 2 rfl) ?_
  obtain ⟨q5, hq5, hT⟩ := q_obind hT
  refine r_backI F hS (r_runV (k := 191) (N := 68) (T := T1) (As := [vI x1, vI x2]) F hS (show 191 < 231 by decide) (show shK 191 = 5 from rfl) rfl (c_MO_downOf l F.2.2.1 M x1 x2 hx1 hx2 _ hq5) gs_MO_335 hd_MO_downOf ⟨Nat.le_of_ble_eq_true rfl, Nat.le_of_ble_eq_true rfl⟩ rfl hl.1 (Nat.le_of_ble_eq_true rfl) ⟨Nat.zero_le _, Nat.zero_le _⟩ rfl d_MO_nextOf_29) (fun H locs hS h6 => ?_)
  obtain ⟨q7, hq7, hT⟩ := q_obind hT
  refine r_backI F hS (r_runV (k := 191) (N := 68) (T := T1) (As := [vI x2, vI q5]) F hS (show 191 < 231 by decide) (show shK 191 = 5 from rfl) rfl (c_MO_beside l F.2.2.1 M x2 q5 hx2 h6 _ hq7) gs_MO_338 hd_MO_beside ⟨Nat.le_of_ble_eq_true rfl, Nat.le_of_ble_eq_true rfl⟩ rfl hl.1 (Nat.le_of_ble_eq_true rfl) ⟨Nat.zero_le _, Nat.zero_le _⟩ rfl d_MO_nextOf_32) (fun H locs hS h8 => ?_)
  refine lv_istore_n (lv' := [(3, vI q7), (0, .ref (b + 191)), (1, vI x1), (2, vI x2)]) F.hx F.hb d_MO_nextOf_35 rfl hl (Nat.le_of_ble_eq_true rfl) rfl (fun ls hl => ?_)
  refine lv_iload_n F.hx F.hb d_MO_nextOf_36 rfl (lv_at hl 0 rfl) ?_
  refine r_iconst F.hx F.hb d_MO_nextOf_37 ?_
  refine r_icmp_eq (tgt := 58) F.hx F.hb h8 (inr_c rfl) d_MO_nextOf_38 (by decide) (fun c9 => ?_) (fun c9 => ?_)
  · replace hT := (if_pos c9).symm.trans hT
    refine r_iconst F.hx F.hb d_MO_nextOf_58 ?_
    refine lv_goto (tgt := 63) F.hx F.hb d_MO_nextOf_59 (by decide) ?_
    cases hT
    exact r_iret F hlk hr rfl hS (inr_c rfl) d_MO_nextOf_63
  · replace hT := (if_neg c9).symm.trans hT
    refine lv_aload_n F.hx F.hb d_MO_nextOf_41 rfl (lv_at hl 1 rfl) ?_
    refine r_get (v := vI (M.1 191 44)) (N := 68) (T := T1) (j := 44) F hS (show 191 < 231 by decide) (show shK 191 = 5 from rfl) (show shN 191 = 68 from rfl) rfl (Nat.le_of_ble_eq_true rfl) ing1 mw_1433 (fv_int rfl) d_MO_nextOf_42 ?_
    have i10 := hS.rng 191 44
    refine r_iconst F.hx F.hb d_MO_nextOf_45 ?_
    refine r_icmp_eq (tgt := 62) F.hx F.hb i10 (inr_c rfl) d_MO_nextOf_46 (by decide) (fun c11 => ?_) (fun c11 => ?_)
    · replace hT := (if_pos c11).symm.trans hT
      refine lv_iload_n F.hx F.hb d_MO_nextOf_62 rfl (lv_at hl 0 rfl) ?_
      cases hT
      exact r_iret F hlk hr rfl hS h8 d_MO_nextOf_63
    · replace hT := (if_neg c11).symm.trans hT
      refine lv_aload_n F.hx F.hb d_MO_nextOf_49 rfl (lv_at hl 1 rfl) ?_
      refine r_get (v := .ref (b + 198)) (N := 68) (T := T1) (j := 8) F hS (show 191 < 231 by decide) (show shK 191 = 5 from rfl) (show shN 191 = 68 from rfl) rfl (Nat.le_of_ble_eq_true rfl) ing1 mw_1397 (fv_sg rfl rfl rfl) d_MO_nextOf_50 ?_
      refine lv_iload_n F.hx F.hb d_MO_nextOf_53 rfl (lv_at hl 0 rfl) ?_
      obtain ⟨⟨g12a, g12b⟩, hT⟩ := q_guard hT
      have z13 := hS.bool (show shK 198 = 1 from rfl) q7
      refine r_zald F hS (show 198 < 231 by decide) (show shK 198 = 1 from rfl) (show shN 198 = 96 from rfl) h8 g12a g12b d_MO_nextOf_54 ?_
      refine r_if_eq (tgt := 62) F.hx F.hb (inr_z z13) d_MO_nextOf_55 (by decide) (fun c14 => ?_) (fun c14 => ?_)
      · replace hT := (if_pos c14).symm.trans hT
        refine lv_iload_n F.hx F.hb d_MO_nextOf_62 rfl (lv_at hl 0 rfl) ?_
        cases hT
        exact r_iret F hlk hr rfl hS h8 d_MO_nextOf_63
      · replace hT := (if_neg c14).symm.trans hT
        refine r_iconst F.hx F.hb d_MO_nextOf_58 ?_
        refine lv_goto (tgt := 63) F.hx F.hb d_MO_nextOf_59 (by decide) ?_
        cases hT
        exact r_iret F hlk hr rfl hS (inr_c rfl) d_MO_nextOf_63
set_option maxHeartbeats 4000000 in
set_option maxRecDepth 100000 in
theorem c_MO_nextOf (l : Launch) {b n : Nat} {C : CT} (hlo : 231 ≤ n) (M : Mem) (x1 : Int) (x2 : Int) (hx1 : InR x1) (hx2 : InR x2) (res : Int) (hT : t_MO_nextOf M x1 x2 = some res) : CM l b C n 1 y_MO_nextOf b_MO_nextOf 4 (some .int) [.ref (b + 191), vI x1, vI x2] M (QI b C n M res) := by
  refine CM.of (lo := 231) (ow := "WardFallsModel") (by decide) rfl (Nat.le_of_ble_eq_true rfl) hlo (fun p e s m below meth c F hlk hr hS ls hl => ?_)
  have hl : lv_has ls 4 [(0, .ref (b + 191)), (1, vI x1), (2, vI x2)] := hl
  unfold t_MO_nextOf at hT
  refine lv_aload_n F.hx F.hb d_MO_nextOf_0 rfl (lv_at hl 0 rfl) ?_
  refine r_get (v := vI (M.1 191 44)) (N := 68) (T := T1) (j := 44) F hS (show 191 < 231 by decide) (show shK 191 = 5 from rfl) (show shN 191 = 68 from rfl) rfl (Nat.le_of_ble_eq_true rfl) ing1 mw_1433 (fv_int rfl) d_MO_nextOf_1 ?_
  have i1 := hS.rng 191 44
  refine r_if_eq (tgt := 24) F.hx F.hb i1 d_MO_nextOf_4 (by decide) (fun c2 => ?_) (fun c2 => ?_)
  · replace hT := (if_pos c2).symm.trans hT
    exact k_MO_nextOf_L24 l hlo x1 x2 hx1 hx2 F hlk hr M _ _ _ hS (lv_sub hl [0, 1, 2] rfl) hT
  · replace hT := (if_neg c2).symm.trans hT
    refine lv_aload_n F.hx F.hb d_MO_nextOf_7 rfl (lv_at hl 0 rfl) ?_
    refine r_get (v := .ref (b + 210)) (N := 68) (T := T1) (j := 33) F hS (show 191 < 231 by decide) (show shK 191 = 5 from rfl) (show shN 191 = 68 from rfl) rfl (Nat.le_of_ble_eq_true rfl) ing1 mw_1422 (fv_sg rfl rfl rfl) d_MO_nextOf_8 ?_
    refine lv_iload_n F.hx F.hb d_MO_nextOf_11 rfl (lv_at hl 1 rfl) ?_
    obtain ⟨⟨g3a, g3b⟩, hT⟩ := q_guard hT
    refine r_lald F hS (show 210 < 231 by decide) (show shK 210 = 2 from rfl) (show shN 210 = 23 from rfl) hx1 g3a g3b d_MO_nextOf_12 ?_
    refine lv_iload_n F.hx F.hb d_MO_nextOf_13 rfl (lv_at hl 2 rfl) ?_
    refine r_lshr F.hx F.hb d_MO_nextOf_14 ?_
    refine lv_lconst (v := 1) F.hx F.hb d_MO_nextOf_15 rfl ?_
    refine lv_land F.hx F.hb d_MO_nextOf_16 ?_
    refine lv_lconst (v := 1) F.hx F.hb d_MO_nextOf_17 rfl ?_
    refine W.lcmp F.hx F.hb d_MO_nextOf_18 ?_
    refine r_lif_ne (tgt := 24) F.hx F.hb  d_MO_nextOf_19 (by decide) (fun c4 => ?_) (fun c4 => ?_)
    · replace hT := (if_neg c4).symm.trans hT
      exact k_MO_nextOf_L24 l hlo x1 x2 hx1 hx2 F hlk hr M _ _ _ hS (lv_sub hl [0, 1, 2] rfl) hT
    · replace hT := (if_pos c4).symm.trans hT
      refine r_iconst F.hx F.hb d_MO_nextOf_22 ?_
      cases hT
      exact r_iret F hlk hr rfl hS (inr_c rfl) d_MO_nextOf_23
theorem d_MO_isLine_0 : decode b_MO_isLine 0 = .ok (.aload_n 0, 1) := dc_42 (by decide +kernel)
theorem d_MO_isLine_1 : decode b_MO_isLine 1 = .ok (.getfield 25, 3) := dc_180 (by decide +kernel)
theorem d_MO_isLine_4 : decode b_MO_isLine 4 = .ok (.iload_n 1, 1) := dc_27 (by decide +kernel)
theorem d_MO_isLine_5 : decode b_MO_isLine 5 = .ok (.iaload, 1) := dc_46 (by decide +kernel)
theorem d_MO_isLine_6 : decode b_MO_isLine 6 = .ok (.aload_n 0, 1) := dc_42 (by decide +kernel)
theorem d_MO_isLine_7 : decode b_MO_isLine 7 = .ok (.getfield 25, 3) := dc_180 (by decide +kernel)
theorem d_MO_isLine_10 : decode b_MO_isLine 10 = .ok (.iload_n 2, 1) := dc_28 (by decide +kernel)
theorem d_MO_isLine_11 : decode b_MO_isLine 11 = .ok (.iaload, 1) := dc_46 (by decide +kernel)
theorem d_MO_isLine_12 : decode b_MO_isLine 12 = .ok (.if_icmp .eq 7, 3) := dc_159 (by decide +kernel)
theorem d_MO_isLine_15 : decode b_MO_isLine 15 = .ok (.iconst 1, 1) := dc_4 (by decide +kernel)
theorem d_MO_isLine_16 : decode b_MO_isLine 16 = .ok (.goto 4, 3) := dc_167 (by decide +kernel)
theorem d_MO_isLine_19 : decode b_MO_isLine 19 = .ok (.iconst 0, 1) := dc_3 (by decide +kernel)
theorem d_MO_isLine_20 : decode b_MO_isLine 20 = .ok (.ireturn, 1) := dc_172 (by decide +kernel)
def t_MO_isLine (M : Mem) (x1 : Int) (x2 : Int) : Option (Int) := (qguard (0 ≤ x1 ∧ x1 < 96) (qguard (0 ≤ x2 ∧ x2 < 96) (if (M.1 197 x1) = (M.1 197 x2) then (some 0) else (some 1))))
set_option maxHeartbeats 4000000 in
set_option maxRecDepth 100000 in
theorem c_MO_isLine (l : Launch) {b n : Nat} {C : CT} (hlo : 231 ≤ n) (M : Mem) (x1 : Int) (x2 : Int) (hx1 : InR x1) (hx2 : InR x2) (res : Int) (hT : t_MO_isLine M x1 x2 = some res) : CM l b C n 0 y_MO_isLine b_MO_isLine 3 (some .boolean) [.ref (b + 191), vI x1, vI x2] M (QZ b C n M res) := by
  refine CM.of (lo := 231) (ow := "WardFallsModel") (by decide) rfl (Nat.le_of_ble_eq_true rfl) hlo (fun p e s m below meth c F hlk hr hS ls hl => ?_)
  have hl : lv_has ls 3 [(0, .ref (b + 191)), (1, vI x1), (2, vI x2)] := hl
  unfold t_MO_isLine at hT
  refine lv_aload_n F.hx F.hb d_MO_isLine_0 rfl (lv_at hl 0 rfl) ?_
  refine r_get (v := .ref (b + 197)) (N := 68) (T := T1) (j := 7) F hS (show 191 < 231 by decide) (show shK 191 = 5 from rfl) (show shN 191 = 68 from rfl) rfl (Nat.le_of_ble_eq_true rfl) ing1 mw_1396 (fv_sg rfl rfl rfl) d_MO_isLine_1 ?_
  refine lv_iload_n F.hx F.hb d_MO_isLine_4 rfl (lv_at hl 1 rfl) ?_
  obtain ⟨⟨g1a, g1b⟩, hT⟩ := q_guard hT
  refine r_iald F hS (show 197 < 231 by decide) (show shK 197 = 0 from rfl) (show shN 197 = 96 from rfl) hx1 g1a g1b d_MO_isLine_5 ?_
  have i2 := hS.rng 197 x1
  refine lv_aload_n F.hx F.hb d_MO_isLine_6 rfl (lv_at hl 0 rfl) ?_
  refine r_get (v := .ref (b + 197)) (N := 68) (T := T1) (j := 7) F hS (show 191 < 231 by decide) (show shK 191 = 5 from rfl) (show shN 191 = 68 from rfl) rfl (Nat.le_of_ble_eq_true rfl) ing1 mw_1396 (fv_sg rfl rfl rfl) d_MO_isLine_7 ?_
  refine lv_iload_n F.hx F.hb d_MO_isLine_10 rfl (lv_at hl 2 rfl) ?_
  obtain ⟨⟨g3a, g3b⟩, hT⟩ := q_guard hT
  refine r_iald F hS (show 197 < 231 by decide) (show shK 197 = 0 from rfl) (show shN 197 = 96 from rfl) hx2 g3a g3b d_MO_isLine_11 ?_
  have i4 := hS.rng 197 x2
  refine r_icmp_eq (tgt := 19) F.hx F.hb i2 i4 d_MO_isLine_12 (by decide) (fun c5 => ?_) (fun c5 => ?_)
  · replace hT := (if_pos c5).symm.trans hT
    refine r_iconst F.hx F.hb d_MO_isLine_19 ?_
    cases hT
    exact r_zret F hlk hr hS (Or.inl rfl) d_MO_isLine_20
  · replace hT := (if_neg c5).symm.trans hT
    refine r_iconst F.hx F.hb d_MO_isLine_15 ?_
    refine lv_goto (tgt := 20) F.hx F.hb d_MO_isLine_16 (by decide) ?_
    cases hT
    exact r_zret F hlk hr hS (Or.inr rfl) d_MO_isLine_20
theorem d_MO_thingIn_0 : decode b_MO_thingIn 0 = .ok (.iconst 0, 1) := dc_3 (by decide +kernel)
theorem d_MO_thingIn_1 : decode b_MO_thingIn 1 = .ok (.istore_n 3, 1) := dc_62 (by decide +kernel)
theorem d_MO_thingIn_2 : decode b_MO_thingIn 2 = .ok (.iload_n 3, 1) := dc_29 (by decide +kernel)
theorem d_MO_thingIn_3 : decode b_MO_thingIn 3 = .ok (.aload_n 0, 1) := dc_42 (by decide +kernel)
theorem d_MO_thingIn_4 : decode b_MO_thingIn 4 = .ok (.getfield 13, 3) := dc_180 (by decide +kernel)
theorem d_MO_thingIn_7 : decode b_MO_thingIn 7 = .ok (.bipush 6, 2) := dc_16 (by decide +kernel)
theorem d_MO_thingIn_9 : decode b_MO_thingIn 9 = .ok (.iaload, 1) := dc_46 (by decide +kernel)
theorem d_MO_thingIn_10 : decode b_MO_thingIn 10 = .ok (.if_icmp .ge 42, 3) := dc_162 (by decide +kernel)
theorem d_MO_thingIn_13 : decode b_MO_thingIn 13 = .ok (.aload_n 0, 1) := dc_42 (by decide +kernel)
theorem d_MO_thingIn_14 : decode b_MO_thingIn 14 = .ok (.getfield 79, 3) := dc_180 (by decide +kernel)
theorem d_MO_thingIn_17 : decode b_MO_thingIn 17 = .ok (.bipush 8, 2) := dc_16 (by decide +kernel)
theorem d_MO_thingIn_19 : decode b_MO_thingIn 19 = .ok (.iload_n 1, 1) := dc_27 (by decide +kernel)
theorem d_MO_thingIn_20 : decode b_MO_thingIn 20 = .ok (.imul, 1) := dc_104 (by decide +kernel)
theorem d_MO_thingIn_21 : decode b_MO_thingIn 21 = .ok (.iload_n 3, 1) := dc_29 (by decide +kernel)
theorem d_MO_thingIn_22 : decode b_MO_thingIn 22 = .ok (.iadd, 1) := dc_96 (by decide +kernel)
theorem d_MO_thingIn_23 : decode b_MO_thingIn 23 = .ok (.iaload, 1) := dc_46 (by decide +kernel)
theorem d_MO_thingIn_24 : decode b_MO_thingIn 24 = .ok (.iload_n 2, 1) := dc_28 (by decide +kernel)
theorem d_MO_thingIn_25 : decode b_MO_thingIn 25 = .ok (.if_icmp .ne 21, 3) := dc_160 (by decide +kernel)
theorem d_MO_thingIn_28 : decode b_MO_thingIn 28 = .ok (.aload_n 0, 1) := dc_42 (by decide +kernel)
theorem d_MO_thingIn_29 : decode b_MO_thingIn 29 = .ok (.getfield 97, 3) := dc_180 (by decide +kernel)
theorem d_MO_thingIn_32 : decode b_MO_thingIn 32 = .ok (.iconst 4, 1) := dc_7 (by decide +kernel)
theorem d_MO_thingIn_33 : decode b_MO_thingIn 33 = .ok (.if_icmp .ne 11, 3) := dc_160 (by decide +kernel)
theorem d_MO_thingIn_36 : decode b_MO_thingIn 36 = .ok (.aload_n 0, 1) := dc_42 (by decide +kernel)
theorem d_MO_thingIn_37 : decode b_MO_thingIn 37 = .ok (.getfield 100, 3) := dc_180 (by decide +kernel)
theorem d_MO_thingIn_40 : decode b_MO_thingIn 40 = .ok (.iload_n 3, 1) := dc_29 (by decide +kernel)
theorem d_MO_thingIn_41 : decode b_MO_thingIn 41 = .ok (.if_icmp .eq 5, 3) := dc_159 (by decide +kernel)
theorem d_MO_thingIn_44 : decode b_MO_thingIn 44 = .ok (.iload_n 3, 1) := dc_29 (by decide +kernel)
theorem d_MO_thingIn_45 : decode b_MO_thingIn 45 = .ok (.ireturn, 1) := dc_172 (by decide +kernel)
theorem d_MO_thingIn_46 : decode b_MO_thingIn 46 = .ok (.iinc 3 1, 3) := dc_132 (by decide +kernel)
theorem d_MO_thingIn_49 : decode b_MO_thingIn 49 = .ok (.goto (-47), 3) := dc_167 (by decide +kernel)
theorem d_MO_thingIn_52 : decode b_MO_thingIn 52 = .ok (.iconst (-1), 1) := dc_2 (by decide +kernel)
theorem d_MO_thingIn_53 : decode b_MO_thingIn 53 = .ok (.ireturn, 1) := dc_172 (by decide +kernel)
def t_MO_thingIn_L46 (x1 : Int) (x2 : Int) (bk2 : Mem → Int → Option (Int)) (M : Mem) (v3_ : Int) : Option (Int) := (bk2 M (w32 (v3_ + 1)))
def t_MO_thingIn_L2 (x1 : Int) (x2 : Int)  : Nat → Mem → Int → Option (Int)
  | 0, _, _ => none
  | fu + 1, M, v3_ => (if (M.1 193 6) ≤ v3_ then (some (-1)) else (qguard (0 ≤ (w32 ((w32 (8 * x1)) + v3_)) ∧ (w32 ((w32 (8 * x1)) + v3_)) < 184) (if (M.1 213 (w32 ((w32 (8 * x1)) + v3_))) = x2 then (if (M.1 191 44) = 4 then (if (M.1 191 45) = v3_ then (t_MO_thingIn_L46 x1 x2 (fun a0_ a1_ => t_MO_thingIn_L2 x1 x2 fu a0_ a1_) M v3_) else (some v3_)) else (some v3_)) else (t_MO_thingIn_L46 x1 x2 (fun a0_ a1_ => t_MO_thingIn_L2 x1 x2 fu a0_ a1_) M v3_))))
def t_MO_thingIn (M : Mem) (x1 : Int) (x2 : Int) : Option (Int) := (t_MO_thingIn_L2 x1 x2 FU M 0)
set_option maxHeartbeats 4000000 in
set_option maxRecDepth 100000 in
theorem k_MO_thingIn_L46 (l : Launch) {p : Program} {e : Env} {s : State} {m : MethodId} {below : List Frame} {meth : Method} {c : Code} {b n : Nat} {C : CT} (hlo : 231 ≤ n) (x1 : Int) (x2 : Int) (hx1 : InR x1) (hx2 : InR x2) (F : Cx b p m c b_MO_thingIn 4 s ([.ref (b + 191), vI x1, vI x2] : List Value).toArray "WardFallsModel" C n 231) (hlk : meth.locks = false) (hr : meth.sig.returnType = some .int) {res : Int} (bk2 : Mem → Int → Option (Int)) (hbk2 : ∀ (M : Mem) (v3_ : Int) (hv3_ : InR v3_) (H : Heap) (locs : List Loc) (ls : Array Slot), St b C n M s H locs → lv_has ls 4 [(0, .ref (b + 191)), (1, vI x1), (2, vI x2), (3, vI v3_)] → bk2 M v3_ = some res → W p l e (headSpec (wsM y_MO_thingIn b_MO_thingIn 4 (some .int)) (rmD 0)).room s m ([.ref (b + 191), vI x1, vI x2] : List Value).toArray below meth c H locs 0 0 (MQ below (QI b C n M res) ([.ref (b + 191), vI x1, vI x2] : List Value).toArray s 0 0 (frb b)) (F0 m 2 ls [])) (M : Mem) (v3_ : Int) (hv3_ : InR v3_) (H : Heap) (locs : List Loc) (ls : Array Slot) (hS : St b C n M s H locs) (hl : lv_has ls 4 [(0, .ref (b + 191)), (1, vI x1), (2, vI x2), (3, vI v3_)]) (hT : t_MO_thingIn_L46 x1 x2 bk2 M v3_ = some res) : W p l e (headSpec (wsM y_MO_thingIn b_MO_thingIn 4 (some .int)) (rmD 0)).room s m ([.ref (b + 191), vI x1, vI x2] : List Value).toArray below meth c H locs 0 0 (MQ below (QI b C n M res) ([.ref (b + 191), vI x1, vI x2] : List Value).toArray s 0 0 (frb b)) (F0 m 46 ls []) := by
  unfold t_MO_thingIn_L46 at hT
  refine lv_iinc (v := Int32.ofInt (w32 (v3_ + 1))) (lv' := [(3, vI (w32 (v3_ + 1))), (0, .ref (b + 191)), (1, vI x1), (2, vI x2)]) F.hx F.hb d_MO_thingIn_46 hl (k := 3) rfl (q_of_add _ _) (Nat.le_of_ble_eq_true rfl) rfl (fun ls hl => ?_)
  refine lv_goto (tgt := 2) F.hx F.hb d_MO_thingIn_49 (by decide) ?_
  exact hbk2 M (w32 (v3_ + 1)) (inr_w32 _) _ _ _ hS (lv_sub hl [1, 2, 3, 0] rfl) hT
set_option maxHeartbeats 4000000 in
set_option maxRecDepth 100000 in
theorem k_MO_thingIn_L2 (l : Launch) {p : Program} {e : Env} {s : State} {m : MethodId} {below : List Frame} {meth : Method} {c : Code} {b n : Nat} {C : CT} (hlo : 231 ≤ n) (x1 : Int) (x2 : Int) (hx1 : InR x1) (hx2 : InR x2) (F : Cx b p m c b_MO_thingIn 4 s ([.ref (b + 191), vI x1, vI x2] : List Value).toArray "WardFallsModel" C n 231) (hlk : meth.locks = false) (hr : meth.sig.returnType = some .int) {res : Int} : ∀ (fu : Nat) (M : Mem) (v3_ : Int) (hv3_ : InR v3_) (H : Heap) (locs : List Loc) (ls : Array Slot), St b C n M s H locs → lv_has ls 4 [(0, .ref (b + 191)), (1, vI x1), (2, vI x2), (3, vI v3_)] → t_MO_thingIn_L2 x1 x2 fu M v3_ = some res → W p l e (headSpec (wsM y_MO_thingIn b_MO_thingIn 4 (some .int)) (rmD 0)).room s m ([.ref (b + 191), vI x1, vI x2] : List Value).toArray below meth c H locs 0 0 (MQ below (QI b C n M res) ([.ref (b + 191), vI x1, vI x2] : List Value).toArray s 0 0 (frb b)) (F0 m 2 ls []) := by
  intro fu
  induction fu with
  | zero => intro M v3_ hv3_ H locs ls hS hl hT; exact absurd hT (by simp [t_MO_thingIn_L2])
  | succ fu ih =>
    intro M v3_ hv3_ H locs ls hS hl hT
    rw [t_MO_thingIn_L2] at hT
    refine lv_iload_n F.hx F.hb d_MO_thingIn_2 rfl (lv_at hl 3 rfl) ?_
    refine lv_aload_n F.hx F.hb d_MO_thingIn_3 rfl (lv_at hl 0 rfl) ?_
    refine r_get (v := .ref (b + 193)) (N := 68) (T := T1) (j := 3) F hS (show 191 < 231 by decide) (show shK 191 = 5 from rfl) (show shN 191 = 68 from rfl) rfl (Nat.le_of_ble_eq_true rfl) ing1 mw_1392 (fv_sg rfl rfl rfl) d_MO_thingIn_4 ?_
    refine r_bipush F.hx F.hb d_MO_thingIn_7 rfl ?_
    refine r_iald F hS (show 193 < 231 by decide) (show shK 193 = 0 from rfl) (show shN 193 = 18 from rfl) (inr_c rfl) (by omega) (by omega) d_MO_thingIn_9 ?_
    have i1 := hS.rng 193 6
    refine r_icmp_ge (tgt := 52) F.hx F.hb hv3_ i1 d_MO_thingIn_10 (by decide) (fun c2 => ?_) (fun c2 => ?_)
    · replace hT := (if_pos c2).symm.trans hT
      refine r_iconst F.hx F.hb d_MO_thingIn_52 ?_
      cases hT
      exact r_iret F hlk hr rfl hS (inr_c rfl) d_MO_thingIn_53
    · replace hT := (if_neg c2).symm.trans hT
      refine lv_aload_n F.hx F.hb d_MO_thingIn_13 rfl (lv_at hl 0 rfl) ?_
      refine r_get (v := .ref (b + 213)) (N := 68) (T := T1) (j := 36) F hS (show 191 < 231 by decide) (show shK 191 = 5 from rfl) (show shN 191 = 68 from rfl) rfl (Nat.le_of_ble_eq_true rfl) ing1 mw_1425 (fv_sg rfl rfl rfl) d_MO_thingIn_14 ?_
      refine r_bipush F.hx F.hb d_MO_thingIn_17 rfl ?_
      refine lv_iload_n F.hx F.hb d_MO_thingIn_19 rfl (lv_at hl 1 rfl) ?_
      refine r_imul F.hx F.hb d_MO_thingIn_20 ?_
      refine lv_iload_n F.hx F.hb d_MO_thingIn_21 rfl (lv_at hl 3 rfl) ?_
      refine r_iadd F.hx F.hb d_MO_thingIn_22 ?_
      obtain ⟨⟨g3a, g3b⟩, hT⟩ := q_guard hT
      refine r_iald F hS (show 213 < 231 by decide) (show shK 213 = 0 from rfl) (show shN 213 = 184 from rfl) (inr_w32 _) g3a g3b d_MO_thingIn_23 ?_
      have i4 := hS.rng 213 (w32 ((w32 (8 * x1)) + v3_))
      refine lv_iload_n F.hx F.hb d_MO_thingIn_24 rfl (lv_at hl 2 rfl) ?_
      refine r_icmp_ne (tgt := 46) F.hx F.hb i4 hx2 d_MO_thingIn_25 (by decide) (fun c5 => ?_) (fun c5 => ?_)
      · replace hT := (if_neg c5).symm.trans hT
        exact k_MO_thingIn_L46 l hlo x1 x2 hx1 hx2 F hlk hr (fun a0_ a1_ => t_MO_thingIn_L2 x1 x2 fu a0_ a1_) ih M v3_ hv3_ _ _ _ hS (lv_sub hl [0, 1, 2, 3] rfl) hT
      · replace hT := (if_pos c5).symm.trans hT
        refine lv_aload_n F.hx F.hb d_MO_thingIn_28 rfl (lv_at hl 0 rfl) ?_
        refine r_get (v := vI (M.1 191 44)) (N := 68) (T := T1) (j := 44) F hS (show 191 < 231 by decide) (show shK 191 = 5 from rfl) (show shN 191 = 68 from rfl) rfl (Nat.le_of_ble_eq_true rfl) ing1 mw_1433 (fv_int rfl) d_MO_thingIn_29 ?_
        have i6 := hS.rng 191 44
        refine r_iconst F.hx F.hb d_MO_thingIn_32 ?_
        refine r_icmp_ne (tgt := 44) F.hx F.hb i6 (inr_c rfl) d_MO_thingIn_33 (by decide) (fun c7 => ?_) (fun c7 => ?_)
        · replace hT := (if_neg c7).symm.trans hT
          refine lv_iload_n F.hx F.hb d_MO_thingIn_44 rfl (lv_at hl 3 rfl) ?_
          cases hT
          exact r_iret F hlk hr rfl hS hv3_ d_MO_thingIn_45
        · replace hT := (if_pos c7).symm.trans hT
          refine lv_aload_n F.hx F.hb d_MO_thingIn_36 rfl (lv_at hl 0 rfl) ?_
          refine r_get (v := vI (M.1 191 45)) (N := 68) (T := T1) (j := 45) F hS (show 191 < 231 by decide) (show shK 191 = 5 from rfl) (show shN 191 = 68 from rfl) rfl (Nat.le_of_ble_eq_true rfl) ing1 mw_1434 (fv_int rfl) d_MO_thingIn_37 ?_
          have i8 := hS.rng 191 45
          refine lv_iload_n F.hx F.hb d_MO_thingIn_40 rfl (lv_at hl 3 rfl) ?_
          refine r_icmp_eq (tgt := 46) F.hx F.hb i8 hv3_ d_MO_thingIn_41 (by decide) (fun c9 => ?_) (fun c9 => ?_)
          · replace hT := (if_pos c9).symm.trans hT
            exact k_MO_thingIn_L46 l hlo x1 x2 hx1 hx2 F hlk hr (fun a0_ a1_ => t_MO_thingIn_L2 x1 x2 fu a0_ a1_) ih M v3_ hv3_ _ _ _ hS (lv_sub hl [0, 1, 2, 3] rfl) hT
          · replace hT := (if_neg c9).symm.trans hT
            refine lv_iload_n F.hx F.hb d_MO_thingIn_44 rfl (lv_at hl 3 rfl) ?_
            cases hT
            exact r_iret F hlk hr rfl hS hv3_ d_MO_thingIn_45
set_option maxHeartbeats 4000000 in
set_option maxRecDepth 100000 in
theorem c_MO_thingIn (l : Launch) {b n : Nat} {C : CT} (hlo : 231 ≤ n) (M : Mem) (x1 : Int) (x2 : Int) (hx1 : InR x1) (hx2 : InR x2) (res : Int) (hT : t_MO_thingIn M x1 x2 = some res) : CM l b C n 0 y_MO_thingIn b_MO_thingIn 4 (some .int) [.ref (b + 191), vI x1, vI x2] M (QI b C n M res) := by
  refine CM.of (lo := 231) (ow := "WardFallsModel") (by decide) rfl (Nat.le_of_ble_eq_true rfl) hlo (fun p e s m below meth c F hlk hr hS ls hl => ?_)
  have hl : lv_has ls 4 [(0, .ref (b + 191)), (1, vI x1), (2, vI x2)] := hl
  unfold t_MO_thingIn at hT
  refine r_iconst F.hx F.hb d_MO_thingIn_0 ?_
  refine lv_istore_n (lv' := [(3, vI 0), (0, .ref (b + 191)), (1, vI x1), (2, vI x2)]) F.hx F.hb d_MO_thingIn_1 rfl hl (Nat.le_of_ble_eq_true rfl) rfl (fun ls hl => ?_)
  exact k_MO_thingIn_L2 l hlo x1 x2 hx1 hx2 F hlk hr FU M 0 (inr_c rfl) _ _ _ hS (lv_sub hl [1, 2, 3, 0] rfl) hT
theorem wn_MO_goesFrom_0 : ∀ i, i < 94 → bA b_MO_goesFrom (0 + i) = wB [3, 62, 29, 16, 48, 162, 0, 16, 42, 180, 0, 103, 29, 2, 79, 132, 3, 1, 167, 255, 240, 28, 62, 3, 54, 4, 42, 3, 181, 1, 85, 42, 2, 181, 1, 88, 42, 3, 181, 1, 91, 42, 180, 0, 103, 29, 21, 4, 79, 42, 27, 29, 182, 1, 94, 54, 5, 21, 5, 2, 160, 0, 15, 42, 21, 4, 181, 1, 97, 42, 29, 181, 1, 100, 177, 42, 29, 21, 5, 182, 1, 103, 153, 0, 31, 42, 180, 1, 85, 154, 0, 14, 42, 42] i := wB_of (by decide +kernel)
theorem d_MO_goesFrom_0 : decode b_MO_goesFrom 0 = .ok (.iconst 0, 1) := dc_3 (q0_win (r := 0) wn_MO_goesFrom_0 (by decide +kernel))
theorem d_MO_goesFrom_1 : decode b_MO_goesFrom 1 = .ok (.istore_n 3, 1) := dc_62 (q0_win (r := 1) wn_MO_goesFrom_0 (by decide +kernel))
theorem d_MO_goesFrom_2 : decode b_MO_goesFrom 2 = .ok (.iload_n 3, 1) := dc_29 (q0_win (r := 2) wn_MO_goesFrom_0 (by decide +kernel))
theorem d_MO_goesFrom_3 : decode b_MO_goesFrom 3 = .ok (.bipush 48, 2) := dc_16 (qS1_win (r := 3) wn_MO_goesFrom_0 (by decide +kernel))
theorem d_MO_goesFrom_5 : decode b_MO_goesFrom 5 = .ok (.if_icmp .ge 16, 3) := dc_162 (qS2_win (r := 5) wn_MO_goesFrom_0 (by decide +kernel))
theorem d_MO_goesFrom_8 : decode b_MO_goesFrom 8 = .ok (.aload_n 0, 1) := dc_42 (q0_win (r := 8) wn_MO_goesFrom_0 (by decide +kernel))
theorem d_MO_goesFrom_9 : decode b_MO_goesFrom 9 = .ok (.getfield 103, 3) := dc_180 (qU2_win (r := 9) wn_MO_goesFrom_0 (by decide +kernel))
theorem d_MO_goesFrom_12 : decode b_MO_goesFrom 12 = .ok (.iload_n 3, 1) := dc_29 (q0_win (r := 12) wn_MO_goesFrom_0 (by decide +kernel))
theorem d_MO_goesFrom_13 : decode b_MO_goesFrom 13 = .ok (.iconst (-1), 1) := dc_2 (q0_win (r := 13) wn_MO_goesFrom_0 (by decide +kernel))
theorem d_MO_goesFrom_14 : decode b_MO_goesFrom 14 = .ok (.iastore, 1) := dc_79 (q0_win (r := 14) wn_MO_goesFrom_0 (by decide +kernel))
theorem d_MO_goesFrom_15 : decode b_MO_goesFrom 15 = .ok (.iinc 3 1, 3) := dc_132 (qI_win (r := 15) wn_MO_goesFrom_0 (by decide +kernel))
theorem d_MO_goesFrom_18 : decode b_MO_goesFrom 18 = .ok (.goto (-16), 3) := dc_167 (qS2_win (r := 18) wn_MO_goesFrom_0 (by decide +kernel))
theorem d_MO_goesFrom_21 : decode b_MO_goesFrom 21 = .ok (.iload_n 2, 1) := dc_28 (q0_win (r := 21) wn_MO_goesFrom_0 (by decide +kernel))
theorem d_MO_goesFrom_22 : decode b_MO_goesFrom 22 = .ok (.istore_n 3, 1) := dc_62 (q0_win (r := 22) wn_MO_goesFrom_0 (by decide +kernel))
theorem d_MO_goesFrom_23 : decode b_MO_goesFrom 23 = .ok (.iconst 0, 1) := dc_3 (q0_win (r := 23) wn_MO_goesFrom_0 (by decide +kernel))
theorem d_MO_goesFrom_24 : decode b_MO_goesFrom 24 = .ok (.istore 4, 2) := dc_54 (qU1_win (r := 24) wn_MO_goesFrom_0 (by decide +kernel))
theorem d_MO_goesFrom_26 : decode b_MO_goesFrom 26 = .ok (.aload_n 0, 1) := dc_42 (q0_win (r := 26) wn_MO_goesFrom_0 (by decide +kernel))
theorem d_MO_goesFrom_27 : decode b_MO_goesFrom 27 = .ok (.iconst 0, 1) := dc_3 (q0_win (r := 27) wn_MO_goesFrom_0 (by decide +kernel))
theorem d_MO_goesFrom_28 : decode b_MO_goesFrom 28 = .ok (.putfield 341, 3) := dc_181 (qU2_win (r := 28) wn_MO_goesFrom_0 (by decide +kernel))
theorem d_MO_goesFrom_31 : decode b_MO_goesFrom 31 = .ok (.aload_n 0, 1) := dc_42 (q0_win (r := 31) wn_MO_goesFrom_0 (by decide +kernel))
theorem d_MO_goesFrom_32 : decode b_MO_goesFrom 32 = .ok (.iconst (-1), 1) := dc_2 (q0_win (r := 32) wn_MO_goesFrom_0 (by decide +kernel))
theorem d_MO_goesFrom_33 : decode b_MO_goesFrom 33 = .ok (.putfield 344, 3) := dc_181 (qU2_win (r := 33) wn_MO_goesFrom_0 (by decide +kernel))
theorem d_MO_goesFrom_36 : decode b_MO_goesFrom 36 = .ok (.aload_n 0, 1) := dc_42 (q0_win (r := 36) wn_MO_goesFrom_0 (by decide +kernel))
theorem d_MO_goesFrom_37 : decode b_MO_goesFrom 37 = .ok (.iconst 0, 1) := dc_3 (q0_win (r := 37) wn_MO_goesFrom_0 (by decide +kernel))
theorem d_MO_goesFrom_38 : decode b_MO_goesFrom 38 = .ok (.putfield 347, 3) := dc_181 (qU2_win (r := 38) wn_MO_goesFrom_0 (by decide +kernel))
theorem d_MO_goesFrom_41 : decode b_MO_goesFrom 41 = .ok (.aload_n 0, 1) := dc_42 (q0_win (r := 41) wn_MO_goesFrom_0 (by decide +kernel))
theorem d_MO_goesFrom_42 : decode b_MO_goesFrom 42 = .ok (.getfield 103, 3) := dc_180 (qU2_win (r := 42) wn_MO_goesFrom_0 (by decide +kernel))
theorem d_MO_goesFrom_45 : decode b_MO_goesFrom 45 = .ok (.iload_n 3, 1) := dc_29 (q0_win (r := 45) wn_MO_goesFrom_0 (by decide +kernel))
theorem d_MO_goesFrom_46 : decode b_MO_goesFrom 46 = .ok (.iload 4, 2) := dc_21 (qU1_win (r := 46) wn_MO_goesFrom_0 (by decide +kernel))
theorem d_MO_goesFrom_48 : decode b_MO_goesFrom 48 = .ok (.iastore, 1) := dc_79 (q0_win (r := 48) wn_MO_goesFrom_0 (by decide +kernel))
theorem d_MO_goesFrom_49 : decode b_MO_goesFrom 49 = .ok (.aload_n 0, 1) := dc_42 (q0_win (r := 49) wn_MO_goesFrom_0 (by decide +kernel))
theorem d_MO_goesFrom_50 : decode b_MO_goesFrom 50 = .ok (.iload_n 1, 1) := dc_27 (q0_win (r := 50) wn_MO_goesFrom_0 (by decide +kernel))
theorem d_MO_goesFrom_51 : decode b_MO_goesFrom 51 = .ok (.iload_n 3, 1) := dc_29 (q0_win (r := 51) wn_MO_goesFrom_0 (by decide +kernel))
theorem d_MO_goesFrom_52 : decode b_MO_goesFrom 52 = .ok (.invokevirtual 350, 3) := dc_182 (qU2_win (r := 52) wn_MO_goesFrom_0 (by decide +kernel))
theorem d_MO_goesFrom_55 : decode b_MO_goesFrom 55 = .ok (.istore 5, 2) := dc_54 (qU1_win (r := 55) wn_MO_goesFrom_0 (by decide +kernel))
theorem d_MO_goesFrom_57 : decode b_MO_goesFrom 57 = .ok (.iload 5, 2) := dc_21 (qU1_win (r := 57) wn_MO_goesFrom_0 (by decide +kernel))
theorem d_MO_goesFrom_59 : decode b_MO_goesFrom 59 = .ok (.iconst (-1), 1) := dc_2 (q0_win (r := 59) wn_MO_goesFrom_0 (by decide +kernel))
theorem d_MO_goesFrom_60 : decode b_MO_goesFrom 60 = .ok (.if_icmp .ne 15, 3) := dc_160 (qS2_win (r := 60) wn_MO_goesFrom_0 (by decide +kernel))
theorem d_MO_goesFrom_63 : decode b_MO_goesFrom 63 = .ok (.aload_n 0, 1) := dc_42 (q0_win (r := 63) wn_MO_goesFrom_0 (by decide +kernel))
theorem d_MO_goesFrom_64 : decode b_MO_goesFrom 64 = .ok (.iload 4, 2) := dc_21 (qU1_win (r := 64) wn_MO_goesFrom_0 (by decide +kernel))
theorem d_MO_goesFrom_66 : decode b_MO_goesFrom 66 = .ok (.putfield 353, 3) := dc_181 (qU2_win (r := 66) wn_MO_goesFrom_0 (by decide +kernel))
theorem d_MO_goesFrom_69 : decode b_MO_goesFrom 69 = .ok (.aload_n 0, 1) := dc_42 (q0_win (r := 69) wn_MO_goesFrom_0 (by decide +kernel))
theorem d_MO_goesFrom_70 : decode b_MO_goesFrom 70 = .ok (.iload_n 3, 1) := dc_29 (q0_win (r := 70) wn_MO_goesFrom_0 (by decide +kernel))
theorem d_MO_goesFrom_71 : decode b_MO_goesFrom 71 = .ok (.putfield 356, 3) := dc_181 (qU2_win (r := 71) wn_MO_goesFrom_0 (by decide +kernel))
theorem d_MO_goesFrom_74 : decode b_MO_goesFrom 74 = .ok (.return_, 1) := dc_177 (q0_win (r := 74) wn_MO_goesFrom_0 (by decide +kernel))
theorem d_MO_goesFrom_75 : decode b_MO_goesFrom 75 = .ok (.aload_n 0, 1) := dc_42 (q0_win (r := 75) wn_MO_goesFrom_0 (by decide +kernel))
theorem d_MO_goesFrom_76 : decode b_MO_goesFrom 76 = .ok (.iload_n 3, 1) := dc_29 (q0_win (r := 76) wn_MO_goesFrom_0 (by decide +kernel))
theorem d_MO_goesFrom_77 : decode b_MO_goesFrom 77 = .ok (.iload 5, 2) := dc_21 (qU1_win (r := 77) wn_MO_goesFrom_0 (by decide +kernel))
theorem d_MO_goesFrom_79 : decode b_MO_goesFrom 79 = .ok (.invokevirtual 359, 3) := dc_182 (qU2_win (r := 79) wn_MO_goesFrom_0 (by decide +kernel))
theorem d_MO_goesFrom_82 : decode b_MO_goesFrom 82 = .ok (.ifCond .eq 31, 3) := dc_153 (qS2_win (r := 82) wn_MO_goesFrom_0 (by decide +kernel))
theorem d_MO_goesFrom_85 : decode b_MO_goesFrom 85 = .ok (.aload_n 0, 1) := dc_42 (q0_win (r := 85) wn_MO_goesFrom_0 (by decide +kernel))
theorem d_MO_goesFrom_86 : decode b_MO_goesFrom 86 = .ok (.getfield 341, 3) := dc_180 (qU2_win (r := 86) wn_MO_goesFrom_0 (by decide +kernel))
theorem d_MO_goesFrom_89 : decode b_MO_goesFrom 89 = .ok (.ifCond .ne 14, 3) := dc_154 (qS2_win (r := 89) wn_MO_goesFrom_0 (by decide +kernel))
theorem d_MO_goesFrom_92 : decode b_MO_goesFrom 92 = .ok (.aload_n 0, 1) := dc_42 (q0_win (r := 92) wn_MO_goesFrom_0 (by decide +kernel))
theorem d_MO_goesFrom_93 : decode b_MO_goesFrom 93 = .ok (.aload_n 0, 1) := dc_42 (q0_win (r := 93) wn_MO_goesFrom_0 (by decide +kernel))
theorem wn_MO_goesFrom_94 : ∀ i, i < 71 → bA b_MO_goesFrom (94 + i) = wB [180, 0, 25, 21, 5, 46, 181, 1, 88, 42, 89, 180, 1, 85, 4, 96, 181, 1, 85, 132, 4, 1, 42, 180, 0, 103, 21, 5, 46, 2, 159, 0, 35, 42, 42, 180, 0, 103, 21, 5, 46, 181, 1, 97, 42, 21, 4, 42, 180, 0, 103, 21, 5, 46, 100, 181, 1, 91, 42, 21, 5, 181, 1, 100, 177, 21, 5, 62, 167, 255, 135] i := wB_of (by decide +kernel)
theorem d_MO_goesFrom_94 : decode b_MO_goesFrom 94 = .ok (.getfield 25, 3) := dc_180 (qU2_win (r := 0) wn_MO_goesFrom_94 (by decide +kernel))
theorem d_MO_goesFrom_97 : decode b_MO_goesFrom 97 = .ok (.iload 5, 2) := dc_21 (qU1_win (r := 3) wn_MO_goesFrom_94 (by decide +kernel))
theorem d_MO_goesFrom_99 : decode b_MO_goesFrom 99 = .ok (.iaload, 1) := dc_46 (q0_win (r := 5) wn_MO_goesFrom_94 (by decide +kernel))
theorem d_MO_goesFrom_100 : decode b_MO_goesFrom 100 = .ok (.putfield 344, 3) := dc_181 (qU2_win (r := 6) wn_MO_goesFrom_94 (by decide +kernel))
theorem d_MO_goesFrom_103 : decode b_MO_goesFrom 103 = .ok (.aload_n 0, 1) := dc_42 (q0_win (r := 9) wn_MO_goesFrom_94 (by decide +kernel))
theorem d_MO_goesFrom_104 : decode b_MO_goesFrom 104 = .ok (.dup, 1) := dc_89 (q0_win (r := 10) wn_MO_goesFrom_94 (by decide +kernel))
theorem d_MO_goesFrom_105 : decode b_MO_goesFrom 105 = .ok (.getfield 341, 3) := dc_180 (qU2_win (r := 11) wn_MO_goesFrom_94 (by decide +kernel))
theorem d_MO_goesFrom_108 : decode b_MO_goesFrom 108 = .ok (.iconst 1, 1) := dc_4 (q0_win (r := 14) wn_MO_goesFrom_94 (by decide +kernel))
theorem d_MO_goesFrom_109 : decode b_MO_goesFrom 109 = .ok (.iadd, 1) := dc_96 (q0_win (r := 15) wn_MO_goesFrom_94 (by decide +kernel))
theorem d_MO_goesFrom_110 : decode b_MO_goesFrom 110 = .ok (.putfield 341, 3) := dc_181 (qU2_win (r := 16) wn_MO_goesFrom_94 (by decide +kernel))
theorem d_MO_goesFrom_113 : decode b_MO_goesFrom 113 = .ok (.iinc 4 1, 3) := dc_132 (qI_win (r := 19) wn_MO_goesFrom_94 (by decide +kernel))
theorem d_MO_goesFrom_116 : decode b_MO_goesFrom 116 = .ok (.aload_n 0, 1) := dc_42 (q0_win (r := 22) wn_MO_goesFrom_94 (by decide +kernel))
theorem d_MO_goesFrom_117 : decode b_MO_goesFrom 117 = .ok (.getfield 103, 3) := dc_180 (qU2_win (r := 23) wn_MO_goesFrom_94 (by decide +kernel))
theorem d_MO_goesFrom_120 : decode b_MO_goesFrom 120 = .ok (.iload 5, 2) := dc_21 (qU1_win (r := 26) wn_MO_goesFrom_94 (by decide +kernel))
theorem d_MO_goesFrom_122 : decode b_MO_goesFrom 122 = .ok (.iaload, 1) := dc_46 (q0_win (r := 28) wn_MO_goesFrom_94 (by decide +kernel))
theorem d_MO_goesFrom_123 : decode b_MO_goesFrom 123 = .ok (.iconst (-1), 1) := dc_2 (q0_win (r := 29) wn_MO_goesFrom_94 (by decide +kernel))
theorem d_MO_goesFrom_124 : decode b_MO_goesFrom 124 = .ok (.if_icmp .eq 35, 3) := dc_159 (qS2_win (r := 30) wn_MO_goesFrom_94 (by decide +kernel))
theorem d_MO_goesFrom_127 : decode b_MO_goesFrom 127 = .ok (.aload_n 0, 1) := dc_42 (q0_win (r := 33) wn_MO_goesFrom_94 (by decide +kernel))
theorem d_MO_goesFrom_128 : decode b_MO_goesFrom 128 = .ok (.aload_n 0, 1) := dc_42 (q0_win (r := 34) wn_MO_goesFrom_94 (by decide +kernel))
theorem d_MO_goesFrom_129 : decode b_MO_goesFrom 129 = .ok (.getfield 103, 3) := dc_180 (qU2_win (r := 35) wn_MO_goesFrom_94 (by decide +kernel))
theorem d_MO_goesFrom_132 : decode b_MO_goesFrom 132 = .ok (.iload 5, 2) := dc_21 (qU1_win (r := 38) wn_MO_goesFrom_94 (by decide +kernel))
theorem d_MO_goesFrom_134 : decode b_MO_goesFrom 134 = .ok (.iaload, 1) := dc_46 (q0_win (r := 40) wn_MO_goesFrom_94 (by decide +kernel))
theorem d_MO_goesFrom_135 : decode b_MO_goesFrom 135 = .ok (.putfield 353, 3) := dc_181 (qU2_win (r := 41) wn_MO_goesFrom_94 (by decide +kernel))
theorem d_MO_goesFrom_138 : decode b_MO_goesFrom 138 = .ok (.aload_n 0, 1) := dc_42 (q0_win (r := 44) wn_MO_goesFrom_94 (by decide +kernel))
theorem d_MO_goesFrom_139 : decode b_MO_goesFrom 139 = .ok (.iload 4, 2) := dc_21 (qU1_win (r := 45) wn_MO_goesFrom_94 (by decide +kernel))
theorem d_MO_goesFrom_141 : decode b_MO_goesFrom 141 = .ok (.aload_n 0, 1) := dc_42 (q0_win (r := 47) wn_MO_goesFrom_94 (by decide +kernel))
theorem d_MO_goesFrom_142 : decode b_MO_goesFrom 142 = .ok (.getfield 103, 3) := dc_180 (qU2_win (r := 48) wn_MO_goesFrom_94 (by decide +kernel))
theorem d_MO_goesFrom_145 : decode b_MO_goesFrom 145 = .ok (.iload 5, 2) := dc_21 (qU1_win (r := 51) wn_MO_goesFrom_94 (by decide +kernel))
theorem d_MO_goesFrom_147 : decode b_MO_goesFrom 147 = .ok (.iaload, 1) := dc_46 (q0_win (r := 53) wn_MO_goesFrom_94 (by decide +kernel))
theorem d_MO_goesFrom_148 : decode b_MO_goesFrom 148 = .ok (.isub, 1) := dc_100 (q0_win (r := 54) wn_MO_goesFrom_94 (by decide +kernel))
theorem d_MO_goesFrom_149 : decode b_MO_goesFrom 149 = .ok (.putfield 347, 3) := dc_181 (qU2_win (r := 55) wn_MO_goesFrom_94 (by decide +kernel))
theorem d_MO_goesFrom_152 : decode b_MO_goesFrom 152 = .ok (.aload_n 0, 1) := dc_42 (q0_win (r := 58) wn_MO_goesFrom_94 (by decide +kernel))
theorem d_MO_goesFrom_153 : decode b_MO_goesFrom 153 = .ok (.iload 5, 2) := dc_21 (qU1_win (r := 59) wn_MO_goesFrom_94 (by decide +kernel))
theorem d_MO_goesFrom_155 : decode b_MO_goesFrom 155 = .ok (.putfield 356, 3) := dc_181 (qU2_win (r := 61) wn_MO_goesFrom_94 (by decide +kernel))
theorem d_MO_goesFrom_158 : decode b_MO_goesFrom 158 = .ok (.return_, 1) := dc_177 (q0_win (r := 64) wn_MO_goesFrom_94 (by decide +kernel))
theorem d_MO_goesFrom_159 : decode b_MO_goesFrom 159 = .ok (.iload 5, 2) := dc_21 (qU1_win (r := 65) wn_MO_goesFrom_94 (by decide +kernel))
theorem d_MO_goesFrom_161 : decode b_MO_goesFrom 161 = .ok (.istore_n 3, 1) := dc_62 (q0_win (r := 67) wn_MO_goesFrom_94 (by decide +kernel))
theorem d_MO_goesFrom_162 : decode b_MO_goesFrom 162 = .ok (.goto (-121), 3) := dc_167 (qS2_win (r := 68) wn_MO_goesFrom_94 (by decide +kernel))
def t_MO_goesFrom_L113 (x1 : Int) (x2 : Int) (bk41 : Mem → Int → Int → Option (Mem)) (M : Mem) (v2_ : Int) (v3_ : Int) : Option (Mem) := (qguard (0 ≤ v3_ ∧ v3_ < 48) (if (M.1 219 v3_) = (-1) then (bk41 M v3_ (w32 (v2_ + 1))) else (qguard (0 ≤ v3_ ∧ v3_ < 48) (qlet (setI M 191 46 (M.1 219 v3_)) fun M27 => (qguard (0 ≤ v3_ ∧ v3_ < 48) (qlet (setI M27 191 48 (w32 ((w32 (v2_ + 1)) - (M27.1 219 v3_)))) fun M30 => (qlet (setI M30 191 47 v3_) fun M31 => (some M31))))))))
def t_MO_goesFrom_L103 (x1 : Int) (x2 : Int) (bk41 : Mem → Int → Int → Option (Mem)) (M : Mem) (v2_ : Int) (v3_ : Int) : Option (Mem) := (qlet (setI M 191 49 (w32 ((M.1 191 49) + 1))) fun M33 => (t_MO_goesFrom_L113 x1 x2 bk41 M33 v2_ v3_))
def t_MO_goesFrom_L41 (x1 : Int) (x2 : Int)  : Nat → Mem → Int → Int → Option (Mem)
  | 0, _, _, _ => none
  | fu + 1, M, v2_, v3_ => (qguard (0 ≤ v2_ ∧ v2_ < 48) (qlet (setI M 219 v2_ v3_) fun M8 => (obind (t_MO_nextOf M8 x1 v2_) fun q9 => (if q9 = (-1) then (qlet (setI M8 191 46 v3_) fun M20 => (qlet (setI M20 191 47 v2_) fun M21 => (some M21))) else (obind (t_MO_isLine M8 v2_ q9) fun q12 => (if q12 = 0 then (t_MO_goesFrom_L113 x1 x2 (fun a0_ a1_ a2_ => t_MO_goesFrom_L41 x1 x2 fu a0_ a1_ a2_) M8 v3_ q9) else (if (M8.1 191 49) = 0 then (qguard (0 ≤ q9 ∧ q9 < 96) (qlet (setI M8 191 50 (M8.1 197 q9)) fun M19 => (t_MO_goesFrom_L103 x1 x2 (fun a0_ a1_ a2_ => t_MO_goesFrom_L41 x1 x2 fu a0_ a1_ a2_) M19 v3_ q9))) else (t_MO_goesFrom_L103 x1 x2 (fun a0_ a1_ a2_ => t_MO_goesFrom_L41 x1 x2 fu a0_ a1_ a2_) M8 v3_ q9))))))))
def t_MO_goesFrom_L2 (x1 : Int) (x2 : Int)  : Nat → Mem → Int → Option (Mem)
  | 0, _, _ => none
  | fu + 1, M, v3_ => (if 48 ≤ v3_ then (qlet (setI M 191 49 0) fun M2 => (qlet (setI M2 191 50 (-1)) fun M3 => (qlet (setI M3 191 48 0) fun M4 => (t_MO_goesFrom_L41 x1 x2 FU M4 x2 0)))) else (qguard (0 ≤ v3_ ∧ v3_ < 48) (qlet (setI M 219 v3_ (-1)) fun M6 => (t_MO_goesFrom_L2 x1 x2 fu M6 (w32 (v3_ + 1))))))
def t_MO_goesFrom (M : Mem) (x1 : Int) (x2 : Int) : Option (Mem) := (t_MO_goesFrom_L2 x1 x2 FU M 0)
set_option maxHeartbeats 4000000 in
set_option maxRecDepth 100000 in
theorem k_MO_goesFrom_L113 (l : Launch) {p : Program} {e : Env} {s : State} {m : MethodId} {below : List Frame} {meth : Method} {c : Code} {b n : Nat} {C : CT} (hlo : 231 ≤ n) (x1 : Int) (x2 : Int) (hx1 : InR x1) (hx2 : InR x2) (F : Cx b p m c b_MO_goesFrom 6 s ([.ref (b + 191), vI x1, vI x2] : List Value).toArray "WardFallsModel" C n 231) (hlk : meth.locks = false) (hr : meth.sig.returnType = none) {res : Mem} (bk41 : Mem → Int → Int → Option (Mem)) (hbk41 : ∀ (M : Mem) (v2_ : Int) (hv2_ : InR v2_) (v3_ : Int) (hv3_ : InR v3_) (H : Heap) (locs : List Loc) (ls : Array Slot), St b C n M s H locs → lv_has ls 6 [(0, .ref (b + 191)), (1, vI x1), (3, vI v2_), (4, vI v3_)] → bk41 M v2_ v3_ = some res → W p l e (headSpec (wsM y_MO_goesFrom b_MO_goesFrom 6 (none)) (rmD 2)).room s m ([.ref (b + 191), vI x1, vI x2] : List Value).toArray below meth c H locs 0 0 (MQ below (QV b C n res) ([.ref (b + 191), vI x1, vI x2] : List Value).toArray s 0 0 (frb b)) (F0 m 41 ls [])) (M : Mem) (v2_ : Int) (hv2_ : InR v2_) (v3_ : Int) (hv3_ : InR v3_) (H : Heap) (locs : List Loc) (ls : Array Slot) (hS : St b C n M s H locs) (hl : lv_has ls 6 [(0, .ref (b + 191)), (1, vI x1), (4, vI v2_), (5, vI v3_)]) (hT : t_MO_goesFrom_L113 x1 x2 bk41 M v2_ v3_ = some res) : W p l e (headSpec (wsM y_MO_goesFrom b_MO_goesFrom 6 (none)) (rmD 2)).room s m ([.ref (b + 191), vI x1, vI x2] : List Value).toArray below meth c H locs 0 0 (MQ below (QV b C n res) ([.ref (b + 191), vI x1, vI x2] : List Value).toArray s 0 0 (frb b)) (F0 m 113 ls []) := by
  unfold t_MO_goesFrom_L113 at hT
  refine lv_iinc (v := Int32.ofInt (w32 (v2_ + 1))) (lv' := [(4, vI (w32 (v2_ + 1))), (0, .ref (b + 191)), (1, vI x1), (5, vI v3_)]) F.hx F.hb d_MO_goesFrom_113 hl (k := 2) rfl (q_of_add _ _) (Nat.le_of_ble_eq_true rfl) rfl (fun ls hl => ?_)
  refine lv_aload_n F.hx F.hb d_MO_goesFrom_116 rfl (lv_at hl 1 rfl) ?_
  refine r_get (v := .ref (b + 219)) (N := 68) (T := T1) (j := 51) F hS (show 191 < 231 by decide) (show shK 191 = 5 from rfl) (show shN 191 = 68 from rfl) rfl (Nat.le_of_ble_eq_true rfl) ing1 mw_1440 (fv_sg rfl rfl rfl) d_MO_goesFrom_117 ?_
  refine lv_iload F.hx F.hb d_MO_goesFrom_120 (lv_at hl 3 rfl) ?_
  obtain ⟨⟨g22a, g22b⟩, hT⟩ := q_guard hT
  refine r_iald F hS (show 219 < 231 by decide) (show shK 219 = 0 from rfl) (show shN 219 = 48 from rfl) hv3_ g22a g22b d_MO_goesFrom_122 ?_
  have i23 := hS.rng 219 v3_
  refine r_iconst F.hx F.hb d_MO_goesFrom_123 ?_
  refine r_icmp_eq (tgt := 159) F.hx F.hb i23 (inr_c rfl) d_MO_goesFrom_124 (by decide) (fun c24 => ?_) (fun c24 => ?_)
  · replace hT := (if_pos c24).symm.trans hT
    refine lv_iload F.hx F.hb d_MO_goesFrom_159 (lv_at hl 3 rfl) ?_
    refine lv_istore_n (lv' := [(3, vI v3_), (4, vI (w32 (v2_ + 1))), (0, .ref (b + 191)), (1, vI x1), (5, vI v3_)]) F.hx F.hb d_MO_goesFrom_161 rfl hl (Nat.le_of_ble_eq_true rfl) rfl (fun ls hl => ?_)
    refine lv_goto (tgt := 41) F.hx F.hb d_MO_goesFrom_162 (by decide) ?_
    exact hbk41 M v3_ hv3_ (w32 (v2_ + 1)) (inr_w32 _) _ _ _ hS (lv_sub hl [2, 3, 0, 1] rfl) hT
  · replace hT := (if_neg c24).symm.trans hT
    refine lv_aload_n F.hx F.hb d_MO_goesFrom_127 rfl (lv_at hl 1 rfl) ?_
    refine lv_aload_n F.hx F.hb d_MO_goesFrom_128 rfl (lv_at hl 1 rfl) ?_
    refine r_get (v := .ref (b + 219)) (N := 68) (T := T1) (j := 51) F hS (show 191 < 231 by decide) (show shK 191 = 5 from rfl) (show shN 191 = 68 from rfl) rfl (Nat.le_of_ble_eq_true rfl) ing1 mw_1440 (fv_sg rfl rfl rfl) d_MO_goesFrom_129 ?_
    refine lv_iload F.hx F.hb d_MO_goesFrom_132 (lv_at hl 3 rfl) ?_
    obtain ⟨⟨g25a, g25b⟩, hT⟩ := q_guard hT
    refine r_iald F hS (show 219 < 231 by decide) (show shK 219 = 0 from rfl) (show shN 219 = 48 from rfl) hv3_ g25a g25b d_MO_goesFrom_134 ?_
    have i26 := hS.rng 219 v3_
    refine r_putI (N := 68) (T := T1) (j := 46) F hS (show 191 < 231 by decide) (show shK 191 = 5 from rfl) (show shN 191 = 68 from rfl) rfl (Nat.le_of_ble_eq_true rfl) ing1 tyok1 nm1 rfl rfl rfl rfl rfl rfl mw_1435 i26 d_MO_goesFrom_135 (fun H locs hS => ?_)
    obtain ⟨M27, eM27⟩ : ∃ q, q = (setI M 191 46 (M.1 219 v3_)) := ⟨_, rfl⟩
    replace hS : St b C n M27 s H locs := by rw [eM27]; exact hS
    replace hT := qlet_eq hT eM27
    refine lv_aload_n F.hx F.hb d_MO_goesFrom_138 rfl (lv_at hl 1 rfl) ?_
    refine lv_iload F.hx F.hb d_MO_goesFrom_139 (lv_at hl 0 rfl) ?_
    refine lv_aload_n F.hx F.hb d_MO_goesFrom_141 rfl (lv_at hl 1 rfl) ?_
    refine r_get (v := .ref (b + 219)) (N := 68) (T := T1) (j := 51) F hS (show 191 < 231 by decide) (show shK 191 = 5 from rfl) (show shN 191 = 68 from rfl) rfl (Nat.le_of_ble_eq_true rfl) ing1 mw_1440 (fv_sg rfl rfl rfl) d_MO_goesFrom_142 ?_
    refine lv_iload F.hx F.hb d_MO_goesFrom_145 (lv_at hl 3 rfl) ?_
    obtain ⟨⟨g28a, g28b⟩, hT⟩ := q_guard hT
    refine r_iald F hS (show 219 < 231 by decide) (show shK 219 = 0 from rfl) (show shN 219 = 48 from rfl) hv3_ g28a g28b d_MO_goesFrom_147 ?_
    have i29 := hS.rng 219 v3_
    refine r_isub F.hx F.hb d_MO_goesFrom_148 ?_
    refine r_putI (N := 68) (T := T1) (j := 48) F hS (show 191 < 231 by decide) (show shK 191 = 5 from rfl) (show shN 191 = 68 from rfl) rfl (Nat.le_of_ble_eq_true rfl) ing1 tyok1 nm1 rfl rfl rfl rfl rfl rfl mw_1437 (inr_w32 _) d_MO_goesFrom_149 (fun H locs hS => ?_)
    obtain ⟨M30, eM30⟩ : ∃ q, q = (setI M27 191 48 (w32 ((w32 (v2_ + 1)) - (M27.1 219 v3_)))) := ⟨_, rfl⟩
    replace hS : St b C n M30 s H locs := by rw [eM30]; exact hS
    replace hT := qlet_eq hT eM30
    refine lv_aload_n F.hx F.hb d_MO_goesFrom_152 rfl (lv_at hl 1 rfl) ?_
    refine lv_iload F.hx F.hb d_MO_goesFrom_153 (lv_at hl 3 rfl) ?_
    refine r_putI (N := 68) (T := T1) (j := 47) F hS (show 191 < 231 by decide) (show shK 191 = 5 from rfl) (show shN 191 = 68 from rfl) rfl (Nat.le_of_ble_eq_true rfl) ing1 tyok1 nm1 rfl rfl rfl rfl rfl rfl mw_1436 hv3_ d_MO_goesFrom_155 (fun H locs hS => ?_)
    obtain ⟨M31, eM31⟩ : ∃ q, q = (setI M30 191 47 v3_) := ⟨_, rfl⟩
    replace hS : St b C n M31 s H locs := by rw [eM31]; exact hS
    replace hT := qlet_eq hT eM31
    cases hT
    exact r_vret F hlk hr hS d_MO_goesFrom_158
set_option maxHeartbeats 4000000 in
set_option maxRecDepth 100000 in
theorem k_MO_goesFrom_L103 (l : Launch) {p : Program} {e : Env} {s : State} {m : MethodId} {below : List Frame} {meth : Method} {c : Code} {b n : Nat} {C : CT} (hlo : 231 ≤ n) (x1 : Int) (x2 : Int) (hx1 : InR x1) (hx2 : InR x2) (F : Cx b p m c b_MO_goesFrom 6 s ([.ref (b + 191), vI x1, vI x2] : List Value).toArray "WardFallsModel" C n 231) (hlk : meth.locks = false) (hr : meth.sig.returnType = none) {res : Mem} (bk41 : Mem → Int → Int → Option (Mem)) (hbk41 : ∀ (M : Mem) (v2_ : Int) (hv2_ : InR v2_) (v3_ : Int) (hv3_ : InR v3_) (H : Heap) (locs : List Loc) (ls : Array Slot), St b C n M s H locs → lv_has ls 6 [(0, .ref (b + 191)), (1, vI x1), (3, vI v2_), (4, vI v3_)] → bk41 M v2_ v3_ = some res → W p l e (headSpec (wsM y_MO_goesFrom b_MO_goesFrom 6 (none)) (rmD 2)).room s m ([.ref (b + 191), vI x1, vI x2] : List Value).toArray below meth c H locs 0 0 (MQ below (QV b C n res) ([.ref (b + 191), vI x1, vI x2] : List Value).toArray s 0 0 (frb b)) (F0 m 41 ls [])) (M : Mem) (v2_ : Int) (hv2_ : InR v2_) (v3_ : Int) (hv3_ : InR v3_) (H : Heap) (locs : List Loc) (ls : Array Slot) (hS : St b C n M s H locs) (hl : lv_has ls 6 [(0, .ref (b + 191)), (1, vI x1), (4, vI v2_), (5, vI v3_)]) (hT : t_MO_goesFrom_L103 x1 x2 bk41 M v2_ v3_ = some res) : W p l e (headSpec (wsM y_MO_goesFrom b_MO_goesFrom 6 (none)) (rmD 2)).room s m ([.ref (b + 191), vI x1, vI x2] : List Value).toArray below meth c H locs 0 0 (MQ below (QV b C n res) ([.ref (b + 191), vI x1, vI x2] : List Value).toArray s 0 0 (frb b)) (F0 m 103 ls []) := by
  unfold t_MO_goesFrom_L103 at hT
  refine lv_aload_n F.hx F.hb d_MO_goesFrom_103 rfl (lv_at hl 0 rfl) ?_
  refine lv_dup F.hx F.hb d_MO_goesFrom_104 rfl ?_
  refine r_get (v := vI (M.1 191 49)) (N := 68) (T := T1) (j := 49) F hS (show 191 < 231 by decide) (show shK 191 = 5 from rfl) (show shN 191 = 68 from rfl) rfl (Nat.le_of_ble_eq_true rfl) ing1 mw_1438 (fv_int rfl) d_MO_goesFrom_105 ?_
  have i32 := hS.rng 191 49
  refine r_iconst F.hx F.hb d_MO_goesFrom_108 ?_
  refine r_iadd F.hx F.hb d_MO_goesFrom_109 ?_
  refine r_putI (N := 68) (T := T1) (j := 49) F hS (show 191 < 231 by decide) (show shK 191 = 5 from rfl) (show shN 191 = 68 from rfl) rfl (Nat.le_of_ble_eq_true rfl) ing1 tyok1 nm1 rfl rfl rfl rfl rfl rfl mw_1438 (inr_w32 _) d_MO_goesFrom_110 (fun H locs hS => ?_)
  obtain ⟨M33, eM33⟩ : ∃ q, q = (setI M 191 49 (w32 ((M.1 191 49) + 1))) := ⟨_, rfl⟩
  replace hS : St b C n M33 s H locs := by rw [eM33]; exact hS
  replace hT := qlet_eq hT eM33
  exact k_MO_goesFrom_L113 l hlo x1 x2 hx1 hx2 F hlk hr bk41 hbk41 M33 v2_ hv2_ v3_ hv3_ _ _ _ hS (lv_sub hl [0, 1, 2, 3] rfl) hT
set_option maxHeartbeats 4000000 in
set_option maxRecDepth 100000 in
theorem k_MO_goesFrom_L41 (l : Launch) {p : Program} {e : Env} {s : State} {m : MethodId} {below : List Frame} {meth : Method} {c : Code} {b n : Nat} {C : CT} (hlo : 231 ≤ n) (x1 : Int) (x2 : Int) (hx1 : InR x1) (hx2 : InR x2) (F : Cx b p m c b_MO_goesFrom 6 s ([.ref (b + 191), vI x1, vI x2] : List Value).toArray "WardFallsModel" C n 231) (hlk : meth.locks = false) (hr : meth.sig.returnType = none) {res : Mem} : ∀ (fu : Nat) (M : Mem) (v2_ : Int) (hv2_ : InR v2_) (v3_ : Int) (hv3_ : InR v3_) (H : Heap) (locs : List Loc) (ls : Array Slot), St b C n M s H locs → lv_has ls 6 [(0, .ref (b + 191)), (1, vI x1), (3, vI v2_), (4, vI v3_)] → t_MO_goesFrom_L41 x1 x2 fu M v2_ v3_ = some res → W p l e (headSpec (wsM y_MO_goesFrom b_MO_goesFrom 6 (none)) (rmD 2)).room s m ([.ref (b + 191), vI x1, vI x2] : List Value).toArray below meth c H locs 0 0 (MQ below (QV b C n res) ([.ref (b + 191), vI x1, vI x2] : List Value).toArray s 0 0 (frb b)) (F0 m 41 ls []) := by
  intro fu
  induction fu with
  | zero => intro M v2_ hv2_ v3_ hv3_ H locs ls hS hl hT; exact absurd hT (by simp [t_MO_goesFrom_L41])
  | succ fu ih =>
    intro M v2_ hv2_ v3_ hv3_ H locs ls hS hl hT
    rw [t_MO_goesFrom_L41] at hT
    refine lv_aload_n F.hx F.hb d_MO_goesFrom_41 rfl (lv_at hl 0 rfl) ?_
    refine r_get (v := .ref (b + 219)) (N := 68) (T := T1) (j := 51) F hS (show 191 < 231 by decide) (show shK 191 = 5 from rfl) (show shN 191 = 68 from rfl) rfl (Nat.le_of_ble_eq_true rfl) ing1 mw_1440 (fv_sg rfl rfl rfl) d_MO_goesFrom_42 ?_
    refine lv_iload_n F.hx F.hb d_MO_goesFrom_45 rfl (lv_at hl 2 rfl) ?_
    refine lv_iload F.hx F.hb d_MO_goesFrom_46 (lv_at hl 3 rfl) ?_
    obtain ⟨⟨g7a, g7b⟩, hT⟩ := q_guard hT
    refine r_iast F hS (show 219 < 231 by decide) (show shK 219 = 0 from rfl) (show shN 219 = 48 from rfl) hv2_ hv3_ g7a g7b d_MO_goesFrom_48 (fun H locs hS => ?_)
    obtain ⟨M8, eM8⟩ : ∃ q, q = (setI M 219 v2_ v3_) := ⟨_, rfl⟩
    replace hS : St b C n M8 s H locs := by rw [eM8]; exact hS
    replace hT := qlet_eq hT eM8
    refine lv_aload_n F.hx F.hb d_MO_goesFrom_49 rfl (lv_at hl 0 rfl) ?_
    refine lv_iload_n F.hx F.hb d_MO_goesFrom_50 rfl (lv_at hl 1 rfl) ?_
    refine lv_iload_n F.hx F.hb d_MO_goesFrom_51 rfl (lv_at hl 2 rfl) ?_
    obtain ⟨q9, hq9, hT⟩ := q_obind hT
    refine r_backI F hS (r_runV (k := 191) (N := 68) (T := T1) (As := [vI x1, vI v2_]) F hS (show 191 < 231 by decide) (show shK 191 = 5 from rfl) rfl (c_MO_nextOf l F.2.2.1 M8 x1 v2_ hx1 hv2_ _ hq9) gs_MO_350 hd_MO_nextOf ⟨Nat.le_of_ble_eq_true rfl, Nat.le_of_ble_eq_true rfl⟩ rfl hl.1 (Nat.le_of_ble_eq_true rfl) ⟨Nat.zero_le _, Nat.zero_le _⟩ rfl d_MO_goesFrom_52) (fun H locs hS h10 => ?_)
    refine lv_istore (lv' := [(5, vI q9), (0, .ref (b + 191)), (1, vI x1), (3, vI v2_), (4, vI v3_)]) F.hx F.hb d_MO_goesFrom_55 hl (Nat.le_of_ble_eq_true rfl) rfl (fun ls hl => ?_)
    refine lv_iload F.hx F.hb d_MO_goesFrom_57 (lv_at hl 0 rfl) ?_
    refine r_iconst F.hx F.hb d_MO_goesFrom_59 ?_
    refine r_icmp_ne (tgt := 75) F.hx F.hb h10 (inr_c rfl) d_MO_goesFrom_60 (by decide) (fun c11 => ?_) (fun c11 => ?_)
    · replace hT := (if_neg c11).symm.trans hT
      refine lv_aload_n F.hx F.hb d_MO_goesFrom_75 rfl (lv_at hl 1 rfl) ?_
      refine lv_iload_n F.hx F.hb d_MO_goesFrom_76 rfl (lv_at hl 3 rfl) ?_
      refine lv_iload F.hx F.hb d_MO_goesFrom_77 (lv_at hl 0 rfl) ?_
      obtain ⟨q12, hq12, hT⟩ := q_obind hT
      refine r_backZ F hS (r_runV (k := 191) (N := 68) (T := T1) (As := [vI v2_, vI q9]) F hS (show 191 < 231 by decide) (show shK 191 = 5 from rfl) rfl (c_MO_isLine l F.2.2.1 M8 v2_ q9 hv2_ h10 _ hq12) gs_MO_359 hd_MO_isLine ⟨Nat.le_of_ble_eq_true rfl, Nat.le_of_ble_eq_true rfl⟩ rfl hl.1 (Nat.le_of_ble_eq_true rfl) ⟨Nat.zero_le _, Nat.zero_le _⟩ rfl d_MO_goesFrom_79) (fun H locs hS h13 => ?_)
      refine r_if_eq (tgt := 113) F.hx F.hb (inr_z h13) d_MO_goesFrom_82 (by decide) (fun c14 => ?_) (fun c14 => ?_)
      · replace hT := (if_pos c14).symm.trans hT
        exact k_MO_goesFrom_L113 l hlo x1 x2 hx1 hx2 F hlk hr (fun a0_ a1_ a2_ => t_MO_goesFrom_L41 x1 x2 fu a0_ a1_ a2_) ih M8 v3_ hv3_ q9 h10 _ _ _ hS (lv_sub hl [1, 2, 4, 0] rfl) hT
      · replace hT := (if_neg c14).symm.trans hT
        refine lv_aload_n F.hx F.hb d_MO_goesFrom_85 rfl (lv_at hl 1 rfl) ?_
        refine r_get (v := vI (M8.1 191 49)) (N := 68) (T := T1) (j := 49) F hS (show 191 < 231 by decide) (show shK 191 = 5 from rfl) (show shN 191 = 68 from rfl) rfl (Nat.le_of_ble_eq_true rfl) ing1 mw_1438 (fv_int rfl) d_MO_goesFrom_86 ?_
        have i15 := hS.rng 191 49
        refine r_if_ne (tgt := 103) F.hx F.hb i15 d_MO_goesFrom_89 (by decide) (fun c16 => ?_) (fun c16 => ?_)
        · replace hT := (if_neg c16).symm.trans hT
          exact k_MO_goesFrom_L103 l hlo x1 x2 hx1 hx2 F hlk hr (fun a0_ a1_ a2_ => t_MO_goesFrom_L41 x1 x2 fu a0_ a1_ a2_) ih M8 v3_ hv3_ q9 h10 _ _ _ hS (lv_sub hl [1, 2, 4, 0] rfl) hT
        · replace hT := (if_pos c16).symm.trans hT
          refine lv_aload_n F.hx F.hb d_MO_goesFrom_92 rfl (lv_at hl 1 rfl) ?_
          refine lv_aload_n F.hx F.hb d_MO_goesFrom_93 rfl (lv_at hl 1 rfl) ?_
          refine r_get (v := .ref (b + 197)) (N := 68) (T := T1) (j := 7) F hS (show 191 < 231 by decide) (show shK 191 = 5 from rfl) (show shN 191 = 68 from rfl) rfl (Nat.le_of_ble_eq_true rfl) ing1 mw_1396 (fv_sg rfl rfl rfl) d_MO_goesFrom_94 ?_
          refine lv_iload F.hx F.hb d_MO_goesFrom_97 (lv_at hl 0 rfl) ?_
          obtain ⟨⟨g17a, g17b⟩, hT⟩ := q_guard hT
          refine r_iald F hS (show 197 < 231 by decide) (show shK 197 = 0 from rfl) (show shN 197 = 96 from rfl) h10 g17a g17b d_MO_goesFrom_99 ?_
          have i18 := hS.rng 197 q9
          refine r_putI (N := 68) (T := T1) (j := 50) F hS (show 191 < 231 by decide) (show shK 191 = 5 from rfl) (show shN 191 = 68 from rfl) rfl (Nat.le_of_ble_eq_true rfl) ing1 tyok1 nm1 rfl rfl rfl rfl rfl rfl mw_1439 i18 d_MO_goesFrom_100 (fun H locs hS => ?_)
          obtain ⟨M19, eM19⟩ : ∃ q, q = (setI M8 191 50 (M8.1 197 q9)) := ⟨_, rfl⟩
          replace hS : St b C n M19 s H locs := by rw [eM19]; exact hS
          replace hT := qlet_eq hT eM19
          exact k_MO_goesFrom_L103 l hlo x1 x2 hx1 hx2 F hlk hr (fun a0_ a1_ a2_ => t_MO_goesFrom_L41 x1 x2 fu a0_ a1_ a2_) ih M19 v3_ hv3_ q9 h10 _ _ _ hS (lv_sub hl [1, 2, 4, 0] rfl) hT
    · replace hT := (if_pos c11).symm.trans hT
      refine lv_aload_n F.hx F.hb d_MO_goesFrom_63 rfl (lv_at hl 1 rfl) ?_
      refine lv_iload F.hx F.hb d_MO_goesFrom_64 (lv_at hl 4 rfl) ?_
      refine r_putI (N := 68) (T := T1) (j := 46) F hS (show 191 < 231 by decide) (show shK 191 = 5 from rfl) (show shN 191 = 68 from rfl) rfl (Nat.le_of_ble_eq_true rfl) ing1 tyok1 nm1 rfl rfl rfl rfl rfl rfl mw_1435 hv3_ d_MO_goesFrom_66 (fun H locs hS => ?_)
      obtain ⟨M20, eM20⟩ : ∃ q, q = (setI M8 191 46 v3_) := ⟨_, rfl⟩
      replace hS : St b C n M20 s H locs := by rw [eM20]; exact hS
      replace hT := qlet_eq hT eM20
      refine lv_aload_n F.hx F.hb d_MO_goesFrom_69 rfl (lv_at hl 1 rfl) ?_
      refine lv_iload_n F.hx F.hb d_MO_goesFrom_70 rfl (lv_at hl 3 rfl) ?_
      refine r_putI (N := 68) (T := T1) (j := 47) F hS (show 191 < 231 by decide) (show shK 191 = 5 from rfl) (show shN 191 = 68 from rfl) rfl (Nat.le_of_ble_eq_true rfl) ing1 tyok1 nm1 rfl rfl rfl rfl rfl rfl mw_1436 hv2_ d_MO_goesFrom_71 (fun H locs hS => ?_)
      obtain ⟨M21, eM21⟩ : ∃ q, q = (setI M20 191 47 v2_) := ⟨_, rfl⟩
      replace hS : St b C n M21 s H locs := by rw [eM21]; exact hS
      replace hT := qlet_eq hT eM21
      cases hT
      exact r_vret F hlk hr hS d_MO_goesFrom_74
set_option maxHeartbeats 4000000 in
set_option maxRecDepth 100000 in
theorem k_MO_goesFrom_L2 (l : Launch) {p : Program} {e : Env} {s : State} {m : MethodId} {below : List Frame} {meth : Method} {c : Code} {b n : Nat} {C : CT} (hlo : 231 ≤ n) (x1 : Int) (x2 : Int) (hx1 : InR x1) (hx2 : InR x2) (F : Cx b p m c b_MO_goesFrom 6 s ([.ref (b + 191), vI x1, vI x2] : List Value).toArray "WardFallsModel" C n 231) (hlk : meth.locks = false) (hr : meth.sig.returnType = none) {res : Mem} : ∀ (fu : Nat) (M : Mem) (v3_ : Int) (hv3_ : InR v3_) (H : Heap) (locs : List Loc) (ls : Array Slot), St b C n M s H locs → lv_has ls 6 [(0, .ref (b + 191)), (1, vI x1), (2, vI x2), (3, vI v3_)] → t_MO_goesFrom_L2 x1 x2 fu M v3_ = some res → W p l e (headSpec (wsM y_MO_goesFrom b_MO_goesFrom 6 (none)) (rmD 2)).room s m ([.ref (b + 191), vI x1, vI x2] : List Value).toArray below meth c H locs 0 0 (MQ below (QV b C n res) ([.ref (b + 191), vI x1, vI x2] : List Value).toArray s 0 0 (frb b)) (F0 m 2 ls []) := by
  intro fu
  induction fu with
  | zero => intro M v3_ hv3_ H locs ls hS hl hT; exact absurd hT (by simp [t_MO_goesFrom_L2])
  | succ fu ih =>
    intro M v3_ hv3_ H locs ls hS hl hT
    rw [t_MO_goesFrom_L2] at hT
    refine lv_iload_n F.hx F.hb d_MO_goesFrom_2 rfl (lv_at hl 3 rfl) ?_
    refine r_bipush F.hx F.hb d_MO_goesFrom_3 rfl ?_
    refine r_icmp_ge (tgt := 21) F.hx F.hb hv3_ (inr_c rfl) d_MO_goesFrom_5 (by decide) (fun c1 => ?_) (fun c1 => ?_)
    · replace hT := (if_pos c1).symm.trans hT
      refine lv_iload_n F.hx F.hb d_MO_goesFrom_21 rfl (lv_at hl 2 rfl) ?_
      refine lv_istore_n (lv' := [(3, vI x2), (0, .ref (b + 191)), (1, vI x1), (2, vI x2)]) F.hx F.hb d_MO_goesFrom_22 rfl hl (Nat.le_of_ble_eq_true rfl) rfl (fun ls hl => ?_)
      refine r_iconst F.hx F.hb d_MO_goesFrom_23 ?_
      refine lv_istore (lv' := [(4, vI 0), (3, vI x2), (0, .ref (b + 191)), (1, vI x1), (2, vI x2)]) F.hx F.hb d_MO_goesFrom_24 hl (Nat.le_of_ble_eq_true rfl) rfl (fun ls hl => ?_)
      refine lv_aload_n F.hx F.hb d_MO_goesFrom_26 rfl (lv_at hl 2 rfl) ?_
      refine r_iconst F.hx F.hb d_MO_goesFrom_27 ?_
      refine r_putI (N := 68) (T := T1) (j := 49) F hS (show 191 < 231 by decide) (show shK 191 = 5 from rfl) (show shN 191 = 68 from rfl) rfl (Nat.le_of_ble_eq_true rfl) ing1 tyok1 nm1 rfl rfl rfl rfl rfl rfl mw_1438 (inr_c rfl) d_MO_goesFrom_28 (fun H locs hS => ?_)
      obtain ⟨M2, eM2⟩ : ∃ q, q = (setI M 191 49 0) := ⟨_, rfl⟩
      replace hS : St b C n M2 s H locs := by rw [eM2]; exact hS
      replace hT := qlet_eq hT eM2
      refine lv_aload_n F.hx F.hb d_MO_goesFrom_31 rfl (lv_at hl 2 rfl) ?_
      refine r_iconst F.hx F.hb d_MO_goesFrom_32 ?_
      refine r_putI (N := 68) (T := T1) (j := 50) F hS (show 191 < 231 by decide) (show shK 191 = 5 from rfl) (show shN 191 = 68 from rfl) rfl (Nat.le_of_ble_eq_true rfl) ing1 tyok1 nm1 rfl rfl rfl rfl rfl rfl mw_1439 (inr_c rfl) d_MO_goesFrom_33 (fun H locs hS => ?_)
      obtain ⟨M3, eM3⟩ : ∃ q, q = (setI M2 191 50 (-1)) := ⟨_, rfl⟩
      replace hS : St b C n M3 s H locs := by rw [eM3]; exact hS
      replace hT := qlet_eq hT eM3
      refine lv_aload_n F.hx F.hb d_MO_goesFrom_36 rfl (lv_at hl 2 rfl) ?_
      refine r_iconst F.hx F.hb d_MO_goesFrom_37 ?_
      refine r_putI (N := 68) (T := T1) (j := 48) F hS (show 191 < 231 by decide) (show shK 191 = 5 from rfl) (show shN 191 = 68 from rfl) rfl (Nat.le_of_ble_eq_true rfl) ing1 tyok1 nm1 rfl rfl rfl rfl rfl rfl mw_1437 (inr_c rfl) d_MO_goesFrom_38 (fun H locs hS => ?_)
      obtain ⟨M4, eM4⟩ : ∃ q, q = (setI M3 191 48 0) := ⟨_, rfl⟩
      replace hS : St b C n M4 s H locs := by rw [eM4]; exact hS
      replace hT := qlet_eq hT eM4
      exact k_MO_goesFrom_L41 l hlo x1 x2 hx1 hx2 F hlk hr FU M4 x2 hx2 0 (inr_c rfl) _ _ _ hS (lv_sub hl [2, 3, 1, 0] rfl) hT
    · replace hT := (if_neg c1).symm.trans hT
      refine lv_aload_n F.hx F.hb d_MO_goesFrom_8 rfl (lv_at hl 0 rfl) ?_
      refine r_get (v := .ref (b + 219)) (N := 68) (T := T1) (j := 51) F hS (show 191 < 231 by decide) (show shK 191 = 5 from rfl) (show shN 191 = 68 from rfl) rfl (Nat.le_of_ble_eq_true rfl) ing1 mw_1440 (fv_sg rfl rfl rfl) d_MO_goesFrom_9 ?_
      refine lv_iload_n F.hx F.hb d_MO_goesFrom_12 rfl (lv_at hl 3 rfl) ?_
      refine r_iconst F.hx F.hb d_MO_goesFrom_13 ?_
      obtain ⟨⟨g5a, g5b⟩, hT⟩ := q_guard hT
      refine r_iast F hS (show 219 < 231 by decide) (show shK 219 = 0 from rfl) (show shN 219 = 48 from rfl) hv3_ (inr_c rfl) g5a g5b d_MO_goesFrom_14 (fun H locs hS => ?_)
      obtain ⟨M6, eM6⟩ : ∃ q, q = (setI M 219 v3_ (-1)) := ⟨_, rfl⟩
      replace hS : St b C n M6 s H locs := by rw [eM6]; exact hS
      replace hT := qlet_eq hT eM6
      refine lv_iinc (v := Int32.ofInt (w32 (v3_ + 1))) (lv' := [(3, vI (w32 (v3_ + 1))), (0, .ref (b + 191)), (1, vI x1), (2, vI x2)]) F.hx F.hb d_MO_goesFrom_15 hl (k := 3) rfl (q_of_add _ _) (Nat.le_of_ble_eq_true rfl) rfl (fun ls hl => ?_)
      refine lv_goto (tgt := 2) F.hx F.hb d_MO_goesFrom_18 (by decide) ?_
      exact ih M6 (w32 (v3_ + 1)) (inr_w32 _) _ _ _ hS (lv_sub hl [1, 2, 3, 0] rfl) hT
set_option maxHeartbeats 4000000 in
set_option maxRecDepth 100000 in
theorem c_MO_goesFrom (l : Launch) {b n : Nat} {C : CT} (hlo : 231 ≤ n) (M : Mem) (x1 : Int) (x2 : Int) (hx1 : InR x1) (hx2 : InR x2) (res : Mem) (hT : t_MO_goesFrom M x1 x2 = some res) : CM l b C n 2 y_MO_goesFrom b_MO_goesFrom 6 (none) [.ref (b + 191), vI x1, vI x2] M (QV b C n res) := by
  refine CM.of (lo := 231) (ow := "WardFallsModel") (by decide) rfl (Nat.le_of_ble_eq_true rfl) hlo (fun p e s m below meth c F hlk hr hS ls hl => ?_)
  have hl : lv_has ls 6 [(0, .ref (b + 191)), (1, vI x1), (2, vI x2)] := hl
  unfold t_MO_goesFrom at hT
  refine r_iconst F.hx F.hb d_MO_goesFrom_0 ?_
  refine lv_istore_n (lv' := [(3, vI 0), (0, .ref (b + 191)), (1, vI x1), (2, vI x2)]) F.hx F.hb d_MO_goesFrom_1 rfl hl (Nat.le_of_ble_eq_true rfl) rfl (fun ls hl => ?_)
  exact k_MO_goesFrom_L2 l hlo x1 x2 hx1 hx2 F hlk hr FU M 0 (inr_c rfl) _ _ _ hS (lv_sub hl [1, 2, 3, 0] rfl) hT
theorem d_MO_stands_0 : decode b_MO_stands 0 = .ok (.aload_n 0, 1) := dc_42 (by decide +kernel)
theorem d_MO_stands_1 : decode b_MO_stands 1 = .ok (.getfield 28, 3) := dc_180 (by decide +kernel)
theorem d_MO_stands_4 : decode b_MO_stands 4 = .ok (.iload_n 1, 1) := dc_27 (by decide +kernel)
theorem d_MO_stands_5 : decode b_MO_stands 5 = .ok (.baload, 1) := dc_51 (by decide +kernel)
theorem d_MO_stands_6 : decode b_MO_stands 6 = .ok (.ifCond .eq 5, 3) := dc_153 (by decide +kernel)
theorem d_MO_stands_9 : decode b_MO_stands 9 = .ok (.iconst 0, 1) := dc_3 (by decide +kernel)
theorem d_MO_stands_10 : decode b_MO_stands 10 = .ok (.ireturn, 1) := dc_172 (by decide +kernel)
theorem d_MO_stands_11 : decode b_MO_stands 11 = .ok (.aload_n 0, 1) := dc_42 (by decide +kernel)
theorem d_MO_stands_12 : decode b_MO_stands 12 = .ok (.getfield 32, 3) := dc_180 (by decide +kernel)
theorem d_MO_stands_15 : decode b_MO_stands 15 = .ok (.iload_n 1, 1) := dc_27 (by decide +kernel)
theorem d_MO_stands_16 : decode b_MO_stands 16 = .ok (.baload, 1) := dc_51 (by decide +kernel)
theorem d_MO_stands_17 : decode b_MO_stands 17 = .ok (.ifCond .eq 5, 3) := dc_153 (by decide +kernel)
theorem d_MO_stands_20 : decode b_MO_stands 20 = .ok (.iconst 1, 1) := dc_4 (by decide +kernel)
theorem d_MO_stands_21 : decode b_MO_stands 21 = .ok (.ireturn, 1) := dc_172 (by decide +kernel)
theorem d_MO_stands_22 : decode b_MO_stands 22 = .ok (.aload_n 0, 1) := dc_42 (by decide +kernel)
theorem d_MO_stands_23 : decode b_MO_stands 23 = .ok (.iconst 0, 1) := dc_3 (by decide +kernel)
theorem d_MO_stands_24 : decode b_MO_stands 24 = .ok (.iload_n 1, 1) := dc_27 (by decide +kernel)
theorem d_MO_stands_25 : decode b_MO_stands 25 = .ok (.invokevirtual 335, 3) := dc_182 (by decide +kernel)
theorem d_MO_stands_28 : decode b_MO_stands 28 = .ok (.istore_n 2, 1) := dc_61 (by decide +kernel)
theorem d_MO_stands_29 : decode b_MO_stands 29 = .ok (.iload_n 2, 1) := dc_28 (by decide +kernel)
theorem d_MO_stands_30 : decode b_MO_stands 30 = .ok (.iconst 4, 1) := dc_7 (by decide +kernel)
theorem d_MO_stands_31 : decode b_MO_stands 31 = .ok (.if_icmp .ne 5, 3) := dc_160 (by decide +kernel)
theorem d_MO_stands_34 : decode b_MO_stands 34 = .ok (.iconst 0, 1) := dc_3 (by decide +kernel)
theorem d_MO_stands_35 : decode b_MO_stands 35 = .ok (.ireturn, 1) := dc_172 (by decide +kernel)
theorem d_MO_stands_36 : decode b_MO_stands 36 = .ok (.aload_n 0, 1) := dc_42 (by decide +kernel)
theorem d_MO_stands_37 : decode b_MO_stands 37 = .ok (.iload_n 1, 1) := dc_27 (by decide +kernel)
theorem d_MO_stands_38 : decode b_MO_stands 38 = .ok (.iload_n 2, 1) := dc_28 (by decide +kernel)
theorem d_MO_stands_39 : decode b_MO_stands 39 = .ok (.invokevirtual 338, 3) := dc_182 (by decide +kernel)
theorem d_MO_stands_42 : decode b_MO_stands 42 = .ok (.istore_n 3, 1) := dc_62 (by decide +kernel)
theorem d_MO_stands_43 : decode b_MO_stands 43 = .ok (.iload_n 3, 1) := dc_29 (by decide +kernel)
theorem d_MO_stands_44 : decode b_MO_stands 44 = .ok (.iconst (-1), 1) := dc_2 (by decide +kernel)
theorem d_MO_stands_45 : decode b_MO_stands 45 = .ok (.if_icmp .eq 12, 3) := dc_159 (by decide +kernel)
theorem d_MO_stands_48 : decode b_MO_stands 48 = .ok (.aload_n 0, 1) := dc_42 (by decide +kernel)
theorem d_MO_stands_49 : decode b_MO_stands 49 = .ok (.getfield 28, 3) := dc_180 (by decide +kernel)
theorem d_MO_stands_52 : decode b_MO_stands 52 = .ok (.iload_n 3, 1) := dc_29 (by decide +kernel)
theorem d_MO_stands_53 : decode b_MO_stands 53 = .ok (.baload, 1) := dc_51 (by decide +kernel)
theorem d_MO_stands_54 : decode b_MO_stands 54 = .ok (.ifCond .eq 7, 3) := dc_153 (by decide +kernel)
theorem d_MO_stands_57 : decode b_MO_stands 57 = .ok (.iconst 1, 1) := dc_4 (by decide +kernel)
theorem d_MO_stands_58 : decode b_MO_stands 58 = .ok (.goto 4, 3) := dc_167 (by decide +kernel)
theorem d_MO_stands_61 : decode b_MO_stands 61 = .ok (.iconst 0, 1) := dc_3 (by decide +kernel)
theorem d_MO_stands_62 : decode b_MO_stands 62 = .ok (.ireturn, 1) := dc_172 (by decide +kernel)
def t_MO_stands (M : Mem) (x1 : Int) : Option (Int) := (qguard (0 ≤ x1 ∧ x1 < 96) (if (M.1 198 x1) = 0 then (qguard (0 ≤ x1 ∧ x1 < 96) (if (M.1 199 x1) = 0 then (obind (t_MO_downOf M 0 x1) fun q7 => (if q7 = 4 then (some 0) else (obind (t_MO_beside M x1 q7) fun q10 => (if q10 = (-1) then (some 1) else (qguard (0 ≤ q10 ∧ q10 < 96) (if (M.1 198 q10) = 0 then (some 0) else (some 1))))))) else (some 1))) else (some 0)))
set_option maxHeartbeats 4000000 in
set_option maxRecDepth 100000 in
theorem c_MO_stands (l : Launch) {b n : Nat} {C : CT} (hlo : 231 ≤ n) (M : Mem) (x1 : Int) (hx1 : InR x1) (res : Int) (hT : t_MO_stands M x1 = some res) : CM l b C n 1 y_MO_stands b_MO_stands 4 (some .boolean) [.ref (b + 191), vI x1] M (QZ b C n M res) := by
  refine CM.of (lo := 231) (ow := "WardFallsModel") (by decide) rfl (Nat.le_of_ble_eq_true rfl) hlo (fun p e s m below meth c F hlk hr hS ls hl => ?_)
  have hl : lv_has ls 4 [(0, .ref (b + 191)), (1, vI x1)] := hl
  unfold t_MO_stands at hT
  refine lv_aload_n F.hx F.hb d_MO_stands_0 rfl (lv_at hl 0 rfl) ?_
  refine r_get (v := .ref (b + 198)) (N := 68) (T := T1) (j := 8) F hS (show 191 < 231 by decide) (show shK 191 = 5 from rfl) (show shN 191 = 68 from rfl) rfl (Nat.le_of_ble_eq_true rfl) ing1 mw_1397 (fv_sg rfl rfl rfl) d_MO_stands_1 ?_
  refine lv_iload_n F.hx F.hb d_MO_stands_4 rfl (lv_at hl 1 rfl) ?_
  obtain ⟨⟨g1a, g1b⟩, hT⟩ := q_guard hT
  have z2 := hS.bool (show shK 198 = 1 from rfl) x1
  refine r_zald F hS (show 198 < 231 by decide) (show shK 198 = 1 from rfl) (show shN 198 = 96 from rfl) hx1 g1a g1b d_MO_stands_5 ?_
  refine r_if_eq (tgt := 11) F.hx F.hb (inr_z z2) d_MO_stands_6 (by decide) (fun c3 => ?_) (fun c3 => ?_)
  · replace hT := (if_pos c3).symm.trans hT
    refine lv_aload_n F.hx F.hb d_MO_stands_11 rfl (lv_at hl 0 rfl) ?_
    refine r_get (v := .ref (b + 199)) (N := 68) (T := T1) (j := 9) F hS (show 191 < 231 by decide) (show shK 191 = 5 from rfl) (show shN 191 = 68 from rfl) rfl (Nat.le_of_ble_eq_true rfl) ing1 mw_1398 (fv_sg rfl rfl rfl) d_MO_stands_12 ?_
    refine lv_iload_n F.hx F.hb d_MO_stands_15 rfl (lv_at hl 1 rfl) ?_
    obtain ⟨⟨g4a, g4b⟩, hT⟩ := q_guard hT
    have z5 := hS.bool (show shK 199 = 1 from rfl) x1
    refine r_zald F hS (show 199 < 231 by decide) (show shK 199 = 1 from rfl) (show shN 199 = 96 from rfl) hx1 g4a g4b d_MO_stands_16 ?_
    refine r_if_eq (tgt := 22) F.hx F.hb (inr_z z5) d_MO_stands_17 (by decide) (fun c6 => ?_) (fun c6 => ?_)
    · replace hT := (if_pos c6).symm.trans hT
      refine lv_aload_n F.hx F.hb d_MO_stands_22 rfl (lv_at hl 0 rfl) ?_
      refine r_iconst F.hx F.hb d_MO_stands_23 ?_
      refine lv_iload_n F.hx F.hb d_MO_stands_24 rfl (lv_at hl 1 rfl) ?_
      obtain ⟨q7, hq7, hT⟩ := q_obind hT
      refine r_backI F hS (r_runV (k := 191) (N := 68) (T := T1) (As := [vI 0, vI x1]) F hS (show 191 < 231 by decide) (show shK 191 = 5 from rfl) rfl (c_MO_downOf l F.2.2.1 M 0 x1 (inr_c rfl) hx1 _ hq7) gs_MO_335 hd_MO_downOf ⟨Nat.le_of_ble_eq_true rfl, Nat.le_of_ble_eq_true rfl⟩ rfl hl.1 (Nat.le_of_ble_eq_true rfl) ⟨Nat.zero_le _, Nat.zero_le _⟩ rfl d_MO_stands_25) (fun H locs hS h8 => ?_)
      refine lv_istore_n (lv' := [(2, vI q7), (0, .ref (b + 191)), (1, vI x1)]) F.hx F.hb d_MO_stands_28 rfl hl (Nat.le_of_ble_eq_true rfl) rfl (fun ls hl => ?_)
      refine lv_iload_n F.hx F.hb d_MO_stands_29 rfl (lv_at hl 0 rfl) ?_
      refine r_iconst F.hx F.hb d_MO_stands_30 ?_
      refine r_icmp_ne (tgt := 36) F.hx F.hb h8 (inr_c rfl) d_MO_stands_31 (by decide) (fun c9 => ?_) (fun c9 => ?_)
      · replace hT := (if_neg c9).symm.trans hT
        refine lv_aload_n F.hx F.hb d_MO_stands_36 rfl (lv_at hl 1 rfl) ?_
        refine lv_iload_n F.hx F.hb d_MO_stands_37 rfl (lv_at hl 2 rfl) ?_
        refine lv_iload_n F.hx F.hb d_MO_stands_38 rfl (lv_at hl 0 rfl) ?_
        obtain ⟨q10, hq10, hT⟩ := q_obind hT
        refine r_backI F hS (r_runV (k := 191) (N := 68) (T := T1) (As := [vI x1, vI q7]) F hS (show 191 < 231 by decide) (show shK 191 = 5 from rfl) rfl (c_MO_beside l F.2.2.1 M x1 q7 hx1 h8 _ hq10) gs_MO_338 hd_MO_beside ⟨Nat.le_of_ble_eq_true rfl, Nat.le_of_ble_eq_true rfl⟩ rfl hl.1 (Nat.le_of_ble_eq_true rfl) ⟨Nat.zero_le _, Nat.zero_le _⟩ rfl d_MO_stands_39) (fun H locs hS h11 => ?_)
        refine lv_istore_n (lv' := [(3, vI q10), (2, vI q7), (0, .ref (b + 191)), (1, vI x1)]) F.hx F.hb d_MO_stands_42 rfl hl (Nat.le_of_ble_eq_true rfl) rfl (fun ls hl => ?_)
        refine lv_iload_n F.hx F.hb d_MO_stands_43 rfl (lv_at hl 0 rfl) ?_
        refine r_iconst F.hx F.hb d_MO_stands_44 ?_
        refine r_icmp_eq (tgt := 57) F.hx F.hb h11 (inr_c rfl) d_MO_stands_45 (by decide) (fun c12 => ?_) (fun c12 => ?_)
        · replace hT := (if_pos c12).symm.trans hT
          refine r_iconst F.hx F.hb d_MO_stands_57 ?_
          refine lv_goto (tgt := 62) F.hx F.hb d_MO_stands_58 (by decide) ?_
          cases hT
          exact r_zret F hlk hr hS (Or.inr rfl) d_MO_stands_62
        · replace hT := (if_neg c12).symm.trans hT
          refine lv_aload_n F.hx F.hb d_MO_stands_48 rfl (lv_at hl 2 rfl) ?_
          refine r_get (v := .ref (b + 198)) (N := 68) (T := T1) (j := 8) F hS (show 191 < 231 by decide) (show shK 191 = 5 from rfl) (show shN 191 = 68 from rfl) rfl (Nat.le_of_ble_eq_true rfl) ing1 mw_1397 (fv_sg rfl rfl rfl) d_MO_stands_49 ?_
          refine lv_iload_n F.hx F.hb d_MO_stands_52 rfl (lv_at hl 0 rfl) ?_
          obtain ⟨⟨g13a, g13b⟩, hT⟩ := q_guard hT
          have z14 := hS.bool (show shK 198 = 1 from rfl) q10
          refine r_zald F hS (show 198 < 231 by decide) (show shK 198 = 1 from rfl) (show shN 198 = 96 from rfl) h11 g13a g13b d_MO_stands_53 ?_
          refine r_if_eq (tgt := 61) F.hx F.hb (inr_z z14) d_MO_stands_54 (by decide) (fun c15 => ?_) (fun c15 => ?_)
          · replace hT := (if_pos c15).symm.trans hT
            refine r_iconst F.hx F.hb d_MO_stands_61 ?_
            cases hT
            exact r_zret F hlk hr hS (Or.inl rfl) d_MO_stands_62
          · replace hT := (if_neg c15).symm.trans hT
            refine r_iconst F.hx F.hb d_MO_stands_57 ?_
            refine lv_goto (tgt := 62) F.hx F.hb d_MO_stands_58 (by decide) ?_
            cases hT
            exact r_zret F hlk hr hS (Or.inr rfl) d_MO_stands_62
      · replace hT := (if_pos c9).symm.trans hT
        refine r_iconst F.hx F.hb d_MO_stands_34 ?_
        cases hT
        exact r_zret F hlk hr hS (Or.inl rfl) d_MO_stands_35
    · replace hT := (if_neg c6).symm.trans hT
      refine r_iconst F.hx F.hb d_MO_stands_20 ?_
      cases hT
      exact r_zret F hlk hr hS (Or.inr rfl) d_MO_stands_21
  · replace hT := (if_neg c3).symm.trans hT
    refine r_iconst F.hx F.hb d_MO_stands_9 ?_
    cases hT
    exact r_zret F hlk hr hS (Or.inl rfl) d_MO_stands_10
theorem wn_MO_cell_0 : ∀ i, i < 41 → bA b_MO_cell (0 + i) = wB [42, 42, 27, 182, 1, 76, 154, 0, 7, 4, 167, 0, 18, 28, 155, 0, 9, 28, 16, 7, 164, 0, 7, 5, 167, 0, 4, 3, 181, 0, 145, 42, 180, 0, 145, 153, 0, 5, 3, 172, 28] i := wB_of (by decide +kernel)
theorem d_MO_cell_0 : decode b_MO_cell 0 = .ok (.aload_n 0, 1) := dc_42 (q0_win (r := 0) wn_MO_cell_0 (by decide +kernel))
theorem d_MO_cell_1 : decode b_MO_cell 1 = .ok (.aload_n 0, 1) := dc_42 (q0_win (r := 1) wn_MO_cell_0 (by decide +kernel))
theorem d_MO_cell_2 : decode b_MO_cell 2 = .ok (.iload_n 1, 1) := dc_27 (q0_win (r := 2) wn_MO_cell_0 (by decide +kernel))
theorem d_MO_cell_3 : decode b_MO_cell 3 = .ok (.invokevirtual 332, 3) := dc_182 (qU2_win (r := 3) wn_MO_cell_0 (by decide +kernel))
theorem d_MO_cell_6 : decode b_MO_cell 6 = .ok (.ifCond .ne 7, 3) := dc_154 (qS2_win (r := 6) wn_MO_cell_0 (by decide +kernel))
theorem d_MO_cell_9 : decode b_MO_cell 9 = .ok (.iconst 1, 1) := dc_4 (q0_win (r := 9) wn_MO_cell_0 (by decide +kernel))
theorem d_MO_cell_10 : decode b_MO_cell 10 = .ok (.goto 18, 3) := dc_167 (qS2_win (r := 10) wn_MO_cell_0 (by decide +kernel))
theorem d_MO_cell_13 : decode b_MO_cell 13 = .ok (.iload_n 2, 1) := dc_28 (q0_win (r := 13) wn_MO_cell_0 (by decide +kernel))
theorem d_MO_cell_14 : decode b_MO_cell 14 = .ok (.ifCond .lt 9, 3) := dc_155 (qS2_win (r := 14) wn_MO_cell_0 (by decide +kernel))
theorem d_MO_cell_17 : decode b_MO_cell 17 = .ok (.iload_n 2, 1) := dc_28 (q0_win (r := 17) wn_MO_cell_0 (by decide +kernel))
theorem d_MO_cell_18 : decode b_MO_cell 18 = .ok (.bipush 7, 2) := dc_16 (qS1_win (r := 18) wn_MO_cell_0 (by decide +kernel))
theorem d_MO_cell_20 : decode b_MO_cell 20 = .ok (.if_icmp .le 7, 3) := dc_164 (qS2_win (r := 20) wn_MO_cell_0 (by decide +kernel))
theorem d_MO_cell_23 : decode b_MO_cell 23 = .ok (.iconst 2, 1) := dc_5 (q0_win (r := 23) wn_MO_cell_0 (by decide +kernel))
theorem d_MO_cell_24 : decode b_MO_cell 24 = .ok (.goto 4, 3) := dc_167 (qS2_win (r := 24) wn_MO_cell_0 (by decide +kernel))
theorem d_MO_cell_27 : decode b_MO_cell 27 = .ok (.iconst 0, 1) := dc_3 (q0_win (r := 27) wn_MO_cell_0 (by decide +kernel))
theorem d_MO_cell_28 : decode b_MO_cell 28 = .ok (.putfield 145, 3) := dc_181 (qU2_win (r := 28) wn_MO_cell_0 (by decide +kernel))
theorem d_MO_cell_31 : decode b_MO_cell 31 = .ok (.aload_n 0, 1) := dc_42 (q0_win (r := 31) wn_MO_cell_0 (by decide +kernel))
theorem d_MO_cell_32 : decode b_MO_cell 32 = .ok (.getfield 145, 3) := dc_180 (qU2_win (r := 32) wn_MO_cell_0 (by decide +kernel))
theorem d_MO_cell_35 : decode b_MO_cell 35 = .ok (.ifCond .eq 5, 3) := dc_153 (qS2_win (r := 35) wn_MO_cell_0 (by decide +kernel))
theorem d_MO_cell_38 : decode b_MO_cell 38 = .ok (.iconst 0, 1) := dc_3 (q0_win (r := 38) wn_MO_cell_0 (by decide +kernel))
theorem d_MO_cell_39 : decode b_MO_cell 39 = .ok (.ireturn, 1) := dc_172 (q0_win (r := 39) wn_MO_cell_0 (by decide +kernel))
theorem d_MO_cell_40 : decode b_MO_cell 40 = .ok (.iload_n 2, 1) := dc_28 (q0_win (r := 40) wn_MO_cell_0 (by decide +kernel))
theorem d_MO_cell_41 : decode b_MO_cell 41 = .ok (.tableswitch 133 0 6 #[43, 52, 67, 82, 94, 106, 113], 43) := by decide +kernel
theorem wn_MO_cell_84 : ∀ i, i < 95 → bA b_MO_cell (84 + i) = wB [42, 180, 0, 25, 27, 46, 4, 100, 172, 42, 180, 0, 28, 27, 51, 153, 0, 7, 4, 167, 0, 4, 3, 172, 42, 180, 0, 32, 27, 51, 153, 0, 7, 4, 167, 0, 4, 3, 172, 42, 180, 0, 69, 3, 47, 27, 123, 10, 127, 136, 172, 42, 180, 0, 73, 3, 47, 27, 123, 10, 127, 136, 172, 42, 3, 27, 182, 1, 107, 172, 42, 180, 0, 28, 27, 51, 153, 0, 7, 2, 167, 0, 9, 42, 3, 27, 182, 1, 94, 172, 42, 27, 182, 1, 110] i := wB_of (by decide +kernel)
theorem d_MO_cell_84 : decode b_MO_cell 84 = .ok (.aload_n 0, 1) := dc_42 (q0_win (r := 0) wn_MO_cell_84 (by decide +kernel))
theorem d_MO_cell_85 : decode b_MO_cell 85 = .ok (.getfield 25, 3) := dc_180 (qU2_win (r := 1) wn_MO_cell_84 (by decide +kernel))
theorem d_MO_cell_88 : decode b_MO_cell 88 = .ok (.iload_n 1, 1) := dc_27 (q0_win (r := 4) wn_MO_cell_84 (by decide +kernel))
theorem d_MO_cell_89 : decode b_MO_cell 89 = .ok (.iaload, 1) := dc_46 (q0_win (r := 5) wn_MO_cell_84 (by decide +kernel))
theorem d_MO_cell_90 : decode b_MO_cell 90 = .ok (.iconst 1, 1) := dc_4 (q0_win (r := 6) wn_MO_cell_84 (by decide +kernel))
theorem d_MO_cell_91 : decode b_MO_cell 91 = .ok (.isub, 1) := dc_100 (q0_win (r := 7) wn_MO_cell_84 (by decide +kernel))
theorem d_MO_cell_92 : decode b_MO_cell 92 = .ok (.ireturn, 1) := dc_172 (q0_win (r := 8) wn_MO_cell_84 (by decide +kernel))
theorem d_MO_cell_93 : decode b_MO_cell 93 = .ok (.aload_n 0, 1) := dc_42 (q0_win (r := 9) wn_MO_cell_84 (by decide +kernel))
theorem d_MO_cell_94 : decode b_MO_cell 94 = .ok (.getfield 28, 3) := dc_180 (qU2_win (r := 10) wn_MO_cell_84 (by decide +kernel))
theorem d_MO_cell_97 : decode b_MO_cell 97 = .ok (.iload_n 1, 1) := dc_27 (q0_win (r := 13) wn_MO_cell_84 (by decide +kernel))
theorem d_MO_cell_98 : decode b_MO_cell 98 = .ok (.baload, 1) := dc_51 (q0_win (r := 14) wn_MO_cell_84 (by decide +kernel))
theorem d_MO_cell_99 : decode b_MO_cell 99 = .ok (.ifCond .eq 7, 3) := dc_153 (qS2_win (r := 15) wn_MO_cell_84 (by decide +kernel))
theorem d_MO_cell_102 : decode b_MO_cell 102 = .ok (.iconst 1, 1) := dc_4 (q0_win (r := 18) wn_MO_cell_84 (by decide +kernel))
theorem d_MO_cell_103 : decode b_MO_cell 103 = .ok (.goto 4, 3) := dc_167 (qS2_win (r := 19) wn_MO_cell_84 (by decide +kernel))
theorem d_MO_cell_106 : decode b_MO_cell 106 = .ok (.iconst 0, 1) := dc_3 (q0_win (r := 22) wn_MO_cell_84 (by decide +kernel))
theorem d_MO_cell_107 : decode b_MO_cell 107 = .ok (.ireturn, 1) := dc_172 (q0_win (r := 23) wn_MO_cell_84 (by decide +kernel))
theorem d_MO_cell_108 : decode b_MO_cell 108 = .ok (.aload_n 0, 1) := dc_42 (q0_win (r := 24) wn_MO_cell_84 (by decide +kernel))
theorem d_MO_cell_109 : decode b_MO_cell 109 = .ok (.getfield 32, 3) := dc_180 (qU2_win (r := 25) wn_MO_cell_84 (by decide +kernel))
theorem d_MO_cell_112 : decode b_MO_cell 112 = .ok (.iload_n 1, 1) := dc_27 (q0_win (r := 28) wn_MO_cell_84 (by decide +kernel))
theorem d_MO_cell_113 : decode b_MO_cell 113 = .ok (.baload, 1) := dc_51 (q0_win (r := 29) wn_MO_cell_84 (by decide +kernel))
theorem d_MO_cell_114 : decode b_MO_cell 114 = .ok (.ifCond .eq 7, 3) := dc_153 (qS2_win (r := 30) wn_MO_cell_84 (by decide +kernel))
theorem d_MO_cell_117 : decode b_MO_cell 117 = .ok (.iconst 1, 1) := dc_4 (q0_win (r := 33) wn_MO_cell_84 (by decide +kernel))
theorem d_MO_cell_118 : decode b_MO_cell 118 = .ok (.goto 4, 3) := dc_167 (qS2_win (r := 34) wn_MO_cell_84 (by decide +kernel))
theorem d_MO_cell_121 : decode b_MO_cell 121 = .ok (.iconst 0, 1) := dc_3 (q0_win (r := 37) wn_MO_cell_84 (by decide +kernel))
theorem d_MO_cell_122 : decode b_MO_cell 122 = .ok (.ireturn, 1) := dc_172 (q0_win (r := 38) wn_MO_cell_84 (by decide +kernel))
theorem d_MO_cell_123 : decode b_MO_cell 123 = .ok (.aload_n 0, 1) := dc_42 (q0_win (r := 39) wn_MO_cell_84 (by decide +kernel))
theorem d_MO_cell_124 : decode b_MO_cell 124 = .ok (.getfield 69, 3) := dc_180 (qU2_win (r := 40) wn_MO_cell_84 (by decide +kernel))
theorem d_MO_cell_127 : decode b_MO_cell 127 = .ok (.iconst 0, 1) := dc_3 (q0_win (r := 43) wn_MO_cell_84 (by decide +kernel))
theorem d_MO_cell_128 : decode b_MO_cell 128 = .ok (.laload, 1) := dc_47 (q0_win (r := 44) wn_MO_cell_84 (by decide +kernel))
theorem d_MO_cell_129 : decode b_MO_cell 129 = .ok (.iload_n 1, 1) := dc_27 (q0_win (r := 45) wn_MO_cell_84 (by decide +kernel))
theorem d_MO_cell_130 : decode b_MO_cell 130 = .ok (.lshr, 1) := dc_123 (q0_win (r := 46) wn_MO_cell_84 (by decide +kernel))
theorem d_MO_cell_131 : decode b_MO_cell 131 = .ok (.lconst 1, 1) := dc_10 (q0_win (r := 47) wn_MO_cell_84 (by decide +kernel))
theorem d_MO_cell_132 : decode b_MO_cell 132 = .ok (.land, 1) := dc_127 (q0_win (r := 48) wn_MO_cell_84 (by decide +kernel))
theorem d_MO_cell_133 : decode b_MO_cell 133 = .ok (.l2i, 1) := dc_136 (q0_win (r := 49) wn_MO_cell_84 (by decide +kernel))
theorem d_MO_cell_134 : decode b_MO_cell 134 = .ok (.ireturn, 1) := dc_172 (q0_win (r := 50) wn_MO_cell_84 (by decide +kernel))
theorem d_MO_cell_135 : decode b_MO_cell 135 = .ok (.aload_n 0, 1) := dc_42 (q0_win (r := 51) wn_MO_cell_84 (by decide +kernel))
theorem d_MO_cell_136 : decode b_MO_cell 136 = .ok (.getfield 73, 3) := dc_180 (qU2_win (r := 52) wn_MO_cell_84 (by decide +kernel))
theorem d_MO_cell_139 : decode b_MO_cell 139 = .ok (.iconst 0, 1) := dc_3 (q0_win (r := 55) wn_MO_cell_84 (by decide +kernel))
theorem d_MO_cell_140 : decode b_MO_cell 140 = .ok (.laload, 1) := dc_47 (q0_win (r := 56) wn_MO_cell_84 (by decide +kernel))
theorem d_MO_cell_141 : decode b_MO_cell 141 = .ok (.iload_n 1, 1) := dc_27 (q0_win (r := 57) wn_MO_cell_84 (by decide +kernel))
theorem d_MO_cell_142 : decode b_MO_cell 142 = .ok (.lshr, 1) := dc_123 (q0_win (r := 58) wn_MO_cell_84 (by decide +kernel))
theorem d_MO_cell_143 : decode b_MO_cell 143 = .ok (.lconst 1, 1) := dc_10 (q0_win (r := 59) wn_MO_cell_84 (by decide +kernel))
theorem d_MO_cell_144 : decode b_MO_cell 144 = .ok (.land, 1) := dc_127 (q0_win (r := 60) wn_MO_cell_84 (by decide +kernel))
theorem d_MO_cell_145 : decode b_MO_cell 145 = .ok (.l2i, 1) := dc_136 (q0_win (r := 61) wn_MO_cell_84 (by decide +kernel))
theorem d_MO_cell_146 : decode b_MO_cell 146 = .ok (.ireturn, 1) := dc_172 (q0_win (r := 62) wn_MO_cell_84 (by decide +kernel))
theorem d_MO_cell_147 : decode b_MO_cell 147 = .ok (.aload_n 0, 1) := dc_42 (q0_win (r := 63) wn_MO_cell_84 (by decide +kernel))
theorem d_MO_cell_148 : decode b_MO_cell 148 = .ok (.iconst 0, 1) := dc_3 (q0_win (r := 64) wn_MO_cell_84 (by decide +kernel))
theorem d_MO_cell_149 : decode b_MO_cell 149 = .ok (.iload_n 1, 1) := dc_27 (q0_win (r := 65) wn_MO_cell_84 (by decide +kernel))
theorem d_MO_cell_150 : decode b_MO_cell 150 = .ok (.invokevirtual 363, 3) := dc_182 (qU2_win (r := 66) wn_MO_cell_84 (by decide +kernel))
theorem d_MO_cell_153 : decode b_MO_cell 153 = .ok (.ireturn, 1) := dc_172 (q0_win (r := 69) wn_MO_cell_84 (by decide +kernel))
theorem d_MO_cell_154 : decode b_MO_cell 154 = .ok (.aload_n 0, 1) := dc_42 (q0_win (r := 70) wn_MO_cell_84 (by decide +kernel))
theorem d_MO_cell_155 : decode b_MO_cell 155 = .ok (.getfield 28, 3) := dc_180 (qU2_win (r := 71) wn_MO_cell_84 (by decide +kernel))
theorem d_MO_cell_158 : decode b_MO_cell 158 = .ok (.iload_n 1, 1) := dc_27 (q0_win (r := 74) wn_MO_cell_84 (by decide +kernel))
theorem d_MO_cell_159 : decode b_MO_cell 159 = .ok (.baload, 1) := dc_51 (q0_win (r := 75) wn_MO_cell_84 (by decide +kernel))
theorem d_MO_cell_160 : decode b_MO_cell 160 = .ok (.ifCond .eq 7, 3) := dc_153 (qS2_win (r := 76) wn_MO_cell_84 (by decide +kernel))
theorem d_MO_cell_163 : decode b_MO_cell 163 = .ok (.iconst (-1), 1) := dc_2 (q0_win (r := 79) wn_MO_cell_84 (by decide +kernel))
theorem d_MO_cell_164 : decode b_MO_cell 164 = .ok (.goto 9, 3) := dc_167 (qS2_win (r := 80) wn_MO_cell_84 (by decide +kernel))
theorem d_MO_cell_167 : decode b_MO_cell 167 = .ok (.aload_n 0, 1) := dc_42 (q0_win (r := 83) wn_MO_cell_84 (by decide +kernel))
theorem d_MO_cell_168 : decode b_MO_cell 168 = .ok (.iconst 0, 1) := dc_3 (q0_win (r := 84) wn_MO_cell_84 (by decide +kernel))
theorem d_MO_cell_169 : decode b_MO_cell 169 = .ok (.iload_n 1, 1) := dc_27 (q0_win (r := 85) wn_MO_cell_84 (by decide +kernel))
theorem d_MO_cell_170 : decode b_MO_cell 170 = .ok (.invokevirtual 350, 3) := dc_182 (qU2_win (r := 86) wn_MO_cell_84 (by decide +kernel))
theorem d_MO_cell_173 : decode b_MO_cell 173 = .ok (.ireturn, 1) := dc_172 (q0_win (r := 89) wn_MO_cell_84 (by decide +kernel))
theorem d_MO_cell_174 : decode b_MO_cell 174 = .ok (.aload_n 0, 1) := dc_42 (q0_win (r := 90) wn_MO_cell_84 (by decide +kernel))
theorem d_MO_cell_175 : decode b_MO_cell 175 = .ok (.iload_n 1, 1) := dc_27 (q0_win (r := 91) wn_MO_cell_84 (by decide +kernel))
theorem d_MO_cell_176 : decode b_MO_cell 176 = .ok (.invokevirtual 366, 3) := dc_182 (qU2_win (r := 92) wn_MO_cell_84 (by decide +kernel))
theorem wn_MO_cell_179 : ∀ i, i < 9 → bA b_MO_cell (179 + i) = wB [153, 0, 7, 4, 167, 0, 4, 3, 172] i := wB_of (by decide +kernel)
theorem d_MO_cell_179 : decode b_MO_cell 179 = .ok (.ifCond .eq 7, 3) := dc_153 (qS2_win (r := 0) wn_MO_cell_179 (by decide +kernel))
theorem d_MO_cell_182 : decode b_MO_cell 182 = .ok (.iconst 1, 1) := dc_4 (q0_win (r := 3) wn_MO_cell_179 (by decide +kernel))
theorem d_MO_cell_183 : decode b_MO_cell 183 = .ok (.goto 4, 3) := dc_167 (qS2_win (r := 4) wn_MO_cell_179 (by decide +kernel))
theorem d_MO_cell_186 : decode b_MO_cell 186 = .ok (.iconst 0, 1) := dc_3 (q0_win (r := 7) wn_MO_cell_179 (by decide +kernel))
theorem d_MO_cell_187 : decode b_MO_cell 187 = .ok (.ireturn, 1) := dc_172 (q0_win (r := 8) wn_MO_cell_179 (by decide +kernel))
def t_MO_cell_L28 (x1 : Int) (x2 : Int)  (M : Mem) (v4_ : Int) : Option (Mem × Int) := (qlet (setI M 191 0 v4_) fun M6 => (if (M6.1 191 0) = 0 then (if x2 = 0 then (qguard (0 ≤ x1 ∧ x1 < 96) (some (M6, (w32 ((M6.1 197 x1) - 1))))) else (if x2 = 1 then (qguard (0 ≤ x1 ∧ x1 < 96) (if (M6.1 198 x1) = 0 then (some (M6, 0)) else (some (M6, 1)))) else (if x2 = 2 then (qguard (0 ≤ x1 ∧ x1 < 96) (if (M6.1 199 x1) = 0 then (some (M6, 0)) else (some (M6, 1)))) else (if x2 = 3 then (some (M6, (q_l2i ((q_lshr (M6.2 210 0) x1) &&& 1)))) else (if x2 = 4 then (some (M6, (q_l2i ((q_lshr (M6.2 211 0) x1) &&& 1)))) else (if x2 = 5 then (obind (t_MO_thingIn M6 0 x1) fun q23 => (some (M6, q23))) else (if x2 = 6 then (qguard (0 ≤ x1 ∧ x1 < 96) (if (M6.1 198 x1) = 0 then (obind (t_MO_nextOf M6 0 x1) fun q29 => (some (M6, q29))) else (some (M6, (-1))))) else (obind (t_MO_stands M6 x1) fun q31 => (if q31 = 0 then (some (M6, 0)) else (some (M6, 1))))))))))) else (some (M6, 0))))
def t_MO_cell_L23 (x1 : Int) (x2 : Int)  (M : Mem)  : Option (Mem × Int) := (t_MO_cell_L28 x1 x2 M 2)
def t_MO_cell (M : Mem) (x1 : Int) (x2 : Int) : Option (Mem × Int) := (qlet (t_MO_isCell M x1) fun q1 => (if q1 = 0 then (t_MO_cell_L28 x1 x2 M 1) else (if x2 < 0 then (t_MO_cell_L23 x1 x2 M) else (if x2 ≤ 7 then (t_MO_cell_L28 x1 x2 M 0) else (t_MO_cell_L23 x1 x2 M)))))
set_option maxHeartbeats 4000000 in
set_option maxRecDepth 100000 in
theorem k_MO_cell_L28 (l : Launch) {p : Program} {e : Env} {s : State} {m : MethodId} {below : List Frame} {meth : Method} {c : Code} {b n : Nat} {C : CT} (hlo : 231 ≤ n) (x1 : Int) (x2 : Int) (hx1 : InR x1) (hx2 : InR x2) (F : Cx b p m c b_MO_cell 3 s ([.ref (b + 191), vI x1, vI x2] : List Value).toArray "WardFallsModel" C n 231) (hlk : meth.locks = false) (hr : meth.sig.returnType = some .int) {res : Mem × Int} (M : Mem) (v4_ : Int) (hv4_ : InR v4_) (H : Heap) (locs : List Loc) (ls : Array Slot) (hS : St b C n M s H locs) (hl : lv_has ls 3 [(0, .ref (b + 191)), (1, vI x1), (2, vI x2)]) (hT : t_MO_cell_L28 x1 x2 M v4_ = some res) : W p l e (headSpec (wsM y_MO_cell b_MO_cell 3 (some .int)) (rmD 2)).room s m ([.ref (b + 191), vI x1, vI x2] : List Value).toArray below meth c H locs 0 0 (MQ below (QI b C n res.1 res.2) ([.ref (b + 191), vI x1, vI x2] : List Value).toArray s 0 0 (frb b)) (F0 m 28 ls [vI v4_, .ref (b + 191)]) := by
  unfold t_MO_cell_L28 at hT
  refine r_putI (N := 68) (T := T1) (j := 0) F hS (show 191 < 231 by decide) (show shK 191 = 5 from rfl) (show shN 191 = 68 from rfl) rfl (Nat.le_of_ble_eq_true rfl) ing1 tyok1 nm1 rfl rfl rfl rfl rfl rfl mw_1389 hv4_ d_MO_cell_28 (fun H locs hS => ?_)
  obtain ⟨M6, eM6⟩ : ∃ q, q = (setI M 191 0 v4_) := ⟨_, rfl⟩
  replace hS : St b C n M6 s H locs := by rw [eM6]; exact hS
  replace hT := qlet_eq hT eM6
  refine lv_aload_n F.hx F.hb d_MO_cell_31 rfl (lv_at hl 0 rfl) ?_
  refine r_get (v := vI (M6.1 191 0)) (N := 68) (T := T1) (j := 0) F hS (show 191 < 231 by decide) (show shK 191 = 5 from rfl) (show shN 191 = 68 from rfl) rfl (Nat.le_of_ble_eq_true rfl) ing1 mw_1389 (fv_int rfl) d_MO_cell_32 ?_
  have i7 := hS.rng 191 0
  refine r_if_eq (tgt := 40) F.hx F.hb i7 d_MO_cell_35 (by decide) (fun c8 => ?_) (fun c8 => ?_)
  · replace hT := (if_pos c8).symm.trans hT
    refine lv_iload_n F.hx F.hb d_MO_cell_40 rfl (lv_at hl 2 rfl) ?_
    rcases q_ite hT with ⟨c9, hT⟩ | ⟨c9, hT⟩
    · refine r_tableIn (i := 0) (tgt := 84) F.hx F.hb hx2 c9 d_MO_cell_41 (by decide) (by decide) rfl (by decide) ?_
      refine lv_aload_n F.hx F.hb d_MO_cell_84 rfl (lv_at hl 0 rfl) ?_
      refine r_get (v := .ref (b + 197)) (N := 68) (T := T1) (j := 7) F hS (show 191 < 231 by decide) (show shK 191 = 5 from rfl) (show shN 191 = 68 from rfl) rfl (Nat.le_of_ble_eq_true rfl) ing1 mw_1396 (fv_sg rfl rfl rfl) d_MO_cell_85 ?_
      refine lv_iload_n F.hx F.hb d_MO_cell_88 rfl (lv_at hl 1 rfl) ?_
      obtain ⟨⟨g10a, g10b⟩, hT⟩ := q_guard hT
      refine r_iald F hS (show 197 < 231 by decide) (show shK 197 = 0 from rfl) (show shN 197 = 96 from rfl) hx1 g10a g10b d_MO_cell_89 ?_
      have i11 := hS.rng 197 x1
      refine r_iconst F.hx F.hb d_MO_cell_90 ?_
      refine r_isub F.hx F.hb d_MO_cell_91 ?_
      cases hT
      exact r_iret F hlk hr rfl hS (inr_w32 _) d_MO_cell_92
    ·
      rcases q_ite hT with ⟨c12, hT⟩ | ⟨c12, hT⟩
      · refine r_tableIn (i := 1) (tgt := 93) F.hx F.hb hx2 c12 d_MO_cell_41 (by decide) (by decide) rfl (by decide) ?_
        refine lv_aload_n F.hx F.hb d_MO_cell_93 rfl (lv_at hl 0 rfl) ?_
        refine r_get (v := .ref (b + 198)) (N := 68) (T := T1) (j := 8) F hS (show 191 < 231 by decide) (show shK 191 = 5 from rfl) (show shN 191 = 68 from rfl) rfl (Nat.le_of_ble_eq_true rfl) ing1 mw_1397 (fv_sg rfl rfl rfl) d_MO_cell_94 ?_
        refine lv_iload_n F.hx F.hb d_MO_cell_97 rfl (lv_at hl 1 rfl) ?_
        obtain ⟨⟨g13a, g13b⟩, hT⟩ := q_guard hT
        have z14 := hS.bool (show shK 198 = 1 from rfl) x1
        refine r_zald F hS (show 198 < 231 by decide) (show shK 198 = 1 from rfl) (show shN 198 = 96 from rfl) hx1 g13a g13b d_MO_cell_98 ?_
        refine r_if_eq (tgt := 106) F.hx F.hb (inr_z z14) d_MO_cell_99 (by decide) (fun c15 => ?_) (fun c15 => ?_)
        · replace hT := (if_pos c15).symm.trans hT
          refine r_iconst F.hx F.hb d_MO_cell_106 ?_
          cases hT
          exact r_iret F hlk hr rfl hS (inr_c rfl) d_MO_cell_107
        · replace hT := (if_neg c15).symm.trans hT
          refine r_iconst F.hx F.hb d_MO_cell_102 ?_
          refine lv_goto (tgt := 107) F.hx F.hb d_MO_cell_103 (by decide) ?_
          cases hT
          exact r_iret F hlk hr rfl hS (inr_c rfl) d_MO_cell_107
      ·
        rcases q_ite hT with ⟨c16, hT⟩ | ⟨c16, hT⟩
        · refine r_tableIn (i := 2) (tgt := 108) F.hx F.hb hx2 c16 d_MO_cell_41 (by decide) (by decide) rfl (by decide) ?_
          refine lv_aload_n F.hx F.hb d_MO_cell_108 rfl (lv_at hl 0 rfl) ?_
          refine r_get (v := .ref (b + 199)) (N := 68) (T := T1) (j := 9) F hS (show 191 < 231 by decide) (show shK 191 = 5 from rfl) (show shN 191 = 68 from rfl) rfl (Nat.le_of_ble_eq_true rfl) ing1 mw_1398 (fv_sg rfl rfl rfl) d_MO_cell_109 ?_
          refine lv_iload_n F.hx F.hb d_MO_cell_112 rfl (lv_at hl 1 rfl) ?_
          obtain ⟨⟨g17a, g17b⟩, hT⟩ := q_guard hT
          have z18 := hS.bool (show shK 199 = 1 from rfl) x1
          refine r_zald F hS (show 199 < 231 by decide) (show shK 199 = 1 from rfl) (show shN 199 = 96 from rfl) hx1 g17a g17b d_MO_cell_113 ?_
          refine r_if_eq (tgt := 121) F.hx F.hb (inr_z z18) d_MO_cell_114 (by decide) (fun c19 => ?_) (fun c19 => ?_)
          · replace hT := (if_pos c19).symm.trans hT
            refine r_iconst F.hx F.hb d_MO_cell_121 ?_
            cases hT
            exact r_iret F hlk hr rfl hS (inr_c rfl) d_MO_cell_122
          · replace hT := (if_neg c19).symm.trans hT
            refine r_iconst F.hx F.hb d_MO_cell_117 ?_
            refine lv_goto (tgt := 122) F.hx F.hb d_MO_cell_118 (by decide) ?_
            cases hT
            exact r_iret F hlk hr rfl hS (inr_c rfl) d_MO_cell_122
        ·
          rcases q_ite hT with ⟨c20, hT⟩ | ⟨c20, hT⟩
          · refine r_tableIn (i := 3) (tgt := 123) F.hx F.hb hx2 c20 d_MO_cell_41 (by decide) (by decide) rfl (by decide) ?_
            refine lv_aload_n F.hx F.hb d_MO_cell_123 rfl (lv_at hl 0 rfl) ?_
            refine r_get (v := .ref (b + 210)) (N := 68) (T := T1) (j := 33) F hS (show 191 < 231 by decide) (show shK 191 = 5 from rfl) (show shN 191 = 68 from rfl) rfl (Nat.le_of_ble_eq_true rfl) ing1 mw_1422 (fv_sg rfl rfl rfl) d_MO_cell_124 ?_
            refine r_iconst F.hx F.hb d_MO_cell_127 ?_
            refine r_lald F hS (show 210 < 231 by decide) (show shK 210 = 2 from rfl) (show shN 210 = 23 from rfl) (inr_c rfl) (by omega) (by omega) d_MO_cell_128 ?_
            refine lv_iload_n F.hx F.hb d_MO_cell_129 rfl (lv_at hl 1 rfl) ?_
            refine r_lshr F.hx F.hb d_MO_cell_130 ?_
            refine lv_lconst (v := 1) F.hx F.hb d_MO_cell_131 rfl ?_
            refine lv_land F.hx F.hb d_MO_cell_132 ?_
            refine r_l2i F.hx F.hb d_MO_cell_133 ?_
            cases hT
            exact r_iret F hlk hr rfl hS (q_inr_toInt _) d_MO_cell_134
          ·
            rcases q_ite hT with ⟨c21, hT⟩ | ⟨c21, hT⟩
            · refine r_tableIn (i := 4) (tgt := 135) F.hx F.hb hx2 c21 d_MO_cell_41 (by decide) (by decide) rfl (by decide) ?_
              refine lv_aload_n F.hx F.hb d_MO_cell_135 rfl (lv_at hl 0 rfl) ?_
              refine r_get (v := .ref (b + 211)) (N := 68) (T := T1) (j := 34) F hS (show 191 < 231 by decide) (show shK 191 = 5 from rfl) (show shN 191 = 68 from rfl) rfl (Nat.le_of_ble_eq_true rfl) ing1 mw_1423 (fv_sg rfl rfl rfl) d_MO_cell_136 ?_
              refine r_iconst F.hx F.hb d_MO_cell_139 ?_
              refine r_lald F hS (show 211 < 231 by decide) (show shK 211 = 2 from rfl) (show shN 211 = 23 from rfl) (inr_c rfl) (by omega) (by omega) d_MO_cell_140 ?_
              refine lv_iload_n F.hx F.hb d_MO_cell_141 rfl (lv_at hl 1 rfl) ?_
              refine r_lshr F.hx F.hb d_MO_cell_142 ?_
              refine lv_lconst (v := 1) F.hx F.hb d_MO_cell_143 rfl ?_
              refine lv_land F.hx F.hb d_MO_cell_144 ?_
              refine r_l2i F.hx F.hb d_MO_cell_145 ?_
              cases hT
              exact r_iret F hlk hr rfl hS (q_inr_toInt _) d_MO_cell_146
            ·
              rcases q_ite hT with ⟨c22, hT⟩ | ⟨c22, hT⟩
              · refine r_tableIn (i := 5) (tgt := 147) F.hx F.hb hx2 c22 d_MO_cell_41 (by decide) (by decide) rfl (by decide) ?_
                refine lv_aload_n F.hx F.hb d_MO_cell_147 rfl (lv_at hl 0 rfl) ?_
                refine r_iconst F.hx F.hb d_MO_cell_148 ?_
                refine lv_iload_n F.hx F.hb d_MO_cell_149 rfl (lv_at hl 1 rfl) ?_
                obtain ⟨q23, hq23, hT⟩ := q_obind hT
                refine r_backI F hS (r_runV (k := 191) (N := 68) (T := T1) (As := [vI 0, vI x1]) F hS (show 191 < 231 by decide) (show shK 191 = 5 from rfl) rfl (c_MO_thingIn l F.2.2.1 M6 0 x1 (inr_c rfl) hx1 _ hq23) gs_MO_363 hd_MO_thingIn ⟨Nat.le_of_ble_eq_true rfl, Nat.le_of_ble_eq_true rfl⟩ rfl hl.1 (Nat.le_of_ble_eq_true rfl) ⟨Nat.zero_le _, Nat.zero_le _⟩ rfl d_MO_cell_150) (fun H locs hS h24 => ?_)
                cases hT
                exact r_iret F hlk hr rfl hS h24 d_MO_cell_153
              ·
                rcases q_ite hT with ⟨c25, hT⟩ | ⟨c25, hT⟩
                · refine r_tableIn (i := 6) (tgt := 154) F.hx F.hb hx2 c25 d_MO_cell_41 (by decide) (by decide) rfl (by decide) ?_
                  refine lv_aload_n F.hx F.hb d_MO_cell_154 rfl (lv_at hl 0 rfl) ?_
                  refine r_get (v := .ref (b + 198)) (N := 68) (T := T1) (j := 8) F hS (show 191 < 231 by decide) (show shK 191 = 5 from rfl) (show shN 191 = 68 from rfl) rfl (Nat.le_of_ble_eq_true rfl) ing1 mw_1397 (fv_sg rfl rfl rfl) d_MO_cell_155 ?_
                  refine lv_iload_n F.hx F.hb d_MO_cell_158 rfl (lv_at hl 1 rfl) ?_
                  obtain ⟨⟨g26a, g26b⟩, hT⟩ := q_guard hT
                  have z27 := hS.bool (show shK 198 = 1 from rfl) x1
                  refine r_zald F hS (show 198 < 231 by decide) (show shK 198 = 1 from rfl) (show shN 198 = 96 from rfl) hx1 g26a g26b d_MO_cell_159 ?_
                  refine r_if_eq (tgt := 167) F.hx F.hb (inr_z z27) d_MO_cell_160 (by decide) (fun c28 => ?_) (fun c28 => ?_)
                  · replace hT := (if_pos c28).symm.trans hT
                    refine lv_aload_n F.hx F.hb d_MO_cell_167 rfl (lv_at hl 0 rfl) ?_
                    refine r_iconst F.hx F.hb d_MO_cell_168 ?_
                    refine lv_iload_n F.hx F.hb d_MO_cell_169 rfl (lv_at hl 1 rfl) ?_
                    obtain ⟨q29, hq29, hT⟩ := q_obind hT
                    refine r_backI F hS (r_runV (k := 191) (N := 68) (T := T1) (As := [vI 0, vI x1]) F hS (show 191 < 231 by decide) (show shK 191 = 5 from rfl) rfl (c_MO_nextOf l F.2.2.1 M6 0 x1 (inr_c rfl) hx1 _ hq29) gs_MO_350 hd_MO_nextOf ⟨Nat.le_of_ble_eq_true rfl, Nat.le_of_ble_eq_true rfl⟩ rfl hl.1 (Nat.le_of_ble_eq_true rfl) ⟨Nat.zero_le _, Nat.zero_le _⟩ rfl d_MO_cell_170) (fun H locs hS h30 => ?_)
                    cases hT
                    exact r_iret F hlk hr rfl hS h30 d_MO_cell_173
                  · replace hT := (if_neg c28).symm.trans hT
                    refine r_iconst F.hx F.hb d_MO_cell_163 ?_
                    refine lv_goto (tgt := 173) F.hx F.hb d_MO_cell_164 (by decide) ?_
                    cases hT
                    exact r_iret F hlk hr rfl hS (inr_c rfl) d_MO_cell_173
                ·
                  refine r_tableOut (tgt := 174) F.hx F.hb hx2 (by omega) d_MO_cell_41 (by decide) ?_
                  refine lv_aload_n F.hx F.hb d_MO_cell_174 rfl (lv_at hl 0 rfl) ?_
                  refine lv_iload_n F.hx F.hb d_MO_cell_175 rfl (lv_at hl 1 rfl) ?_
                  obtain ⟨q31, hq31, hT⟩ := q_obind hT
                  refine r_backZ F hS (r_runV (k := 191) (N := 68) (T := T1) (As := [vI x1]) F hS (show 191 < 231 by decide) (show shK 191 = 5 from rfl) rfl (c_MO_stands l F.2.2.1 M6 x1 hx1 _ hq31) gs_MO_366 hd_MO_stands ⟨Nat.le_of_ble_eq_true rfl, Nat.le_of_ble_eq_true rfl⟩ rfl hl.1 (Nat.le_of_ble_eq_true rfl) ⟨Nat.zero_le _, Nat.zero_le _⟩ rfl d_MO_cell_176) (fun H locs hS h32 => ?_)
                  refine r_if_eq (tgt := 186) F.hx F.hb (inr_z h32) d_MO_cell_179 (by decide) (fun c33 => ?_) (fun c33 => ?_)
                  · replace hT := (if_pos c33).symm.trans hT
                    refine r_iconst F.hx F.hb d_MO_cell_186 ?_
                    cases hT
                    exact r_iret F hlk hr rfl hS (inr_c rfl) d_MO_cell_187
                  · replace hT := (if_neg c33).symm.trans hT
                    refine r_iconst F.hx F.hb d_MO_cell_182 ?_
                    refine lv_goto (tgt := 187) F.hx F.hb d_MO_cell_183 (by decide) ?_
                    cases hT
                    exact r_iret F hlk hr rfl hS (inr_c rfl) d_MO_cell_187
  · replace hT := (if_neg c8).symm.trans hT
    refine r_iconst F.hx F.hb d_MO_cell_38 ?_
    cases hT
    exact r_iret F hlk hr rfl hS (inr_c rfl) d_MO_cell_39
set_option maxHeartbeats 4000000 in
set_option maxRecDepth 100000 in
theorem k_MO_cell_L23 (l : Launch) {p : Program} {e : Env} {s : State} {m : MethodId} {below : List Frame} {meth : Method} {c : Code} {b n : Nat} {C : CT} (hlo : 231 ≤ n) (x1 : Int) (x2 : Int) (hx1 : InR x1) (hx2 : InR x2) (F : Cx b p m c b_MO_cell 3 s ([.ref (b + 191), vI x1, vI x2] : List Value).toArray "WardFallsModel" C n 231) (hlk : meth.locks = false) (hr : meth.sig.returnType = some .int) {res : Mem × Int} (M : Mem)  (H : Heap) (locs : List Loc) (ls : Array Slot) (hS : St b C n M s H locs) (hl : lv_has ls 3 [(0, .ref (b + 191)), (1, vI x1), (2, vI x2)]) (hT : t_MO_cell_L23 x1 x2 M = some res) : W p l e (headSpec (wsM y_MO_cell b_MO_cell 3 (some .int)) (rmD 2)).room s m ([.ref (b + 191), vI x1, vI x2] : List Value).toArray below meth c H locs 0 0 (MQ below (QI b C n res.1 res.2) ([.ref (b + 191), vI x1, vI x2] : List Value).toArray s 0 0 (frb b)) (F0 m 23 ls [.ref (b + 191)]) := by
  unfold t_MO_cell_L23 at hT
  refine r_iconst F.hx F.hb d_MO_cell_23 ?_
  refine lv_goto (tgt := 28) F.hx F.hb d_MO_cell_24 (by decide) ?_
  exact k_MO_cell_L28 l hlo x1 x2 hx1 hx2 F hlk hr M 2 (inr_c rfl) _ _ _ hS (lv_sub hl [0, 1, 2] rfl) hT
set_option maxHeartbeats 4000000 in
set_option maxRecDepth 100000 in
theorem c_MO_cell (l : Launch) {b n : Nat} {C : CT} (hlo : 231 ≤ n) (M : Mem) (x1 : Int) (x2 : Int) (hx1 : InR x1) (hx2 : InR x2) (res : Mem × Int) (hT : t_MO_cell M x1 x2 = some res) : CM l b C n 2 y_MO_cell b_MO_cell 3 (some .int) [.ref (b + 191), vI x1, vI x2] M (QI b C n res.1 res.2) := by
  refine CM.of (lo := 231) (ow := "WardFallsModel") (by decide) rfl (Nat.le_of_ble_eq_true rfl) hlo (fun p e s m below meth c F hlk hr hS ls hl => ?_)
  have hl : lv_has ls 3 [(0, .ref (b + 191)), (1, vI x1), (2, vI x2)] := hl
  unfold t_MO_cell at hT
  refine lv_aload_n F.hx F.hb d_MO_cell_0 rfl (lv_at hl 0 rfl) ?_
  refine lv_aload_n F.hx F.hb d_MO_cell_1 rfl (lv_at hl 0 rfl) ?_
  refine lv_iload_n F.hx F.hb d_MO_cell_2 rfl (lv_at hl 1 rfl) ?_
  obtain ⟨q1, hq1⟩ : ∃ q, q = (t_MO_isCell M x1) := ⟨_, rfl⟩
  replace hT := qlet_eq hT hq1
  refine r_backZ F hS (r_runV (k := 191) (N := 68) (T := T1) (As := [vI x1]) F hS (show 191 < 231 by decide) (show shK 191 = 5 from rfl) rfl (c_MO_isCell l F.2.2.1 M x1 hx1 _ hq1.symm) gs_MO_332 hd_MO_isCell ⟨Nat.le_of_ble_eq_true rfl, Nat.le_of_ble_eq_true rfl⟩ rfl hl.1 (Nat.le_of_ble_eq_true rfl) ⟨Nat.zero_le _, Nat.zero_le _⟩ rfl d_MO_cell_3) (fun H locs hS h2 => ?_)
  refine r_if_ne (tgt := 13) F.hx F.hb (inr_z h2) d_MO_cell_6 (by decide) (fun c3 => ?_) (fun c3 => ?_)
  · replace hT := (if_neg c3).symm.trans hT
    refine lv_iload_n F.hx F.hb d_MO_cell_13 rfl (lv_at hl 2 rfl) ?_
    refine r_if_lt (tgt := 23) F.hx F.hb hx2 d_MO_cell_14 (by decide) (fun c4 => ?_) (fun c4 => ?_)
    · replace hT := (if_pos c4).symm.trans hT
      exact k_MO_cell_L23 l hlo x1 x2 hx1 hx2 F hlk hr M _ _ _ hS (lv_sub hl [0, 1, 2] rfl) hT
    · replace hT := (if_neg c4).symm.trans hT
      refine lv_iload_n F.hx F.hb d_MO_cell_17 rfl (lv_at hl 2 rfl) ?_
      refine r_bipush F.hx F.hb d_MO_cell_18 rfl ?_
      refine r_icmp_le (tgt := 27) F.hx F.hb hx2 (inr_c rfl) d_MO_cell_20 (by decide) (fun c5 => ?_) (fun c5 => ?_)
      · replace hT := (if_pos c5).symm.trans hT
        refine r_iconst F.hx F.hb d_MO_cell_27 ?_
        exact k_MO_cell_L28 l hlo x1 x2 hx1 hx2 F hlk hr M 0 (inr_c rfl) _ _ _ hS (lv_sub hl [0, 1, 2] rfl) hT
      · replace hT := (if_neg c5).symm.trans hT
        exact k_MO_cell_L23 l hlo x1 x2 hx1 hx2 F hlk hr M _ _ _ hS (lv_sub hl [0, 1, 2] rfl) hT
  · replace hT := (if_pos c3).symm.trans hT
    refine r_iconst F.hx F.hb d_MO_cell_9 ?_
    refine lv_goto (tgt := 28) F.hx F.hb d_MO_cell_10 (by decide) ?_
    exact k_MO_cell_L28 l hlo x1 x2 hx1 hx2 F hlk hr M 1 (inr_c rfl) _ _ _ hS (lv_sub hl [0, 1, 2] rfl) hT
theorem d_MO_sizeOf_0 : decode b_MO_sizeOf 0 = .ok (.iconst 0, 1) := dc_3 (by decide +kernel)
theorem d_MO_sizeOf_1 : decode b_MO_sizeOf 1 = .ok (.istore_n 2, 1) := dc_61 (by decide +kernel)
theorem d_MO_sizeOf_2 : decode b_MO_sizeOf 2 = .ok (.iconst 0, 1) := dc_3 (by decide +kernel)
theorem d_MO_sizeOf_3 : decode b_MO_sizeOf 3 = .ok (.istore_n 3, 1) := dc_62 (by decide +kernel)
theorem d_MO_sizeOf_4 : decode b_MO_sizeOf 4 = .ok (.iload_n 3, 1) := dc_29 (by decide +kernel)
theorem d_MO_sizeOf_5 : decode b_MO_sizeOf 5 = .ok (.aload_n 0, 1) := dc_42 (by decide +kernel)
theorem d_MO_sizeOf_6 : decode b_MO_sizeOf 6 = .ok (.invokevirtual 329, 3) := dc_182 (by decide +kernel)
theorem d_MO_sizeOf_9 : decode b_MO_sizeOf 9 = .ok (.if_icmp .ge 29, 3) := dc_162 (by decide +kernel)
theorem d_MO_sizeOf_12 : decode b_MO_sizeOf 12 = .ok (.iload_n 2, 1) := dc_28 (by decide +kernel)
theorem d_MO_sizeOf_13 : decode b_MO_sizeOf 13 = .ok (.aload_n 0, 1) := dc_42 (by decide +kernel)
theorem d_MO_sizeOf_14 : decode b_MO_sizeOf 14 = .ok (.getfield 25, 3) := dc_180 (by decide +kernel)
theorem d_MO_sizeOf_17 : decode b_MO_sizeOf 17 = .ok (.iload_n 3, 1) := dc_29 (by decide +kernel)
theorem d_MO_sizeOf_18 : decode b_MO_sizeOf 18 = .ok (.iaload, 1) := dc_46 (by decide +kernel)
theorem d_MO_sizeOf_19 : decode b_MO_sizeOf 19 = .ok (.iload_n 1, 1) := dc_27 (by decide +kernel)
theorem d_MO_sizeOf_20 : decode b_MO_sizeOf 20 = .ok (.iconst 1, 1) := dc_4 (by decide +kernel)
theorem d_MO_sizeOf_21 : decode b_MO_sizeOf 21 = .ok (.iadd, 1) := dc_96 (by decide +kernel)
theorem d_MO_sizeOf_22 : decode b_MO_sizeOf 22 = .ok (.if_icmp .ne 7, 3) := dc_160 (by decide +kernel)
theorem d_MO_sizeOf_25 : decode b_MO_sizeOf 25 = .ok (.iconst 1, 1) := dc_4 (by decide +kernel)
theorem d_MO_sizeOf_26 : decode b_MO_sizeOf 26 = .ok (.goto 4, 3) := dc_167 (by decide +kernel)
theorem d_MO_sizeOf_29 : decode b_MO_sizeOf 29 = .ok (.iconst 0, 1) := dc_3 (by decide +kernel)
theorem d_MO_sizeOf_30 : decode b_MO_sizeOf 30 = .ok (.iadd, 1) := dc_96 (by decide +kernel)
theorem d_MO_sizeOf_31 : decode b_MO_sizeOf 31 = .ok (.istore_n 2, 1) := dc_61 (by decide +kernel)
theorem d_MO_sizeOf_32 : decode b_MO_sizeOf 32 = .ok (.iinc 3 1, 3) := dc_132 (by decide +kernel)
theorem d_MO_sizeOf_35 : decode b_MO_sizeOf 35 = .ok (.goto (-31), 3) := dc_167 (by decide +kernel)
theorem d_MO_sizeOf_38 : decode b_MO_sizeOf 38 = .ok (.iload_n 2, 1) := dc_28 (by decide +kernel)
theorem d_MO_sizeOf_39 : decode b_MO_sizeOf 39 = .ok (.ireturn, 1) := dc_172 (by decide +kernel)
def t_MO_sizeOf_L30 (x1 : Int) (bk4 : Mem → Int → Int → Option (Int)) (M : Mem) (v2_ : Int) (v3_ : Int) (v4_ : Int) : Option (Int) := (bk4 M (w32 (v3_ + v4_)) (w32 (v2_ + 1)))
def t_MO_sizeOf_L4 (x1 : Int)  : Nat → Mem → Int → Int → Option (Int)
  | 0, _, _, _ => none
  | fu + 1, M, v2_, v3_ => (qlet (t_MO_cells M) fun q1 => (if q1 ≤ v3_ then (some v2_) else (qguard (0 ≤ v3_ ∧ v3_ < 96) (if (M.1 197 v3_) = (w32 (x1 + 1)) then (t_MO_sizeOf_L30 x1 (fun a0_ a1_ a2_ => t_MO_sizeOf_L4 x1 fu a0_ a1_ a2_) M v3_ v2_ 1) else (t_MO_sizeOf_L30 x1 (fun a0_ a1_ a2_ => t_MO_sizeOf_L4 x1 fu a0_ a1_ a2_) M v3_ v2_ 0)))))
def t_MO_sizeOf (M : Mem) (x1 : Int) : Option (Int) := (t_MO_sizeOf_L4 x1 FU M 0 0)
set_option maxHeartbeats 4000000 in
set_option maxRecDepth 100000 in
theorem k_MO_sizeOf_L30 (l : Launch) {p : Program} {e : Env} {s : State} {m : MethodId} {below : List Frame} {meth : Method} {c : Code} {b n : Nat} {C : CT} (hlo : 231 ≤ n) (x1 : Int) (hx1 : InR x1) (F : Cx b p m c b_MO_sizeOf 4 s ([.ref (b + 191), vI x1] : List Value).toArray "WardFallsModel" C n 231) (hlk : meth.locks = false) (hr : meth.sig.returnType = some .int) {res : Int} (bk4 : Mem → Int → Int → Option (Int)) (hbk4 : ∀ (M : Mem) (v2_ : Int) (hv2_ : InR v2_) (v3_ : Int) (hv3_ : InR v3_) (H : Heap) (locs : List Loc) (ls : Array Slot), St b C n M s H locs → lv_has ls 4 [(0, .ref (b + 191)), (1, vI x1), (2, vI v2_), (3, vI v3_)] → bk4 M v2_ v3_ = some res → W p l e (headSpec (wsM y_MO_sizeOf b_MO_sizeOf 4 (some .int)) (rmD 1)).room s m ([.ref (b + 191), vI x1] : List Value).toArray below meth c H locs 0 0 (MQ below (QI b C n M res) ([.ref (b + 191), vI x1] : List Value).toArray s 0 0 (frb b)) (F0 m 4 ls [])) (M : Mem) (v2_ : Int) (hv2_ : InR v2_) (v3_ : Int) (hv3_ : InR v3_) (v4_ : Int) (hv4_ : v4_ = 0 ∨ v4_ = 1) (H : Heap) (locs : List Loc) (ls : Array Slot) (hS : St b C n M s H locs) (hl : lv_has ls 4 [(0, .ref (b + 191)), (1, vI x1), (3, vI v2_)]) (hT : t_MO_sizeOf_L30 x1 bk4 M v2_ v3_ v4_ = some res) : W p l e (headSpec (wsM y_MO_sizeOf b_MO_sizeOf 4 (some .int)) (rmD 1)).room s m ([.ref (b + 191), vI x1] : List Value).toArray below meth c H locs 0 0 (MQ below (QI b C n M res) ([.ref (b + 191), vI x1] : List Value).toArray s 0 0 (frb b)) (F0 m 30 ls [vI v4_, vI v3_]) := by
  unfold t_MO_sizeOf_L30 at hT
  refine r_iadd F.hx F.hb d_MO_sizeOf_30 ?_
  refine lv_istore_n (lv' := [(2, vI (w32 (v3_ + v4_))), (0, .ref (b + 191)), (1, vI x1), (3, vI v2_)]) F.hx F.hb d_MO_sizeOf_31 rfl hl (Nat.le_of_ble_eq_true rfl) rfl (fun ls hl => ?_)
  refine lv_iinc (v := Int32.ofInt (w32 (v2_ + 1))) (lv' := [(3, vI (w32 (v2_ + 1))), (2, vI (w32 (v3_ + v4_))), (0, .ref (b + 191)), (1, vI x1)]) F.hx F.hb d_MO_sizeOf_32 hl (k := 3) rfl (q_of_add _ _) (Nat.le_of_ble_eq_true rfl) rfl (fun ls hl => ?_)
  refine lv_goto (tgt := 4) F.hx F.hb d_MO_sizeOf_35 (by decide) ?_
  exact hbk4 M (w32 (v3_ + v4_)) (inr_w32 _) (w32 (v2_ + 1)) (inr_w32 _) _ _ _ hS (lv_sub hl [2, 3, 1, 0] rfl) hT
set_option maxHeartbeats 4000000 in
set_option maxRecDepth 100000 in
theorem k_MO_sizeOf_L4 (l : Launch) {p : Program} {e : Env} {s : State} {m : MethodId} {below : List Frame} {meth : Method} {c : Code} {b n : Nat} {C : CT} (hlo : 231 ≤ n) (x1 : Int) (hx1 : InR x1) (F : Cx b p m c b_MO_sizeOf 4 s ([.ref (b + 191), vI x1] : List Value).toArray "WardFallsModel" C n 231) (hlk : meth.locks = false) (hr : meth.sig.returnType = some .int) {res : Int} : ∀ (fu : Nat) (M : Mem) (v2_ : Int) (hv2_ : InR v2_) (v3_ : Int) (hv3_ : InR v3_) (H : Heap) (locs : List Loc) (ls : Array Slot), St b C n M s H locs → lv_has ls 4 [(0, .ref (b + 191)), (1, vI x1), (2, vI v2_), (3, vI v3_)] → t_MO_sizeOf_L4 x1 fu M v2_ v3_ = some res → W p l e (headSpec (wsM y_MO_sizeOf b_MO_sizeOf 4 (some .int)) (rmD 1)).room s m ([.ref (b + 191), vI x1] : List Value).toArray below meth c H locs 0 0 (MQ below (QI b C n M res) ([.ref (b + 191), vI x1] : List Value).toArray s 0 0 (frb b)) (F0 m 4 ls []) := by
  intro fu
  induction fu with
  | zero => intro M v2_ hv2_ v3_ hv3_ H locs ls hS hl hT; exact absurd hT (by simp [t_MO_sizeOf_L4])
  | succ fu ih =>
    intro M v2_ hv2_ v3_ hv3_ H locs ls hS hl hT
    rw [t_MO_sizeOf_L4] at hT
    refine lv_iload_n F.hx F.hb d_MO_sizeOf_4 rfl (lv_at hl 3 rfl) ?_
    refine lv_aload_n F.hx F.hb d_MO_sizeOf_5 rfl (lv_at hl 0 rfl) ?_
    obtain ⟨q1, hq1⟩ : ∃ q, q = (t_MO_cells M) := ⟨_, rfl⟩
    replace hT := qlet_eq hT hq1
    refine r_backI F hS (r_runV (k := 191) (N := 68) (T := T1) (As := []) F hS (show 191 < 231 by decide) (show shK 191 = 5 from rfl) rfl (c_MO_cells l F.2.2.1 M _ hq1.symm) gs_MO_329 hd_MO_cells ⟨Nat.le_of_ble_eq_true rfl, Nat.le_of_ble_eq_true rfl⟩ rfl hl.1 (Nat.le_of_ble_eq_true rfl) ⟨Nat.zero_le _, Nat.zero_le _⟩ rfl d_MO_sizeOf_6) (fun H locs hS h2 => ?_)
    refine r_icmp_ge (tgt := 38) F.hx F.hb hv3_ h2 d_MO_sizeOf_9 (by decide) (fun c3 => ?_) (fun c3 => ?_)
    · replace hT := (if_pos c3).symm.trans hT
      refine lv_iload_n F.hx F.hb d_MO_sizeOf_38 rfl (lv_at hl 2 rfl) ?_
      cases hT
      exact r_iret F hlk hr rfl hS hv2_ d_MO_sizeOf_39
    · replace hT := (if_neg c3).symm.trans hT
      refine lv_iload_n F.hx F.hb d_MO_sizeOf_12 rfl (lv_at hl 2 rfl) ?_
      refine lv_aload_n F.hx F.hb d_MO_sizeOf_13 rfl (lv_at hl 0 rfl) ?_
      refine r_get (v := .ref (b + 197)) (N := 68) (T := T1) (j := 7) F hS (show 191 < 231 by decide) (show shK 191 = 5 from rfl) (show shN 191 = 68 from rfl) rfl (Nat.le_of_ble_eq_true rfl) ing1 mw_1396 (fv_sg rfl rfl rfl) d_MO_sizeOf_14 ?_
      refine lv_iload_n F.hx F.hb d_MO_sizeOf_17 rfl (lv_at hl 3 rfl) ?_
      obtain ⟨⟨g4a, g4b⟩, hT⟩ := q_guard hT
      refine r_iald F hS (show 197 < 231 by decide) (show shK 197 = 0 from rfl) (show shN 197 = 96 from rfl) hv3_ g4a g4b d_MO_sizeOf_18 ?_
      have i5 := hS.rng 197 v3_
      refine lv_iload_n F.hx F.hb d_MO_sizeOf_19 rfl (lv_at hl 1 rfl) ?_
      refine r_iconst F.hx F.hb d_MO_sizeOf_20 ?_
      refine r_iadd F.hx F.hb d_MO_sizeOf_21 ?_
      refine r_icmp_ne (tgt := 29) F.hx F.hb i5 (inr_w32 _) d_MO_sizeOf_22 (by decide) (fun c6 => ?_) (fun c6 => ?_)
      · replace hT := (if_neg c6).symm.trans hT
        refine r_iconst F.hx F.hb d_MO_sizeOf_29 ?_
        exact k_MO_sizeOf_L30 l hlo x1 hx1 F hlk hr (fun a0_ a1_ a2_ => t_MO_sizeOf_L4 x1 fu a0_ a1_ a2_) ih M v3_ hv3_ v2_ hv2_ 0 (Or.inl rfl) _ _ _ hS (lv_sub hl [0, 1, 3] rfl) hT
      · replace hT := (if_pos c6).symm.trans hT
        refine r_iconst F.hx F.hb d_MO_sizeOf_25 ?_
        refine lv_goto (tgt := 30) F.hx F.hb d_MO_sizeOf_26 (by decide) ?_
        exact k_MO_sizeOf_L30 l hlo x1 hx1 F hlk hr (fun a0_ a1_ a2_ => t_MO_sizeOf_L4 x1 fu a0_ a1_ a2_) ih M v3_ hv3_ v2_ hv2_ 1 (Or.inr rfl) _ _ _ hS (lv_sub hl [0, 1, 3] rfl) hT
set_option maxHeartbeats 4000000 in
set_option maxRecDepth 100000 in
theorem c_MO_sizeOf (l : Launch) {b n : Nat} {C : CT} (hlo : 231 ≤ n) (M : Mem) (x1 : Int) (hx1 : InR x1) (res : Int) (hT : t_MO_sizeOf M x1 = some res) : CM l b C n 1 y_MO_sizeOf b_MO_sizeOf 4 (some .int) [.ref (b + 191), vI x1] M (QI b C n M res) := by
  refine CM.of (lo := 231) (ow := "WardFallsModel") (by decide) rfl (Nat.le_of_ble_eq_true rfl) hlo (fun p e s m below meth c F hlk hr hS ls hl => ?_)
  have hl : lv_has ls 4 [(0, .ref (b + 191)), (1, vI x1)] := hl
  unfold t_MO_sizeOf at hT
  refine r_iconst F.hx F.hb d_MO_sizeOf_0 ?_
  refine lv_istore_n (lv' := [(2, vI 0), (0, .ref (b + 191)), (1, vI x1)]) F.hx F.hb d_MO_sizeOf_1 rfl hl (Nat.le_of_ble_eq_true rfl) rfl (fun ls hl => ?_)
  refine r_iconst F.hx F.hb d_MO_sizeOf_2 ?_
  refine lv_istore_n (lv' := [(3, vI 0), (2, vI 0), (0, .ref (b + 191)), (1, vI x1)]) F.hx F.hb d_MO_sizeOf_3 rfl hl (Nat.le_of_ble_eq_true rfl) rfl (fun ls hl => ?_)
  exact k_MO_sizeOf_L4 l hlo x1 hx1 F hlk hr FU M 0 (inr_c rfl) 0 (inr_c rfl) _ _ _ hS (lv_sub hl [2, 3, 1, 0] rfl) hT
