theorem d_MO_feed_0 : decode b_MO_feed 0 = .ok (.aload_n 0, 1) := dc_42 (by decide +kernel)
theorem d_MO_feed_1 : decode b_MO_feed 1 = .ok (.iconst 0, 1) := dc_3 (by decide +kernel)
theorem d_MO_feed_2 : decode b_MO_feed 2 = .ok (.putfield 145, 3) := dc_181 (by decide +kernel)
theorem d_MO_feed_5 : decode b_MO_feed 5 = .ok (.aload_n 0, 1) := dc_42 (by decide +kernel)
theorem d_MO_feed_6 : decode b_MO_feed 6 = .ok (.getfield 148, 3) := dc_180 (by decide +kernel)
theorem d_MO_feed_9 : decode b_MO_feed 9 = .ok (.sipush 680, 3) := dc_17 (by decide +kernel)
theorem d_MO_feed_12 : decode b_MO_feed 12 = .ok (.if_icmp .le 5, 3) := dc_164 (by decide +kernel)
theorem d_MO_feed_15 : decode b_MO_feed 15 = .ok (.iconst (-1), 1) := dc_2 (by decide +kernel)
theorem d_MO_feed_16 : decode b_MO_feed 16 = .ok (.ireturn, 1) := dc_172 (by decide +kernel)
theorem d_MO_feed_17 : decode b_MO_feed 17 = .ok (.iconst 0, 1) := dc_3 (by decide +kernel)
theorem d_MO_feed_18 : decode b_MO_feed 18 = .ok (.istore 6, 2) := dc_54 (by decide +kernel)
theorem d_MO_feed_20 : decode b_MO_feed 20 = .ok (.iload 6, 2) := dc_21 (by decide +kernel)
theorem d_MO_feed_22 : decode b_MO_feed 22 = .ok (.bipush 20, 2) := dc_16 (by decide +kernel)
theorem d_MO_feed_24 : decode b_MO_feed 24 = .ok (.if_icmp .ge 86, 3) := dc_162 (by decide +kernel)
theorem d_MO_feed_27 : decode b_MO_feed 27 = .ok (.iload 6, 2) := dc_21 (by decide +kernel)
theorem d_MO_feed_29 : decode b_MO_feed 29 = .ok (.iconst 4, 1) := dc_7 (by decide +kernel)
theorem d_MO_feed_30 : decode b_MO_feed 30 = .ok (.if_icmp .ge 7, 3) := dc_162 (by decide +kernel)
theorem d_MO_feed_33 : decode b_MO_feed 33 = .ok (.iload_n 1, 1) := dc_27 (by decide +kernel)
theorem d_MO_feed_34 : decode b_MO_feed 34 = .ok (.goto 39, 3) := dc_167 (by decide +kernel)
theorem d_MO_feed_37 : decode b_MO_feed 37 = .ok (.iload 6, 2) := dc_21 (by decide +kernel)
theorem d_MO_feed_39 : decode b_MO_feed 39 = .ok (.bipush 8, 2) := dc_16 (by decide +kernel)
theorem d_MO_feed_41 : decode b_MO_feed 41 = .ok (.if_icmp .ge 7, 3) := dc_162 (by decide +kernel)
theorem d_MO_feed_44 : decode b_MO_feed 44 = .ok (.iload_n 2, 1) := dc_28 (by decide +kernel)
theorem d_MO_feed_45 : decode b_MO_feed 45 = .ok (.goto 28, 3) := dc_167 (by decide +kernel)
theorem d_MO_feed_48 : decode b_MO_feed 48 = .ok (.iload 6, 2) := dc_21 (by decide +kernel)
theorem d_MO_feed_50 : decode b_MO_feed 50 = .ok (.bipush 12, 2) := dc_16 (by decide +kernel)
theorem d_MO_feed_52 : decode b_MO_feed 52 = .ok (.if_icmp .ge 7, 3) := dc_162 (by decide +kernel)
theorem d_MO_feed_55 : decode b_MO_feed 55 = .ok (.iload_n 3, 1) := dc_29 (by decide +kernel)
theorem d_MO_feed_56 : decode b_MO_feed 56 = .ok (.goto 17, 3) := dc_167 (by decide +kernel)
theorem d_MO_feed_59 : decode b_MO_feed 59 = .ok (.iload 6, 2) := dc_21 (by decide +kernel)
theorem d_MO_feed_61 : decode b_MO_feed 61 = .ok (.bipush 16, 2) := dc_16 (by decide +kernel)
theorem d_MO_feed_63 : decode b_MO_feed 63 = .ok (.if_icmp .ge 8, 3) := dc_162 (by decide +kernel)
theorem d_MO_feed_66 : decode b_MO_feed 66 = .ok (.iload 4, 2) := dc_21 (by decide +kernel)
theorem d_MO_feed_68 : decode b_MO_feed 68 = .ok (.goto 5, 3) := dc_167 (by decide +kernel)
theorem d_MO_feed_71 : decode b_MO_feed 71 = .ok (.iload 5, 2) := dc_21 (by decide +kernel)
theorem d_MO_feed_73 : decode b_MO_feed 73 = .ok (.istore 7, 2) := dc_54 (by decide +kernel)
theorem d_MO_feed_75 : decode b_MO_feed 75 = .ok (.aload_n 0, 1) := dc_42 (by decide +kernel)
theorem d_MO_feed_76 : decode b_MO_feed 76 = .ok (.getfield 7, 3) := dc_180 (by decide +kernel)
theorem d_MO_feed_79 : decode b_MO_feed 79 = .ok (.aload_n 0, 1) := dc_42 (by decide +kernel)
theorem d_MO_feed_80 : decode b_MO_feed 80 = .ok (.getfield 148, 3) := dc_180 (by decide +kernel)
theorem d_MO_feed_83 : decode b_MO_feed 83 = .ok (.iload 6, 2) := dc_21 (by decide +kernel)
theorem d_MO_feed_85 : decode b_MO_feed 85 = .ok (.iadd, 1) := dc_96 (by decide +kernel)
theorem d_MO_feed_86 : decode b_MO_feed 86 = .ok (.iload 7, 2) := dc_21 (by decide +kernel)
theorem d_MO_feed_88 : decode b_MO_feed 88 = .ok (.bipush 24, 2) := dc_16 (by decide +kernel)
theorem d_MO_feed_90 : decode b_MO_feed 90 = .ok (.bipush 8, 2) := dc_16 (by decide +kernel)
theorem d_MO_feed_92 : decode b_MO_feed 92 = .ok (.iload 6, 2) := dc_21 (by decide +kernel)
theorem d_MO_feed_94 : decode b_MO_feed 94 = .ok (.iconst 4, 1) := dc_7 (by decide +kernel)
theorem d_MO_feed_95 : decode b_MO_feed 95 = .ok (.irem, 1) := dc_112 (by decide +kernel)
theorem d_MO_feed_96 : decode b_MO_feed 96 = .ok (.imul, 1) := dc_104 (by decide +kernel)
theorem d_MO_feed_97 : decode b_MO_feed 97 = .ok (.isub, 1) := dc_100 (by decide +kernel)
theorem d_MO_feed_98 : decode b_MO_feed 98 = .ok (.ishr, 1) := dc_122 (by decide +kernel)
theorem d_MO_feed_99 : decode b_MO_feed 99 = .ok (.sipush 255, 3) := dc_17 (by decide +kernel)
theorem d_MO_feed_102 : decode b_MO_feed 102 = .ok (.iand, 1) := dc_126 (by decide +kernel)
theorem d_MO_feed_103 : decode b_MO_feed 103 = .ok (.iastore, 1) := dc_79 (by decide +kernel)
theorem d_MO_feed_104 : decode b_MO_feed 104 = .ok (.iinc 6 1, 3) := dc_132 (by decide +kernel)
theorem d_MO_feed_107 : decode b_MO_feed 107 = .ok (.goto (-87), 3) := dc_167 (by decide +kernel)
theorem d_MO_feed_110 : decode b_MO_feed 110 = .ok (.aload_n 0, 1) := dc_42 (by decide +kernel)
theorem d_MO_feed_111 : decode b_MO_feed 111 = .ok (.dup, 1) := dc_89 (by decide +kernel)
theorem d_MO_feed_112 : decode b_MO_feed 112 = .ok (.getfield 148, 3) := dc_180 (by decide +kernel)
theorem d_MO_feed_115 : decode b_MO_feed 115 = .ok (.bipush 20, 2) := dc_16 (by decide +kernel)
theorem d_MO_feed_117 : decode b_MO_feed 117 = .ok (.iadd, 1) := dc_96 (by decide +kernel)
theorem d_MO_feed_118 : decode b_MO_feed 118 = .ok (.putfield 148, 3) := dc_181 (by decide +kernel)
theorem d_MO_feed_121 : decode b_MO_feed 121 = .ok (.aload_n 0, 1) := dc_42 (by decide +kernel)
theorem d_MO_feed_122 : decode b_MO_feed 122 = .ok (.getfield 148, 3) := dc_180 (by decide +kernel)
theorem d_MO_feed_125 : decode b_MO_feed 125 = .ok (.ireturn, 1) := dc_172 (by decide +kernel)
def t_MO_feed_L73 (x1 : Int) (x2 : Int) (x3 : Int) (x4 : Int) (x5 : Int) (bk20 : Mem → Int → Option (Mem × Int)) (M : Mem) (v6_ : Int) (v7_ : Int) : Option (Mem × Int) := (qguard (0 ≤ (w32 ((M.1 191 2) + v6_)) ∧ (w32 ((M.1 191 2) + v6_)) < 700) (qlet (setI M 192 (w32 ((M.1 191 2) + v6_)) (q_and (q_shr v7_ (w32 (24 - (w32 (8 * (q_rem v6_ 4)))))) 255)) fun M14 => (bk20 M14 (w32 (v6_ + 1)))))
def t_MO_feed_L20 (x1 : Int) (x2 : Int) (x3 : Int) (x4 : Int) (x5 : Int)  : Nat → Mem → Int → Option (Mem × Int)
  | 0, _, _ => none
  | fu + 1, M, v6_ => (if 20 ≤ v6_ then (qlet (setI M 191 2 (w32 ((M.1 191 2) + 20))) fun M6 => (some (M6, (M6.1 191 2)))) else (if 4 ≤ v6_ then (if 8 ≤ v6_ then (if 12 ≤ v6_ then (if 16 ≤ v6_ then (t_MO_feed_L73 x1 x2 x3 x4 x5 (fun a0_ a1_ => t_MO_feed_L20 x1 x2 x3 x4 x5 fu a0_ a1_) M v6_ x5) else (t_MO_feed_L73 x1 x2 x3 x4 x5 (fun a0_ a1_ => t_MO_feed_L20 x1 x2 x3 x4 x5 fu a0_ a1_) M v6_ x4)) else (t_MO_feed_L73 x1 x2 x3 x4 x5 (fun a0_ a1_ => t_MO_feed_L20 x1 x2 x3 x4 x5 fu a0_ a1_) M v6_ x3)) else (t_MO_feed_L73 x1 x2 x3 x4 x5 (fun a0_ a1_ => t_MO_feed_L20 x1 x2 x3 x4 x5 fu a0_ a1_) M v6_ x2)) else (t_MO_feed_L73 x1 x2 x3 x4 x5 (fun a0_ a1_ => t_MO_feed_L20 x1 x2 x3 x4 x5 fu a0_ a1_) M v6_ x1)))
def t_MO_feed (M : Mem) (x1 : Int) (x2 : Int) (x3 : Int) (x4 : Int) (x5 : Int) : Option (Mem × Int) := (qlet (setI M 191 0 0) fun M1 => (if (M1.1 191 2) ≤ 680 then (t_MO_feed_L20 x1 x2 x3 x4 x5 FU M1 0) else (some (M1, (-1)))))
set_option maxHeartbeats 4000000 in
set_option maxRecDepth 100000 in
theorem k_MO_feed_L73 (l : Launch) {p : Program} {e : Env} {s : State} {m : MethodId} {below : List Frame} {meth : Method} {c : Code} {b n : Nat} {C : CT} (hlo : 231 ≤ n) (x1 : Int) (x2 : Int) (x3 : Int) (x4 : Int) (x5 : Int) (hx1 : InR x1) (hx2 : InR x2) (hx3 : InR x3) (hx4 : InR x4) (hx5 : InR x5) (F : Cx b p m c b_MO_feed 8 s ([.ref (b + 191), vI x1, vI x2, vI x3, vI x4, vI x5] : List Value).toArray "WardFallsModel" C n 231) (hlk : meth.locks = false) (hr : meth.sig.returnType = some .int) {res : Mem × Int} (bk20 : Mem → Int → Option (Mem × Int)) (hbk20 : ∀ (M : Mem) (v6_ : Int) (hv6_ : InR v6_) (H : Heap) (locs : List Loc) (ls : Array Slot), St b C n M s H locs → lv_has ls 8 [(0, .ref (b + 191)), (1, vI x1), (2, vI x2), (3, vI x3), (4, vI x4), (5, vI x5), (6, vI v6_)] → bk20 M v6_ = some res → W p l e (headSpec (wsM y_MO_feed b_MO_feed 8 (some .int)) (rmD 0)).room s m ([.ref (b + 191), vI x1, vI x2, vI x3, vI x4, vI x5] : List Value).toArray below meth c H locs 0 0 (MQ below (QI b C n res.1 res.2) ([.ref (b + 191), vI x1, vI x2, vI x3, vI x4, vI x5] : List Value).toArray s 0 0 (frb b)) (F0 m 20 ls [])) (M : Mem) (v6_ : Int) (hv6_ : InR v6_) (v7_ : Int) (hv7_ : InR v7_) (H : Heap) (locs : List Loc) (ls : Array Slot) (hS : St b C n M s H locs) (hl : lv_has ls 8 [(0, .ref (b + 191)), (1, vI x1), (2, vI x2), (3, vI x3), (4, vI x4), (5, vI x5), (6, vI v6_)]) (hT : t_MO_feed_L73 x1 x2 x3 x4 x5 bk20 M v6_ v7_ = some res) : W p l e (headSpec (wsM y_MO_feed b_MO_feed 8 (some .int)) (rmD 0)).room s m ([.ref (b + 191), vI x1, vI x2, vI x3, vI x4, vI x5] : List Value).toArray below meth c H locs 0 0 (MQ below (QI b C n res.1 res.2) ([.ref (b + 191), vI x1, vI x2, vI x3, vI x4, vI x5] : List Value).toArray s 0 0 (frb b)) (F0 m 73 ls [vI v7_]) := by
  unfold t_MO_feed_L73 at hT
  refine lv_istore (lv' := [(7, vI v7_), (0, .ref (b + 191)), (1, vI x1), (2, vI x2), (3, vI x3), (4, vI x4), (5, vI x5), (6, vI v6_)]) F.hx F.hb d_MO_feed_73 hl (Nat.le_of_ble_eq_true rfl) rfl (fun ls hl => ?_)
  refine lv_aload_n F.hx F.hb d_MO_feed_75 rfl (lv_at hl 1 rfl) ?_
  refine r_get (v := .ref (b + 192)) (N := 68) (T := T1) (j := 1) F hS (show 191 < 231 by decide) (show shK 191 = 5 from rfl) (show shN 191 = 68 from rfl) rfl (Nat.le_of_ble_eq_true rfl) ing1 mw_1390 (fv_sg rfl rfl rfl) d_MO_feed_76 ?_
  refine lv_aload_n F.hx F.hb d_MO_feed_79 rfl (lv_at hl 1 rfl) ?_
  refine r_get (v := vI (M.1 191 2)) (N := 68) (T := T1) (j := 2) F hS (show 191 < 231 by decide) (show shK 191 = 5 from rfl) (show shN 191 = 68 from rfl) rfl (Nat.le_of_ble_eq_true rfl) ing1 mw_1391 (fv_int rfl) d_MO_feed_80 ?_
  have i12 := hS.rng 191 2
  refine lv_iload F.hx F.hb d_MO_feed_83 (lv_at hl 7 rfl) ?_
  refine r_iadd F.hx F.hb d_MO_feed_85 ?_
  refine lv_iload F.hx F.hb d_MO_feed_86 (lv_at hl 0 rfl) ?_
  refine r_bipush F.hx F.hb d_MO_feed_88 rfl ?_
  refine r_bipush F.hx F.hb d_MO_feed_90 rfl ?_
  refine lv_iload F.hx F.hb d_MO_feed_92 (lv_at hl 7 rfl) ?_
  refine r_iconst F.hx F.hb d_MO_feed_94 ?_
  refine r_irem F.hx F.hb (inr_c rfl) (by decide) d_MO_feed_95 ?_
  refine r_imul F.hx F.hb d_MO_feed_96 ?_
  refine r_isub F.hx F.hb d_MO_feed_97 ?_
  refine r_ishr F.hx F.hb d_MO_feed_98 ?_
  refine r_sipush F.hx F.hb d_MO_feed_99 rfl ?_
  refine r_iand F.hx F.hb d_MO_feed_102 ?_
  obtain ⟨⟨g13a, g13b⟩, hT⟩ := q_guard hT
  refine r_iast F hS (show 192 < 231 by decide) (show shK 192 = 0 from rfl) (show shN 192 = 700 from rfl) (inr_w32 _) (q_inr_toInt _) g13a g13b d_MO_feed_103 (fun H locs hS => ?_)
  obtain ⟨M14, eM14⟩ : ∃ q, q = (setI M 192 (w32 ((M.1 191 2) + v6_)) (q_and (q_shr v7_ (w32 (24 - (w32 (8 * (q_rem v6_ 4)))))) 255)) := ⟨_, rfl⟩
  replace hS : St b C n M14 s H locs := by rw [eM14]; exact hS
  replace hT := qlet_eq hT eM14
  refine lv_iinc (v := Int32.ofInt (w32 (v6_ + 1))) (lv' := [(6, vI (w32 (v6_ + 1))), (7, vI v7_), (0, .ref (b + 191)), (1, vI x1), (2, vI x2), (3, vI x3), (4, vI x4), (5, vI x5)]) F.hx F.hb d_MO_feed_104 hl (k := 7) rfl (q_of_add _ _) (Nat.le_of_ble_eq_true rfl) rfl (fun ls hl => ?_)
  refine lv_goto (tgt := 20) F.hx F.hb d_MO_feed_107 (by decide) ?_
  exact hbk20 M14 (w32 (v6_ + 1)) (inr_w32 _) _ _ _ hS (lv_sub hl [2, 3, 4, 5, 6, 7, 0] rfl) hT
set_option maxHeartbeats 4000000 in
set_option maxRecDepth 100000 in
theorem k_MO_feed_L20 (l : Launch) {p : Program} {e : Env} {s : State} {m : MethodId} {below : List Frame} {meth : Method} {c : Code} {b n : Nat} {C : CT} (hlo : 231 ≤ n) (x1 : Int) (x2 : Int) (x3 : Int) (x4 : Int) (x5 : Int) (hx1 : InR x1) (hx2 : InR x2) (hx3 : InR x3) (hx4 : InR x4) (hx5 : InR x5) (F : Cx b p m c b_MO_feed 8 s ([.ref (b + 191), vI x1, vI x2, vI x3, vI x4, vI x5] : List Value).toArray "WardFallsModel" C n 231) (hlk : meth.locks = false) (hr : meth.sig.returnType = some .int) {res : Mem × Int} : ∀ (fu : Nat) (M : Mem) (v6_ : Int) (hv6_ : InR v6_) (H : Heap) (locs : List Loc) (ls : Array Slot), St b C n M s H locs → lv_has ls 8 [(0, .ref (b + 191)), (1, vI x1), (2, vI x2), (3, vI x3), (4, vI x4), (5, vI x5), (6, vI v6_)] → t_MO_feed_L20 x1 x2 x3 x4 x5 fu M v6_ = some res → W p l e (headSpec (wsM y_MO_feed b_MO_feed 8 (some .int)) (rmD 0)).room s m ([.ref (b + 191), vI x1, vI x2, vI x3, vI x4, vI x5] : List Value).toArray below meth c H locs 0 0 (MQ below (QI b C n res.1 res.2) ([.ref (b + 191), vI x1, vI x2, vI x3, vI x4, vI x5] : List Value).toArray s 0 0 (frb b)) (F0 m 20 ls []) := by
  intro fu
  induction fu with
  | zero => intro M v6_ hv6_ H locs ls hS hl hT; exact absurd hT (by simp [t_MO_feed_L20])
  | succ fu ih =>
    intro M v6_ hv6_ H locs ls hS hl hT
    rw [t_MO_feed_L20] at hT
    refine lv_iload F.hx F.hb d_MO_feed_20 (lv_at hl 6 rfl) ?_
    refine r_bipush F.hx F.hb d_MO_feed_22 rfl ?_
    refine r_icmp_ge (tgt := 110) F.hx F.hb hv6_ (inr_c rfl) d_MO_feed_24 (by decide) (fun c4 => ?_) (fun c4 => ?_)
    · replace hT := (if_pos c4).symm.trans hT
      refine lv_aload_n F.hx F.hb d_MO_feed_110 rfl (lv_at hl 0 rfl) ?_
      refine lv_dup F.hx F.hb d_MO_feed_111 rfl ?_
      refine r_get (v := vI (M.1 191 2)) (N := 68) (T := T1) (j := 2) F hS (show 191 < 231 by decide) (show shK 191 = 5 from rfl) (show shN 191 = 68 from rfl) rfl (Nat.le_of_ble_eq_true rfl) ing1 mw_1391 (fv_int rfl) d_MO_feed_112 ?_
      have i5 := hS.rng 191 2
      refine r_bipush F.hx F.hb d_MO_feed_115 rfl ?_
      refine r_iadd F.hx F.hb d_MO_feed_117 ?_
      refine r_putI (N := 68) (T := T1) (j := 2) F hS (show 191 < 231 by decide) (show shK 191 = 5 from rfl) (show shN 191 = 68 from rfl) rfl (Nat.le_of_ble_eq_true rfl) ing1 tyok1 nm1 rfl rfl rfl rfl rfl rfl mw_1391 (inr_w32 _) d_MO_feed_118 (fun H locs hS => ?_)
      obtain ⟨M6, eM6⟩ : ∃ q, q = (setI M 191 2 (w32 ((M.1 191 2) + 20))) := ⟨_, rfl⟩
      replace hS : St b C n M6 s H locs := by rw [eM6]; exact hS
      replace hT := qlet_eq hT eM6
      refine lv_aload_n F.hx F.hb d_MO_feed_121 rfl (lv_at hl 0 rfl) ?_
      refine r_get (v := vI (M6.1 191 2)) (N := 68) (T := T1) (j := 2) F hS (show 191 < 231 by decide) (show shK 191 = 5 from rfl) (show shN 191 = 68 from rfl) rfl (Nat.le_of_ble_eq_true rfl) ing1 mw_1391 (fv_int rfl) d_MO_feed_122 ?_
      have i7 := hS.rng 191 2
      cases hT
      exact r_iret F hlk hr rfl hS i7 d_MO_feed_125
    · replace hT := (if_neg c4).symm.trans hT
      refine lv_iload F.hx F.hb d_MO_feed_27 (lv_at hl 6 rfl) ?_
      refine r_iconst F.hx F.hb d_MO_feed_29 ?_
      refine r_icmp_ge (tgt := 37) F.hx F.hb hv6_ (inr_c rfl) d_MO_feed_30 (by decide) (fun c8 => ?_) (fun c8 => ?_)
      · replace hT := (if_pos c8).symm.trans hT
        refine lv_iload F.hx F.hb d_MO_feed_37 (lv_at hl 6 rfl) ?_
        refine r_bipush F.hx F.hb d_MO_feed_39 rfl ?_
        refine r_icmp_ge (tgt := 48) F.hx F.hb hv6_ (inr_c rfl) d_MO_feed_41 (by decide) (fun c9 => ?_) (fun c9 => ?_)
        · replace hT := (if_pos c9).symm.trans hT
          refine lv_iload F.hx F.hb d_MO_feed_48 (lv_at hl 6 rfl) ?_
          refine r_bipush F.hx F.hb d_MO_feed_50 rfl ?_
          refine r_icmp_ge (tgt := 59) F.hx F.hb hv6_ (inr_c rfl) d_MO_feed_52 (by decide) (fun c10 => ?_) (fun c10 => ?_)
          · replace hT := (if_pos c10).symm.trans hT
            refine lv_iload F.hx F.hb d_MO_feed_59 (lv_at hl 6 rfl) ?_
            refine r_bipush F.hx F.hb d_MO_feed_61 rfl ?_
            refine r_icmp_ge (tgt := 71) F.hx F.hb hv6_ (inr_c rfl) d_MO_feed_63 (by decide) (fun c11 => ?_) (fun c11 => ?_)
            · replace hT := (if_pos c11).symm.trans hT
              refine lv_iload F.hx F.hb d_MO_feed_71 (lv_at hl 5 rfl) ?_
              exact k_MO_feed_L73 l hlo x1 x2 x3 x4 x5 hx1 hx2 hx3 hx4 hx5 F hlk hr (fun a0_ a1_ => t_MO_feed_L20 x1 x2 x3 x4 x5 fu a0_ a1_) ih M v6_ hv6_ x5 hx5 _ _ _ hS (lv_sub hl [0, 1, 2, 3, 4, 5, 6] rfl) hT
            · replace hT := (if_neg c11).symm.trans hT
              refine lv_iload F.hx F.hb d_MO_feed_66 (lv_at hl 4 rfl) ?_
              refine lv_goto (tgt := 73) F.hx F.hb d_MO_feed_68 (by decide) ?_
              exact k_MO_feed_L73 l hlo x1 x2 x3 x4 x5 hx1 hx2 hx3 hx4 hx5 F hlk hr (fun a0_ a1_ => t_MO_feed_L20 x1 x2 x3 x4 x5 fu a0_ a1_) ih M v6_ hv6_ x4 hx4 _ _ _ hS (lv_sub hl [0, 1, 2, 3, 4, 5, 6] rfl) hT
          · replace hT := (if_neg c10).symm.trans hT
            refine lv_iload_n F.hx F.hb d_MO_feed_55 rfl (lv_at hl 3 rfl) ?_
            refine lv_goto (tgt := 73) F.hx F.hb d_MO_feed_56 (by decide) ?_
            exact k_MO_feed_L73 l hlo x1 x2 x3 x4 x5 hx1 hx2 hx3 hx4 hx5 F hlk hr (fun a0_ a1_ => t_MO_feed_L20 x1 x2 x3 x4 x5 fu a0_ a1_) ih M v6_ hv6_ x3 hx3 _ _ _ hS (lv_sub hl [0, 1, 2, 3, 4, 5, 6] rfl) hT
        · replace hT := (if_neg c9).symm.trans hT
          refine lv_iload_n F.hx F.hb d_MO_feed_44 rfl (lv_at hl 2 rfl) ?_
          refine lv_goto (tgt := 73) F.hx F.hb d_MO_feed_45 (by decide) ?_
          exact k_MO_feed_L73 l hlo x1 x2 x3 x4 x5 hx1 hx2 hx3 hx4 hx5 F hlk hr (fun a0_ a1_ => t_MO_feed_L20 x1 x2 x3 x4 x5 fu a0_ a1_) ih M v6_ hv6_ x2 hx2 _ _ _ hS (lv_sub hl [0, 1, 2, 3, 4, 5, 6] rfl) hT
      · replace hT := (if_neg c8).symm.trans hT
        refine lv_iload_n F.hx F.hb d_MO_feed_33 rfl (lv_at hl 1 rfl) ?_
        refine lv_goto (tgt := 73) F.hx F.hb d_MO_feed_34 (by decide) ?_
        exact k_MO_feed_L73 l hlo x1 x2 x3 x4 x5 hx1 hx2 hx3 hx4 hx5 F hlk hr (fun a0_ a1_ => t_MO_feed_L20 x1 x2 x3 x4 x5 fu a0_ a1_) ih M v6_ hv6_ x1 hx1 _ _ _ hS (lv_sub hl [0, 1, 2, 3, 4, 5, 6] rfl) hT
set_option maxHeartbeats 4000000 in
set_option maxRecDepth 100000 in
theorem c_MO_feed (l : Launch) {b n : Nat} {C : CT} (hlo : 231 ≤ n) (M : Mem) (x1 : Int) (x2 : Int) (x3 : Int) (x4 : Int) (x5 : Int) (hx1 : InR x1) (hx2 : InR x2) (hx3 : InR x3) (hx4 : InR x4) (hx5 : InR x5) (res : Mem × Int) (hT : t_MO_feed M x1 x2 x3 x4 x5 = some res) : CM l b C n 0 y_MO_feed b_MO_feed 8 (some .int) [.ref (b + 191), vI x1, vI x2, vI x3, vI x4, vI x5] M (QI b C n res.1 res.2) := by
  refine CM.of (lo := 231) (ow := "WardFallsModel") (by decide) rfl (Nat.le_of_ble_eq_true rfl) hlo (fun p e s m below meth c F hlk hr hS ls hl => ?_)
  have hl : lv_has ls 8 [(0, .ref (b + 191)), (1, vI x1), (2, vI x2), (3, vI x3), (4, vI x4), (5, vI x5)] := hl
  unfold t_MO_feed at hT
  refine lv_aload_n F.hx F.hb d_MO_feed_0 rfl (lv_at hl 0 rfl) ?_
  refine r_iconst F.hx F.hb d_MO_feed_1 ?_
  refine r_putI (N := 68) (T := T1) (j := 0) F hS (show 191 < 231 by decide) (show shK 191 = 5 from rfl) (show shN 191 = 68 from rfl) rfl (Nat.le_of_ble_eq_true rfl) ing1 tyok1 nm1 rfl rfl rfl rfl rfl rfl mw_1389 (inr_c rfl) d_MO_feed_2 (fun H locs hS => ?_)
  obtain ⟨M1, eM1⟩ : ∃ q, q = (setI M 191 0 0) := ⟨_, rfl⟩
  replace hS : St b C n M1 s H locs := by rw [eM1]; exact hS
  replace hT := qlet_eq hT eM1
  refine lv_aload_n F.hx F.hb d_MO_feed_5 rfl (lv_at hl 0 rfl) ?_
  refine r_get (v := vI (M1.1 191 2)) (N := 68) (T := T1) (j := 2) F hS (show 191 < 231 by decide) (show shK 191 = 5 from rfl) (show shN 191 = 68 from rfl) rfl (Nat.le_of_ble_eq_true rfl) ing1 mw_1391 (fv_int rfl) d_MO_feed_6 ?_
  have i2 := hS.rng 191 2
  refine r_sipush F.hx F.hb d_MO_feed_9 rfl ?_
  refine r_icmp_le (tgt := 17) F.hx F.hb i2 (inr_c rfl) d_MO_feed_12 (by decide) (fun c3 => ?_) (fun c3 => ?_)
  · replace hT := (if_pos c3).symm.trans hT
    refine r_iconst F.hx F.hb d_MO_feed_17 ?_
    refine lv_istore (lv' := [(6, vI 0), (0, .ref (b + 191)), (1, vI x1), (2, vI x2), (3, vI x3), (4, vI x4), (5, vI x5)]) F.hx F.hb d_MO_feed_18 hl (Nat.le_of_ble_eq_true rfl) rfl (fun ls hl => ?_)
    exact k_MO_feed_L20 l hlo x1 x2 x3 x4 x5 hx1 hx2 hx3 hx4 hx5 F hlk hr FU M1 0 (inr_c rfl) _ _ _ hS (lv_sub hl [1, 2, 3, 4, 5, 6, 0] rfl) hT
  · replace hT := (if_neg c3).symm.trans hT
    refine r_iconst F.hx F.hb d_MO_feed_15 ?_
    cases hT
    exact r_iret F hlk hr rfl hS (inr_c rfl) d_MO_feed_16
theorem d_MO_here_0 : decode b_MO_here 0 = .ok (.aload_n 0, 1) := dc_42 (by decide +kernel)
theorem d_MO_here_1 : decode b_MO_here 1 = .ok (.getfield 151, 3) := dc_180 (by decide +kernel)
theorem d_MO_here_4 : decode b_MO_here 4 = .ok (.aload_n 0, 1) := dc_42 (by decide +kernel)
theorem d_MO_here_5 : decode b_MO_here 5 = .ok (.getfield 154, 3) := dc_180 (by decide +kernel)
theorem d_MO_here_8 : decode b_MO_here 8 = .ok (.if_icmp .ge 15, 3) := dc_162 (by decide +kernel)
theorem d_MO_here_11 : decode b_MO_here 11 = .ok (.aload_n 0, 1) := dc_42 (by decide +kernel)
theorem d_MO_here_12 : decode b_MO_here 12 = .ok (.getfield 7, 3) := dc_180 (by decide +kernel)
theorem d_MO_here_15 : decode b_MO_here 15 = .ok (.aload_n 0, 1) := dc_42 (by decide +kernel)
theorem d_MO_here_16 : decode b_MO_here 16 = .ok (.getfield 151, 3) := dc_180 (by decide +kernel)
theorem d_MO_here_19 : decode b_MO_here 19 = .ok (.iaload, 1) := dc_46 (by decide +kernel)
theorem d_MO_here_20 : decode b_MO_here 20 = .ok (.goto 4, 3) := dc_167 (by decide +kernel)
theorem d_MO_here_23 : decode b_MO_here 23 = .ok (.iconst (-1), 1) := dc_2 (by decide +kernel)
theorem d_MO_here_24 : decode b_MO_here 24 = .ok (.ireturn, 1) := dc_172 (by decide +kernel)
def t_MO_here (M : Mem)  : Option (Int) := (if (M.1 191 19) ≤ (M.1 191 20) then (some (-1)) else (qguard (0 ≤ (M.1 191 20) ∧ (M.1 191 20) < 700) (some (M.1 192 (M.1 191 20)))))
set_option maxHeartbeats 4000000 in
set_option maxRecDepth 100000 in
theorem c_MO_here (l : Launch) {b n : Nat} {C : CT} (hlo : 231 ≤ n) (M : Mem)   (res : Int) (hT : t_MO_here M  = some res) : CM l b C n 0 y_MO_here b_MO_here 1 (some .int) [.ref (b + 191)] M (QI b C n M res) := by
  refine CM.of (lo := 231) (ow := "WardFallsModel") (by decide) rfl (Nat.le_of_ble_eq_true rfl) hlo (fun p e s m below meth c F hlk hr hS ls hl => ?_)
  have hl : lv_has ls 1 [(0, .ref (b + 191))] := hl
  unfold t_MO_here at hT
  refine lv_aload_n F.hx F.hb d_MO_here_0 rfl (lv_at hl 0 rfl) ?_
  refine r_get (v := vI (M.1 191 20)) (N := 68) (T := T1) (j := 20) F hS (show 191 < 231 by decide) (show shK 191 = 5 from rfl) (show shN 191 = 68 from rfl) rfl (Nat.le_of_ble_eq_true rfl) ing1 mw_1409 (fv_int rfl) d_MO_here_1 ?_
  have i1 := hS.rng 191 20
  refine lv_aload_n F.hx F.hb d_MO_here_4 rfl (lv_at hl 0 rfl) ?_
  refine r_get (v := vI (M.1 191 19)) (N := 68) (T := T1) (j := 19) F hS (show 191 < 231 by decide) (show shK 191 = 5 from rfl) (show shN 191 = 68 from rfl) rfl (Nat.le_of_ble_eq_true rfl) ing1 mw_1408 (fv_int rfl) d_MO_here_5 ?_
  have i2 := hS.rng 191 19
  refine r_icmp_ge (tgt := 23) F.hx F.hb i1 i2 d_MO_here_8 (by decide) (fun c3 => ?_) (fun c3 => ?_)
  · replace hT := (if_pos c3).symm.trans hT
    refine r_iconst F.hx F.hb d_MO_here_23 ?_
    cases hT
    exact r_iret F hlk hr rfl hS (inr_c rfl) d_MO_here_24
  · replace hT := (if_neg c3).symm.trans hT
    refine lv_aload_n F.hx F.hb d_MO_here_11 rfl (lv_at hl 0 rfl) ?_
    refine r_get (v := .ref (b + 192)) (N := 68) (T := T1) (j := 1) F hS (show 191 < 231 by decide) (show shK 191 = 5 from rfl) (show shN 191 = 68 from rfl) rfl (Nat.le_of_ble_eq_true rfl) ing1 mw_1390 (fv_sg rfl rfl rfl) d_MO_here_12 ?_
    refine lv_aload_n F.hx F.hb d_MO_here_15 rfl (lv_at hl 0 rfl) ?_
    refine r_get (v := vI (M.1 191 20)) (N := 68) (T := T1) (j := 20) F hS (show 191 < 231 by decide) (show shK 191 = 5 from rfl) (show shN 191 = 68 from rfl) rfl (Nat.le_of_ble_eq_true rfl) ing1 mw_1409 (fv_int rfl) d_MO_here_16 ?_
    have i4 := hS.rng 191 20
    obtain ⟨⟨g5a, g5b⟩, hT⟩ := q_guard hT
    refine r_iald F hS (show 192 < 231 by decide) (show shK 192 = 0 from rfl) (show shN 192 = 700 from rfl) i4 g5a g5b d_MO_here_19 ?_
    have i6 := hS.rng 192 (M.1 191 20)
    refine lv_goto (tgt := 24) F.hx F.hb d_MO_here_20 (by decide) ?_
    cases hT
    exact r_iret F hlk hr rfl hS i6 d_MO_here_24
theorem d_MO_isSmall_0 : decode b_MO_isSmall 0 = .ok (.iload_n 0, 1) := dc_26 (by decide +kernel)
theorem d_MO_isSmall_1 : decode b_MO_isSmall 1 = .ok (.bipush 97, 2) := dc_16 (by decide +kernel)
theorem d_MO_isSmall_3 : decode b_MO_isSmall 3 = .ok (.if_icmp .lt 13, 3) := dc_161 (by decide +kernel)
theorem d_MO_isSmall_6 : decode b_MO_isSmall 6 = .ok (.iload_n 0, 1) := dc_26 (by decide +kernel)
theorem d_MO_isSmall_7 : decode b_MO_isSmall 7 = .ok (.bipush 122, 2) := dc_16 (by decide +kernel)
theorem d_MO_isSmall_9 : decode b_MO_isSmall 9 = .ok (.if_icmp .gt 7, 3) := dc_163 (by decide +kernel)
theorem d_MO_isSmall_12 : decode b_MO_isSmall 12 = .ok (.iconst 1, 1) := dc_4 (by decide +kernel)
theorem d_MO_isSmall_13 : decode b_MO_isSmall 13 = .ok (.goto 4, 3) := dc_167 (by decide +kernel)
theorem d_MO_isSmall_16 : decode b_MO_isSmall 16 = .ok (.iconst 0, 1) := dc_3 (by decide +kernel)
theorem d_MO_isSmall_17 : decode b_MO_isSmall 17 = .ok (.ireturn, 1) := dc_172 (by decide +kernel)
def t_MO_isSmall (M : Mem) (x1 : Int) : Int := (if x1 < 97 then 0 else (if 122 < x1 then 0 else 1))
set_option maxHeartbeats 4000000 in
set_option maxRecDepth 100000 in
theorem c_MO_isSmall (l : Launch) {b n : Nat} {C : CT} (hlo : 231 ≤ n) (M : Mem) (x1 : Int) (hx1 : InR x1) (res : Int) (hT : t_MO_isSmall M x1 = res) : CM l b C n 0 y_MO_isSmall b_MO_isSmall 1 (some .boolean) [vI x1] M (QZ b C n M res) := by
  refine CM.of (lo := 231) (ow := "WardFallsModel") (by decide) rfl (Nat.le_of_ble_eq_true rfl) hlo (fun p e s m below meth c F hlk hr hS ls hl => ?_)
  have hl : lv_has ls 1 [(0, vI x1)] := hl
  unfold t_MO_isSmall at hT
  refine lv_iload_n F.hx F.hb d_MO_isSmall_0 rfl (lv_at hl 0 rfl) ?_
  refine r_bipush F.hx F.hb d_MO_isSmall_1 rfl ?_
  refine r_icmp_lt (tgt := 16) F.hx F.hb hx1 (inr_c rfl) d_MO_isSmall_3 (by decide) (fun c1 => ?_) (fun c1 => ?_)
  · replace hT := (if_pos c1).symm.trans hT
    refine r_iconst F.hx F.hb d_MO_isSmall_16 ?_
    subst hT
    exact r_zret F hlk hr hS (Or.inl rfl) d_MO_isSmall_17
  · replace hT := (if_neg c1).symm.trans hT
    refine lv_iload_n F.hx F.hb d_MO_isSmall_6 rfl (lv_at hl 0 rfl) ?_
    refine r_bipush F.hx F.hb d_MO_isSmall_7 rfl ?_
    refine r_icmp_gt (tgt := 16) F.hx F.hb hx1 (inr_c rfl) d_MO_isSmall_9 (by decide) (fun c2 => ?_) (fun c2 => ?_)
    · replace hT := (if_pos c2).symm.trans hT
      refine r_iconst F.hx F.hb d_MO_isSmall_16 ?_
      subst hT
      exact r_zret F hlk hr hS (Or.inl rfl) d_MO_isSmall_17
    · replace hT := (if_neg c2).symm.trans hT
      refine r_iconst F.hx F.hb d_MO_isSmall_12 ?_
      refine lv_goto (tgt := 17) F.hx F.hb d_MO_isSmall_13 (by decide) ?_
      subst hT
      exact r_zret F hlk hr hS (Or.inr rfl) d_MO_isSmall_17
theorem d_MO_isDigit_0 : decode b_MO_isDigit 0 = .ok (.iload_n 0, 1) := dc_26 (by decide +kernel)
theorem d_MO_isDigit_1 : decode b_MO_isDigit 1 = .ok (.bipush 48, 2) := dc_16 (by decide +kernel)
theorem d_MO_isDigit_3 : decode b_MO_isDigit 3 = .ok (.if_icmp .lt 13, 3) := dc_161 (by decide +kernel)
theorem d_MO_isDigit_6 : decode b_MO_isDigit 6 = .ok (.iload_n 0, 1) := dc_26 (by decide +kernel)
theorem d_MO_isDigit_7 : decode b_MO_isDigit 7 = .ok (.bipush 57, 2) := dc_16 (by decide +kernel)
theorem d_MO_isDigit_9 : decode b_MO_isDigit 9 = .ok (.if_icmp .gt 7, 3) := dc_163 (by decide +kernel)
theorem d_MO_isDigit_12 : decode b_MO_isDigit 12 = .ok (.iconst 1, 1) := dc_4 (by decide +kernel)
theorem d_MO_isDigit_13 : decode b_MO_isDigit 13 = .ok (.goto 4, 3) := dc_167 (by decide +kernel)
theorem d_MO_isDigit_16 : decode b_MO_isDigit 16 = .ok (.iconst 0, 1) := dc_3 (by decide +kernel)
theorem d_MO_isDigit_17 : decode b_MO_isDigit 17 = .ok (.ireturn, 1) := dc_172 (by decide +kernel)
def t_MO_isDigit (M : Mem) (x1 : Int) : Int := (if x1 < 48 then 0 else (if 57 < x1 then 0 else 1))
set_option maxHeartbeats 4000000 in
set_option maxRecDepth 100000 in
theorem c_MO_isDigit (l : Launch) {b n : Nat} {C : CT} (hlo : 231 ≤ n) (M : Mem) (x1 : Int) (hx1 : InR x1) (res : Int) (hT : t_MO_isDigit M x1 = res) : CM l b C n 0 y_MO_isDigit b_MO_isDigit 1 (some .boolean) [vI x1] M (QZ b C n M res) := by
  refine CM.of (lo := 231) (ow := "WardFallsModel") (by decide) rfl (Nat.le_of_ble_eq_true rfl) hlo (fun p e s m below meth c F hlk hr hS ls hl => ?_)
  have hl : lv_has ls 1 [(0, vI x1)] := hl
  unfold t_MO_isDigit at hT
  refine lv_iload_n F.hx F.hb d_MO_isDigit_0 rfl (lv_at hl 0 rfl) ?_
  refine r_bipush F.hx F.hb d_MO_isDigit_1 rfl ?_
  refine r_icmp_lt (tgt := 16) F.hx F.hb hx1 (inr_c rfl) d_MO_isDigit_3 (by decide) (fun c1 => ?_) (fun c1 => ?_)
  · replace hT := (if_pos c1).symm.trans hT
    refine r_iconst F.hx F.hb d_MO_isDigit_16 ?_
    subst hT
    exact r_zret F hlk hr hS (Or.inl rfl) d_MO_isDigit_17
  · replace hT := (if_neg c1).symm.trans hT
    refine lv_iload_n F.hx F.hb d_MO_isDigit_6 rfl (lv_at hl 0 rfl) ?_
    refine r_bipush F.hx F.hb d_MO_isDigit_7 rfl ?_
    refine r_icmp_gt (tgt := 16) F.hx F.hb hx1 (inr_c rfl) d_MO_isDigit_9 (by decide) (fun c2 => ?_) (fun c2 => ?_)
    · replace hT := (if_pos c2).symm.trans hT
      refine r_iconst F.hx F.hb d_MO_isDigit_16 ?_
      subst hT
      exact r_zret F hlk hr hS (Or.inl rfl) d_MO_isDigit_17
    · replace hT := (if_neg c2).symm.trans hT
      refine r_iconst F.hx F.hb d_MO_isDigit_12 ?_
      refine lv_goto (tgt := 17) F.hx F.hb d_MO_isDigit_13 (by decide) ?_
      subst hT
      exact r_zret F hlk hr hS (Or.inr rfl) d_MO_isDigit_17
theorem d_MO_word_0 : decode b_MO_word 0 = .ok (.iconst 0, 1) := dc_3 (by decide +kernel)
theorem d_MO_word_1 : decode b_MO_word 1 = .ok (.istore_n 1, 1) := dc_60 (by decide +kernel)
theorem d_MO_word_2 : decode b_MO_word 2 = .ok (.iconst 0, 1) := dc_3 (by decide +kernel)
theorem d_MO_word_3 : decode b_MO_word 3 = .ok (.istore_n 2, 1) := dc_61 (by decide +kernel)
theorem d_MO_word_4 : decode b_MO_word 4 = .ok (.iload_n 2, 1) := dc_28 (by decide +kernel)
theorem d_MO_word_5 : decode b_MO_word 5 = .ok (.ldc 188, 2) := dc_18 (by decide +kernel)
theorem d_MO_word_7 : decode b_MO_word 7 = .ok (.invokevirtual 190, 3) := dc_182 (by decide +kernel)
theorem d_MO_word_10 : decode b_MO_word 10 = .ok (.if_icmp .ge 113, 3) := dc_162 (by decide +kernel)
theorem d_MO_word_13 : decode b_MO_word 13 = .ok (.iconst 0, 1) := dc_3 (by decide +kernel)
theorem d_MO_word_14 : decode b_MO_word 14 = .ok (.istore_n 3, 1) := dc_62 (by decide +kernel)
theorem d_MO_word_15 : decode b_MO_word 15 = .ok (.ldc 188, 2) := dc_18 (by decide +kernel)
theorem d_MO_word_17 : decode b_MO_word 17 = .ok (.iload_n 2, 1) := dc_28 (by decide +kernel)
theorem d_MO_word_18 : decode b_MO_word 18 = .ok (.iload_n 3, 1) := dc_29 (by decide +kernel)
theorem d_MO_word_19 : decode b_MO_word 19 = .ok (.iadd, 1) := dc_96 (by decide +kernel)
theorem d_MO_word_20 : decode b_MO_word 20 = .ok (.invokevirtual 195, 3) := dc_182 (by decide +kernel)
theorem d_MO_word_23 : decode b_MO_word 23 = .ok (.bipush 32, 2) := dc_16 (by decide +kernel)
theorem d_MO_word_25 : decode b_MO_word 25 = .ok (.if_icmp .eq 44, 3) := dc_159 (by decide +kernel)
theorem d_MO_word_28 : decode b_MO_word 28 = .ok (.aload_n 0, 1) := dc_42 (by decide +kernel)
theorem d_MO_word_29 : decode b_MO_word 29 = .ok (.getfield 161, 3) := dc_180 (by decide +kernel)
theorem d_MO_word_32 : decode b_MO_word 32 = .ok (.iload_n 3, 1) := dc_29 (by decide +kernel)
theorem d_MO_word_33 : decode b_MO_word 33 = .ok (.iadd, 1) := dc_96 (by decide +kernel)
theorem d_MO_word_34 : decode b_MO_word 34 = .ok (.aload_n 0, 1) := dc_42 (by decide +kernel)
theorem d_MO_word_35 : decode b_MO_word 35 = .ok (.getfield 151, 3) := dc_180 (by decide +kernel)
theorem d_MO_word_38 : decode b_MO_word 38 = .ok (.if_icmp .ge 31, 3) := dc_162 (by decide +kernel)
theorem d_MO_word_41 : decode b_MO_word 41 = .ok (.aload_n 0, 1) := dc_42 (by decide +kernel)
theorem d_MO_word_42 : decode b_MO_word 42 = .ok (.getfield 7, 3) := dc_180 (by decide +kernel)
theorem d_MO_word_45 : decode b_MO_word 45 = .ok (.aload_n 0, 1) := dc_42 (by decide +kernel)
theorem d_MO_word_46 : decode b_MO_word 46 = .ok (.getfield 161, 3) := dc_180 (by decide +kernel)
theorem d_MO_word_49 : decode b_MO_word 49 = .ok (.iload_n 3, 1) := dc_29 (by decide +kernel)
theorem d_MO_word_50 : decode b_MO_word 50 = .ok (.iadd, 1) := dc_96 (by decide +kernel)
theorem d_MO_word_51 : decode b_MO_word 51 = .ok (.iaload, 1) := dc_46 (by decide +kernel)
theorem d_MO_word_52 : decode b_MO_word 52 = .ok (.ldc 188, 2) := dc_18 (by decide +kernel)
theorem d_MO_word_54 : decode b_MO_word 54 = .ok (.iload_n 2, 1) := dc_28 (by decide +kernel)
theorem d_MO_word_55 : decode b_MO_word 55 = .ok (.iload_n 3, 1) := dc_29 (by decide +kernel)
theorem d_MO_word_56 : decode b_MO_word 56 = .ok (.iadd, 1) := dc_96 (by decide +kernel)
theorem d_MO_word_57 : decode b_MO_word 57 = .ok (.invokevirtual 195, 3) := dc_182 (by decide +kernel)
theorem d_MO_word_60 : decode b_MO_word 60 = .ok (.if_icmp .ne 9, 3) := dc_160 (by decide +kernel)
theorem d_MO_word_63 : decode b_MO_word 63 = .ok (.iinc 3 1, 3) := dc_132 (by decide +kernel)
theorem d_MO_word_66 : decode b_MO_word 66 = .ok (.goto (-51), 3) := dc_167 (by decide +kernel)
theorem d_MO_word_69 : decode b_MO_word 69 = .ok (.ldc 188, 2) := dc_18 (by decide +kernel)
theorem d_MO_word_71 : decode b_MO_word 71 = .ok (.iload_n 2, 1) := dc_28 (by decide +kernel)
theorem d_MO_word_72 : decode b_MO_word 72 = .ok (.iload_n 3, 1) := dc_29 (by decide +kernel)
theorem d_MO_word_73 : decode b_MO_word 73 = .ok (.iadd, 1) := dc_96 (by decide +kernel)
theorem d_MO_word_74 : decode b_MO_word 74 = .ok (.invokevirtual 195, 3) := dc_182 (by decide +kernel)
theorem d_MO_word_77 : decode b_MO_word 77 = .ok (.bipush 32, 2) := dc_16 (by decide +kernel)
theorem d_MO_word_79 : decode b_MO_word 79 = .ok (.if_icmp .ne 18, 3) := dc_160 (by decide +kernel)
theorem d_MO_word_82 : decode b_MO_word 82 = .ok (.aload_n 0, 1) := dc_42 (by decide +kernel)
theorem d_MO_word_83 : decode b_MO_word 83 = .ok (.getfield 161, 3) := dc_180 (by decide +kernel)
theorem d_MO_word_86 : decode b_MO_word 86 = .ok (.iload_n 3, 1) := dc_29 (by decide +kernel)
theorem d_MO_word_87 : decode b_MO_word 87 = .ok (.iadd, 1) := dc_96 (by decide +kernel)
theorem d_MO_word_88 : decode b_MO_word 88 = .ok (.aload_n 0, 1) := dc_42 (by decide +kernel)
theorem d_MO_word_89 : decode b_MO_word 89 = .ok (.getfield 151, 3) := dc_180 (by decide +kernel)
theorem d_MO_word_92 : decode b_MO_word 92 = .ok (.if_icmp .ne 5, 3) := dc_160 (by decide +kernel)
theorem d_MO_word_95 : decode b_MO_word 95 = .ok (.iload_n 1, 1) := dc_27 (by decide +kernel)
theorem d_MO_word_96 : decode b_MO_word 96 = .ok (.ireturn, 1) := dc_172 (by decide +kernel)
theorem d_MO_word_97 : decode b_MO_word 97 = .ok (.ldc 188, 2) := dc_18 (by decide +kernel)
theorem d_MO_word_99 : decode b_MO_word 99 = .ok (.iload_n 2, 1) := dc_28 (by decide +kernel)
theorem d_MO_word_100 : decode b_MO_word 100 = .ok (.invokevirtual 195, 3) := dc_182 (by decide +kernel)
theorem d_MO_word_103 : decode b_MO_word 103 = .ok (.bipush 32, 2) := dc_16 (by decide +kernel)
theorem d_MO_word_105 : decode b_MO_word 105 = .ok (.if_icmp .eq 9, 3) := dc_159 (by decide +kernel)
theorem d_MO_word_108 : decode b_MO_word 108 = .ok (.iinc 2 1, 3) := dc_132 (by decide +kernel)
theorem d_MO_word_111 : decode b_MO_word 111 = .ok (.goto (-14), 3) := dc_167 (by decide +kernel)
theorem d_MO_word_114 : decode b_MO_word 114 = .ok (.iinc 2 1, 3) := dc_132 (by decide +kernel)
theorem d_MO_word_117 : decode b_MO_word 117 = .ok (.iinc 1 1, 3) := dc_132 (by decide +kernel)
theorem d_MO_word_120 : decode b_MO_word 120 = .ok (.goto (-116), 3) := dc_167 (by decide +kernel)
theorem d_MO_word_123 : decode b_MO_word 123 = .ok (.iconst (-1), 1) := dc_2 (by decide +kernel)
theorem d_MO_word_124 : decode b_MO_word 124 = .ok (.ireturn, 1) := dc_172 (by decide +kernel)
def t_MO_word_L97  (bk4 : Mem → Int → Int → Option (Int)) : Nat → Mem → Int → Int → Option (Int)
  | 0, _, _, _ => none
  | fu + 1, M, v1_, v2_ => (qguard (0 ≤ v2_ ∧ v2_ < 126) (if (chW v2_) = 32 then (bk4 M (w32 (v1_ + 1)) (w32 (v2_ + 1))) else (t_MO_word_L97 bk4 fu M v1_ (w32 (v2_ + 1)))))
def t_MO_word_L69  (bk4 : Mem → Int → Int → Option (Int)) (M : Mem) (v1_ : Int) (v2_ : Int) (v3_ : Int) : Option (Int) := (qguard (0 ≤ (w32 (v2_ + v3_)) ∧ (w32 (v2_ + v3_)) < 126) (if (chW (w32 (v2_ + v3_))) = 32 then (if (w32 ((M.1 191 21) + v3_)) = (M.1 191 20) then (some v1_) else (t_MO_word_L97 bk4 FU M v1_ v2_)) else (t_MO_word_L97 bk4 FU M v1_ v2_)))
def t_MO_word_L15  (bk4 : Mem → Int → Int → Option (Int)) : Nat → Mem → Int → Int → Int → Option (Int)
  | 0, _, _, _, _ => none
  | fu + 1, M, v1_, v2_, v3_ => (qguard (0 ≤ (w32 (v2_ + v3_)) ∧ (w32 (v2_ + v3_)) < 126) (if (chW (w32 (v2_ + v3_))) = 32 then (t_MO_word_L69 bk4 M v1_ v2_ v3_) else (if (M.1 191 20) ≤ (w32 ((M.1 191 21) + v3_)) then (t_MO_word_L69 bk4 M v1_ v2_ v3_) else (qguard (0 ≤ (w32 ((M.1 191 21) + v3_)) ∧ (w32 ((M.1 191 21) + v3_)) < 700) (qguard (0 ≤ (w32 (v2_ + v3_)) ∧ (w32 (v2_ + v3_)) < 126) (if (M.1 192 (w32 ((M.1 191 21) + v3_))) = (chW (w32 (v2_ + v3_))) then (t_MO_word_L15 bk4 fu M v1_ v2_ (w32 (v3_ + 1))) else (t_MO_word_L69 bk4 M v1_ v2_ v3_)))))))
def t_MO_word_L4   : Nat → Mem → Int → Int → Option (Int)
  | 0, _, _, _ => none
  | fu + 1, M, v1_, v2_ => (if 126 ≤ v2_ then (some (-1)) else (t_MO_word_L15 (fun a0_ a1_ a2_ => t_MO_word_L4 fu a0_ a1_ a2_) FU M v1_ v2_ 0))
def t_MO_word (M : Mem)  : Option (Int) := (t_MO_word_L4 FU M 0 0)
set_option maxHeartbeats 4000000 in
set_option maxRecDepth 100000 in
theorem k_MO_word_L97 (l : Launch) {p : Program} {e : Env} {s : State} {m : MethodId} {below : List Frame} {meth : Method} {c : Code} {b n : Nat} {C : CT} (hlo : 231 ≤ n)   (F : Cx b p m c b_MO_word 4 s ([.ref (b + 191)] : List Value).toArray "WardFallsModel" C n 231) (hlk : meth.locks = false) (hr : meth.sig.returnType = some .int) {res : Int} (bk4 : Mem → Int → Int → Option (Int)) (hbk4 : ∀ (M : Mem) (v1_ : Int) (hv1_ : InR v1_) (v2_ : Int) (hv2_ : InR v2_) (H : Heap) (locs : List Loc) (ls : Array Slot), St b C n M s H locs → lv_has ls 4 [(0, .ref (b + 191)), (1, vI v1_), (2, vI v2_)] → bk4 M v1_ v2_ = some res → W p l e (headSpec (wsM y_MO_word b_MO_word 4 (some .int)) (rmD 4)).room s m ([.ref (b + 191)] : List Value).toArray below meth c H locs 0 0 (MQ below (QI b C n M res) ([.ref (b + 191)] : List Value).toArray s 0 0 (frb b)) (F0 m 4 ls [])) : ∀ (fu : Nat) (M : Mem) (v1_ : Int) (hv1_ : InR v1_) (v2_ : Int) (hv2_ : InR v2_) (H : Heap) (locs : List Loc) (ls : Array Slot), St b C n M s H locs → lv_has ls 4 [(0, .ref (b + 191)), (1, vI v1_), (2, vI v2_)] → t_MO_word_L97 bk4 fu M v1_ v2_ = some res → W p l e (headSpec (wsM y_MO_word b_MO_word 4 (some .int)) (rmD 4)).room s m ([.ref (b + 191)] : List Value).toArray below meth c H locs 0 0 (MQ below (QI b C n M res) ([.ref (b + 191)] : List Value).toArray s 0 0 (frb b)) (F0 m 97 ls []) := by
  intro fu
  induction fu with
  | zero => intro M v1_ hv1_ v2_ hv2_ H locs ls hS hl hT; exact absurd hT (by simp [t_MO_word_L97])
  | succ fu ih =>
    intro M v1_ hv1_ v2_ hv2_ H locs ls hS hl hT
    rw [t_MO_word_L97] at hT
    refine va_ldcS F.hx F.hb F.hown F.2.2.2.2.2.1.1 d_MO_word_97 ?_
    refine lv_iload_n F.hx F.hb d_MO_word_99 rfl (lv_at hl 2 rfl) ?_
    obtain ⟨⟨g21a, g21b⟩, hT⟩ := q_guard hT
    refine r_backI F hS (r_runVT (As := [vI v2_]) F hS (isStr2 (C := C)) rfl (c_Str_charAt l _ (isStr2 (C := C)) hv2_ g21a g21b) gs_MO_195 hd_Str_charAt ⟨Nat.le_of_ble_eq_true rfl, Nat.le_of_ble_eq_true rfl⟩ rfl hl.1 (Nat.le_of_ble_eq_true rfl) ⟨Nat.zero_le _, Nat.zero_le _⟩ rfl d_MO_word_100) (fun H locs hS h22 => ?_)
    refine r_bipush F.hx F.hb d_MO_word_103 rfl ?_
    refine r_icmp_eq (tgt := 114) F.hx F.hb h22 (inr_c rfl) d_MO_word_105 (by decide) (fun c23 => ?_) (fun c23 => ?_)
    · replace hT := (if_pos c23).symm.trans hT
      refine lv_iinc (v := Int32.ofInt (w32 (v2_ + 1))) (lv' := [(2, vI (w32 (v2_ + 1))), (0, .ref (b + 191)), (1, vI v1_)]) F.hx F.hb d_MO_word_114 hl (k := 2) rfl (q_of_add _ _) (Nat.le_of_ble_eq_true rfl) rfl (fun ls hl => ?_)
      refine lv_iinc (v := Int32.ofInt (w32 (v1_ + 1))) (lv' := [(1, vI (w32 (v1_ + 1))), (2, vI (w32 (v2_ + 1))), (0, .ref (b + 191))]) F.hx F.hb d_MO_word_117 hl (k := 2) rfl (q_of_add _ _) (Nat.le_of_ble_eq_true rfl) rfl (fun ls hl => ?_)
      refine lv_goto (tgt := 4) F.hx F.hb d_MO_word_120 (by decide) ?_
      exact hbk4 M (w32 (v1_ + 1)) (inr_w32 _) (w32 (v2_ + 1)) (inr_w32 _) _ _ _ hS (lv_sub hl [2, 0, 1] rfl) hT
    · replace hT := (if_neg c23).symm.trans hT
      refine lv_iinc (v := Int32.ofInt (w32 (v2_ + 1))) (lv' := [(2, vI (w32 (v2_ + 1))), (0, .ref (b + 191)), (1, vI v1_)]) F.hx F.hb d_MO_word_108 hl (k := 2) rfl (q_of_add _ _) (Nat.le_of_ble_eq_true rfl) rfl (fun ls hl => ?_)
      refine lv_goto (tgt := 97) F.hx F.hb d_MO_word_111 (by decide) ?_
      exact ih M v1_ hv1_ (w32 (v2_ + 1)) (inr_w32 _) _ _ _ hS (lv_sub hl [1, 2, 0] rfl) hT
set_option maxHeartbeats 4000000 in
set_option maxRecDepth 100000 in
theorem k_MO_word_L69 (l : Launch) {p : Program} {e : Env} {s : State} {m : MethodId} {below : List Frame} {meth : Method} {c : Code} {b n : Nat} {C : CT} (hlo : 231 ≤ n)   (F : Cx b p m c b_MO_word 4 s ([.ref (b + 191)] : List Value).toArray "WardFallsModel" C n 231) (hlk : meth.locks = false) (hr : meth.sig.returnType = some .int) {res : Int} (bk4 : Mem → Int → Int → Option (Int)) (hbk4 : ∀ (M : Mem) (v1_ : Int) (hv1_ : InR v1_) (v2_ : Int) (hv2_ : InR v2_) (H : Heap) (locs : List Loc) (ls : Array Slot), St b C n M s H locs → lv_has ls 4 [(0, .ref (b + 191)), (1, vI v1_), (2, vI v2_)] → bk4 M v1_ v2_ = some res → W p l e (headSpec (wsM y_MO_word b_MO_word 4 (some .int)) (rmD 4)).room s m ([.ref (b + 191)] : List Value).toArray below meth c H locs 0 0 (MQ below (QI b C n M res) ([.ref (b + 191)] : List Value).toArray s 0 0 (frb b)) (F0 m 4 ls [])) (M : Mem) (v1_ : Int) (hv1_ : InR v1_) (v2_ : Int) (hv2_ : InR v2_) (v3_ : Int) (hv3_ : InR v3_) (H : Heap) (locs : List Loc) (ls : Array Slot) (hS : St b C n M s H locs) (hl : lv_has ls 4 [(0, .ref (b + 191)), (1, vI v1_), (2, vI v2_), (3, vI v3_)]) (hT : t_MO_word_L69 bk4 M v1_ v2_ v3_ = some res) : W p l e (headSpec (wsM y_MO_word b_MO_word 4 (some .int)) (rmD 4)).room s m ([.ref (b + 191)] : List Value).toArray below meth c H locs 0 0 (MQ below (QI b C n M res) ([.ref (b + 191)] : List Value).toArray s 0 0 (frb b)) (F0 m 69 ls []) := by
  unfold t_MO_word_L69 at hT
  refine va_ldcS F.hx F.hb F.hown F.2.2.2.2.2.1.1 d_MO_word_69 ?_
  refine lv_iload_n F.hx F.hb d_MO_word_71 rfl (lv_at hl 2 rfl) ?_
  refine lv_iload_n F.hx F.hb d_MO_word_72 rfl (lv_at hl 3 rfl) ?_
  refine r_iadd F.hx F.hb d_MO_word_73 ?_
  obtain ⟨⟨g15a, g15b⟩, hT⟩ := q_guard hT
  refine r_backI F hS (r_runVT (As := [vI (w32 (v2_ + v3_))]) F hS (isStr2 (C := C)) rfl (c_Str_charAt l _ (isStr2 (C := C)) (inr_w32 _) g15a g15b) gs_MO_195 hd_Str_charAt ⟨Nat.le_of_ble_eq_true rfl, Nat.le_of_ble_eq_true rfl⟩ rfl hl.1 (Nat.le_of_ble_eq_true rfl) ⟨Nat.zero_le _, Nat.zero_le _⟩ rfl d_MO_word_74) (fun H locs hS h16 => ?_)
  refine r_bipush F.hx F.hb d_MO_word_77 rfl ?_
  refine r_icmp_ne (tgt := 97) F.hx F.hb h16 (inr_c rfl) d_MO_word_79 (by decide) (fun c17 => ?_) (fun c17 => ?_)
  · replace hT := (if_neg c17).symm.trans hT
    exact k_MO_word_L97 l hlo F hlk hr bk4 hbk4 FU M v1_ hv1_ v2_ hv2_ _ _ _ hS (lv_sub hl [0, 1, 2] rfl) hT
  · replace hT := (if_pos c17).symm.trans hT
    refine lv_aload_n F.hx F.hb d_MO_word_82 rfl (lv_at hl 0 rfl) ?_
    refine r_get (v := vI (M.1 191 21)) (N := 68) (T := T1) (j := 21) F hS (show 191 < 231 by decide) (show shK 191 = 5 from rfl) (show shN 191 = 68 from rfl) rfl (Nat.le_of_ble_eq_true rfl) ing1 mw_1410 (fv_int rfl) d_MO_word_83 ?_
    have i18 := hS.rng 191 21
    refine lv_iload_n F.hx F.hb d_MO_word_86 rfl (lv_at hl 3 rfl) ?_
    refine r_iadd F.hx F.hb d_MO_word_87 ?_
    refine lv_aload_n F.hx F.hb d_MO_word_88 rfl (lv_at hl 0 rfl) ?_
    refine r_get (v := vI (M.1 191 20)) (N := 68) (T := T1) (j := 20) F hS (show 191 < 231 by decide) (show shK 191 = 5 from rfl) (show shN 191 = 68 from rfl) rfl (Nat.le_of_ble_eq_true rfl) ing1 mw_1409 (fv_int rfl) d_MO_word_89 ?_
    have i19 := hS.rng 191 20
    refine r_icmp_ne (tgt := 97) F.hx F.hb (inr_w32 _) i19 d_MO_word_92 (by decide) (fun c20 => ?_) (fun c20 => ?_)
    · replace hT := (if_neg c20).symm.trans hT
      exact k_MO_word_L97 l hlo F hlk hr bk4 hbk4 FU M v1_ hv1_ v2_ hv2_ _ _ _ hS (lv_sub hl [0, 1, 2] rfl) hT
    · replace hT := (if_pos c20).symm.trans hT
      refine lv_iload_n F.hx F.hb d_MO_word_95 rfl (lv_at hl 1 rfl) ?_
      cases hT
      exact r_iret F hlk hr rfl hS hv1_ d_MO_word_96
set_option maxHeartbeats 4000000 in
set_option maxRecDepth 100000 in
theorem k_MO_word_L15 (l : Launch) {p : Program} {e : Env} {s : State} {m : MethodId} {below : List Frame} {meth : Method} {c : Code} {b n : Nat} {C : CT} (hlo : 231 ≤ n)   (F : Cx b p m c b_MO_word 4 s ([.ref (b + 191)] : List Value).toArray "WardFallsModel" C n 231) (hlk : meth.locks = false) (hr : meth.sig.returnType = some .int) {res : Int} (bk4 : Mem → Int → Int → Option (Int)) (hbk4 : ∀ (M : Mem) (v1_ : Int) (hv1_ : InR v1_) (v2_ : Int) (hv2_ : InR v2_) (H : Heap) (locs : List Loc) (ls : Array Slot), St b C n M s H locs → lv_has ls 4 [(0, .ref (b + 191)), (1, vI v1_), (2, vI v2_)] → bk4 M v1_ v2_ = some res → W p l e (headSpec (wsM y_MO_word b_MO_word 4 (some .int)) (rmD 4)).room s m ([.ref (b + 191)] : List Value).toArray below meth c H locs 0 0 (MQ below (QI b C n M res) ([.ref (b + 191)] : List Value).toArray s 0 0 (frb b)) (F0 m 4 ls [])) : ∀ (fu : Nat) (M : Mem) (v1_ : Int) (hv1_ : InR v1_) (v2_ : Int) (hv2_ : InR v2_) (v3_ : Int) (hv3_ : InR v3_) (H : Heap) (locs : List Loc) (ls : Array Slot), St b C n M s H locs → lv_has ls 4 [(0, .ref (b + 191)), (1, vI v1_), (2, vI v2_), (3, vI v3_)] → t_MO_word_L15 bk4 fu M v1_ v2_ v3_ = some res → W p l e (headSpec (wsM y_MO_word b_MO_word 4 (some .int)) (rmD 4)).room s m ([.ref (b + 191)] : List Value).toArray below meth c H locs 0 0 (MQ below (QI b C n M res) ([.ref (b + 191)] : List Value).toArray s 0 0 (frb b)) (F0 m 15 ls []) := by
  intro fu
  induction fu with
  | zero => intro M v1_ hv1_ v2_ hv2_ v3_ hv3_ H locs ls hS hl hT; exact absurd hT (by simp [t_MO_word_L15])
  | succ fu ih =>
    intro M v1_ hv1_ v2_ hv2_ v3_ hv3_ H locs ls hS hl hT
    rw [t_MO_word_L15] at hT
    refine va_ldcS F.hx F.hb F.hown F.2.2.2.2.2.1.1 d_MO_word_15 ?_
    refine lv_iload_n F.hx F.hb d_MO_word_17 rfl (lv_at hl 2 rfl) ?_
    refine lv_iload_n F.hx F.hb d_MO_word_18 rfl (lv_at hl 3 rfl) ?_
    refine r_iadd F.hx F.hb d_MO_word_19 ?_
    obtain ⟨⟨g3a, g3b⟩, hT⟩ := q_guard hT
    refine r_backI F hS (r_runVT (As := [vI (w32 (v2_ + v3_))]) F hS (isStr2 (C := C)) rfl (c_Str_charAt l _ (isStr2 (C := C)) (inr_w32 _) g3a g3b) gs_MO_195 hd_Str_charAt ⟨Nat.le_of_ble_eq_true rfl, Nat.le_of_ble_eq_true rfl⟩ rfl hl.1 (Nat.le_of_ble_eq_true rfl) ⟨Nat.zero_le _, Nat.zero_le _⟩ rfl d_MO_word_20) (fun H locs hS h4 => ?_)
    refine r_bipush F.hx F.hb d_MO_word_23 rfl ?_
    refine r_icmp_eq (tgt := 69) F.hx F.hb h4 (inr_c rfl) d_MO_word_25 (by decide) (fun c5 => ?_) (fun c5 => ?_)
    · replace hT := (if_pos c5).symm.trans hT
      exact k_MO_word_L69 l hlo F hlk hr bk4 hbk4 M v1_ hv1_ v2_ hv2_ v3_ hv3_ _ _ _ hS (lv_sub hl [0, 1, 2, 3] rfl) hT
    · replace hT := (if_neg c5).symm.trans hT
      refine lv_aload_n F.hx F.hb d_MO_word_28 rfl (lv_at hl 0 rfl) ?_
      refine r_get (v := vI (M.1 191 21)) (N := 68) (T := T1) (j := 21) F hS (show 191 < 231 by decide) (show shK 191 = 5 from rfl) (show shN 191 = 68 from rfl) rfl (Nat.le_of_ble_eq_true rfl) ing1 mw_1410 (fv_int rfl) d_MO_word_29 ?_
      have i6 := hS.rng 191 21
      refine lv_iload_n F.hx F.hb d_MO_word_32 rfl (lv_at hl 3 rfl) ?_
      refine r_iadd F.hx F.hb d_MO_word_33 ?_
      refine lv_aload_n F.hx F.hb d_MO_word_34 rfl (lv_at hl 0 rfl) ?_
      refine r_get (v := vI (M.1 191 20)) (N := 68) (T := T1) (j := 20) F hS (show 191 < 231 by decide) (show shK 191 = 5 from rfl) (show shN 191 = 68 from rfl) rfl (Nat.le_of_ble_eq_true rfl) ing1 mw_1409 (fv_int rfl) d_MO_word_35 ?_
      have i7 := hS.rng 191 20
      refine r_icmp_ge (tgt := 69) F.hx F.hb (inr_w32 _) i7 d_MO_word_38 (by decide) (fun c8 => ?_) (fun c8 => ?_)
      · replace hT := (if_pos c8).symm.trans hT
        exact k_MO_word_L69 l hlo F hlk hr bk4 hbk4 M v1_ hv1_ v2_ hv2_ v3_ hv3_ _ _ _ hS (lv_sub hl [0, 1, 2, 3] rfl) hT
      · replace hT := (if_neg c8).symm.trans hT
        refine lv_aload_n F.hx F.hb d_MO_word_41 rfl (lv_at hl 0 rfl) ?_
        refine r_get (v := .ref (b + 192)) (N := 68) (T := T1) (j := 1) F hS (show 191 < 231 by decide) (show shK 191 = 5 from rfl) (show shN 191 = 68 from rfl) rfl (Nat.le_of_ble_eq_true rfl) ing1 mw_1390 (fv_sg rfl rfl rfl) d_MO_word_42 ?_
        refine lv_aload_n F.hx F.hb d_MO_word_45 rfl (lv_at hl 0 rfl) ?_
        refine r_get (v := vI (M.1 191 21)) (N := 68) (T := T1) (j := 21) F hS (show 191 < 231 by decide) (show shK 191 = 5 from rfl) (show shN 191 = 68 from rfl) rfl (Nat.le_of_ble_eq_true rfl) ing1 mw_1410 (fv_int rfl) d_MO_word_46 ?_
        have i9 := hS.rng 191 21
        refine lv_iload_n F.hx F.hb d_MO_word_49 rfl (lv_at hl 3 rfl) ?_
        refine r_iadd F.hx F.hb d_MO_word_50 ?_
        obtain ⟨⟨g10a, g10b⟩, hT⟩ := q_guard hT
        refine r_iald F hS (show 192 < 231 by decide) (show shK 192 = 0 from rfl) (show shN 192 = 700 from rfl) (inr_w32 _) g10a g10b d_MO_word_51 ?_
        have i11 := hS.rng 192 (w32 ((M.1 191 21) + v3_))
        refine va_ldcS F.hx F.hb F.hown F.2.2.2.2.2.1.1 d_MO_word_52 ?_
        refine lv_iload_n F.hx F.hb d_MO_word_54 rfl (lv_at hl 2 rfl) ?_
        refine lv_iload_n F.hx F.hb d_MO_word_55 rfl (lv_at hl 3 rfl) ?_
        refine r_iadd F.hx F.hb d_MO_word_56 ?_
        obtain ⟨⟨g12a, g12b⟩, hT⟩ := q_guard hT
        refine r_backI F hS (r_runVT (As := [vI (w32 (v2_ + v3_))]) F hS (isStr2 (C := C)) rfl (c_Str_charAt l _ (isStr2 (C := C)) (inr_w32 _) g12a g12b) gs_MO_195 hd_Str_charAt ⟨Nat.le_of_ble_eq_true rfl, Nat.le_of_ble_eq_true rfl⟩ rfl hl.1 (Nat.le_of_ble_eq_true rfl) ⟨Nat.zero_le _, Nat.zero_le _⟩ rfl d_MO_word_57) (fun H locs hS h13 => ?_)
        refine r_icmp_ne (tgt := 69) F.hx F.hb i11 h13 d_MO_word_60 (by decide) (fun c14 => ?_) (fun c14 => ?_)
        · replace hT := (if_neg c14).symm.trans hT
          exact k_MO_word_L69 l hlo F hlk hr bk4 hbk4 M v1_ hv1_ v2_ hv2_ v3_ hv3_ _ _ _ hS (lv_sub hl [0, 1, 2, 3] rfl) hT
        · replace hT := (if_pos c14).symm.trans hT
          refine lv_iinc (v := Int32.ofInt (w32 (v3_ + 1))) (lv' := [(3, vI (w32 (v3_ + 1))), (0, .ref (b + 191)), (1, vI v1_), (2, vI v2_)]) F.hx F.hb d_MO_word_63 hl (k := 3) rfl (q_of_add _ _) (Nat.le_of_ble_eq_true rfl) rfl (fun ls hl => ?_)
          refine lv_goto (tgt := 15) F.hx F.hb d_MO_word_66 (by decide) ?_
          exact ih M v1_ hv1_ v2_ hv2_ (w32 (v3_ + 1)) (inr_w32 _) _ _ _ hS (lv_sub hl [1, 2, 3, 0] rfl) hT
set_option maxHeartbeats 4000000 in
set_option maxRecDepth 100000 in
theorem k_MO_word_L4 (l : Launch) {p : Program} {e : Env} {s : State} {m : MethodId} {below : List Frame} {meth : Method} {c : Code} {b n : Nat} {C : CT} (hlo : 231 ≤ n)   (F : Cx b p m c b_MO_word 4 s ([.ref (b + 191)] : List Value).toArray "WardFallsModel" C n 231) (hlk : meth.locks = false) (hr : meth.sig.returnType = some .int) {res : Int} : ∀ (fu : Nat) (M : Mem) (v1_ : Int) (hv1_ : InR v1_) (v2_ : Int) (hv2_ : InR v2_) (H : Heap) (locs : List Loc) (ls : Array Slot), St b C n M s H locs → lv_has ls 4 [(0, .ref (b + 191)), (1, vI v1_), (2, vI v2_)] → t_MO_word_L4 fu M v1_ v2_ = some res → W p l e (headSpec (wsM y_MO_word b_MO_word 4 (some .int)) (rmD 4)).room s m ([.ref (b + 191)] : List Value).toArray below meth c H locs 0 0 (MQ below (QI b C n M res) ([.ref (b + 191)] : List Value).toArray s 0 0 (frb b)) (F0 m 4 ls []) := by
  intro fu
  induction fu with
  | zero => intro M v1_ hv1_ v2_ hv2_ H locs ls hS hl hT; exact absurd hT (by simp [t_MO_word_L4])
  | succ fu ih =>
    intro M v1_ hv1_ v2_ hv2_ H locs ls hS hl hT
    rw [t_MO_word_L4] at hT
    refine lv_iload_n F.hx F.hb d_MO_word_4 rfl (lv_at hl 2 rfl) ?_
    refine va_ldcS F.hx F.hb F.hown F.2.2.2.2.2.1.1 d_MO_word_5 ?_
    refine r_backI F hS (r_runVT (As := []) F hS (isStr2 (C := C)) rfl (c_Str_length l _ (isStr2 (C := C))) gs_MO_190 hd_Str_length ⟨Nat.le_of_ble_eq_true rfl, Nat.le_of_ble_eq_true rfl⟩ rfl hl.1 (Nat.le_of_ble_eq_true rfl) ⟨Nat.zero_le _, Nat.zero_le _⟩ rfl d_MO_word_7) (fun H locs hS h1 => ?_)
    refine r_icmp_ge (tgt := 123) F.hx F.hb hv2_ h1 d_MO_word_10 (by decide) (fun c2 => ?_) (fun c2 => ?_)
    · replace hT := (if_pos c2).symm.trans hT
      refine r_iconst F.hx F.hb d_MO_word_123 ?_
      cases hT
      exact r_iret F hlk hr rfl hS (inr_c rfl) d_MO_word_124
    · replace hT := (if_neg c2).symm.trans hT
      refine r_iconst F.hx F.hb d_MO_word_13 ?_
      refine lv_istore_n (lv' := [(3, vI 0), (0, .ref (b + 191)), (1, vI v1_), (2, vI v2_)]) F.hx F.hb d_MO_word_14 rfl hl (Nat.le_of_ble_eq_true rfl) rfl (fun ls hl => ?_)
      exact k_MO_word_L15 l hlo F hlk hr (fun a0_ a1_ a2_ => t_MO_word_L4 fu a0_ a1_ a2_) ih FU M v1_ hv1_ v2_ hv2_ 0 (inr_c rfl) _ _ _ hS (lv_sub hl [1, 2, 3, 0] rfl) hT
set_option maxHeartbeats 4000000 in
set_option maxRecDepth 100000 in
theorem c_MO_word (l : Launch) {b n : Nat} {C : CT} (hlo : 231 ≤ n) (M : Mem)   (res : Int) (hT : t_MO_word M  = some res) : CM l b C n 4 y_MO_word b_MO_word 4 (some .int) [.ref (b + 191)] M (QI b C n M res) := by
  refine CM.of (lo := 231) (ow := "WardFallsModel") (by decide) rfl (Nat.le_of_ble_eq_true rfl) hlo (fun p e s m below meth c F hlk hr hS ls hl => ?_)
  have hl : lv_has ls 4 [(0, .ref (b + 191))] := hl
  unfold t_MO_word at hT
  refine r_iconst F.hx F.hb d_MO_word_0 ?_
  refine lv_istore_n (lv' := [(1, vI 0), (0, .ref (b + 191))]) F.hx F.hb d_MO_word_1 rfl hl (Nat.le_of_ble_eq_true rfl) rfl (fun ls hl => ?_)
  refine r_iconst F.hx F.hb d_MO_word_2 ?_
  refine lv_istore_n (lv' := [(2, vI 0), (1, vI 0), (0, .ref (b + 191))]) F.hx F.hb d_MO_word_3 rfl hl (Nat.le_of_ble_eq_true rfl) rfl (fun ls hl => ?_)
  exact k_MO_word_L4 l hlo F hlk hr FU M 0 (inr_c rfl) 0 (inr_c rfl) _ _ _ hS (lv_sub hl [2, 1, 0] rfl) hT
theorem d_MO_name_0 : decode b_MO_name 0 = .ok (.aload_n 0, 1) := dc_42 (by decide +kernel)
theorem d_MO_name_1 : decode b_MO_name 1 = .ok (.iconst 0, 1) := dc_3 (by decide +kernel)
theorem d_MO_name_2 : decode b_MO_name 2 = .ok (.putfield 174, 3) := dc_181 (by decide +kernel)
theorem d_MO_name_5 : decode b_MO_name 5 = .ok (.iconst 0, 1) := dc_3 (by decide +kernel)
theorem d_MO_name_6 : decode b_MO_name 6 = .ok (.istore_n 1, 1) := dc_60 (by decide +kernel)
theorem d_MO_name_7 : decode b_MO_name 7 = .ok (.iload_n 1, 1) := dc_27 (by decide +kernel)
theorem d_MO_name_8 : decode b_MO_name 8 = .ok (.bipush 6, 2) := dc_16 (by decide +kernel)
theorem d_MO_name_10 : decode b_MO_name 10 = .ok (.if_icmp .ge 53, 3) := dc_162 (by decide +kernel)
theorem d_MO_name_13 : decode b_MO_name 13 = .ok (.aload_n 0, 1) := dc_42 (by decide +kernel)
theorem d_MO_name_14 : decode b_MO_name 14 = .ok (.aload_n 0, 1) := dc_42 (by decide +kernel)
theorem d_MO_name_15 : decode b_MO_name 15 = .ok (.getfield 174, 3) := dc_180 (by decide +kernel)
theorem d_MO_name_18 : decode b_MO_name 18 = .ok (.iconst 5, 1) := dc_8 (by decide +kernel)
theorem d_MO_name_19 : decode b_MO_name 19 = .ok (.ishl, 1) := dc_120 (by decide +kernel)
theorem d_MO_name_20 : decode b_MO_name 20 = .ok (.aload_n 0, 1) := dc_42 (by decide +kernel)
theorem d_MO_name_21 : decode b_MO_name 21 = .ok (.getfield 161, 3) := dc_180 (by decide +kernel)
theorem d_MO_name_24 : decode b_MO_name 24 = .ok (.iload_n 1, 1) := dc_27 (by decide +kernel)
theorem d_MO_name_25 : decode b_MO_name 25 = .ok (.iadd, 1) := dc_96 (by decide +kernel)
theorem d_MO_name_26 : decode b_MO_name 26 = .ok (.aload_n 0, 1) := dc_42 (by decide +kernel)
theorem d_MO_name_27 : decode b_MO_name 27 = .ok (.getfield 151, 3) := dc_180 (by decide +kernel)
theorem d_MO_name_30 : decode b_MO_name 30 = .ok (.if_icmp .ge 22, 3) := dc_162 (by decide +kernel)
theorem d_MO_name_33 : decode b_MO_name 33 = .ok (.aload_n 0, 1) := dc_42 (by decide +kernel)
theorem d_MO_name_34 : decode b_MO_name 34 = .ok (.getfield 7, 3) := dc_180 (by decide +kernel)
theorem d_MO_name_37 : decode b_MO_name 37 = .ok (.aload_n 0, 1) := dc_42 (by decide +kernel)
theorem d_MO_name_38 : decode b_MO_name 38 = .ok (.getfield 161, 3) := dc_180 (by decide +kernel)
theorem d_MO_name_41 : decode b_MO_name 41 = .ok (.iload_n 1, 1) := dc_27 (by decide +kernel)
theorem d_MO_name_42 : decode b_MO_name 42 = .ok (.iadd, 1) := dc_96 (by decide +kernel)
theorem d_MO_name_43 : decode b_MO_name 43 = .ok (.iaload, 1) := dc_46 (by decide +kernel)
theorem d_MO_name_44 : decode b_MO_name 44 = .ok (.bipush 97, 2) := dc_16 (by decide +kernel)
theorem d_MO_name_46 : decode b_MO_name 46 = .ok (.isub, 1) := dc_100 (by decide +kernel)
theorem d_MO_name_47 : decode b_MO_name 47 = .ok (.iconst 1, 1) := dc_4 (by decide +kernel)
theorem d_MO_name_48 : decode b_MO_name 48 = .ok (.iadd, 1) := dc_96 (by decide +kernel)
theorem d_MO_name_49 : decode b_MO_name 49 = .ok (.goto 4, 3) := dc_167 (by decide +kernel)
theorem d_MO_name_52 : decode b_MO_name 52 = .ok (.iconst 0, 1) := dc_3 (by decide +kernel)
theorem d_MO_name_53 : decode b_MO_name 53 = .ok (.ior, 1) := dc_128 (by decide +kernel)
theorem d_MO_name_54 : decode b_MO_name 54 = .ok (.putfield 174, 3) := dc_181 (by decide +kernel)
theorem d_MO_name_57 : decode b_MO_name 57 = .ok (.iinc 1 1, 3) := dc_132 (by decide +kernel)
theorem d_MO_name_60 : decode b_MO_name 60 = .ok (.goto (-53), 3) := dc_167 (by decide +kernel)
theorem d_MO_name_63 : decode b_MO_name 63 = .ok (.return_, 1) := dc_177 (by decide +kernel)
def t_MO_name_L53  (bk7 : Mem → Int → Option (Mem)) (M : Mem) (v1_ : Int) (v3_ : Int) (v4_ : Int) : Option (Mem) := (qlet (setI M 191 23 (q_or v3_ v4_)) fun M10 => (bk7 M10 (w32 (v1_ + 1))))
def t_MO_name_L7   : Nat → Mem → Int → Option (Mem)
  | 0, _, _ => none
  | fu + 1, M, v1_ => (if 6 ≤ v1_ then (some M) else (if (M.1 191 20) ≤ (w32 ((M.1 191 21) + v1_)) then (t_MO_name_L53 (fun a0_ a1_ => t_MO_name_L7 fu a0_ a1_) M v1_ (q_shl (M.1 191 23) 5) 0) else (qguard (0 ≤ (w32 ((M.1 191 21) + v1_)) ∧ (w32 ((M.1 191 21) + v1_)) < 700) (t_MO_name_L53 (fun a0_ a1_ => t_MO_name_L7 fu a0_ a1_) M v1_ (q_shl (M.1 191 23) 5) (w32 ((w32 ((M.1 192 (w32 ((M.1 191 21) + v1_))) - 97)) + 1))))))
def t_MO_name (M : Mem)  : Option (Mem) := (qlet (setI M 191 23 0) fun M1 => (t_MO_name_L7 FU M1 0))
set_option maxHeartbeats 4000000 in
set_option maxRecDepth 100000 in
theorem k_MO_name_L53 (l : Launch) {p : Program} {e : Env} {s : State} {m : MethodId} {below : List Frame} {meth : Method} {c : Code} {b n : Nat} {C : CT} (hlo : 231 ≤ n)   (F : Cx b p m c b_MO_name 2 s ([.ref (b + 191)] : List Value).toArray "WardFallsModel" C n 231) (hlk : meth.locks = false) (hr : meth.sig.returnType = none) {res : Mem} (bk7 : Mem → Int → Option (Mem)) (hbk7 : ∀ (M : Mem) (v1_ : Int) (hv1_ : InR v1_) (H : Heap) (locs : List Loc) (ls : Array Slot), St b C n M s H locs → lv_has ls 2 [(0, .ref (b + 191)), (1, vI v1_)] → bk7 M v1_ = some res → W p l e (headSpec (wsM y_MO_name b_MO_name 2 (none)) (rmD 0)).room s m ([.ref (b + 191)] : List Value).toArray below meth c H locs 0 0 (MQ below (QV b C n res) ([.ref (b + 191)] : List Value).toArray s 0 0 (frb b)) (F0 m 7 ls [])) (M : Mem) (v1_ : Int) (hv1_ : InR v1_) (v3_ : Int) (hv3_ : InR v3_) (v4_ : Int) (hv4_ : InR v4_) (H : Heap) (locs : List Loc) (ls : Array Slot) (hS : St b C n M s H locs) (hl : lv_has ls 2 [(0, .ref (b + 191)), (1, vI v1_)]) (hT : t_MO_name_L53 bk7 M v1_ v3_ v4_ = some res) : W p l e (headSpec (wsM y_MO_name b_MO_name 2 (none)) (rmD 0)).room s m ([.ref (b + 191)] : List Value).toArray below meth c H locs 0 0 (MQ below (QV b C n res) ([.ref (b + 191)] : List Value).toArray s 0 0 (frb b)) (F0 m 53 ls [vI v4_, vI v3_, .ref (b + 191)]) := by
  unfold t_MO_name_L53 at hT
  refine r_ior F.hx F.hb d_MO_name_53 ?_
  refine r_putI (N := 68) (T := T1) (j := 23) F hS (show 191 < 231 by decide) (show shK 191 = 5 from rfl) (show shN 191 = 68 from rfl) rfl (Nat.le_of_ble_eq_true rfl) ing1 tyok1 nm1 rfl rfl rfl rfl rfl rfl mw_1412 (q_inr_toInt _) d_MO_name_54 (fun H locs hS => ?_)
  obtain ⟨M10, eM10⟩ : ∃ q, q = (setI M 191 23 (q_or v3_ v4_)) := ⟨_, rfl⟩
  replace hS : St b C n M10 s H locs := by rw [eM10]; exact hS
  replace hT := qlet_eq hT eM10
  refine lv_iinc (v := Int32.ofInt (w32 (v1_ + 1))) (lv' := [(1, vI (w32 (v1_ + 1))), (0, .ref (b + 191))]) F.hx F.hb d_MO_name_57 hl (k := 1) rfl (q_of_add _ _) (Nat.le_of_ble_eq_true rfl) rfl (fun ls hl => ?_)
  refine lv_goto (tgt := 7) F.hx F.hb d_MO_name_60 (by decide) ?_
  exact hbk7 M10 (w32 (v1_ + 1)) (inr_w32 _) _ _ _ hS (lv_sub hl [1, 0] rfl) hT
set_option maxHeartbeats 4000000 in
set_option maxRecDepth 100000 in
theorem k_MO_name_L7 (l : Launch) {p : Program} {e : Env} {s : State} {m : MethodId} {below : List Frame} {meth : Method} {c : Code} {b n : Nat} {C : CT} (hlo : 231 ≤ n)   (F : Cx b p m c b_MO_name 2 s ([.ref (b + 191)] : List Value).toArray "WardFallsModel" C n 231) (hlk : meth.locks = false) (hr : meth.sig.returnType = none) {res : Mem} : ∀ (fu : Nat) (M : Mem) (v1_ : Int) (hv1_ : InR v1_) (H : Heap) (locs : List Loc) (ls : Array Slot), St b C n M s H locs → lv_has ls 2 [(0, .ref (b + 191)), (1, vI v1_)] → t_MO_name_L7 fu M v1_ = some res → W p l e (headSpec (wsM y_MO_name b_MO_name 2 (none)) (rmD 0)).room s m ([.ref (b + 191)] : List Value).toArray below meth c H locs 0 0 (MQ below (QV b C n res) ([.ref (b + 191)] : List Value).toArray s 0 0 (frb b)) (F0 m 7 ls []) := by
  intro fu
  induction fu with
  | zero => intro M v1_ hv1_ H locs ls hS hl hT; exact absurd hT (by simp [t_MO_name_L7])
  | succ fu ih =>
    intro M v1_ hv1_ H locs ls hS hl hT
    rw [t_MO_name_L7] at hT
    refine lv_iload_n F.hx F.hb d_MO_name_7 rfl (lv_at hl 1 rfl) ?_
    refine r_bipush F.hx F.hb d_MO_name_8 rfl ?_
    refine r_icmp_ge (tgt := 63) F.hx F.hb hv1_ (inr_c rfl) d_MO_name_10 (by decide) (fun c2 => ?_) (fun c2 => ?_)
    · replace hT := (if_pos c2).symm.trans hT
      cases hT
      exact r_vret F hlk hr hS d_MO_name_63
    · replace hT := (if_neg c2).symm.trans hT
      refine lv_aload_n F.hx F.hb d_MO_name_13 rfl (lv_at hl 0 rfl) ?_
      refine lv_aload_n F.hx F.hb d_MO_name_14 rfl (lv_at hl 0 rfl) ?_
      refine r_get (v := vI (M.1 191 23)) (N := 68) (T := T1) (j := 23) F hS (show 191 < 231 by decide) (show shK 191 = 5 from rfl) (show shN 191 = 68 from rfl) rfl (Nat.le_of_ble_eq_true rfl) ing1 mw_1412 (fv_int rfl) d_MO_name_15 ?_
      have i3 := hS.rng 191 23
      refine r_iconst F.hx F.hb d_MO_name_18 ?_
      refine r_ishl F.hx F.hb d_MO_name_19 ?_
      refine lv_aload_n F.hx F.hb d_MO_name_20 rfl (lv_at hl 0 rfl) ?_
      refine r_get (v := vI (M.1 191 21)) (N := 68) (T := T1) (j := 21) F hS (show 191 < 231 by decide) (show shK 191 = 5 from rfl) (show shN 191 = 68 from rfl) rfl (Nat.le_of_ble_eq_true rfl) ing1 mw_1410 (fv_int rfl) d_MO_name_21 ?_
      have i4 := hS.rng 191 21
      refine lv_iload_n F.hx F.hb d_MO_name_24 rfl (lv_at hl 1 rfl) ?_
      refine r_iadd F.hx F.hb d_MO_name_25 ?_
      refine lv_aload_n F.hx F.hb d_MO_name_26 rfl (lv_at hl 0 rfl) ?_
      refine r_get (v := vI (M.1 191 20)) (N := 68) (T := T1) (j := 20) F hS (show 191 < 231 by decide) (show shK 191 = 5 from rfl) (show shN 191 = 68 from rfl) rfl (Nat.le_of_ble_eq_true rfl) ing1 mw_1409 (fv_int rfl) d_MO_name_27 ?_
      have i5 := hS.rng 191 20
      refine r_icmp_ge (tgt := 52) F.hx F.hb (inr_w32 _) i5 d_MO_name_30 (by decide) (fun c6 => ?_) (fun c6 => ?_)
      · replace hT := (if_pos c6).symm.trans hT
        refine r_iconst F.hx F.hb d_MO_name_52 ?_
        exact k_MO_name_L53 l hlo F hlk hr (fun a0_ a1_ => t_MO_name_L7 fu a0_ a1_) ih M v1_ hv1_ (q_shl (M.1 191 23) 5) (q_inr_toInt _) 0 (inr_c rfl) _ _ _ hS (lv_sub hl [0, 1] rfl) hT
      · replace hT := (if_neg c6).symm.trans hT
        refine lv_aload_n F.hx F.hb d_MO_name_33 rfl (lv_at hl 0 rfl) ?_
        refine r_get (v := .ref (b + 192)) (N := 68) (T := T1) (j := 1) F hS (show 191 < 231 by decide) (show shK 191 = 5 from rfl) (show shN 191 = 68 from rfl) rfl (Nat.le_of_ble_eq_true rfl) ing1 mw_1390 (fv_sg rfl rfl rfl) d_MO_name_34 ?_
        refine lv_aload_n F.hx F.hb d_MO_name_37 rfl (lv_at hl 0 rfl) ?_
        refine r_get (v := vI (M.1 191 21)) (N := 68) (T := T1) (j := 21) F hS (show 191 < 231 by decide) (show shK 191 = 5 from rfl) (show shN 191 = 68 from rfl) rfl (Nat.le_of_ble_eq_true rfl) ing1 mw_1410 (fv_int rfl) d_MO_name_38 ?_
        have i7 := hS.rng 191 21
        refine lv_iload_n F.hx F.hb d_MO_name_41 rfl (lv_at hl 1 rfl) ?_
        refine r_iadd F.hx F.hb d_MO_name_42 ?_
        obtain ⟨⟨g8a, g8b⟩, hT⟩ := q_guard hT
        refine r_iald F hS (show 192 < 231 by decide) (show shK 192 = 0 from rfl) (show shN 192 = 700 from rfl) (inr_w32 _) g8a g8b d_MO_name_43 ?_
        have i9 := hS.rng 192 (w32 ((M.1 191 21) + v1_))
        refine r_bipush F.hx F.hb d_MO_name_44 rfl ?_
        refine r_isub F.hx F.hb d_MO_name_46 ?_
        refine r_iconst F.hx F.hb d_MO_name_47 ?_
        refine r_iadd F.hx F.hb d_MO_name_48 ?_
        refine lv_goto (tgt := 53) F.hx F.hb d_MO_name_49 (by decide) ?_
        exact k_MO_name_L53 l hlo F hlk hr (fun a0_ a1_ => t_MO_name_L7 fu a0_ a1_) ih M v1_ hv1_ (q_shl (M.1 191 23) 5) (q_inr_toInt _) (w32 ((w32 ((M.1 192 (w32 ((M.1 191 21) + v1_))) - 97)) + 1)) (inr_w32 _) _ _ _ hS (lv_sub hl [0, 1] rfl) hT
set_option maxHeartbeats 4000000 in
set_option maxRecDepth 100000 in
theorem c_MO_name (l : Launch) {b n : Nat} {C : CT} (hlo : 231 ≤ n) (M : Mem)   (res : Mem) (hT : t_MO_name M  = some res) : CM l b C n 0 y_MO_name b_MO_name 2 (none) [.ref (b + 191)] M (QV b C n res) := by
  refine CM.of (lo := 231) (ow := "WardFallsModel") (by decide) rfl (Nat.le_of_ble_eq_true rfl) hlo (fun p e s m below meth c F hlk hr hS ls hl => ?_)
  have hl : lv_has ls 2 [(0, .ref (b + 191))] := hl
  unfold t_MO_name at hT
  refine lv_aload_n F.hx F.hb d_MO_name_0 rfl (lv_at hl 0 rfl) ?_
  refine r_iconst F.hx F.hb d_MO_name_1 ?_
  refine r_putI (N := 68) (T := T1) (j := 23) F hS (show 191 < 231 by decide) (show shK 191 = 5 from rfl) (show shN 191 = 68 from rfl) rfl (Nat.le_of_ble_eq_true rfl) ing1 tyok1 nm1 rfl rfl rfl rfl rfl rfl mw_1412 (inr_c rfl) d_MO_name_2 (fun H locs hS => ?_)
  obtain ⟨M1, eM1⟩ : ∃ q, q = (setI M 191 23 0) := ⟨_, rfl⟩
  replace hS : St b C n M1 s H locs := by rw [eM1]; exact hS
  replace hT := qlet_eq hT eM1
  refine r_iconst F.hx F.hb d_MO_name_5 ?_
  refine lv_istore_n (lv' := [(1, vI 0), (0, .ref (b + 191))]) F.hx F.hb d_MO_name_6 rfl hl (Nat.le_of_ble_eq_true rfl) rfl (fun ls hl => ?_)
  exact k_MO_name_L7 l hlo F hlk hr FU M1 0 (inr_c rfl) _ _ _ hS (lv_sub hl [1, 0] rfl) hT
theorem wn_MO_sign_0 : ∀ i, i < 96 → bA b_MO_sign (0 + i) = wB [42, 89, 180, 0, 151, 4, 96, 181, 0, 151, 42, 27, 16, 59, 159, 0, 57, 27, 16, 40, 159, 0, 51, 27, 16, 41, 159, 0, 45, 27, 16, 43, 159, 0, 39, 27, 16, 45, 159, 0, 33, 27, 16, 42, 159, 0, 27, 27, 16, 47, 159, 0, 21, 27, 16, 60, 159, 0, 15, 27, 16, 61, 159, 0, 9, 27, 16, 62, 160, 0, 7, 6, 167, 0, 4, 8, 181, 0, 164, 42, 27, 181, 0, 174, 27, 16, 60, 160, 0, 19, 42, 182, 0, 157, 16, 61] i := wB_of (by decide +kernel)
theorem d_MO_sign_0 : decode b_MO_sign 0 = .ok (.aload_n 0, 1) := dc_42 (q0_win (r := 0) wn_MO_sign_0 (by decide +kernel))
theorem d_MO_sign_1 : decode b_MO_sign 1 = .ok (.dup, 1) := dc_89 (q0_win (r := 1) wn_MO_sign_0 (by decide +kernel))
theorem d_MO_sign_2 : decode b_MO_sign 2 = .ok (.getfield 151, 3) := dc_180 (qU2_win (r := 2) wn_MO_sign_0 (by decide +kernel))
theorem d_MO_sign_5 : decode b_MO_sign 5 = .ok (.iconst 1, 1) := dc_4 (q0_win (r := 5) wn_MO_sign_0 (by decide +kernel))
theorem d_MO_sign_6 : decode b_MO_sign 6 = .ok (.iadd, 1) := dc_96 (q0_win (r := 6) wn_MO_sign_0 (by decide +kernel))
theorem d_MO_sign_7 : decode b_MO_sign 7 = .ok (.putfield 151, 3) := dc_181 (qU2_win (r := 7) wn_MO_sign_0 (by decide +kernel))
theorem d_MO_sign_10 : decode b_MO_sign 10 = .ok (.aload_n 0, 1) := dc_42 (q0_win (r := 10) wn_MO_sign_0 (by decide +kernel))
theorem d_MO_sign_11 : decode b_MO_sign 11 = .ok (.iload_n 1, 1) := dc_27 (q0_win (r := 11) wn_MO_sign_0 (by decide +kernel))
theorem d_MO_sign_12 : decode b_MO_sign 12 = .ok (.bipush 59, 2) := dc_16 (qS1_win (r := 12) wn_MO_sign_0 (by decide +kernel))
theorem d_MO_sign_14 : decode b_MO_sign 14 = .ok (.if_icmp .eq 57, 3) := dc_159 (qS2_win (r := 14) wn_MO_sign_0 (by decide +kernel))
theorem d_MO_sign_17 : decode b_MO_sign 17 = .ok (.iload_n 1, 1) := dc_27 (q0_win (r := 17) wn_MO_sign_0 (by decide +kernel))
theorem d_MO_sign_18 : decode b_MO_sign 18 = .ok (.bipush 40, 2) := dc_16 (qS1_win (r := 18) wn_MO_sign_0 (by decide +kernel))
theorem d_MO_sign_20 : decode b_MO_sign 20 = .ok (.if_icmp .eq 51, 3) := dc_159 (qS2_win (r := 20) wn_MO_sign_0 (by decide +kernel))
theorem d_MO_sign_23 : decode b_MO_sign 23 = .ok (.iload_n 1, 1) := dc_27 (q0_win (r := 23) wn_MO_sign_0 (by decide +kernel))
theorem d_MO_sign_24 : decode b_MO_sign 24 = .ok (.bipush 41, 2) := dc_16 (qS1_win (r := 24) wn_MO_sign_0 (by decide +kernel))
theorem d_MO_sign_26 : decode b_MO_sign 26 = .ok (.if_icmp .eq 45, 3) := dc_159 (qS2_win (r := 26) wn_MO_sign_0 (by decide +kernel))
theorem d_MO_sign_29 : decode b_MO_sign 29 = .ok (.iload_n 1, 1) := dc_27 (q0_win (r := 29) wn_MO_sign_0 (by decide +kernel))
theorem d_MO_sign_30 : decode b_MO_sign 30 = .ok (.bipush 43, 2) := dc_16 (qS1_win (r := 30) wn_MO_sign_0 (by decide +kernel))
theorem d_MO_sign_32 : decode b_MO_sign 32 = .ok (.if_icmp .eq 39, 3) := dc_159 (qS2_win (r := 32) wn_MO_sign_0 (by decide +kernel))
theorem d_MO_sign_35 : decode b_MO_sign 35 = .ok (.iload_n 1, 1) := dc_27 (q0_win (r := 35) wn_MO_sign_0 (by decide +kernel))
theorem d_MO_sign_36 : decode b_MO_sign 36 = .ok (.bipush 45, 2) := dc_16 (qS1_win (r := 36) wn_MO_sign_0 (by decide +kernel))
theorem d_MO_sign_38 : decode b_MO_sign 38 = .ok (.if_icmp .eq 33, 3) := dc_159 (qS2_win (r := 38) wn_MO_sign_0 (by decide +kernel))
theorem d_MO_sign_41 : decode b_MO_sign 41 = .ok (.iload_n 1, 1) := dc_27 (q0_win (r := 41) wn_MO_sign_0 (by decide +kernel))
theorem d_MO_sign_42 : decode b_MO_sign 42 = .ok (.bipush 42, 2) := dc_16 (qS1_win (r := 42) wn_MO_sign_0 (by decide +kernel))
theorem d_MO_sign_44 : decode b_MO_sign 44 = .ok (.if_icmp .eq 27, 3) := dc_159 (qS2_win (r := 44) wn_MO_sign_0 (by decide +kernel))
theorem d_MO_sign_47 : decode b_MO_sign 47 = .ok (.iload_n 1, 1) := dc_27 (q0_win (r := 47) wn_MO_sign_0 (by decide +kernel))
theorem d_MO_sign_48 : decode b_MO_sign 48 = .ok (.bipush 47, 2) := dc_16 (qS1_win (r := 48) wn_MO_sign_0 (by decide +kernel))
theorem d_MO_sign_50 : decode b_MO_sign 50 = .ok (.if_icmp .eq 21, 3) := dc_159 (qS2_win (r := 50) wn_MO_sign_0 (by decide +kernel))
theorem d_MO_sign_53 : decode b_MO_sign 53 = .ok (.iload_n 1, 1) := dc_27 (q0_win (r := 53) wn_MO_sign_0 (by decide +kernel))
theorem d_MO_sign_54 : decode b_MO_sign 54 = .ok (.bipush 60, 2) := dc_16 (qS1_win (r := 54) wn_MO_sign_0 (by decide +kernel))
theorem d_MO_sign_56 : decode b_MO_sign 56 = .ok (.if_icmp .eq 15, 3) := dc_159 (qS2_win (r := 56) wn_MO_sign_0 (by decide +kernel))
theorem d_MO_sign_59 : decode b_MO_sign 59 = .ok (.iload_n 1, 1) := dc_27 (q0_win (r := 59) wn_MO_sign_0 (by decide +kernel))
theorem d_MO_sign_60 : decode b_MO_sign 60 = .ok (.bipush 61, 2) := dc_16 (qS1_win (r := 60) wn_MO_sign_0 (by decide +kernel))
theorem d_MO_sign_62 : decode b_MO_sign 62 = .ok (.if_icmp .eq 9, 3) := dc_159 (qS2_win (r := 62) wn_MO_sign_0 (by decide +kernel))
theorem d_MO_sign_65 : decode b_MO_sign 65 = .ok (.iload_n 1, 1) := dc_27 (q0_win (r := 65) wn_MO_sign_0 (by decide +kernel))
theorem d_MO_sign_66 : decode b_MO_sign 66 = .ok (.bipush 62, 2) := dc_16 (qS1_win (r := 66) wn_MO_sign_0 (by decide +kernel))
theorem d_MO_sign_68 : decode b_MO_sign 68 = .ok (.if_icmp .ne 7, 3) := dc_160 (qS2_win (r := 68) wn_MO_sign_0 (by decide +kernel))
theorem d_MO_sign_71 : decode b_MO_sign 71 = .ok (.iconst 3, 1) := dc_6 (q0_win (r := 71) wn_MO_sign_0 (by decide +kernel))
theorem d_MO_sign_72 : decode b_MO_sign 72 = .ok (.goto 4, 3) := dc_167 (qS2_win (r := 72) wn_MO_sign_0 (by decide +kernel))
theorem d_MO_sign_75 : decode b_MO_sign 75 = .ok (.iconst 5, 1) := dc_8 (q0_win (r := 75) wn_MO_sign_0 (by decide +kernel))
theorem d_MO_sign_76 : decode b_MO_sign 76 = .ok (.putfield 164, 3) := dc_181 (qU2_win (r := 76) wn_MO_sign_0 (by decide +kernel))
theorem d_MO_sign_79 : decode b_MO_sign 79 = .ok (.aload_n 0, 1) := dc_42 (q0_win (r := 79) wn_MO_sign_0 (by decide +kernel))
theorem d_MO_sign_80 : decode b_MO_sign 80 = .ok (.iload_n 1, 1) := dc_27 (q0_win (r := 80) wn_MO_sign_0 (by decide +kernel))
theorem d_MO_sign_81 : decode b_MO_sign 81 = .ok (.putfield 174, 3) := dc_181 (qU2_win (r := 81) wn_MO_sign_0 (by decide +kernel))
theorem d_MO_sign_84 : decode b_MO_sign 84 = .ok (.iload_n 1, 1) := dc_27 (q0_win (r := 84) wn_MO_sign_0 (by decide +kernel))
theorem d_MO_sign_85 : decode b_MO_sign 85 = .ok (.bipush 60, 2) := dc_16 (qS1_win (r := 85) wn_MO_sign_0 (by decide +kernel))
theorem d_MO_sign_87 : decode b_MO_sign 87 = .ok (.if_icmp .ne 19, 3) := dc_160 (qS2_win (r := 87) wn_MO_sign_0 (by decide +kernel))
theorem d_MO_sign_90 : decode b_MO_sign 90 = .ok (.aload_n 0, 1) := dc_42 (q0_win (r := 90) wn_MO_sign_0 (by decide +kernel))
theorem d_MO_sign_91 : decode b_MO_sign 91 = .ok (.invokevirtual 157, 3) := dc_182 (qU2_win (r := 91) wn_MO_sign_0 (by decide +kernel))
theorem d_MO_sign_94 : decode b_MO_sign 94 = .ok (.bipush 61, 2) := dc_16 (qS1_win (r := 94) wn_MO_sign_0 (by decide +kernel))
theorem wn_MO_sign_96 : ∀ i, i < 75 → bA b_MO_sign (96 + i) = wB [160, 0, 10, 42, 17, 1, 0, 181, 0, 174, 27, 16, 60, 160, 0, 19, 42, 182, 0, 157, 16, 62, 160, 0, 10, 42, 17, 1, 1, 181, 0, 174, 27, 16, 62, 160, 0, 19, 42, 182, 0, 157, 16, 61, 160, 0, 10, 42, 17, 1, 2, 181, 0, 174, 42, 180, 0, 174, 17, 1, 0, 161, 0, 13, 42, 89, 180, 0, 151, 4, 96, 181, 0, 151, 177] i := wB_of (by decide +kernel)
theorem d_MO_sign_96 : decode b_MO_sign 96 = .ok (.if_icmp .ne 10, 3) := dc_160 (qS2_win (r := 0) wn_MO_sign_96 (by decide +kernel))
theorem d_MO_sign_99 : decode b_MO_sign 99 = .ok (.aload_n 0, 1) := dc_42 (q0_win (r := 3) wn_MO_sign_96 (by decide +kernel))
theorem d_MO_sign_100 : decode b_MO_sign 100 = .ok (.sipush 256, 3) := dc_17 (qS2_win (r := 4) wn_MO_sign_96 (by decide +kernel))
theorem d_MO_sign_103 : decode b_MO_sign 103 = .ok (.putfield 174, 3) := dc_181 (qU2_win (r := 7) wn_MO_sign_96 (by decide +kernel))
theorem d_MO_sign_106 : decode b_MO_sign 106 = .ok (.iload_n 1, 1) := dc_27 (q0_win (r := 10) wn_MO_sign_96 (by decide +kernel))
theorem d_MO_sign_107 : decode b_MO_sign 107 = .ok (.bipush 60, 2) := dc_16 (qS1_win (r := 11) wn_MO_sign_96 (by decide +kernel))
theorem d_MO_sign_109 : decode b_MO_sign 109 = .ok (.if_icmp .ne 19, 3) := dc_160 (qS2_win (r := 13) wn_MO_sign_96 (by decide +kernel))
theorem d_MO_sign_112 : decode b_MO_sign 112 = .ok (.aload_n 0, 1) := dc_42 (q0_win (r := 16) wn_MO_sign_96 (by decide +kernel))
theorem d_MO_sign_113 : decode b_MO_sign 113 = .ok (.invokevirtual 157, 3) := dc_182 (qU2_win (r := 17) wn_MO_sign_96 (by decide +kernel))
theorem d_MO_sign_116 : decode b_MO_sign 116 = .ok (.bipush 62, 2) := dc_16 (qS1_win (r := 20) wn_MO_sign_96 (by decide +kernel))
theorem d_MO_sign_118 : decode b_MO_sign 118 = .ok (.if_icmp .ne 10, 3) := dc_160 (qS2_win (r := 22) wn_MO_sign_96 (by decide +kernel))
theorem d_MO_sign_121 : decode b_MO_sign 121 = .ok (.aload_n 0, 1) := dc_42 (q0_win (r := 25) wn_MO_sign_96 (by decide +kernel))
theorem d_MO_sign_122 : decode b_MO_sign 122 = .ok (.sipush 257, 3) := dc_17 (qS2_win (r := 26) wn_MO_sign_96 (by decide +kernel))
theorem d_MO_sign_125 : decode b_MO_sign 125 = .ok (.putfield 174, 3) := dc_181 (qU2_win (r := 29) wn_MO_sign_96 (by decide +kernel))
theorem d_MO_sign_128 : decode b_MO_sign 128 = .ok (.iload_n 1, 1) := dc_27 (q0_win (r := 32) wn_MO_sign_96 (by decide +kernel))
theorem d_MO_sign_129 : decode b_MO_sign 129 = .ok (.bipush 62, 2) := dc_16 (qS1_win (r := 33) wn_MO_sign_96 (by decide +kernel))
theorem d_MO_sign_131 : decode b_MO_sign 131 = .ok (.if_icmp .ne 19, 3) := dc_160 (qS2_win (r := 35) wn_MO_sign_96 (by decide +kernel))
theorem d_MO_sign_134 : decode b_MO_sign 134 = .ok (.aload_n 0, 1) := dc_42 (q0_win (r := 38) wn_MO_sign_96 (by decide +kernel))
theorem d_MO_sign_135 : decode b_MO_sign 135 = .ok (.invokevirtual 157, 3) := dc_182 (qU2_win (r := 39) wn_MO_sign_96 (by decide +kernel))
theorem d_MO_sign_138 : decode b_MO_sign 138 = .ok (.bipush 61, 2) := dc_16 (qS1_win (r := 42) wn_MO_sign_96 (by decide +kernel))
theorem d_MO_sign_140 : decode b_MO_sign 140 = .ok (.if_icmp .ne 10, 3) := dc_160 (qS2_win (r := 44) wn_MO_sign_96 (by decide +kernel))
theorem d_MO_sign_143 : decode b_MO_sign 143 = .ok (.aload_n 0, 1) := dc_42 (q0_win (r := 47) wn_MO_sign_96 (by decide +kernel))
theorem d_MO_sign_144 : decode b_MO_sign 144 = .ok (.sipush 258, 3) := dc_17 (qS2_win (r := 48) wn_MO_sign_96 (by decide +kernel))
theorem d_MO_sign_147 : decode b_MO_sign 147 = .ok (.putfield 174, 3) := dc_181 (qU2_win (r := 51) wn_MO_sign_96 (by decide +kernel))
theorem d_MO_sign_150 : decode b_MO_sign 150 = .ok (.aload_n 0, 1) := dc_42 (q0_win (r := 54) wn_MO_sign_96 (by decide +kernel))
theorem d_MO_sign_151 : decode b_MO_sign 151 = .ok (.getfield 174, 3) := dc_180 (qU2_win (r := 55) wn_MO_sign_96 (by decide +kernel))
theorem d_MO_sign_154 : decode b_MO_sign 154 = .ok (.sipush 256, 3) := dc_17 (qS2_win (r := 58) wn_MO_sign_96 (by decide +kernel))
theorem d_MO_sign_157 : decode b_MO_sign 157 = .ok (.if_icmp .lt 13, 3) := dc_161 (qS2_win (r := 61) wn_MO_sign_96 (by decide +kernel))
theorem d_MO_sign_160 : decode b_MO_sign 160 = .ok (.aload_n 0, 1) := dc_42 (q0_win (r := 64) wn_MO_sign_96 (by decide +kernel))
theorem d_MO_sign_161 : decode b_MO_sign 161 = .ok (.dup, 1) := dc_89 (q0_win (r := 65) wn_MO_sign_96 (by decide +kernel))
theorem d_MO_sign_162 : decode b_MO_sign 162 = .ok (.getfield 151, 3) := dc_180 (qU2_win (r := 66) wn_MO_sign_96 (by decide +kernel))
theorem d_MO_sign_165 : decode b_MO_sign 165 = .ok (.iconst 1, 1) := dc_4 (q0_win (r := 69) wn_MO_sign_96 (by decide +kernel))
theorem d_MO_sign_166 : decode b_MO_sign 166 = .ok (.iadd, 1) := dc_96 (q0_win (r := 70) wn_MO_sign_96 (by decide +kernel))
theorem d_MO_sign_167 : decode b_MO_sign 167 = .ok (.putfield 151, 3) := dc_181 (qU2_win (r := 71) wn_MO_sign_96 (by decide +kernel))
theorem d_MO_sign_170 : decode b_MO_sign 170 = .ok (.return_, 1) := dc_177 (q0_win (r := 74) wn_MO_sign_96 (by decide +kernel))
def t_MO_sign_L150 (x1 : Int)  (M : Mem)  : Option (Mem) := (if (M.1 191 23) < 256 then (some M) else (qlet (setI M 191 20 (w32 ((M.1 191 20) + 1))) fun M33 => (some M33)))
def t_MO_sign_L128 (x1 : Int)  (M : Mem)  : Option (Mem) := (if x1 = 62 then (obind (t_MO_here M) fun q26 => (if q26 = 61 then (qlet (setI M 191 23 258) fun M29 => (t_MO_sign_L150 x1 M29)) else (t_MO_sign_L150 x1 M))) else (t_MO_sign_L150 x1 M))
def t_MO_sign_L106 (x1 : Int)  (M : Mem)  : Option (Mem) := (if x1 = 60 then (obind (t_MO_here M) fun q21 => (if q21 = 62 then (qlet (setI M 191 23 257) fun M24 => (t_MO_sign_L128 x1 M24)) else (t_MO_sign_L128 x1 M))) else (t_MO_sign_L128 x1 M))
def t_MO_sign_L76 (x1 : Int)  (M : Mem) (v3_ : Int) : Option (Mem) := (qlet (setI M 191 22 v3_) fun M13 => (qlet (setI M13 191 23 x1) fun M14 => (if x1 = 60 then (obind (t_MO_here M14) fun q16 => (if q16 = 61 then (qlet (setI M14 191 23 256) fun M19 => (t_MO_sign_L106 x1 M19)) else (t_MO_sign_L106 x1 M14))) else (t_MO_sign_L106 x1 M14))))
def t_MO_sign_L71 (x1 : Int)  (M : Mem)  : Option (Mem) := (t_MO_sign_L76 x1 M 3)
def t_MO_sign (M : Mem) (x1 : Int) : Option (Mem) := (qlet (setI M 191 20 (w32 ((M.1 191 20) + 1))) fun M2 => (if x1 = 59 then (t_MO_sign_L71 x1 M2) else (if x1 = 40 then (t_MO_sign_L71 x1 M2) else (if x1 = 41 then (t_MO_sign_L71 x1 M2) else (if x1 = 43 then (t_MO_sign_L71 x1 M2) else (if x1 = 45 then (t_MO_sign_L71 x1 M2) else (if x1 = 42 then (t_MO_sign_L71 x1 M2) else (if x1 = 47 then (t_MO_sign_L71 x1 M2) else (if x1 = 60 then (t_MO_sign_L71 x1 M2) else (if x1 = 61 then (t_MO_sign_L71 x1 M2) else (if x1 = 62 then (t_MO_sign_L71 x1 M2) else (t_MO_sign_L76 x1 M2 5))))))))))))
set_option maxHeartbeats 4000000 in
set_option maxRecDepth 100000 in
theorem k_MO_sign_L150 (l : Launch) {p : Program} {e : Env} {s : State} {m : MethodId} {below : List Frame} {meth : Method} {c : Code} {b n : Nat} {C : CT} (hlo : 231 ≤ n) (x1 : Int) (hx1 : InR x1) (F : Cx b p m c b_MO_sign 2 s ([.ref (b + 191), vI x1] : List Value).toArray "WardFallsModel" C n 231) (hlk : meth.locks = false) (hr : meth.sig.returnType = none) {res : Mem} (M : Mem)  (H : Heap) (locs : List Loc) (ls : Array Slot) (hS : St b C n M s H locs) (hl : lv_has ls 2 [(0, .ref (b + 191))]) (hT : t_MO_sign_L150 x1 M = some res) : W p l e (headSpec (wsM y_MO_sign b_MO_sign 2 (none)) (rmD 1)).room s m ([.ref (b + 191), vI x1] : List Value).toArray below meth c H locs 0 0 (MQ below (QV b C n res) ([.ref (b + 191), vI x1] : List Value).toArray s 0 0 (frb b)) (F0 m 150 ls []) := by
  unfold t_MO_sign_L150 at hT
  refine lv_aload_n F.hx F.hb d_MO_sign_150 rfl (lv_at hl 0 rfl) ?_
  refine r_get (v := vI (M.1 191 23)) (N := 68) (T := T1) (j := 23) F hS (show 191 < 231 by decide) (show shK 191 = 5 from rfl) (show shN 191 = 68 from rfl) rfl (Nat.le_of_ble_eq_true rfl) ing1 mw_1412 (fv_int rfl) d_MO_sign_151 ?_
  have i30 := hS.rng 191 23
  refine r_sipush F.hx F.hb d_MO_sign_154 rfl ?_
  refine r_icmp_lt (tgt := 170) F.hx F.hb i30 (inr_c rfl) d_MO_sign_157 (by decide) (fun c31 => ?_) (fun c31 => ?_)
  · replace hT := (if_pos c31).symm.trans hT
    cases hT
    exact r_vret F hlk hr hS d_MO_sign_170
  · replace hT := (if_neg c31).symm.trans hT
    refine lv_aload_n F.hx F.hb d_MO_sign_160 rfl (lv_at hl 0 rfl) ?_
    refine lv_dup F.hx F.hb d_MO_sign_161 rfl ?_
    refine r_get (v := vI (M.1 191 20)) (N := 68) (T := T1) (j := 20) F hS (show 191 < 231 by decide) (show shK 191 = 5 from rfl) (show shN 191 = 68 from rfl) rfl (Nat.le_of_ble_eq_true rfl) ing1 mw_1409 (fv_int rfl) d_MO_sign_162 ?_
    have i32 := hS.rng 191 20
    refine r_iconst F.hx F.hb d_MO_sign_165 ?_
    refine r_iadd F.hx F.hb d_MO_sign_166 ?_
    refine r_putI (N := 68) (T := T1) (j := 20) F hS (show 191 < 231 by decide) (show shK 191 = 5 from rfl) (show shN 191 = 68 from rfl) rfl (Nat.le_of_ble_eq_true rfl) ing1 tyok1 nm1 rfl rfl rfl rfl rfl rfl mw_1409 (inr_w32 _) d_MO_sign_167 (fun H locs hS => ?_)
    obtain ⟨M33, eM33⟩ : ∃ q, q = (setI M 191 20 (w32 ((M.1 191 20) + 1))) := ⟨_, rfl⟩
    replace hS : St b C n M33 s H locs := by rw [eM33]; exact hS
    replace hT := qlet_eq hT eM33
    cases hT
    exact r_vret F hlk hr hS d_MO_sign_170
set_option maxHeartbeats 4000000 in
set_option maxRecDepth 100000 in
theorem k_MO_sign_L128 (l : Launch) {p : Program} {e : Env} {s : State} {m : MethodId} {below : List Frame} {meth : Method} {c : Code} {b n : Nat} {C : CT} (hlo : 231 ≤ n) (x1 : Int) (hx1 : InR x1) (F : Cx b p m c b_MO_sign 2 s ([.ref (b + 191), vI x1] : List Value).toArray "WardFallsModel" C n 231) (hlk : meth.locks = false) (hr : meth.sig.returnType = none) {res : Mem} (M : Mem)  (H : Heap) (locs : List Loc) (ls : Array Slot) (hS : St b C n M s H locs) (hl : lv_has ls 2 [(0, .ref (b + 191)), (1, vI x1)]) (hT : t_MO_sign_L128 x1 M = some res) : W p l e (headSpec (wsM y_MO_sign b_MO_sign 2 (none)) (rmD 1)).room s m ([.ref (b + 191), vI x1] : List Value).toArray below meth c H locs 0 0 (MQ below (QV b C n res) ([.ref (b + 191), vI x1] : List Value).toArray s 0 0 (frb b)) (F0 m 128 ls []) := by
  unfold t_MO_sign_L128 at hT
  refine lv_iload_n F.hx F.hb d_MO_sign_128 rfl (lv_at hl 1 rfl) ?_
  refine r_bipush F.hx F.hb d_MO_sign_129 rfl ?_
  refine r_icmp_ne (tgt := 150) F.hx F.hb hx1 (inr_c rfl) d_MO_sign_131 (by decide) (fun c25 => ?_) (fun c25 => ?_)
  · replace hT := (if_neg c25).symm.trans hT
    exact k_MO_sign_L150 l hlo x1 hx1 F hlk hr M _ _ _ hS (lv_sub hl [0] rfl) hT
  · replace hT := (if_pos c25).symm.trans hT
    refine lv_aload_n F.hx F.hb d_MO_sign_134 rfl (lv_at hl 0 rfl) ?_
    obtain ⟨q26, hq26, hT⟩ := q_obind hT
    refine r_backI F hS (r_runV (k := 191) (N := 68) (T := T1) (As := []) F hS (show 191 < 231 by decide) (show shK 191 = 5 from rfl) rfl (c_MO_here l F.2.2.1 M _ hq26) gs_MO_157 hd_MO_here ⟨Nat.le_of_ble_eq_true rfl, Nat.le_of_ble_eq_true rfl⟩ rfl hl.1 (Nat.le_of_ble_eq_true rfl) ⟨Nat.zero_le _, Nat.zero_le _⟩ rfl d_MO_sign_135) (fun H locs hS h27 => ?_)
    refine r_bipush F.hx F.hb d_MO_sign_138 rfl ?_
    refine r_icmp_ne (tgt := 150) F.hx F.hb h27 (inr_c rfl) d_MO_sign_140 (by decide) (fun c28 => ?_) (fun c28 => ?_)
    · replace hT := (if_neg c28).symm.trans hT
      exact k_MO_sign_L150 l hlo x1 hx1 F hlk hr M _ _ _ hS (lv_sub hl [0] rfl) hT
    · replace hT := (if_pos c28).symm.trans hT
      refine lv_aload_n F.hx F.hb d_MO_sign_143 rfl (lv_at hl 0 rfl) ?_
      refine r_sipush F.hx F.hb d_MO_sign_144 rfl ?_
      refine r_putI (N := 68) (T := T1) (j := 23) F hS (show 191 < 231 by decide) (show shK 191 = 5 from rfl) (show shN 191 = 68 from rfl) rfl (Nat.le_of_ble_eq_true rfl) ing1 tyok1 nm1 rfl rfl rfl rfl rfl rfl mw_1412 (inr_c rfl) d_MO_sign_147 (fun H locs hS => ?_)
      obtain ⟨M29, eM29⟩ : ∃ q, q = (setI M 191 23 258) := ⟨_, rfl⟩
      replace hS : St b C n M29 s H locs := by rw [eM29]; exact hS
      replace hT := qlet_eq hT eM29
      exact k_MO_sign_L150 l hlo x1 hx1 F hlk hr M29 _ _ _ hS (lv_sub hl [0] rfl) hT
set_option maxHeartbeats 4000000 in
set_option maxRecDepth 100000 in
theorem k_MO_sign_L106 (l : Launch) {p : Program} {e : Env} {s : State} {m : MethodId} {below : List Frame} {meth : Method} {c : Code} {b n : Nat} {C : CT} (hlo : 231 ≤ n) (x1 : Int) (hx1 : InR x1) (F : Cx b p m c b_MO_sign 2 s ([.ref (b + 191), vI x1] : List Value).toArray "WardFallsModel" C n 231) (hlk : meth.locks = false) (hr : meth.sig.returnType = none) {res : Mem} (M : Mem)  (H : Heap) (locs : List Loc) (ls : Array Slot) (hS : St b C n M s H locs) (hl : lv_has ls 2 [(0, .ref (b + 191)), (1, vI x1)]) (hT : t_MO_sign_L106 x1 M = some res) : W p l e (headSpec (wsM y_MO_sign b_MO_sign 2 (none)) (rmD 1)).room s m ([.ref (b + 191), vI x1] : List Value).toArray below meth c H locs 0 0 (MQ below (QV b C n res) ([.ref (b + 191), vI x1] : List Value).toArray s 0 0 (frb b)) (F0 m 106 ls []) := by
  unfold t_MO_sign_L106 at hT
  refine lv_iload_n F.hx F.hb d_MO_sign_106 rfl (lv_at hl 1 rfl) ?_
  refine r_bipush F.hx F.hb d_MO_sign_107 rfl ?_
  refine r_icmp_ne (tgt := 128) F.hx F.hb hx1 (inr_c rfl) d_MO_sign_109 (by decide) (fun c20 => ?_) (fun c20 => ?_)
  · replace hT := (if_neg c20).symm.trans hT
    exact k_MO_sign_L128 l hlo x1 hx1 F hlk hr M _ _ _ hS (lv_sub hl [0, 1] rfl) hT
  · replace hT := (if_pos c20).symm.trans hT
    refine lv_aload_n F.hx F.hb d_MO_sign_112 rfl (lv_at hl 0 rfl) ?_
    obtain ⟨q21, hq21, hT⟩ := q_obind hT
    refine r_backI F hS (r_runV (k := 191) (N := 68) (T := T1) (As := []) F hS (show 191 < 231 by decide) (show shK 191 = 5 from rfl) rfl (c_MO_here l F.2.2.1 M _ hq21) gs_MO_157 hd_MO_here ⟨Nat.le_of_ble_eq_true rfl, Nat.le_of_ble_eq_true rfl⟩ rfl hl.1 (Nat.le_of_ble_eq_true rfl) ⟨Nat.zero_le _, Nat.zero_le _⟩ rfl d_MO_sign_113) (fun H locs hS h22 => ?_)
    refine r_bipush F.hx F.hb d_MO_sign_116 rfl ?_
    refine r_icmp_ne (tgt := 128) F.hx F.hb h22 (inr_c rfl) d_MO_sign_118 (by decide) (fun c23 => ?_) (fun c23 => ?_)
    · replace hT := (if_neg c23).symm.trans hT
      exact k_MO_sign_L128 l hlo x1 hx1 F hlk hr M _ _ _ hS (lv_sub hl [0, 1] rfl) hT
    · replace hT := (if_pos c23).symm.trans hT
      refine lv_aload_n F.hx F.hb d_MO_sign_121 rfl (lv_at hl 0 rfl) ?_
      refine r_sipush F.hx F.hb d_MO_sign_122 rfl ?_
      refine r_putI (N := 68) (T := T1) (j := 23) F hS (show 191 < 231 by decide) (show shK 191 = 5 from rfl) (show shN 191 = 68 from rfl) rfl (Nat.le_of_ble_eq_true rfl) ing1 tyok1 nm1 rfl rfl rfl rfl rfl rfl mw_1412 (inr_c rfl) d_MO_sign_125 (fun H locs hS => ?_)
      obtain ⟨M24, eM24⟩ : ∃ q, q = (setI M 191 23 257) := ⟨_, rfl⟩
      replace hS : St b C n M24 s H locs := by rw [eM24]; exact hS
      replace hT := qlet_eq hT eM24
      exact k_MO_sign_L128 l hlo x1 hx1 F hlk hr M24 _ _ _ hS (lv_sub hl [0, 1] rfl) hT
set_option maxHeartbeats 4000000 in
set_option maxRecDepth 100000 in
theorem k_MO_sign_L76 (l : Launch) {p : Program} {e : Env} {s : State} {m : MethodId} {below : List Frame} {meth : Method} {c : Code} {b n : Nat} {C : CT} (hlo : 231 ≤ n) (x1 : Int) (hx1 : InR x1) (F : Cx b p m c b_MO_sign 2 s ([.ref (b + 191), vI x1] : List Value).toArray "WardFallsModel" C n 231) (hlk : meth.locks = false) (hr : meth.sig.returnType = none) {res : Mem} (M : Mem) (v3_ : Int) (hv3_ : InR v3_) (H : Heap) (locs : List Loc) (ls : Array Slot) (hS : St b C n M s H locs) (hl : lv_has ls 2 [(0, .ref (b + 191)), (1, vI x1)]) (hT : t_MO_sign_L76 x1 M v3_ = some res) : W p l e (headSpec (wsM y_MO_sign b_MO_sign 2 (none)) (rmD 1)).room s m ([.ref (b + 191), vI x1] : List Value).toArray below meth c H locs 0 0 (MQ below (QV b C n res) ([.ref (b + 191), vI x1] : List Value).toArray s 0 0 (frb b)) (F0 m 76 ls [vI v3_, .ref (b + 191)]) := by
  unfold t_MO_sign_L76 at hT
  refine r_putI (N := 68) (T := T1) (j := 22) F hS (show 191 < 231 by decide) (show shK 191 = 5 from rfl) (show shN 191 = 68 from rfl) rfl (Nat.le_of_ble_eq_true rfl) ing1 tyok1 nm1 rfl rfl rfl rfl rfl rfl mw_1411 hv3_ d_MO_sign_76 (fun H locs hS => ?_)
  obtain ⟨M13, eM13⟩ : ∃ q, q = (setI M 191 22 v3_) := ⟨_, rfl⟩
  replace hS : St b C n M13 s H locs := by rw [eM13]; exact hS
  replace hT := qlet_eq hT eM13
  refine lv_aload_n F.hx F.hb d_MO_sign_79 rfl (lv_at hl 0 rfl) ?_
  refine lv_iload_n F.hx F.hb d_MO_sign_80 rfl (lv_at hl 1 rfl) ?_
  refine r_putI (N := 68) (T := T1) (j := 23) F hS (show 191 < 231 by decide) (show shK 191 = 5 from rfl) (show shN 191 = 68 from rfl) rfl (Nat.le_of_ble_eq_true rfl) ing1 tyok1 nm1 rfl rfl rfl rfl rfl rfl mw_1412 hx1 d_MO_sign_81 (fun H locs hS => ?_)
  obtain ⟨M14, eM14⟩ : ∃ q, q = (setI M13 191 23 x1) := ⟨_, rfl⟩
  replace hS : St b C n M14 s H locs := by rw [eM14]; exact hS
  replace hT := qlet_eq hT eM14
  refine lv_iload_n F.hx F.hb d_MO_sign_84 rfl (lv_at hl 1 rfl) ?_
  refine r_bipush F.hx F.hb d_MO_sign_85 rfl ?_
  refine r_icmp_ne (tgt := 106) F.hx F.hb hx1 (inr_c rfl) d_MO_sign_87 (by decide) (fun c15 => ?_) (fun c15 => ?_)
  · replace hT := (if_neg c15).symm.trans hT
    exact k_MO_sign_L106 l hlo x1 hx1 F hlk hr M14 _ _ _ hS (lv_sub hl [0, 1] rfl) hT
  · replace hT := (if_pos c15).symm.trans hT
    refine lv_aload_n F.hx F.hb d_MO_sign_90 rfl (lv_at hl 0 rfl) ?_
    obtain ⟨q16, hq16, hT⟩ := q_obind hT
    refine r_backI F hS (r_runV (k := 191) (N := 68) (T := T1) (As := []) F hS (show 191 < 231 by decide) (show shK 191 = 5 from rfl) rfl (c_MO_here l F.2.2.1 M14 _ hq16) gs_MO_157 hd_MO_here ⟨Nat.le_of_ble_eq_true rfl, Nat.le_of_ble_eq_true rfl⟩ rfl hl.1 (Nat.le_of_ble_eq_true rfl) ⟨Nat.zero_le _, Nat.zero_le _⟩ rfl d_MO_sign_91) (fun H locs hS h17 => ?_)
    refine r_bipush F.hx F.hb d_MO_sign_94 rfl ?_
    refine r_icmp_ne (tgt := 106) F.hx F.hb h17 (inr_c rfl) d_MO_sign_96 (by decide) (fun c18 => ?_) (fun c18 => ?_)
    · replace hT := (if_neg c18).symm.trans hT
      exact k_MO_sign_L106 l hlo x1 hx1 F hlk hr M14 _ _ _ hS (lv_sub hl [0, 1] rfl) hT
    · replace hT := (if_pos c18).symm.trans hT
      refine lv_aload_n F.hx F.hb d_MO_sign_99 rfl (lv_at hl 0 rfl) ?_
      refine r_sipush F.hx F.hb d_MO_sign_100 rfl ?_
      refine r_putI (N := 68) (T := T1) (j := 23) F hS (show 191 < 231 by decide) (show shK 191 = 5 from rfl) (show shN 191 = 68 from rfl) rfl (Nat.le_of_ble_eq_true rfl) ing1 tyok1 nm1 rfl rfl rfl rfl rfl rfl mw_1412 (inr_c rfl) d_MO_sign_103 (fun H locs hS => ?_)
      obtain ⟨M19, eM19⟩ : ∃ q, q = (setI M14 191 23 256) := ⟨_, rfl⟩
      replace hS : St b C n M19 s H locs := by rw [eM19]; exact hS
      replace hT := qlet_eq hT eM19
      exact k_MO_sign_L106 l hlo x1 hx1 F hlk hr M19 _ _ _ hS (lv_sub hl [0, 1] rfl) hT
set_option maxHeartbeats 4000000 in
set_option maxRecDepth 100000 in
theorem k_MO_sign_L71 (l : Launch) {p : Program} {e : Env} {s : State} {m : MethodId} {below : List Frame} {meth : Method} {c : Code} {b n : Nat} {C : CT} (hlo : 231 ≤ n) (x1 : Int) (hx1 : InR x1) (F : Cx b p m c b_MO_sign 2 s ([.ref (b + 191), vI x1] : List Value).toArray "WardFallsModel" C n 231) (hlk : meth.locks = false) (hr : meth.sig.returnType = none) {res : Mem} (M : Mem)  (H : Heap) (locs : List Loc) (ls : Array Slot) (hS : St b C n M s H locs) (hl : lv_has ls 2 [(0, .ref (b + 191)), (1, vI x1)]) (hT : t_MO_sign_L71 x1 M = some res) : W p l e (headSpec (wsM y_MO_sign b_MO_sign 2 (none)) (rmD 1)).room s m ([.ref (b + 191), vI x1] : List Value).toArray below meth c H locs 0 0 (MQ below (QV b C n res) ([.ref (b + 191), vI x1] : List Value).toArray s 0 0 (frb b)) (F0 m 71 ls [.ref (b + 191)]) := by
  unfold t_MO_sign_L71 at hT
  refine r_iconst F.hx F.hb d_MO_sign_71 ?_
  refine lv_goto (tgt := 76) F.hx F.hb d_MO_sign_72 (by decide) ?_
  exact k_MO_sign_L76 l hlo x1 hx1 F hlk hr M 3 (inr_c rfl) _ _ _ hS (lv_sub hl [0, 1] rfl) hT
set_option maxHeartbeats 4000000 in
set_option maxRecDepth 100000 in
theorem c_MO_sign (l : Launch) {b n : Nat} {C : CT} (hlo : 231 ≤ n) (M : Mem) (x1 : Int) (hx1 : InR x1) (res : Mem) (hT : t_MO_sign M x1 = some res) : CM l b C n 1 y_MO_sign b_MO_sign 2 (none) [.ref (b + 191), vI x1] M (QV b C n res) := by
  refine CM.of (lo := 231) (ow := "WardFallsModel") (by decide) rfl (Nat.le_of_ble_eq_true rfl) hlo (fun p e s m below meth c F hlk hr hS ls hl => ?_)
  have hl : lv_has ls 2 [(0, .ref (b + 191)), (1, vI x1)] := hl
  unfold t_MO_sign at hT
  refine lv_aload_n F.hx F.hb d_MO_sign_0 rfl (lv_at hl 0 rfl) ?_
  refine lv_dup F.hx F.hb d_MO_sign_1 rfl ?_
  refine r_get (v := vI (M.1 191 20)) (N := 68) (T := T1) (j := 20) F hS (show 191 < 231 by decide) (show shK 191 = 5 from rfl) (show shN 191 = 68 from rfl) rfl (Nat.le_of_ble_eq_true rfl) ing1 mw_1409 (fv_int rfl) d_MO_sign_2 ?_
  have i1 := hS.rng 191 20
  refine r_iconst F.hx F.hb d_MO_sign_5 ?_
  refine r_iadd F.hx F.hb d_MO_sign_6 ?_
  refine r_putI (N := 68) (T := T1) (j := 20) F hS (show 191 < 231 by decide) (show shK 191 = 5 from rfl) (show shN 191 = 68 from rfl) rfl (Nat.le_of_ble_eq_true rfl) ing1 tyok1 nm1 rfl rfl rfl rfl rfl rfl mw_1409 (inr_w32 _) d_MO_sign_7 (fun H locs hS => ?_)
  obtain ⟨M2, eM2⟩ : ∃ q, q = (setI M 191 20 (w32 ((M.1 191 20) + 1))) := ⟨_, rfl⟩
  replace hS : St b C n M2 s H locs := by rw [eM2]; exact hS
  replace hT := qlet_eq hT eM2
  refine lv_aload_n F.hx F.hb d_MO_sign_10 rfl (lv_at hl 0 rfl) ?_
  refine lv_iload_n F.hx F.hb d_MO_sign_11 rfl (lv_at hl 1 rfl) ?_
  refine r_bipush F.hx F.hb d_MO_sign_12 rfl ?_
  refine r_icmp_eq (tgt := 71) F.hx F.hb hx1 (inr_c rfl) d_MO_sign_14 (by decide) (fun c3 => ?_) (fun c3 => ?_)
  · replace hT := (if_pos c3).symm.trans hT
    exact k_MO_sign_L71 l hlo x1 hx1 F hlk hr M2 _ _ _ hS (lv_sub hl [0, 1] rfl) hT
  · replace hT := (if_neg c3).symm.trans hT
    refine lv_iload_n F.hx F.hb d_MO_sign_17 rfl (lv_at hl 1 rfl) ?_
    refine r_bipush F.hx F.hb d_MO_sign_18 rfl ?_
    refine r_icmp_eq (tgt := 71) F.hx F.hb hx1 (inr_c rfl) d_MO_sign_20 (by decide) (fun c4 => ?_) (fun c4 => ?_)
    · replace hT := (if_pos c4).symm.trans hT
      exact k_MO_sign_L71 l hlo x1 hx1 F hlk hr M2 _ _ _ hS (lv_sub hl [0, 1] rfl) hT
    · replace hT := (if_neg c4).symm.trans hT
      refine lv_iload_n F.hx F.hb d_MO_sign_23 rfl (lv_at hl 1 rfl) ?_
      refine r_bipush F.hx F.hb d_MO_sign_24 rfl ?_
      refine r_icmp_eq (tgt := 71) F.hx F.hb hx1 (inr_c rfl) d_MO_sign_26 (by decide) (fun c5 => ?_) (fun c5 => ?_)
      · replace hT := (if_pos c5).symm.trans hT
        exact k_MO_sign_L71 l hlo x1 hx1 F hlk hr M2 _ _ _ hS (lv_sub hl [0, 1] rfl) hT
      · replace hT := (if_neg c5).symm.trans hT
        refine lv_iload_n F.hx F.hb d_MO_sign_29 rfl (lv_at hl 1 rfl) ?_
        refine r_bipush F.hx F.hb d_MO_sign_30 rfl ?_
        refine r_icmp_eq (tgt := 71) F.hx F.hb hx1 (inr_c rfl) d_MO_sign_32 (by decide) (fun c6 => ?_) (fun c6 => ?_)
        · replace hT := (if_pos c6).symm.trans hT
          exact k_MO_sign_L71 l hlo x1 hx1 F hlk hr M2 _ _ _ hS (lv_sub hl [0, 1] rfl) hT
        · replace hT := (if_neg c6).symm.trans hT
          refine lv_iload_n F.hx F.hb d_MO_sign_35 rfl (lv_at hl 1 rfl) ?_
          refine r_bipush F.hx F.hb d_MO_sign_36 rfl ?_
          refine r_icmp_eq (tgt := 71) F.hx F.hb hx1 (inr_c rfl) d_MO_sign_38 (by decide) (fun c7 => ?_) (fun c7 => ?_)
          · replace hT := (if_pos c7).symm.trans hT
            exact k_MO_sign_L71 l hlo x1 hx1 F hlk hr M2 _ _ _ hS (lv_sub hl [0, 1] rfl) hT
          · replace hT := (if_neg c7).symm.trans hT
            refine lv_iload_n F.hx F.hb d_MO_sign_41 rfl (lv_at hl 1 rfl) ?_
            refine r_bipush F.hx F.hb d_MO_sign_42 rfl ?_
            refine r_icmp_eq (tgt := 71) F.hx F.hb hx1 (inr_c rfl) d_MO_sign_44 (by decide) (fun c8 => ?_) (fun c8 => ?_)
            · replace hT := (if_pos c8).symm.trans hT
              exact k_MO_sign_L71 l hlo x1 hx1 F hlk hr M2 _ _ _ hS (lv_sub hl [0, 1] rfl) hT
            · replace hT := (if_neg c8).symm.trans hT
              refine lv_iload_n F.hx F.hb d_MO_sign_47 rfl (lv_at hl 1 rfl) ?_
              refine r_bipush F.hx F.hb d_MO_sign_48 rfl ?_
              refine r_icmp_eq (tgt := 71) F.hx F.hb hx1 (inr_c rfl) d_MO_sign_50 (by decide) (fun c9 => ?_) (fun c9 => ?_)
              · replace hT := (if_pos c9).symm.trans hT
                exact k_MO_sign_L71 l hlo x1 hx1 F hlk hr M2 _ _ _ hS (lv_sub hl [0, 1] rfl) hT
              · replace hT := (if_neg c9).symm.trans hT
                refine lv_iload_n F.hx F.hb d_MO_sign_53 rfl (lv_at hl 1 rfl) ?_
                refine r_bipush F.hx F.hb d_MO_sign_54 rfl ?_
                refine r_icmp_eq (tgt := 71) F.hx F.hb hx1 (inr_c rfl) d_MO_sign_56 (by decide) (fun c10 => ?_) (fun c10 => ?_)
                · replace hT := (if_pos c10).symm.trans hT
                  exact k_MO_sign_L71 l hlo x1 hx1 F hlk hr M2 _ _ _ hS (lv_sub hl [0, 1] rfl) hT
                · replace hT := (if_neg c10).symm.trans hT
                  refine lv_iload_n F.hx F.hb d_MO_sign_59 rfl (lv_at hl 1 rfl) ?_
                  refine r_bipush F.hx F.hb d_MO_sign_60 rfl ?_
                  refine r_icmp_eq (tgt := 71) F.hx F.hb hx1 (inr_c rfl) d_MO_sign_62 (by decide) (fun c11 => ?_) (fun c11 => ?_)
                  · replace hT := (if_pos c11).symm.trans hT
                    exact k_MO_sign_L71 l hlo x1 hx1 F hlk hr M2 _ _ _ hS (lv_sub hl [0, 1] rfl) hT
                  · replace hT := (if_neg c11).symm.trans hT
                    refine lv_iload_n F.hx F.hb d_MO_sign_65 rfl (lv_at hl 1 rfl) ?_
                    refine r_bipush F.hx F.hb d_MO_sign_66 rfl ?_
                    refine r_icmp_ne (tgt := 75) F.hx F.hb hx1 (inr_c rfl) d_MO_sign_68 (by decide) (fun c12 => ?_) (fun c12 => ?_)
                    · replace hT := (if_neg c12).symm.trans hT
                      refine r_iconst F.hx F.hb d_MO_sign_75 ?_
                      exact k_MO_sign_L76 l hlo x1 hx1 F hlk hr M2 5 (inr_c rfl) _ _ _ hS (lv_sub hl [0, 1] rfl) hT
                    · replace hT := (if_pos c12).symm.trans hT
                      exact k_MO_sign_L71 l hlo x1 hx1 F hlk hr M2 _ _ _ hS (lv_sub hl [0, 1] rfl) hT
theorem wn_MO_token_0 : ∀ i, i < 96 → bA b_MO_token (0 + i) = wB [42, 182, 0, 157, 16, 10, 159, 0, 12, 42, 182, 0, 157, 16, 32, 160, 0, 16, 42, 89, 180, 0, 151, 4, 96, 181, 0, 151, 167, 255, 228, 42, 42, 180, 0, 151, 181, 0, 161, 42, 182, 0, 157, 60, 27, 2, 160, 0, 11, 42, 7, 181, 0, 164, 167, 0, 171, 27, 184, 0, 167, 153, 0, 84, 42, 182, 0, 157, 184, 0, 167, 153, 0, 16, 42, 89, 180, 0, 151, 4, 96, 181, 0, 151, 167, 255, 236, 42, 42, 182, 0, 171, 181, 0, 174, 42] i := wB_of (by decide +kernel)
theorem d_MO_token_0 : decode b_MO_token 0 = .ok (.aload_n 0, 1) := dc_42 (q0_win (r := 0) wn_MO_token_0 (by decide +kernel))
theorem d_MO_token_1 : decode b_MO_token 1 = .ok (.invokevirtual 157, 3) := dc_182 (qU2_win (r := 1) wn_MO_token_0 (by decide +kernel))
theorem d_MO_token_4 : decode b_MO_token 4 = .ok (.bipush 10, 2) := dc_16 (qS1_win (r := 4) wn_MO_token_0 (by decide +kernel))
theorem d_MO_token_6 : decode b_MO_token 6 = .ok (.if_icmp .eq 12, 3) := dc_159 (qS2_win (r := 6) wn_MO_token_0 (by decide +kernel))
theorem d_MO_token_9 : decode b_MO_token 9 = .ok (.aload_n 0, 1) := dc_42 (q0_win (r := 9) wn_MO_token_0 (by decide +kernel))
theorem d_MO_token_10 : decode b_MO_token 10 = .ok (.invokevirtual 157, 3) := dc_182 (qU2_win (r := 10) wn_MO_token_0 (by decide +kernel))
theorem d_MO_token_13 : decode b_MO_token 13 = .ok (.bipush 32, 2) := dc_16 (qS1_win (r := 13) wn_MO_token_0 (by decide +kernel))
theorem d_MO_token_15 : decode b_MO_token 15 = .ok (.if_icmp .ne 16, 3) := dc_160 (qS2_win (r := 15) wn_MO_token_0 (by decide +kernel))
theorem d_MO_token_18 : decode b_MO_token 18 = .ok (.aload_n 0, 1) := dc_42 (q0_win (r := 18) wn_MO_token_0 (by decide +kernel))
theorem d_MO_token_19 : decode b_MO_token 19 = .ok (.dup, 1) := dc_89 (q0_win (r := 19) wn_MO_token_0 (by decide +kernel))
theorem d_MO_token_20 : decode b_MO_token 20 = .ok (.getfield 151, 3) := dc_180 (qU2_win (r := 20) wn_MO_token_0 (by decide +kernel))
theorem d_MO_token_23 : decode b_MO_token 23 = .ok (.iconst 1, 1) := dc_4 (q0_win (r := 23) wn_MO_token_0 (by decide +kernel))
theorem d_MO_token_24 : decode b_MO_token 24 = .ok (.iadd, 1) := dc_96 (q0_win (r := 24) wn_MO_token_0 (by decide +kernel))
theorem d_MO_token_25 : decode b_MO_token 25 = .ok (.putfield 151, 3) := dc_181 (qU2_win (r := 25) wn_MO_token_0 (by decide +kernel))
theorem d_MO_token_28 : decode b_MO_token 28 = .ok (.goto (-28), 3) := dc_167 (qS2_win (r := 28) wn_MO_token_0 (by decide +kernel))
theorem d_MO_token_31 : decode b_MO_token 31 = .ok (.aload_n 0, 1) := dc_42 (q0_win (r := 31) wn_MO_token_0 (by decide +kernel))
theorem d_MO_token_32 : decode b_MO_token 32 = .ok (.aload_n 0, 1) := dc_42 (q0_win (r := 32) wn_MO_token_0 (by decide +kernel))
theorem d_MO_token_33 : decode b_MO_token 33 = .ok (.getfield 151, 3) := dc_180 (qU2_win (r := 33) wn_MO_token_0 (by decide +kernel))
theorem d_MO_token_36 : decode b_MO_token 36 = .ok (.putfield 161, 3) := dc_181 (qU2_win (r := 36) wn_MO_token_0 (by decide +kernel))
theorem d_MO_token_39 : decode b_MO_token 39 = .ok (.aload_n 0, 1) := dc_42 (q0_win (r := 39) wn_MO_token_0 (by decide +kernel))
theorem d_MO_token_40 : decode b_MO_token 40 = .ok (.invokevirtual 157, 3) := dc_182 (qU2_win (r := 40) wn_MO_token_0 (by decide +kernel))
theorem d_MO_token_43 : decode b_MO_token 43 = .ok (.istore_n 1, 1) := dc_60 (q0_win (r := 43) wn_MO_token_0 (by decide +kernel))
theorem d_MO_token_44 : decode b_MO_token 44 = .ok (.iload_n 1, 1) := dc_27 (q0_win (r := 44) wn_MO_token_0 (by decide +kernel))
theorem d_MO_token_45 : decode b_MO_token 45 = .ok (.iconst (-1), 1) := dc_2 (q0_win (r := 45) wn_MO_token_0 (by decide +kernel))
theorem d_MO_token_46 : decode b_MO_token 46 = .ok (.if_icmp .ne 11, 3) := dc_160 (qS2_win (r := 46) wn_MO_token_0 (by decide +kernel))
theorem d_MO_token_49 : decode b_MO_token 49 = .ok (.aload_n 0, 1) := dc_42 (q0_win (r := 49) wn_MO_token_0 (by decide +kernel))
theorem d_MO_token_50 : decode b_MO_token 50 = .ok (.iconst 4, 1) := dc_7 (q0_win (r := 50) wn_MO_token_0 (by decide +kernel))
theorem d_MO_token_51 : decode b_MO_token 51 = .ok (.putfield 164, 3) := dc_181 (qU2_win (r := 51) wn_MO_token_0 (by decide +kernel))
theorem d_MO_token_54 : decode b_MO_token 54 = .ok (.goto 171, 3) := dc_167 (qS2_win (r := 54) wn_MO_token_0 (by decide +kernel))
theorem d_MO_token_57 : decode b_MO_token 57 = .ok (.iload_n 1, 1) := dc_27 (q0_win (r := 57) wn_MO_token_0 (by decide +kernel))
theorem d_MO_token_58 : decode b_MO_token 58 = .ok (.invokestatic 167, 3) := dc_184 (qU2_win (r := 58) wn_MO_token_0 (by decide +kernel))
theorem d_MO_token_61 : decode b_MO_token 61 = .ok (.ifCond .eq 84, 3) := dc_153 (qS2_win (r := 61) wn_MO_token_0 (by decide +kernel))
theorem d_MO_token_64 : decode b_MO_token 64 = .ok (.aload_n 0, 1) := dc_42 (q0_win (r := 64) wn_MO_token_0 (by decide +kernel))
theorem d_MO_token_65 : decode b_MO_token 65 = .ok (.invokevirtual 157, 3) := dc_182 (qU2_win (r := 65) wn_MO_token_0 (by decide +kernel))
theorem d_MO_token_68 : decode b_MO_token 68 = .ok (.invokestatic 167, 3) := dc_184 (qU2_win (r := 68) wn_MO_token_0 (by decide +kernel))
theorem d_MO_token_71 : decode b_MO_token 71 = .ok (.ifCond .eq 16, 3) := dc_153 (qS2_win (r := 71) wn_MO_token_0 (by decide +kernel))
theorem d_MO_token_74 : decode b_MO_token 74 = .ok (.aload_n 0, 1) := dc_42 (q0_win (r := 74) wn_MO_token_0 (by decide +kernel))
theorem d_MO_token_75 : decode b_MO_token 75 = .ok (.dup, 1) := dc_89 (q0_win (r := 75) wn_MO_token_0 (by decide +kernel))
theorem d_MO_token_76 : decode b_MO_token 76 = .ok (.getfield 151, 3) := dc_180 (qU2_win (r := 76) wn_MO_token_0 (by decide +kernel))
theorem d_MO_token_79 : decode b_MO_token 79 = .ok (.iconst 1, 1) := dc_4 (q0_win (r := 79) wn_MO_token_0 (by decide +kernel))
theorem d_MO_token_80 : decode b_MO_token 80 = .ok (.iadd, 1) := dc_96 (q0_win (r := 80) wn_MO_token_0 (by decide +kernel))
theorem d_MO_token_81 : decode b_MO_token 81 = .ok (.putfield 151, 3) := dc_181 (qU2_win (r := 81) wn_MO_token_0 (by decide +kernel))
theorem d_MO_token_84 : decode b_MO_token 84 = .ok (.goto (-20), 3) := dc_167 (qS2_win (r := 84) wn_MO_token_0 (by decide +kernel))
theorem d_MO_token_87 : decode b_MO_token 87 = .ok (.aload_n 0, 1) := dc_42 (q0_win (r := 87) wn_MO_token_0 (by decide +kernel))
theorem d_MO_token_88 : decode b_MO_token 88 = .ok (.aload_n 0, 1) := dc_42 (q0_win (r := 88) wn_MO_token_0 (by decide +kernel))
theorem d_MO_token_89 : decode b_MO_token 89 = .ok (.invokevirtual 171, 3) := dc_182 (qU2_win (r := 89) wn_MO_token_0 (by decide +kernel))
theorem d_MO_token_92 : decode b_MO_token 92 = .ok (.putfield 174, 3) := dc_181 (qU2_win (r := 92) wn_MO_token_0 (by decide +kernel))
theorem d_MO_token_95 : decode b_MO_token 95 = .ok (.aload_n 0, 1) := dc_42 (q0_win (r := 95) wn_MO_token_0 (by decide +kernel))
theorem wn_MO_token_96 : ∀ i, i < 96 → bA b_MO_token (96 + i) = wB [42, 180, 0, 174, 2, 159, 0, 7, 3, 167, 0, 22, 42, 180, 0, 151, 42, 180, 0, 161, 100, 16, 6, 164, 0, 7, 8, 167, 0, 4, 4, 181, 0, 164, 42, 180, 0, 164, 4, 160, 0, 90, 42, 182, 0, 177, 167, 0, 83, 27, 184, 0, 180, 153, 0, 71, 42, 5, 181, 0, 164, 42, 3, 181, 0, 174, 42, 182, 0, 157, 184, 0, 180, 153, 0, 56, 42, 42, 180, 0, 174, 18, 183, 164, 0, 10, 42, 180, 0, 174, 167, 0, 18, 16, 10, 42] i := wB_of (by decide +kernel)
theorem d_MO_token_96 : decode b_MO_token 96 = .ok (.aload_n 0, 1) := dc_42 (q0_win (r := 0) wn_MO_token_96 (by decide +kernel))
theorem d_MO_token_97 : decode b_MO_token 97 = .ok (.getfield 174, 3) := dc_180 (qU2_win (r := 1) wn_MO_token_96 (by decide +kernel))
theorem d_MO_token_100 : decode b_MO_token 100 = .ok (.iconst (-1), 1) := dc_2 (q0_win (r := 4) wn_MO_token_96 (by decide +kernel))
theorem d_MO_token_101 : decode b_MO_token 101 = .ok (.if_icmp .eq 7, 3) := dc_159 (qS2_win (r := 5) wn_MO_token_96 (by decide +kernel))
theorem d_MO_token_104 : decode b_MO_token 104 = .ok (.iconst 0, 1) := dc_3 (q0_win (r := 8) wn_MO_token_96 (by decide +kernel))
theorem d_MO_token_105 : decode b_MO_token 105 = .ok (.goto 22, 3) := dc_167 (qS2_win (r := 9) wn_MO_token_96 (by decide +kernel))
theorem d_MO_token_108 : decode b_MO_token 108 = .ok (.aload_n 0, 1) := dc_42 (q0_win (r := 12) wn_MO_token_96 (by decide +kernel))
theorem d_MO_token_109 : decode b_MO_token 109 = .ok (.getfield 151, 3) := dc_180 (qU2_win (r := 13) wn_MO_token_96 (by decide +kernel))
theorem d_MO_token_112 : decode b_MO_token 112 = .ok (.aload_n 0, 1) := dc_42 (q0_win (r := 16) wn_MO_token_96 (by decide +kernel))
theorem d_MO_token_113 : decode b_MO_token 113 = .ok (.getfield 161, 3) := dc_180 (qU2_win (r := 17) wn_MO_token_96 (by decide +kernel))
theorem d_MO_token_116 : decode b_MO_token 116 = .ok (.isub, 1) := dc_100 (q0_win (r := 20) wn_MO_token_96 (by decide +kernel))
theorem d_MO_token_117 : decode b_MO_token 117 = .ok (.bipush 6, 2) := dc_16 (qS1_win (r := 21) wn_MO_token_96 (by decide +kernel))
theorem d_MO_token_119 : decode b_MO_token 119 = .ok (.if_icmp .le 7, 3) := dc_164 (qS2_win (r := 23) wn_MO_token_96 (by decide +kernel))
theorem d_MO_token_122 : decode b_MO_token 122 = .ok (.iconst 5, 1) := dc_8 (q0_win (r := 26) wn_MO_token_96 (by decide +kernel))
theorem d_MO_token_123 : decode b_MO_token 123 = .ok (.goto 4, 3) := dc_167 (qS2_win (r := 27) wn_MO_token_96 (by decide +kernel))
theorem d_MO_token_126 : decode b_MO_token 126 = .ok (.iconst 1, 1) := dc_4 (q0_win (r := 30) wn_MO_token_96 (by decide +kernel))
theorem d_MO_token_127 : decode b_MO_token 127 = .ok (.putfield 164, 3) := dc_181 (qU2_win (r := 31) wn_MO_token_96 (by decide +kernel))
theorem d_MO_token_130 : decode b_MO_token 130 = .ok (.aload_n 0, 1) := dc_42 (q0_win (r := 34) wn_MO_token_96 (by decide +kernel))
theorem d_MO_token_131 : decode b_MO_token 131 = .ok (.getfield 164, 3) := dc_180 (qU2_win (r := 35) wn_MO_token_96 (by decide +kernel))
theorem d_MO_token_134 : decode b_MO_token 134 = .ok (.iconst 1, 1) := dc_4 (q0_win (r := 38) wn_MO_token_96 (by decide +kernel))
theorem d_MO_token_135 : decode b_MO_token 135 = .ok (.if_icmp .ne 90, 3) := dc_160 (qS2_win (r := 39) wn_MO_token_96 (by decide +kernel))
theorem d_MO_token_138 : decode b_MO_token 138 = .ok (.aload_n 0, 1) := dc_42 (q0_win (r := 42) wn_MO_token_96 (by decide +kernel))
theorem d_MO_token_139 : decode b_MO_token 139 = .ok (.invokevirtual 177, 3) := dc_182 (qU2_win (r := 43) wn_MO_token_96 (by decide +kernel))
theorem d_MO_token_142 : decode b_MO_token 142 = .ok (.goto 83, 3) := dc_167 (qS2_win (r := 46) wn_MO_token_96 (by decide +kernel))
theorem d_MO_token_145 : decode b_MO_token 145 = .ok (.iload_n 1, 1) := dc_27 (q0_win (r := 49) wn_MO_token_96 (by decide +kernel))
theorem d_MO_token_146 : decode b_MO_token 146 = .ok (.invokestatic 180, 3) := dc_184 (qU2_win (r := 50) wn_MO_token_96 (by decide +kernel))
theorem d_MO_token_149 : decode b_MO_token 149 = .ok (.ifCond .eq 71, 3) := dc_153 (qS2_win (r := 53) wn_MO_token_96 (by decide +kernel))
theorem d_MO_token_152 : decode b_MO_token 152 = .ok (.aload_n 0, 1) := dc_42 (q0_win (r := 56) wn_MO_token_96 (by decide +kernel))
theorem d_MO_token_153 : decode b_MO_token 153 = .ok (.iconst 2, 1) := dc_5 (q0_win (r := 57) wn_MO_token_96 (by decide +kernel))
theorem d_MO_token_154 : decode b_MO_token 154 = .ok (.putfield 164, 3) := dc_181 (qU2_win (r := 58) wn_MO_token_96 (by decide +kernel))
theorem d_MO_token_157 : decode b_MO_token 157 = .ok (.aload_n 0, 1) := dc_42 (q0_win (r := 61) wn_MO_token_96 (by decide +kernel))
theorem d_MO_token_158 : decode b_MO_token 158 = .ok (.iconst 0, 1) := dc_3 (q0_win (r := 62) wn_MO_token_96 (by decide +kernel))
theorem d_MO_token_159 : decode b_MO_token 159 = .ok (.putfield 174, 3) := dc_181 (qU2_win (r := 63) wn_MO_token_96 (by decide +kernel))
theorem d_MO_token_162 : decode b_MO_token 162 = .ok (.aload_n 0, 1) := dc_42 (q0_win (r := 66) wn_MO_token_96 (by decide +kernel))
theorem d_MO_token_163 : decode b_MO_token 163 = .ok (.invokevirtual 157, 3) := dc_182 (qU2_win (r := 67) wn_MO_token_96 (by decide +kernel))
theorem d_MO_token_166 : decode b_MO_token 166 = .ok (.invokestatic 180, 3) := dc_184 (qU2_win (r := 70) wn_MO_token_96 (by decide +kernel))
theorem d_MO_token_169 : decode b_MO_token 169 = .ok (.ifCond .eq 56, 3) := dc_153 (qS2_win (r := 73) wn_MO_token_96 (by decide +kernel))
theorem d_MO_token_172 : decode b_MO_token 172 = .ok (.aload_n 0, 1) := dc_42 (q0_win (r := 76) wn_MO_token_96 (by decide +kernel))
theorem d_MO_token_173 : decode b_MO_token 173 = .ok (.aload_n 0, 1) := dc_42 (q0_win (r := 77) wn_MO_token_96 (by decide +kernel))
theorem d_MO_token_174 : decode b_MO_token 174 = .ok (.getfield 174, 3) := dc_180 (qU2_win (r := 78) wn_MO_token_96 (by decide +kernel))
theorem d_MO_token_177 : decode b_MO_token 177 = .ok (.ldc 183, 2) := dc_18 (qU1_win (r := 81) wn_MO_token_96 (by decide +kernel))
theorem d_MO_token_179 : decode b_MO_token 179 = .ok (.if_icmp .le 10, 3) := dc_164 (qS2_win (r := 83) wn_MO_token_96 (by decide +kernel))
theorem d_MO_token_182 : decode b_MO_token 182 = .ok (.aload_n 0, 1) := dc_42 (q0_win (r := 86) wn_MO_token_96 (by decide +kernel))
theorem d_MO_token_183 : decode b_MO_token 183 = .ok (.getfield 174, 3) := dc_180 (qU2_win (r := 87) wn_MO_token_96 (by decide +kernel))
theorem d_MO_token_186 : decode b_MO_token 186 = .ok (.goto 18, 3) := dc_167 (qS2_win (r := 90) wn_MO_token_96 (by decide +kernel))
theorem d_MO_token_189 : decode b_MO_token 189 = .ok (.bipush 10, 2) := dc_16 (qS1_win (r := 93) wn_MO_token_96 (by decide +kernel))
theorem d_MO_token_191 : decode b_MO_token 191 = .ok (.aload_n 0, 1) := dc_42 (q0_win (r := 95) wn_MO_token_96 (by decide +kernel))
theorem wn_MO_token_192 : ∀ i, i < 34 → bA b_MO_token (192 + i) = wB [180, 0, 174, 104, 42, 182, 0, 157, 96, 16, 48, 100, 181, 0, 174, 42, 89, 180, 0, 151, 4, 96, 181, 0, 151, 167, 255, 201, 42, 27, 182, 0, 184, 177] i := wB_of (by decide +kernel)
theorem d_MO_token_192 : decode b_MO_token 192 = .ok (.getfield 174, 3) := dc_180 (qU2_win (r := 0) wn_MO_token_192 (by decide +kernel))
theorem d_MO_token_195 : decode b_MO_token 195 = .ok (.imul, 1) := dc_104 (q0_win (r := 3) wn_MO_token_192 (by decide +kernel))
theorem d_MO_token_196 : decode b_MO_token 196 = .ok (.aload_n 0, 1) := dc_42 (q0_win (r := 4) wn_MO_token_192 (by decide +kernel))
theorem d_MO_token_197 : decode b_MO_token 197 = .ok (.invokevirtual 157, 3) := dc_182 (qU2_win (r := 5) wn_MO_token_192 (by decide +kernel))
theorem d_MO_token_200 : decode b_MO_token 200 = .ok (.iadd, 1) := dc_96 (q0_win (r := 8) wn_MO_token_192 (by decide +kernel))
theorem d_MO_token_201 : decode b_MO_token 201 = .ok (.bipush 48, 2) := dc_16 (qS1_win (r := 9) wn_MO_token_192 (by decide +kernel))
theorem d_MO_token_203 : decode b_MO_token 203 = .ok (.isub, 1) := dc_100 (q0_win (r := 11) wn_MO_token_192 (by decide +kernel))
theorem d_MO_token_204 : decode b_MO_token 204 = .ok (.putfield 174, 3) := dc_181 (qU2_win (r := 12) wn_MO_token_192 (by decide +kernel))
theorem d_MO_token_207 : decode b_MO_token 207 = .ok (.aload_n 0, 1) := dc_42 (q0_win (r := 15) wn_MO_token_192 (by decide +kernel))
theorem d_MO_token_208 : decode b_MO_token 208 = .ok (.dup, 1) := dc_89 (q0_win (r := 16) wn_MO_token_192 (by decide +kernel))
theorem d_MO_token_209 : decode b_MO_token 209 = .ok (.getfield 151, 3) := dc_180 (qU2_win (r := 17) wn_MO_token_192 (by decide +kernel))
theorem d_MO_token_212 : decode b_MO_token 212 = .ok (.iconst 1, 1) := dc_4 (q0_win (r := 20) wn_MO_token_192 (by decide +kernel))
theorem d_MO_token_213 : decode b_MO_token 213 = .ok (.iadd, 1) := dc_96 (q0_win (r := 21) wn_MO_token_192 (by decide +kernel))
theorem d_MO_token_214 : decode b_MO_token 214 = .ok (.putfield 151, 3) := dc_181 (qU2_win (r := 22) wn_MO_token_192 (by decide +kernel))
theorem d_MO_token_217 : decode b_MO_token 217 = .ok (.goto (-55), 3) := dc_167 (qS2_win (r := 25) wn_MO_token_192 (by decide +kernel))
theorem d_MO_token_220 : decode b_MO_token 220 = .ok (.aload_n 0, 1) := dc_42 (q0_win (r := 28) wn_MO_token_192 (by decide +kernel))
theorem d_MO_token_221 : decode b_MO_token 221 = .ok (.iload_n 1, 1) := dc_27 (q0_win (r := 29) wn_MO_token_192 (by decide +kernel))
theorem d_MO_token_222 : decode b_MO_token 222 = .ok (.invokevirtual 184, 3) := dc_182 (qU2_win (r := 30) wn_MO_token_192 (by decide +kernel))
theorem d_MO_token_225 : decode b_MO_token 225 = .ok (.return_, 1) := dc_177 (q0_win (r := 33) wn_MO_token_192 (by decide +kernel))
def t_MO_token_L18  (bk0 : Mem → Option (Mem)) (M : Mem)  : Option (Mem) := (qlet (setI M 191 20 (w32 ((M.1 191 20) + 1))) fun M24 => (bk0 M24))
def t_MO_token_L127   (M : Mem) (v2_ : Int) : Option (Mem) := (qlet (setI M 191 22 v2_) fun M54 => (if (M54.1 191 22) = 1 then (obind (t_MO_name M54) fun q57 => (some q57)) else (some M54)))
def t_MO_token_L64   : Nat → Mem → Option (Mem)
  | 0, _ => none
  | fu + 1, M => (obind (t_MO_here M) fun q36 => (qlet (t_MO_isSmall M q36) fun q38 => (if q38 = 0 then (obind (t_MO_word M) fun q41 => (qlet (setI M 191 23 q41) fun M43 => (if (M43.1 191 23) = (-1) then (if (w32 ((M43.1 191 20) - (M43.1 191 21))) ≤ 6 then (t_MO_token_L127 M43 1) else (t_MO_token_L127 M43 5)) else (t_MO_token_L127 M43 0)))) else (qlet (setI M 191 20 (w32 ((M.1 191 20) + 1))) fun M50 => (t_MO_token_L64 fu M50)))))
def t_MO_token_L204  (bk162 : Mem → Option (Mem)) (M : Mem) (v2_ : Int) : Option (Mem) := (qlet (setI M 191 23 v2_) fun M51 => (qlet (setI M51 191 20 (w32 ((M51.1 191 20) + 1))) fun M53 => (bk162 M53)))
def t_MO_token_L162   : Nat → Mem → Option (Mem)
  | 0, _ => none
  | fu + 1, M => (obind (t_MO_here M) fun q25 => (qlet (t_MO_isDigit M q25) fun q27 => (if q27 = 0 then (some M) else (if (M.1 191 23) ≤ 99999 then (obind (t_MO_here M) fun q33 => (t_MO_token_L204 (fun a0_ => t_MO_token_L162 fu a0_) M (w32 ((w32 ((w32 (10 * (M.1 191 23))) + q33)) - 48)))) else (t_MO_token_L204 (fun a0_ => t_MO_token_L162 fu a0_) M (M.1 191 23))))))
def t_MO_token_L0   : Nat → Mem → Option (Mem)
  | 0, _ => none
  | fu + 1, M => (obind (t_MO_here M) fun q1 => (if q1 = 10 then (t_MO_token_L18 (fun a0_ => t_MO_token_L0 fu a0_) M) else (obind (t_MO_here M) fun q4 => (if q4 = 32 then (t_MO_token_L18 (fun a0_ => t_MO_token_L0 fu a0_) M) else (qlet (setI M 191 21 (M.1 191 20)) fun M8 => (obind (t_MO_here M8) fun q9 => (if q9 = (-1) then (qlet (setI M8 191 22 4) fun M22 => (some M22)) else (qlet (t_MO_isSmall M8 q9) fun q12 => (if q12 = 0 then (qlet (t_MO_isDigit M8 q9) fun q15 => (if q15 = 0 then (obind (t_MO_sign M8 q9) fun q18 => (some q18)) else (qlet (setI M8 191 22 2) fun M20 => (qlet (setI M20 191 23 0) fun M21 => (t_MO_token_L162 FU M21))))) else (t_MO_token_L64 FU M8))))))))))
def t_MO_token (M : Mem)  : Option (Mem) := (t_MO_token_L0 FU M)
set_option maxHeartbeats 4000000 in
set_option maxRecDepth 100000 in
theorem k_MO_token_L18 (l : Launch) {p : Program} {e : Env} {s : State} {m : MethodId} {below : List Frame} {meth : Method} {c : Code} {b n : Nat} {C : CT} (hlo : 231 ≤ n)   (F : Cx b p m c b_MO_token 2 s ([.ref (b + 191)] : List Value).toArray "WardFallsModel" C n 231) (hlk : meth.locks = false) (hr : meth.sig.returnType = none) {res : Mem} (bk0 : Mem → Option (Mem)) (hbk0 : ∀ (M : Mem)  (H : Heap) (locs : List Loc) (ls : Array Slot), St b C n M s H locs → lv_has ls 2 [(0, .ref (b + 191))] → bk0 M  = some res → W p l e (headSpec (wsM y_MO_token b_MO_token 2 (none)) (rmD 5)).room s m ([.ref (b + 191)] : List Value).toArray below meth c H locs 0 0 (MQ below (QV b C n res) ([.ref (b + 191)] : List Value).toArray s 0 0 (frb b)) (F0 m 0 ls [])) (M : Mem)  (H : Heap) (locs : List Loc) (ls : Array Slot) (hS : St b C n M s H locs) (hl : lv_has ls 2 [(0, .ref (b + 191))]) (hT : t_MO_token_L18 bk0 M = some res) : W p l e (headSpec (wsM y_MO_token b_MO_token 2 (none)) (rmD 5)).room s m ([.ref (b + 191)] : List Value).toArray below meth c H locs 0 0 (MQ below (QV b C n res) ([.ref (b + 191)] : List Value).toArray s 0 0 (frb b)) (F0 m 18 ls []) := by
  unfold t_MO_token_L18 at hT
  refine lv_aload_n F.hx F.hb d_MO_token_18 rfl (lv_at hl 0 rfl) ?_
  refine lv_dup F.hx F.hb d_MO_token_19 rfl ?_
  refine r_get (v := vI (M.1 191 20)) (N := 68) (T := T1) (j := 20) F hS (show 191 < 231 by decide) (show shK 191 = 5 from rfl) (show shN 191 = 68 from rfl) rfl (Nat.le_of_ble_eq_true rfl) ing1 mw_1409 (fv_int rfl) d_MO_token_20 ?_
  have i23 := hS.rng 191 20
  refine r_iconst F.hx F.hb d_MO_token_23 ?_
  refine r_iadd F.hx F.hb d_MO_token_24 ?_
  refine r_putI (N := 68) (T := T1) (j := 20) F hS (show 191 < 231 by decide) (show shK 191 = 5 from rfl) (show shN 191 = 68 from rfl) rfl (Nat.le_of_ble_eq_true rfl) ing1 tyok1 nm1 rfl rfl rfl rfl rfl rfl mw_1409 (inr_w32 _) d_MO_token_25 (fun H locs hS => ?_)
  obtain ⟨M24, eM24⟩ : ∃ q, q = (setI M 191 20 (w32 ((M.1 191 20) + 1))) := ⟨_, rfl⟩
  replace hS : St b C n M24 s H locs := by rw [eM24]; exact hS
  replace hT := qlet_eq hT eM24
  refine lv_goto (tgt := 0) F.hx F.hb d_MO_token_28 (by decide) ?_
  exact hbk0 M24 _ _ _ hS (lv_sub hl [0] rfl) hT
set_option maxHeartbeats 4000000 in
set_option maxRecDepth 100000 in
theorem k_MO_token_L127 (l : Launch) {p : Program} {e : Env} {s : State} {m : MethodId} {below : List Frame} {meth : Method} {c : Code} {b n : Nat} {C : CT} (hlo : 231 ≤ n)   (F : Cx b p m c b_MO_token 2 s ([.ref (b + 191)] : List Value).toArray "WardFallsModel" C n 231) (hlk : meth.locks = false) (hr : meth.sig.returnType = none) {res : Mem} (M : Mem) (v2_ : Int) (hv2_ : InR v2_) (H : Heap) (locs : List Loc) (ls : Array Slot) (hS : St b C n M s H locs) (hl : lv_has ls 2 [(0, .ref (b + 191))]) (hT : t_MO_token_L127 M v2_ = some res) : W p l e (headSpec (wsM y_MO_token b_MO_token 2 (none)) (rmD 5)).room s m ([.ref (b + 191)] : List Value).toArray below meth c H locs 0 0 (MQ below (QV b C n res) ([.ref (b + 191)] : List Value).toArray s 0 0 (frb b)) (F0 m 127 ls [vI v2_, .ref (b + 191)]) := by
  unfold t_MO_token_L127 at hT
  refine r_putI (N := 68) (T := T1) (j := 22) F hS (show 191 < 231 by decide) (show shK 191 = 5 from rfl) (show shN 191 = 68 from rfl) rfl (Nat.le_of_ble_eq_true rfl) ing1 tyok1 nm1 rfl rfl rfl rfl rfl rfl mw_1411 hv2_ d_MO_token_127 (fun H locs hS => ?_)
  obtain ⟨M54, eM54⟩ : ∃ q, q = (setI M 191 22 v2_) := ⟨_, rfl⟩
  replace hS : St b C n M54 s H locs := by rw [eM54]; exact hS
  replace hT := qlet_eq hT eM54
  refine lv_aload_n F.hx F.hb d_MO_token_130 rfl (lv_at hl 0 rfl) ?_
  refine r_get (v := vI (M54.1 191 22)) (N := 68) (T := T1) (j := 22) F hS (show 191 < 231 by decide) (show shK 191 = 5 from rfl) (show shN 191 = 68 from rfl) rfl (Nat.le_of_ble_eq_true rfl) ing1 mw_1411 (fv_int rfl) d_MO_token_131 ?_
  have i55 := hS.rng 191 22
  refine r_iconst F.hx F.hb d_MO_token_134 ?_
  refine r_icmp_ne (tgt := 225) F.hx F.hb i55 (inr_c rfl) d_MO_token_135 (by decide) (fun c56 => ?_) (fun c56 => ?_)
  · replace hT := (if_neg c56).symm.trans hT
    cases hT
    exact r_vret F hlk hr hS d_MO_token_225
  · replace hT := (if_pos c56).symm.trans hT
    refine lv_aload_n F.hx F.hb d_MO_token_138 rfl (lv_at hl 0 rfl) ?_
    obtain ⟨q57, hq57, hT⟩ := q_obind hT
    refine r_backV F hS (r_runV (k := 191) (N := 68) (T := T1) (As := []) F hS (show 191 < 231 by decide) (show shK 191 = 5 from rfl) rfl (c_MO_name l F.2.2.1 M54 _ hq57) gs_MO_177 hd_MO_name ⟨Nat.le_of_ble_eq_true rfl, Nat.le_of_ble_eq_true rfl⟩ rfl hl.1 (Nat.le_of_ble_eq_true rfl) ⟨Nat.zero_le _, Nat.zero_le _⟩ rfl d_MO_token_139) (fun H locs hS => ?_)
    refine lv_goto (tgt := 225) F.hx F.hb d_MO_token_142 (by decide) ?_
    cases hT
    exact r_vret F hlk hr hS d_MO_token_225
set_option maxHeartbeats 4000000 in
set_option maxRecDepth 100000 in
theorem k_MO_token_L64 (l : Launch) {p : Program} {e : Env} {s : State} {m : MethodId} {below : List Frame} {meth : Method} {c : Code} {b n : Nat} {C : CT} (hlo : 231 ≤ n)   (F : Cx b p m c b_MO_token 2 s ([.ref (b + 191)] : List Value).toArray "WardFallsModel" C n 231) (hlk : meth.locks = false) (hr : meth.sig.returnType = none) {res : Mem} : ∀ (fu : Nat) (M : Mem)  (H : Heap) (locs : List Loc) (ls : Array Slot), St b C n M s H locs → lv_has ls 2 [(0, .ref (b + 191))] → t_MO_token_L64 fu M = some res → W p l e (headSpec (wsM y_MO_token b_MO_token 2 (none)) (rmD 5)).room s m ([.ref (b + 191)] : List Value).toArray below meth c H locs 0 0 (MQ below (QV b C n res) ([.ref (b + 191)] : List Value).toArray s 0 0 (frb b)) (F0 m 64 ls []) := by
  intro fu
  induction fu with
  | zero => intro M  H locs ls hS hl hT; exact absurd hT (by simp [t_MO_token_L64])
  | succ fu ih =>
    intro M  H locs ls hS hl hT
    rw [t_MO_token_L64] at hT
    refine lv_aload_n F.hx F.hb d_MO_token_64 rfl (lv_at hl 0 rfl) ?_
    obtain ⟨q36, hq36, hT⟩ := q_obind hT
    refine r_backI F hS (r_runV (k := 191) (N := 68) (T := T1) (As := []) F hS (show 191 < 231 by decide) (show shK 191 = 5 from rfl) rfl (c_MO_here l F.2.2.1 M _ hq36) gs_MO_157 hd_MO_here ⟨Nat.le_of_ble_eq_true rfl, Nat.le_of_ble_eq_true rfl⟩ rfl hl.1 (Nat.le_of_ble_eq_true rfl) ⟨Nat.zero_le _, Nat.zero_le _⟩ rfl d_MO_token_65) (fun H locs hS h37 => ?_)
    obtain ⟨q38, hq38⟩ : ∃ q, q = (t_MO_isSmall M q36) := ⟨_, rfl⟩
    replace hT := qlet_eq hT hq38
    refine r_backZ F hS (r_runS (As := [vI q36]) F hS (c_MO_isSmall l F.2.2.1 M q36 h37 _ hq38.symm) gs_MO_167 hd_MO_isSmall ⟨Nat.le_of_ble_eq_true rfl, Nat.le_of_ble_eq_true rfl⟩ rfl hl.1 (Nat.le_of_ble_eq_true rfl) ⟨Nat.zero_le _, Nat.zero_le _⟩ rfl d_MO_token_68) (fun H locs hS h39 => ?_)
    refine r_if_eq (tgt := 87) F.hx F.hb (inr_z h39) d_MO_token_71 (by decide) (fun c40 => ?_) (fun c40 => ?_)
    · replace hT := (if_pos c40).symm.trans hT
      refine lv_aload_n F.hx F.hb d_MO_token_87 rfl (lv_at hl 0 rfl) ?_
      refine lv_aload_n F.hx F.hb d_MO_token_88 rfl (lv_at hl 0 rfl) ?_
      obtain ⟨q41, hq41, hT⟩ := q_obind hT
      refine r_backI F hS (r_runV (k := 191) (N := 68) (T := T1) (As := []) F hS (show 191 < 231 by decide) (show shK 191 = 5 from rfl) rfl (c_MO_word l F.2.2.1 M _ hq41) gs_MO_171 hd_MO_word ⟨Nat.le_of_ble_eq_true rfl, Nat.le_of_ble_eq_true rfl⟩ rfl hl.1 (Nat.le_of_ble_eq_true rfl) ⟨Nat.zero_le _, Nat.zero_le _⟩ rfl d_MO_token_89) (fun H locs hS h42 => ?_)
      refine r_putI (N := 68) (T := T1) (j := 23) F hS (show 191 < 231 by decide) (show shK 191 = 5 from rfl) (show shN 191 = 68 from rfl) rfl (Nat.le_of_ble_eq_true rfl) ing1 tyok1 nm1 rfl rfl rfl rfl rfl rfl mw_1412 h42 d_MO_token_92 (fun H locs hS => ?_)
      obtain ⟨M43, eM43⟩ : ∃ q, q = (setI M 191 23 q41) := ⟨_, rfl⟩
      replace hS : St b C n M43 s H locs := by rw [eM43]; exact hS
      replace hT := qlet_eq hT eM43
      refine lv_aload_n F.hx F.hb d_MO_token_95 rfl (lv_at hl 0 rfl) ?_
      refine lv_aload_n F.hx F.hb d_MO_token_96 rfl (lv_at hl 0 rfl) ?_
      refine r_get (v := vI (M43.1 191 23)) (N := 68) (T := T1) (j := 23) F hS (show 191 < 231 by decide) (show shK 191 = 5 from rfl) (show shN 191 = 68 from rfl) rfl (Nat.le_of_ble_eq_true rfl) ing1 mw_1412 (fv_int rfl) d_MO_token_97 ?_
      have i44 := hS.rng 191 23
      refine r_iconst F.hx F.hb d_MO_token_100 ?_
      refine r_icmp_eq (tgt := 108) F.hx F.hb i44 (inr_c rfl) d_MO_token_101 (by decide) (fun c45 => ?_) (fun c45 => ?_)
      · replace hT := (if_pos c45).symm.trans hT
        refine lv_aload_n F.hx F.hb d_MO_token_108 rfl (lv_at hl 0 rfl) ?_
        refine r_get (v := vI (M43.1 191 20)) (N := 68) (T := T1) (j := 20) F hS (show 191 < 231 by decide) (show shK 191 = 5 from rfl) (show shN 191 = 68 from rfl) rfl (Nat.le_of_ble_eq_true rfl) ing1 mw_1409 (fv_int rfl) d_MO_token_109 ?_
        have i46 := hS.rng 191 20
        refine lv_aload_n F.hx F.hb d_MO_token_112 rfl (lv_at hl 0 rfl) ?_
        refine r_get (v := vI (M43.1 191 21)) (N := 68) (T := T1) (j := 21) F hS (show 191 < 231 by decide) (show shK 191 = 5 from rfl) (show shN 191 = 68 from rfl) rfl (Nat.le_of_ble_eq_true rfl) ing1 mw_1410 (fv_int rfl) d_MO_token_113 ?_
        have i47 := hS.rng 191 21
        refine r_isub F.hx F.hb d_MO_token_116 ?_
        refine r_bipush F.hx F.hb d_MO_token_117 rfl ?_
        refine r_icmp_le (tgt := 126) F.hx F.hb (inr_w32 _) (inr_c rfl) d_MO_token_119 (by decide) (fun c48 => ?_) (fun c48 => ?_)
        · replace hT := (if_pos c48).symm.trans hT
          refine r_iconst F.hx F.hb d_MO_token_126 ?_
          exact k_MO_token_L127 l hlo F hlk hr M43 1 (inr_c rfl) _ _ _ hS (lv_sub hl [0] rfl) hT
        · replace hT := (if_neg c48).symm.trans hT
          refine r_iconst F.hx F.hb d_MO_token_122 ?_
          refine lv_goto (tgt := 127) F.hx F.hb d_MO_token_123 (by decide) ?_
          exact k_MO_token_L127 l hlo F hlk hr M43 5 (inr_c rfl) _ _ _ hS (lv_sub hl [0] rfl) hT
      · replace hT := (if_neg c45).symm.trans hT
        refine r_iconst F.hx F.hb d_MO_token_104 ?_
        refine lv_goto (tgt := 127) F.hx F.hb d_MO_token_105 (by decide) ?_
        exact k_MO_token_L127 l hlo F hlk hr M43 0 (inr_c rfl) _ _ _ hS (lv_sub hl [0] rfl) hT
    · replace hT := (if_neg c40).symm.trans hT
      refine lv_aload_n F.hx F.hb d_MO_token_74 rfl (lv_at hl 0 rfl) ?_
      refine lv_dup F.hx F.hb d_MO_token_75 rfl ?_
      refine r_get (v := vI (M.1 191 20)) (N := 68) (T := T1) (j := 20) F hS (show 191 < 231 by decide) (show shK 191 = 5 from rfl) (show shN 191 = 68 from rfl) rfl (Nat.le_of_ble_eq_true rfl) ing1 mw_1409 (fv_int rfl) d_MO_token_76 ?_
      have i49 := hS.rng 191 20
      refine r_iconst F.hx F.hb d_MO_token_79 ?_
      refine r_iadd F.hx F.hb d_MO_token_80 ?_
      refine r_putI (N := 68) (T := T1) (j := 20) F hS (show 191 < 231 by decide) (show shK 191 = 5 from rfl) (show shN 191 = 68 from rfl) rfl (Nat.le_of_ble_eq_true rfl) ing1 tyok1 nm1 rfl rfl rfl rfl rfl rfl mw_1409 (inr_w32 _) d_MO_token_81 (fun H locs hS => ?_)
      obtain ⟨M50, eM50⟩ : ∃ q, q = (setI M 191 20 (w32 ((M.1 191 20) + 1))) := ⟨_, rfl⟩
      replace hS : St b C n M50 s H locs := by rw [eM50]; exact hS
      replace hT := qlet_eq hT eM50
      refine lv_goto (tgt := 64) F.hx F.hb d_MO_token_84 (by decide) ?_
      exact ih M50 _ _ _ hS (lv_sub hl [0] rfl) hT
set_option maxHeartbeats 4000000 in
set_option maxRecDepth 100000 in
theorem k_MO_token_L204 (l : Launch) {p : Program} {e : Env} {s : State} {m : MethodId} {below : List Frame} {meth : Method} {c : Code} {b n : Nat} {C : CT} (hlo : 231 ≤ n)   (F : Cx b p m c b_MO_token 2 s ([.ref (b + 191)] : List Value).toArray "WardFallsModel" C n 231) (hlk : meth.locks = false) (hr : meth.sig.returnType = none) {res : Mem} (bk162 : Mem → Option (Mem)) (hbk162 : ∀ (M : Mem)  (H : Heap) (locs : List Loc) (ls : Array Slot), St b C n M s H locs → lv_has ls 2 [(0, .ref (b + 191))] → bk162 M  = some res → W p l e (headSpec (wsM y_MO_token b_MO_token 2 (none)) (rmD 5)).room s m ([.ref (b + 191)] : List Value).toArray below meth c H locs 0 0 (MQ below (QV b C n res) ([.ref (b + 191)] : List Value).toArray s 0 0 (frb b)) (F0 m 162 ls [])) (M : Mem) (v2_ : Int) (hv2_ : InR v2_) (H : Heap) (locs : List Loc) (ls : Array Slot) (hS : St b C n M s H locs) (hl : lv_has ls 2 [(0, .ref (b + 191))]) (hT : t_MO_token_L204 bk162 M v2_ = some res) : W p l e (headSpec (wsM y_MO_token b_MO_token 2 (none)) (rmD 5)).room s m ([.ref (b + 191)] : List Value).toArray below meth c H locs 0 0 (MQ below (QV b C n res) ([.ref (b + 191)] : List Value).toArray s 0 0 (frb b)) (F0 m 204 ls [vI v2_, .ref (b + 191)]) := by
  unfold t_MO_token_L204 at hT
  refine r_putI (N := 68) (T := T1) (j := 23) F hS (show 191 < 231 by decide) (show shK 191 = 5 from rfl) (show shN 191 = 68 from rfl) rfl (Nat.le_of_ble_eq_true rfl) ing1 tyok1 nm1 rfl rfl rfl rfl rfl rfl mw_1412 hv2_ d_MO_token_204 (fun H locs hS => ?_)
  obtain ⟨M51, eM51⟩ : ∃ q, q = (setI M 191 23 v2_) := ⟨_, rfl⟩
  replace hS : St b C n M51 s H locs := by rw [eM51]; exact hS
  replace hT := qlet_eq hT eM51
  refine lv_aload_n F.hx F.hb d_MO_token_207 rfl (lv_at hl 0 rfl) ?_
  refine lv_dup F.hx F.hb d_MO_token_208 rfl ?_
  refine r_get (v := vI (M51.1 191 20)) (N := 68) (T := T1) (j := 20) F hS (show 191 < 231 by decide) (show shK 191 = 5 from rfl) (show shN 191 = 68 from rfl) rfl (Nat.le_of_ble_eq_true rfl) ing1 mw_1409 (fv_int rfl) d_MO_token_209 ?_
  have i52 := hS.rng 191 20
  refine r_iconst F.hx F.hb d_MO_token_212 ?_
  refine r_iadd F.hx F.hb d_MO_token_213 ?_
  refine r_putI (N := 68) (T := T1) (j := 20) F hS (show 191 < 231 by decide) (show shK 191 = 5 from rfl) (show shN 191 = 68 from rfl) rfl (Nat.le_of_ble_eq_true rfl) ing1 tyok1 nm1 rfl rfl rfl rfl rfl rfl mw_1409 (inr_w32 _) d_MO_token_214 (fun H locs hS => ?_)
  obtain ⟨M53, eM53⟩ : ∃ q, q = (setI M51 191 20 (w32 ((M51.1 191 20) + 1))) := ⟨_, rfl⟩
  replace hS : St b C n M53 s H locs := by rw [eM53]; exact hS
  replace hT := qlet_eq hT eM53
  refine lv_goto (tgt := 162) F.hx F.hb d_MO_token_217 (by decide) ?_
  exact hbk162 M53 _ _ _ hS (lv_sub hl [0] rfl) hT
set_option maxHeartbeats 4000000 in
set_option maxRecDepth 100000 in
theorem k_MO_token_L162 (l : Launch) {p : Program} {e : Env} {s : State} {m : MethodId} {below : List Frame} {meth : Method} {c : Code} {b n : Nat} {C : CT} (hlo : 231 ≤ n)   (F : Cx b p m c b_MO_token 2 s ([.ref (b + 191)] : List Value).toArray "WardFallsModel" C n 231) (hlk : meth.locks = false) (hr : meth.sig.returnType = none) {res : Mem} : ∀ (fu : Nat) (M : Mem)  (H : Heap) (locs : List Loc) (ls : Array Slot), St b C n M s H locs → lv_has ls 2 [(0, .ref (b + 191))] → t_MO_token_L162 fu M = some res → W p l e (headSpec (wsM y_MO_token b_MO_token 2 (none)) (rmD 5)).room s m ([.ref (b + 191)] : List Value).toArray below meth c H locs 0 0 (MQ below (QV b C n res) ([.ref (b + 191)] : List Value).toArray s 0 0 (frb b)) (F0 m 162 ls []) := by
  intro fu
  induction fu with
  | zero => intro M  H locs ls hS hl hT; exact absurd hT (by simp [t_MO_token_L162])
  | succ fu ih =>
    intro M  H locs ls hS hl hT
    rw [t_MO_token_L162] at hT
    refine lv_aload_n F.hx F.hb d_MO_token_162 rfl (lv_at hl 0 rfl) ?_
    obtain ⟨q25, hq25, hT⟩ := q_obind hT
    refine r_backI F hS (r_runV (k := 191) (N := 68) (T := T1) (As := []) F hS (show 191 < 231 by decide) (show shK 191 = 5 from rfl) rfl (c_MO_here l F.2.2.1 M _ hq25) gs_MO_157 hd_MO_here ⟨Nat.le_of_ble_eq_true rfl, Nat.le_of_ble_eq_true rfl⟩ rfl hl.1 (Nat.le_of_ble_eq_true rfl) ⟨Nat.zero_le _, Nat.zero_le _⟩ rfl d_MO_token_163) (fun H locs hS h26 => ?_)
    obtain ⟨q27, hq27⟩ : ∃ q, q = (t_MO_isDigit M q25) := ⟨_, rfl⟩
    replace hT := qlet_eq hT hq27
    refine r_backZ F hS (r_runS (As := [vI q25]) F hS (c_MO_isDigit l F.2.2.1 M q25 h26 _ hq27.symm) gs_MO_180 hd_MO_isDigit ⟨Nat.le_of_ble_eq_true rfl, Nat.le_of_ble_eq_true rfl⟩ rfl hl.1 (Nat.le_of_ble_eq_true rfl) ⟨Nat.zero_le _, Nat.zero_le _⟩ rfl d_MO_token_166) (fun H locs hS h28 => ?_)
    refine r_if_eq (tgt := 225) F.hx F.hb (inr_z h28) d_MO_token_169 (by decide) (fun c29 => ?_) (fun c29 => ?_)
    · replace hT := (if_pos c29).symm.trans hT
      cases hT
      exact r_vret F hlk hr hS d_MO_token_225
    · replace hT := (if_neg c29).symm.trans hT
      refine lv_aload_n F.hx F.hb d_MO_token_172 rfl (lv_at hl 0 rfl) ?_
      refine lv_aload_n F.hx F.hb d_MO_token_173 rfl (lv_at hl 0 rfl) ?_
      refine r_get (v := vI (M.1 191 23)) (N := 68) (T := T1) (j := 23) F hS (show 191 < 231 by decide) (show shK 191 = 5 from rfl) (show shN 191 = 68 from rfl) rfl (Nat.le_of_ble_eq_true rfl) ing1 mw_1412 (fv_int rfl) d_MO_token_174 ?_
      have i30 := hS.rng 191 23
      refine lv_ldc (v := Int32.ofInt 99999) F.hx F.hb F.hown (F.hts mw_1632) d_MO_token_177 ?_
      refine r_icmp_le (tgt := 189) F.hx F.hb i30 (inr_c rfl) d_MO_token_179 (by decide) (fun c31 => ?_) (fun c31 => ?_)
      · replace hT := (if_pos c31).symm.trans hT
        refine r_bipush F.hx F.hb d_MO_token_189 rfl ?_
        refine lv_aload_n F.hx F.hb d_MO_token_191 rfl (lv_at hl 0 rfl) ?_
        refine r_get (v := vI (M.1 191 23)) (N := 68) (T := T1) (j := 23) F hS (show 191 < 231 by decide) (show shK 191 = 5 from rfl) (show shN 191 = 68 from rfl) rfl (Nat.le_of_ble_eq_true rfl) ing1 mw_1412 (fv_int rfl) d_MO_token_192 ?_
        have i32 := hS.rng 191 23
        refine r_imul F.hx F.hb d_MO_token_195 ?_
        refine lv_aload_n F.hx F.hb d_MO_token_196 rfl (lv_at hl 0 rfl) ?_
        obtain ⟨q33, hq33, hT⟩ := q_obind hT
        refine r_backI F hS (r_runV (k := 191) (N := 68) (T := T1) (As := []) F hS (show 191 < 231 by decide) (show shK 191 = 5 from rfl) rfl (c_MO_here l F.2.2.1 M _ hq33) gs_MO_157 hd_MO_here ⟨Nat.le_of_ble_eq_true rfl, Nat.le_of_ble_eq_true rfl⟩ rfl hl.1 (Nat.le_of_ble_eq_true rfl) ⟨Nat.zero_le _, Nat.zero_le _⟩ rfl d_MO_token_197) (fun H locs hS h34 => ?_)
        refine r_iadd F.hx F.hb d_MO_token_200 ?_
        refine r_bipush F.hx F.hb d_MO_token_201 rfl ?_
        refine r_isub F.hx F.hb d_MO_token_203 ?_
        exact k_MO_token_L204 l hlo F hlk hr (fun a0_ => t_MO_token_L162 fu a0_) ih M (w32 ((w32 ((w32 (10 * (M.1 191 23))) + q33)) - 48)) (inr_w32 _) _ _ _ hS (lv_sub hl [0] rfl) hT
      · replace hT := (if_neg c31).symm.trans hT
        refine lv_aload_n F.hx F.hb d_MO_token_182 rfl (lv_at hl 0 rfl) ?_
        refine r_get (v := vI (M.1 191 23)) (N := 68) (T := T1) (j := 23) F hS (show 191 < 231 by decide) (show shK 191 = 5 from rfl) (show shN 191 = 68 from rfl) rfl (Nat.le_of_ble_eq_true rfl) ing1 mw_1412 (fv_int rfl) d_MO_token_183 ?_
        have i35 := hS.rng 191 23
        refine lv_goto (tgt := 204) F.hx F.hb d_MO_token_186 (by decide) ?_
        exact k_MO_token_L204 l hlo F hlk hr (fun a0_ => t_MO_token_L162 fu a0_) ih M (M.1 191 23) i35 _ _ _ hS (lv_sub hl [0] rfl) hT
set_option maxHeartbeats 4000000 in
set_option maxRecDepth 100000 in
theorem k_MO_token_L0 (l : Launch) {p : Program} {e : Env} {s : State} {m : MethodId} {below : List Frame} {meth : Method} {c : Code} {b n : Nat} {C : CT} (hlo : 231 ≤ n)   (F : Cx b p m c b_MO_token 2 s ([.ref (b + 191)] : List Value).toArray "WardFallsModel" C n 231) (hlk : meth.locks = false) (hr : meth.sig.returnType = none) {res : Mem} : ∀ (fu : Nat) (M : Mem)  (H : Heap) (locs : List Loc) (ls : Array Slot), St b C n M s H locs → lv_has ls 2 [(0, .ref (b + 191))] → t_MO_token_L0 fu M = some res → W p l e (headSpec (wsM y_MO_token b_MO_token 2 (none)) (rmD 5)).room s m ([.ref (b + 191)] : List Value).toArray below meth c H locs 0 0 (MQ below (QV b C n res) ([.ref (b + 191)] : List Value).toArray s 0 0 (frb b)) (F0 m 0 ls []) := by
  intro fu
  induction fu with
  | zero => intro M  H locs ls hS hl hT; exact absurd hT (by simp [t_MO_token_L0])
  | succ fu ih =>
    intro M  H locs ls hS hl hT
    rw [t_MO_token_L0] at hT
    refine lv_aload_n F.hx F.hb d_MO_token_0 rfl (lv_at hl 0 rfl) ?_
    obtain ⟨q1, hq1, hT⟩ := q_obind hT
    refine r_backI F hS (r_runV (k := 191) (N := 68) (T := T1) (As := []) F hS (show 191 < 231 by decide) (show shK 191 = 5 from rfl) rfl (c_MO_here l F.2.2.1 M _ hq1) gs_MO_157 hd_MO_here ⟨Nat.le_of_ble_eq_true rfl, Nat.le_of_ble_eq_true rfl⟩ rfl hl.1 (Nat.le_of_ble_eq_true rfl) ⟨Nat.zero_le _, Nat.zero_le _⟩ rfl d_MO_token_1) (fun H locs hS h2 => ?_)
    refine r_bipush F.hx F.hb d_MO_token_4 rfl ?_
    refine r_icmp_eq (tgt := 18) F.hx F.hb h2 (inr_c rfl) d_MO_token_6 (by decide) (fun c3 => ?_) (fun c3 => ?_)
    · replace hT := (if_pos c3).symm.trans hT
      exact k_MO_token_L18 l hlo F hlk hr (fun a0_ => t_MO_token_L0 fu a0_) ih M _ _ _ hS (lv_sub hl [0] rfl) hT
    · replace hT := (if_neg c3).symm.trans hT
      refine lv_aload_n F.hx F.hb d_MO_token_9 rfl (lv_at hl 0 rfl) ?_
      obtain ⟨q4, hq4, hT⟩ := q_obind hT
      refine r_backI F hS (r_runV (k := 191) (N := 68) (T := T1) (As := []) F hS (show 191 < 231 by decide) (show shK 191 = 5 from rfl) rfl (c_MO_here l F.2.2.1 M _ hq4) gs_MO_157 hd_MO_here ⟨Nat.le_of_ble_eq_true rfl, Nat.le_of_ble_eq_true rfl⟩ rfl hl.1 (Nat.le_of_ble_eq_true rfl) ⟨Nat.zero_le _, Nat.zero_le _⟩ rfl d_MO_token_10) (fun H locs hS h5 => ?_)
      refine r_bipush F.hx F.hb d_MO_token_13 rfl ?_
      refine r_icmp_ne (tgt := 31) F.hx F.hb h5 (inr_c rfl) d_MO_token_15 (by decide) (fun c6 => ?_) (fun c6 => ?_)
      · replace hT := (if_neg c6).symm.trans hT
        refine lv_aload_n F.hx F.hb d_MO_token_31 rfl (lv_at hl 0 rfl) ?_
        refine lv_aload_n F.hx F.hb d_MO_token_32 rfl (lv_at hl 0 rfl) ?_
        refine r_get (v := vI (M.1 191 20)) (N := 68) (T := T1) (j := 20) F hS (show 191 < 231 by decide) (show shK 191 = 5 from rfl) (show shN 191 = 68 from rfl) rfl (Nat.le_of_ble_eq_true rfl) ing1 mw_1409 (fv_int rfl) d_MO_token_33 ?_
        have i7 := hS.rng 191 20
        refine r_putI (N := 68) (T := T1) (j := 21) F hS (show 191 < 231 by decide) (show shK 191 = 5 from rfl) (show shN 191 = 68 from rfl) rfl (Nat.le_of_ble_eq_true rfl) ing1 tyok1 nm1 rfl rfl rfl rfl rfl rfl mw_1410 i7 d_MO_token_36 (fun H locs hS => ?_)
        obtain ⟨M8, eM8⟩ : ∃ q, q = (setI M 191 21 (M.1 191 20)) := ⟨_, rfl⟩
        replace hS : St b C n M8 s H locs := by rw [eM8]; exact hS
        replace hT := qlet_eq hT eM8
        refine lv_aload_n F.hx F.hb d_MO_token_39 rfl (lv_at hl 0 rfl) ?_
        obtain ⟨q9, hq9, hT⟩ := q_obind hT
        refine r_backI F hS (r_runV (k := 191) (N := 68) (T := T1) (As := []) F hS (show 191 < 231 by decide) (show shK 191 = 5 from rfl) rfl (c_MO_here l F.2.2.1 M8 _ hq9) gs_MO_157 hd_MO_here ⟨Nat.le_of_ble_eq_true rfl, Nat.le_of_ble_eq_true rfl⟩ rfl hl.1 (Nat.le_of_ble_eq_true rfl) ⟨Nat.zero_le _, Nat.zero_le _⟩ rfl d_MO_token_40) (fun H locs hS h10 => ?_)
        refine lv_istore_n (lv' := [(1, vI q9), (0, .ref (b + 191))]) F.hx F.hb d_MO_token_43 rfl hl (Nat.le_of_ble_eq_true rfl) rfl (fun ls hl => ?_)
        refine lv_iload_n F.hx F.hb d_MO_token_44 rfl (lv_at hl 0 rfl) ?_
        refine r_iconst F.hx F.hb d_MO_token_45 ?_
        refine r_icmp_ne (tgt := 57) F.hx F.hb h10 (inr_c rfl) d_MO_token_46 (by decide) (fun c11 => ?_) (fun c11 => ?_)
        · replace hT := (if_neg c11).symm.trans hT
          refine lv_iload_n F.hx F.hb d_MO_token_57 rfl (lv_at hl 0 rfl) ?_
          obtain ⟨q12, hq12⟩ : ∃ q, q = (t_MO_isSmall M8 q9) := ⟨_, rfl⟩
          replace hT := qlet_eq hT hq12
          refine r_backZ F hS (r_runS (As := [vI q9]) F hS (c_MO_isSmall l F.2.2.1 M8 q9 h10 _ hq12.symm) gs_MO_167 hd_MO_isSmall ⟨Nat.le_of_ble_eq_true rfl, Nat.le_of_ble_eq_true rfl⟩ rfl hl.1 (Nat.le_of_ble_eq_true rfl) ⟨Nat.zero_le _, Nat.zero_le _⟩ rfl d_MO_token_58) (fun H locs hS h13 => ?_)
          refine r_if_eq (tgt := 145) F.hx F.hb (inr_z h13) d_MO_token_61 (by decide) (fun c14 => ?_) (fun c14 => ?_)
          · replace hT := (if_pos c14).symm.trans hT
            refine lv_iload_n F.hx F.hb d_MO_token_145 rfl (lv_at hl 0 rfl) ?_
            obtain ⟨q15, hq15⟩ : ∃ q, q = (t_MO_isDigit M8 q9) := ⟨_, rfl⟩
            replace hT := qlet_eq hT hq15
            refine r_backZ F hS (r_runS (As := [vI q9]) F hS (c_MO_isDigit l F.2.2.1 M8 q9 h10 _ hq15.symm) gs_MO_180 hd_MO_isDigit ⟨Nat.le_of_ble_eq_true rfl, Nat.le_of_ble_eq_true rfl⟩ rfl hl.1 (Nat.le_of_ble_eq_true rfl) ⟨Nat.zero_le _, Nat.zero_le _⟩ rfl d_MO_token_146) (fun H locs hS h16 => ?_)
            refine r_if_eq (tgt := 220) F.hx F.hb (inr_z h16) d_MO_token_149 (by decide) (fun c17 => ?_) (fun c17 => ?_)
            · replace hT := (if_pos c17).symm.trans hT
              refine lv_aload_n F.hx F.hb d_MO_token_220 rfl (lv_at hl 1 rfl) ?_
              refine lv_iload_n F.hx F.hb d_MO_token_221 rfl (lv_at hl 0 rfl) ?_
              obtain ⟨q18, hq18, hT⟩ := q_obind hT
              refine r_backV F hS (r_runV (k := 191) (N := 68) (T := T1) (As := [vI q9]) F hS (show 191 < 231 by decide) (show shK 191 = 5 from rfl) rfl (c_MO_sign l F.2.2.1 M8 q9 h10 _ hq18) gs_MO_184 hd_MO_sign ⟨Nat.le_of_ble_eq_true rfl, Nat.le_of_ble_eq_true rfl⟩ rfl hl.1 (Nat.le_of_ble_eq_true rfl) ⟨Nat.zero_le _, Nat.zero_le _⟩ rfl d_MO_token_222) (fun H locs hS => ?_)
              cases hT
              exact r_vret F hlk hr hS d_MO_token_225
            · replace hT := (if_neg c17).symm.trans hT
              refine lv_aload_n F.hx F.hb d_MO_token_152 rfl (lv_at hl 1 rfl) ?_
              refine r_iconst F.hx F.hb d_MO_token_153 ?_
              refine r_putI (N := 68) (T := T1) (j := 22) F hS (show 191 < 231 by decide) (show shK 191 = 5 from rfl) (show shN 191 = 68 from rfl) rfl (Nat.le_of_ble_eq_true rfl) ing1 tyok1 nm1 rfl rfl rfl rfl rfl rfl mw_1411 (inr_c rfl) d_MO_token_154 (fun H locs hS => ?_)
              obtain ⟨M20, eM20⟩ : ∃ q, q = (setI M8 191 22 2) := ⟨_, rfl⟩
              replace hS : St b C n M20 s H locs := by rw [eM20]; exact hS
              replace hT := qlet_eq hT eM20
              refine lv_aload_n F.hx F.hb d_MO_token_157 rfl (lv_at hl 1 rfl) ?_
              refine r_iconst F.hx F.hb d_MO_token_158 ?_
              refine r_putI (N := 68) (T := T1) (j := 23) F hS (show 191 < 231 by decide) (show shK 191 = 5 from rfl) (show shN 191 = 68 from rfl) rfl (Nat.le_of_ble_eq_true rfl) ing1 tyok1 nm1 rfl rfl rfl rfl rfl rfl mw_1412 (inr_c rfl) d_MO_token_159 (fun H locs hS => ?_)
              obtain ⟨M21, eM21⟩ : ∃ q, q = (setI M20 191 23 0) := ⟨_, rfl⟩
              replace hS : St b C n M21 s H locs := by rw [eM21]; exact hS
              replace hT := qlet_eq hT eM21
              exact k_MO_token_L162 l hlo F hlk hr FU M21 _ _ _ hS (lv_sub hl [1] rfl) hT
          · replace hT := (if_neg c14).symm.trans hT
            exact k_MO_token_L64 l hlo F hlk hr FU M8 _ _ _ hS (lv_sub hl [1] rfl) hT
        · replace hT := (if_pos c11).symm.trans hT
          refine lv_aload_n F.hx F.hb d_MO_token_49 rfl (lv_at hl 1 rfl) ?_
          refine r_iconst F.hx F.hb d_MO_token_50 ?_
          refine r_putI (N := 68) (T := T1) (j := 22) F hS (show 191 < 231 by decide) (show shK 191 = 5 from rfl) (show shN 191 = 68 from rfl) rfl (Nat.le_of_ble_eq_true rfl) ing1 tyok1 nm1 rfl rfl rfl rfl rfl rfl mw_1411 (inr_c rfl) d_MO_token_51 (fun H locs hS => ?_)
          obtain ⟨M22, eM22⟩ : ∃ q, q = (setI M8 191 22 4) := ⟨_, rfl⟩
          replace hS : St b C n M22 s H locs := by rw [eM22]; exact hS
          replace hT := qlet_eq hT eM22
          refine lv_goto (tgt := 225) F.hx F.hb d_MO_token_54 (by decide) ?_
          cases hT
          exact r_vret F hlk hr hS d_MO_token_225
      · replace hT := (if_pos c6).symm.trans hT
        exact k_MO_token_L18 l hlo F hlk hr (fun a0_ => t_MO_token_L0 fu a0_) ih M _ _ _ hS (lv_sub hl [0] rfl) hT
set_option maxHeartbeats 4000000 in
set_option maxRecDepth 100000 in
theorem c_MO_token (l : Launch) {b n : Nat} {C : CT} (hlo : 231 ≤ n) (M : Mem)   (res : Mem) (hT : t_MO_token M  = some res) : CM l b C n 5 y_MO_token b_MO_token 2 (none) [.ref (b + 191)] M (QV b C n res) := by
  refine CM.of (lo := 231) (ow := "WardFallsModel") (by decide) rfl (Nat.le_of_ble_eq_true rfl) hlo (fun p e s m below meth c F hlk hr hS ls hl => ?_)
  have hl : lv_has ls 2 [(0, .ref (b + 191))] := hl
  unfold t_MO_token at hT
  exact k_MO_token_L0 l hlo F hlk hr FU M _ _ _ hS (lv_sub hl [0] rfl) hT
theorem d_MO_wrong_0 : decode b_MO_wrong 0 = .ok (.aload_n 0, 1) := dc_42 (by decide +kernel)
theorem d_MO_wrong_1 : decode b_MO_wrong 1 = .ok (.getfield 199, 3) := dc_180 (by decide +kernel)
theorem d_MO_wrong_4 : decode b_MO_wrong 4 = .ok (.ifCond .eq 4, 3) := dc_153 (by decide +kernel)
theorem d_MO_wrong_7 : decode b_MO_wrong 7 = .ok (.return_, 1) := dc_177 (by decide +kernel)
theorem d_MO_wrong_8 : decode b_MO_wrong 8 = .ok (.aload_n 0, 1) := dc_42 (by decide +kernel)
theorem d_MO_wrong_9 : decode b_MO_wrong 9 = .ok (.iload_n 1, 1) := dc_27 (by decide +kernel)
theorem d_MO_wrong_10 : decode b_MO_wrong 10 = .ok (.putfield 199, 3) := dc_181 (by decide +kernel)
theorem d_MO_wrong_13 : decode b_MO_wrong 13 = .ok (.aload_n 0, 1) := dc_42 (by decide +kernel)
theorem d_MO_wrong_14 : decode b_MO_wrong 14 = .ok (.aload_n 0, 1) := dc_42 (by decide +kernel)
theorem d_MO_wrong_15 : decode b_MO_wrong 15 = .ok (.getfield 161, 3) := dc_180 (by decide +kernel)
theorem d_MO_wrong_18 : decode b_MO_wrong 18 = .ok (.putfield 202, 3) := dc_181 (by decide +kernel)
theorem d_MO_wrong_21 : decode b_MO_wrong 21 = .ok (.return_, 1) := dc_177 (by decide +kernel)
def t_MO_wrong (M : Mem) (x1 : Int) : Mem := (if (M.1 191 24) = 0 then (qlet (setI M 191 24 x1) fun M3 => (qlet (setI M3 191 25 (M3.1 191 21)) fun M5 => M5)) else M)
set_option maxHeartbeats 4000000 in
set_option maxRecDepth 100000 in
theorem c_MO_wrong (l : Launch) {b n : Nat} {C : CT} (hlo : 231 ≤ n) (M : Mem) (x1 : Int) (hx1 : InR x1) (res : Mem) (hT : t_MO_wrong M x1 = res) : CM l b C n 0 y_MO_wrong b_MO_wrong 2 (none) [.ref (b + 191), vI x1] M (QV b C n res) := by
  refine CM.of (lo := 231) (ow := "WardFallsModel") (by decide) rfl (Nat.le_of_ble_eq_true rfl) hlo (fun p e s m below meth c F hlk hr hS ls hl => ?_)
  have hl : lv_has ls 2 [(0, .ref (b + 191)), (1, vI x1)] := hl
  unfold t_MO_wrong at hT
  refine lv_aload_n F.hx F.hb d_MO_wrong_0 rfl (lv_at hl 0 rfl) ?_
  refine r_get (v := vI (M.1 191 24)) (N := 68) (T := T1) (j := 24) F hS (show 191 < 231 by decide) (show shK 191 = 5 from rfl) (show shN 191 = 68 from rfl) rfl (Nat.le_of_ble_eq_true rfl) ing1 mw_1413 (fv_int rfl) d_MO_wrong_1 ?_
  have i1 := hS.rng 191 24
  refine r_if_eq (tgt := 8) F.hx F.hb i1 d_MO_wrong_4 (by decide) (fun c2 => ?_) (fun c2 => ?_)
  · replace hT := (if_pos c2).symm.trans hT
    refine lv_aload_n F.hx F.hb d_MO_wrong_8 rfl (lv_at hl 0 rfl) ?_
    refine lv_iload_n F.hx F.hb d_MO_wrong_9 rfl (lv_at hl 1 rfl) ?_
    refine r_putI (N := 68) (T := T1) (j := 24) F hS (show 191 < 231 by decide) (show shK 191 = 5 from rfl) (show shN 191 = 68 from rfl) rfl (Nat.le_of_ble_eq_true rfl) ing1 tyok1 nm1 rfl rfl rfl rfl rfl rfl mw_1413 hx1 d_MO_wrong_10 (fun H locs hS => ?_)
    obtain ⟨M3, eM3⟩ : ∃ q, q = (setI M 191 24 x1) := ⟨_, rfl⟩
    replace hS : St b C n M3 s H locs := by rw [eM3]; exact hS
    replace hT := qlet_eq hT eM3
    refine lv_aload_n F.hx F.hb d_MO_wrong_13 rfl (lv_at hl 0 rfl) ?_
    refine lv_aload_n F.hx F.hb d_MO_wrong_14 rfl (lv_at hl 0 rfl) ?_
    refine r_get (v := vI (M3.1 191 21)) (N := 68) (T := T1) (j := 21) F hS (show 191 < 231 by decide) (show shK 191 = 5 from rfl) (show shN 191 = 68 from rfl) rfl (Nat.le_of_ble_eq_true rfl) ing1 mw_1410 (fv_int rfl) d_MO_wrong_15 ?_
    have i4 := hS.rng 191 21
    refine r_putI (N := 68) (T := T1) (j := 25) F hS (show 191 < 231 by decide) (show shK 191 = 5 from rfl) (show shN 191 = 68 from rfl) rfl (Nat.le_of_ble_eq_true rfl) ing1 tyok1 nm1 rfl rfl rfl rfl rfl rfl mw_1414 i4 d_MO_wrong_18 (fun H locs hS => ?_)
    obtain ⟨M5, eM5⟩ : ∃ q, q = (setI M3 191 25 (M3.1 191 21)) := ⟨_, rfl⟩
    replace hS : St b C n M5 s H locs := by rw [eM5]; exact hS
    replace hT := qlet_eq hT eM5
    subst hT
    exact r_vret F hlk hr hS d_MO_wrong_21
  · replace hT := (if_neg c2).symm.trans hT
    subst hT
    exact r_vret F hlk hr hS d_MO_wrong_7
theorem d_MO_isWord_0 : decode b_MO_isWord 0 = .ok (.aload_n 0, 1) := dc_42 (by decide +kernel)
theorem d_MO_isWord_1 : decode b_MO_isWord 1 = .ok (.getfield 199, 3) := dc_180 (by decide +kernel)
theorem d_MO_isWord_4 : decode b_MO_isWord 4 = .ok (.ifCond .ne 22, 3) := dc_154 (by decide +kernel)
theorem d_MO_isWord_7 : decode b_MO_isWord 7 = .ok (.aload_n 0, 1) := dc_42 (by decide +kernel)
theorem d_MO_isWord_8 : decode b_MO_isWord 8 = .ok (.getfield 164, 3) := dc_180 (by decide +kernel)
theorem d_MO_isWord_11 : decode b_MO_isWord 11 = .ok (.ifCond .ne 15, 3) := dc_154 (by decide +kernel)
theorem d_MO_isWord_14 : decode b_MO_isWord 14 = .ok (.aload_n 0, 1) := dc_42 (by decide +kernel)
theorem d_MO_isWord_15 : decode b_MO_isWord 15 = .ok (.getfield 174, 3) := dc_180 (by decide +kernel)
theorem d_MO_isWord_18 : decode b_MO_isWord 18 = .ok (.iload_n 1, 1) := dc_27 (by decide +kernel)
theorem d_MO_isWord_19 : decode b_MO_isWord 19 = .ok (.if_icmp .ne 7, 3) := dc_160 (by decide +kernel)
theorem d_MO_isWord_22 : decode b_MO_isWord 22 = .ok (.iconst 1, 1) := dc_4 (by decide +kernel)
theorem d_MO_isWord_23 : decode b_MO_isWord 23 = .ok (.goto 4, 3) := dc_167 (by decide +kernel)
theorem d_MO_isWord_26 : decode b_MO_isWord 26 = .ok (.iconst 0, 1) := dc_3 (by decide +kernel)
theorem d_MO_isWord_27 : decode b_MO_isWord 27 = .ok (.ireturn, 1) := dc_172 (by decide +kernel)
def t_MO_isWord (M : Mem) (x1 : Int) : Int := (if (M.1 191 24) = 0 then (if (M.1 191 22) = 0 then (if (M.1 191 23) = x1 then 1 else 0) else 0) else 0)
set_option maxHeartbeats 4000000 in
set_option maxRecDepth 100000 in
theorem c_MO_isWord (l : Launch) {b n : Nat} {C : CT} (hlo : 231 ≤ n) (M : Mem) (x1 : Int) (hx1 : InR x1) (res : Int) (hT : t_MO_isWord M x1 = res) : CM l b C n 0 y_MO_isWord b_MO_isWord 2 (some .boolean) [.ref (b + 191), vI x1] M (QZ b C n M res) := by
  refine CM.of (lo := 231) (ow := "WardFallsModel") (by decide) rfl (Nat.le_of_ble_eq_true rfl) hlo (fun p e s m below meth c F hlk hr hS ls hl => ?_)
  have hl : lv_has ls 2 [(0, .ref (b + 191)), (1, vI x1)] := hl
  unfold t_MO_isWord at hT
  refine lv_aload_n F.hx F.hb d_MO_isWord_0 rfl (lv_at hl 0 rfl) ?_
  refine r_get (v := vI (M.1 191 24)) (N := 68) (T := T1) (j := 24) F hS (show 191 < 231 by decide) (show shK 191 = 5 from rfl) (show shN 191 = 68 from rfl) rfl (Nat.le_of_ble_eq_true rfl) ing1 mw_1413 (fv_int rfl) d_MO_isWord_1 ?_
  have i1 := hS.rng 191 24
  refine r_if_ne (tgt := 26) F.hx F.hb i1 d_MO_isWord_4 (by decide) (fun c2 => ?_) (fun c2 => ?_)
  · replace hT := (if_neg c2).symm.trans hT
    refine r_iconst F.hx F.hb d_MO_isWord_26 ?_
    subst hT
    exact r_zret F hlk hr hS (Or.inl rfl) d_MO_isWord_27
  · replace hT := (if_pos c2).symm.trans hT
    refine lv_aload_n F.hx F.hb d_MO_isWord_7 rfl (lv_at hl 0 rfl) ?_
    refine r_get (v := vI (M.1 191 22)) (N := 68) (T := T1) (j := 22) F hS (show 191 < 231 by decide) (show shK 191 = 5 from rfl) (show shN 191 = 68 from rfl) rfl (Nat.le_of_ble_eq_true rfl) ing1 mw_1411 (fv_int rfl) d_MO_isWord_8 ?_
    have i3 := hS.rng 191 22
    refine r_if_ne (tgt := 26) F.hx F.hb i3 d_MO_isWord_11 (by decide) (fun c4 => ?_) (fun c4 => ?_)
    · replace hT := (if_neg c4).symm.trans hT
      refine r_iconst F.hx F.hb d_MO_isWord_26 ?_
      subst hT
      exact r_zret F hlk hr hS (Or.inl rfl) d_MO_isWord_27
    · replace hT := (if_pos c4).symm.trans hT
      refine lv_aload_n F.hx F.hb d_MO_isWord_14 rfl (lv_at hl 0 rfl) ?_
      refine r_get (v := vI (M.1 191 23)) (N := 68) (T := T1) (j := 23) F hS (show 191 < 231 by decide) (show shK 191 = 5 from rfl) (show shN 191 = 68 from rfl) rfl (Nat.le_of_ble_eq_true rfl) ing1 mw_1412 (fv_int rfl) d_MO_isWord_15 ?_
      have i5 := hS.rng 191 23
      refine lv_iload_n F.hx F.hb d_MO_isWord_18 rfl (lv_at hl 1 rfl) ?_
      refine r_icmp_ne (tgt := 26) F.hx F.hb i5 hx1 d_MO_isWord_19 (by decide) (fun c6 => ?_) (fun c6 => ?_)
      · replace hT := (if_neg c6).symm.trans hT
        refine r_iconst F.hx F.hb d_MO_isWord_26 ?_
        subst hT
        exact r_zret F hlk hr hS (Or.inl rfl) d_MO_isWord_27
      · replace hT := (if_pos c6).symm.trans hT
        refine r_iconst F.hx F.hb d_MO_isWord_22 ?_
        refine lv_goto (tgt := 27) F.hx F.hb d_MO_isWord_23 (by decide) ?_
        subst hT
        exact r_zret F hlk hr hS (Or.inr rfl) d_MO_isWord_27
theorem d_MO_isSign_0 : decode b_MO_isSign 0 = .ok (.aload_n 0, 1) := dc_42 (by decide +kernel)
theorem d_MO_isSign_1 : decode b_MO_isSign 1 = .ok (.getfield 199, 3) := dc_180 (by decide +kernel)
theorem d_MO_isSign_4 : decode b_MO_isSign 4 = .ok (.ifCond .ne 23, 3) := dc_154 (by decide +kernel)
theorem d_MO_isSign_7 : decode b_MO_isSign 7 = .ok (.aload_n 0, 1) := dc_42 (by decide +kernel)
theorem d_MO_isSign_8 : decode b_MO_isSign 8 = .ok (.getfield 164, 3) := dc_180 (by decide +kernel)
theorem d_MO_isSign_11 : decode b_MO_isSign 11 = .ok (.iconst 3, 1) := dc_6 (by decide +kernel)
theorem d_MO_isSign_12 : decode b_MO_isSign 12 = .ok (.if_icmp .ne 15, 3) := dc_160 (by decide +kernel)
theorem d_MO_isSign_15 : decode b_MO_isSign 15 = .ok (.aload_n 0, 1) := dc_42 (by decide +kernel)
theorem d_MO_isSign_16 : decode b_MO_isSign 16 = .ok (.getfield 174, 3) := dc_180 (by decide +kernel)
theorem d_MO_isSign_19 : decode b_MO_isSign 19 = .ok (.iload_n 1, 1) := dc_27 (by decide +kernel)
theorem d_MO_isSign_20 : decode b_MO_isSign 20 = .ok (.if_icmp .ne 7, 3) := dc_160 (by decide +kernel)
theorem d_MO_isSign_23 : decode b_MO_isSign 23 = .ok (.iconst 1, 1) := dc_4 (by decide +kernel)
theorem d_MO_isSign_24 : decode b_MO_isSign 24 = .ok (.goto 4, 3) := dc_167 (by decide +kernel)
theorem d_MO_isSign_27 : decode b_MO_isSign 27 = .ok (.iconst 0, 1) := dc_3 (by decide +kernel)
theorem d_MO_isSign_28 : decode b_MO_isSign 28 = .ok (.ireturn, 1) := dc_172 (by decide +kernel)
def t_MO_isSign (M : Mem) (x1 : Int) : Int := (if (M.1 191 24) = 0 then (if (M.1 191 22) = 3 then (if (M.1 191 23) = x1 then 1 else 0) else 0) else 0)
set_option maxHeartbeats 4000000 in
set_option maxRecDepth 100000 in
theorem c_MO_isSign (l : Launch) {b n : Nat} {C : CT} (hlo : 231 ≤ n) (M : Mem) (x1 : Int) (hx1 : InR x1) (res : Int) (hT : t_MO_isSign M x1 = res) : CM l b C n 0 y_MO_isSign b_MO_isSign 2 (some .boolean) [.ref (b + 191), vI x1] M (QZ b C n M res) := by
  refine CM.of (lo := 231) (ow := "WardFallsModel") (by decide) rfl (Nat.le_of_ble_eq_true rfl) hlo (fun p e s m below meth c F hlk hr hS ls hl => ?_)
  have hl : lv_has ls 2 [(0, .ref (b + 191)), (1, vI x1)] := hl
  unfold t_MO_isSign at hT
  refine lv_aload_n F.hx F.hb d_MO_isSign_0 rfl (lv_at hl 0 rfl) ?_
  refine r_get (v := vI (M.1 191 24)) (N := 68) (T := T1) (j := 24) F hS (show 191 < 231 by decide) (show shK 191 = 5 from rfl) (show shN 191 = 68 from rfl) rfl (Nat.le_of_ble_eq_true rfl) ing1 mw_1413 (fv_int rfl) d_MO_isSign_1 ?_
  have i1 := hS.rng 191 24
  refine r_if_ne (tgt := 27) F.hx F.hb i1 d_MO_isSign_4 (by decide) (fun c2 => ?_) (fun c2 => ?_)
  · replace hT := (if_neg c2).symm.trans hT
    refine r_iconst F.hx F.hb d_MO_isSign_27 ?_
    subst hT
    exact r_zret F hlk hr hS (Or.inl rfl) d_MO_isSign_28
  · replace hT := (if_pos c2).symm.trans hT
    refine lv_aload_n F.hx F.hb d_MO_isSign_7 rfl (lv_at hl 0 rfl) ?_
    refine r_get (v := vI (M.1 191 22)) (N := 68) (T := T1) (j := 22) F hS (show 191 < 231 by decide) (show shK 191 = 5 from rfl) (show shN 191 = 68 from rfl) rfl (Nat.le_of_ble_eq_true rfl) ing1 mw_1411 (fv_int rfl) d_MO_isSign_8 ?_
    have i3 := hS.rng 191 22
    refine r_iconst F.hx F.hb d_MO_isSign_11 ?_
    refine r_icmp_ne (tgt := 27) F.hx F.hb i3 (inr_c rfl) d_MO_isSign_12 (by decide) (fun c4 => ?_) (fun c4 => ?_)
    · replace hT := (if_neg c4).symm.trans hT
      refine r_iconst F.hx F.hb d_MO_isSign_27 ?_
      subst hT
      exact r_zret F hlk hr hS (Or.inl rfl) d_MO_isSign_28
    · replace hT := (if_pos c4).symm.trans hT
      refine lv_aload_n F.hx F.hb d_MO_isSign_15 rfl (lv_at hl 0 rfl) ?_
      refine r_get (v := vI (M.1 191 23)) (N := 68) (T := T1) (j := 23) F hS (show 191 < 231 by decide) (show shK 191 = 5 from rfl) (show shN 191 = 68 from rfl) rfl (Nat.le_of_ble_eq_true rfl) ing1 mw_1412 (fv_int rfl) d_MO_isSign_16 ?_
      have i5 := hS.rng 191 23
      refine lv_iload_n F.hx F.hb d_MO_isSign_19 rfl (lv_at hl 1 rfl) ?_
      refine r_icmp_ne (tgt := 27) F.hx F.hb i5 hx1 d_MO_isSign_20 (by decide) (fun c6 => ?_) (fun c6 => ?_)
      · replace hT := (if_neg c6).symm.trans hT
        refine r_iconst F.hx F.hb d_MO_isSign_27 ?_
        subst hT
        exact r_zret F hlk hr hS (Or.inl rfl) d_MO_isSign_28
      · replace hT := (if_pos c6).symm.trans hT
        refine r_iconst F.hx F.hb d_MO_isSign_23 ?_
        refine lv_goto (tgt := 28) F.hx F.hb d_MO_isSign_24 (by decide) ?_
        subst hT
        exact r_zret F hlk hr hS (Or.inr rfl) d_MO_isSign_28
