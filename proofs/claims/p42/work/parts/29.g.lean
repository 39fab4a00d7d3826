section
theorem d_MO_feed_0 : decode b_MO_feed 0 = .ok (.aload_n 0, 1) := dc_42 (by decide +kernel)
theorem d_MO_feed_1 : decode b_MO_feed 1 = .ok (.iconst 0, 1) := dc_3 (by decide +kernel)
theorem d_MO_feed_2 : decode b_MO_feed 2 = .ok (.putfield 145, 3) := dc_181 (by decide +kernel)
theorem d_MO_feed_5 : decode b_MO_feed 5 = .ok (.aload_n 0, 1) := dc_42 (by decide +kernel)
theorem d_MO_feed_6 : decode b_MO_feed 6 = .ok (.getfield 148, 3) := dc_180 (by decide +kernel)
theorem d_MO_feed_9 : decode b_MO_feed 9 = .ok (.sipush 680, 3) := dc_17 (by decide +kernel)
theorem d_MO_feed_12 : decode b_MO_feed 12 = .ok (.if_icmp .le 5, 3) := dc_164 (by decide +kernel)
theorem d_MO_feed_15 : decode b_MO_feed 15 = .ok (.iconst (-1), 1) := dc_2 (by decide +kernel)
theorem d_MO_feed_16 : decode b_MO_feed 16 = .ok (.ireturn, 1) := dc_172 (by decide +kernel)
theorem d_MO_feed_17 : decode b_MO_feed 17 = .ok (.iconst 0, 1) := dc_3 (by decide +kernel)
theorem d_MO_feed_18 : decode b_MO_feed 18 = .ok (.istore 6, 2) := dc_54 (by decide +kernel)
theorem d_MO_feed_20 : decode b_MO_feed 20 = .ok (.iload 6, 2) := dc_21 (by decide +kernel)
theorem d_MO_feed_22 : decode b_MO_feed 22 = .ok (.bipush 20, 2) := dc_16 (by decide +kernel)
theorem d_MO_feed_24 : decode b_MO_feed 24 = .ok (.if_icmp .ge 86, 3) := dc_162 (by decide +kernel)
theorem d_MO_feed_27 : decode b_MO_feed 27 = .ok (.iload 6, 2) := dc_21 (by decide +kernel)
theorem d_MO_feed_29 : decode b_MO_feed 29 = .ok (.iconst 4, 1) := dc_7 (by decide +kernel)
theorem d_MO_feed_30 : decode b_MO_feed 30 = .ok (.if_icmp .ge 7, 3) := dc_162 (by decide +kernel)
theorem d_MO_feed_33 : decode b_MO_feed 33 = .ok (.iload_n 1, 1) := dc_27 (by decide +kernel)
theorem d_MO_feed_34 : decode b_MO_feed 34 = .ok (.goto 39, 3) := dc_167 (by decide +kernel)
theorem d_MO_feed_37 : decode b_MO_feed 37 = .ok (.iload 6, 2) := dc_21 (by decide +kernel)
theorem d_MO_feed_39 : decode b_MO_feed 39 = .ok (.bipush 8, 2) := dc_16 (by decide +kernel)
theorem d_MO_feed_41 : decode b_MO_feed 41 = .ok (.if_icmp .ge 7, 3) := dc_162 (by decide +kernel)
theorem d_MO_feed_44 : decode b_MO_feed 44 = .ok (.iload_n 2, 1) := dc_28 (by decide +kernel)
theorem d_MO_feed_45 : decode b_MO_feed 45 = .ok (.goto 28, 3) := dc_167 (by decide +kernel)
theorem d_MO_feed_48 : decode b_MO_feed 48 = .ok (.iload 6, 2) := dc_21 (by decide +kernel)
theorem d_MO_feed_50 : decode b_MO_feed 50 = .ok (.bipush 12, 2) := dc_16 (by decide +kernel)
theorem d_MO_feed_52 : decode b_MO_feed 52 = .ok (.if_icmp .ge 7, 3) := dc_162 (by decide +kernel)
theorem d_MO_feed_55 : decode b_MO_feed 55 = .ok (.iload_n 3, 1) := dc_29 (by decide +kernel)
theorem d_MO_feed_56 : decode b_MO_feed 56 = .ok (.goto 17, 3) := dc_167 (by decide +kernel)
theorem d_MO_feed_59 : decode b_MO_feed 59 = .ok (.iload 6, 2) := dc_21 (by decide +kernel)
theorem d_MO_feed_61 : decode b_MO_feed 61 = .ok (.bipush 16, 2) := dc_16 (by decide +kernel)
theorem d_MO_feed_63 : decode b_MO_feed 63 = .ok (.if_icmp .ge 8, 3) := dc_162 (by decide +kernel)
theorem d_MO_feed_66 : decode b_MO_feed 66 = .ok (.iload 4, 2) := dc_21 (by decide +kernel)
theorem d_MO_feed_68 : decode b_MO_feed 68 = .ok (.goto 5, 3) := dc_167 (by decide +kernel)
theorem d_MO_feed_71 : decode b_MO_feed 71 = .ok (.iload 5, 2) := dc_21 (by decide +kernel)
theorem d_MO_feed_73 : decode b_MO_feed 73 = .ok (.istore 7, 2) := dc_54 (by decide +kernel)
theorem d_MO_feed_75 : decode b_MO_feed 75 = .ok (.aload_n 0, 1) := dc_42 (by decide +kernel)
theorem d_MO_feed_76 : decode b_MO_feed 76 = .ok (.getfield 7, 3) := dc_180 (by decide +kernel)
theorem d_MO_feed_79 : decode b_MO_feed 79 = .ok (.aload_n 0, 1) := dc_42 (by decide +kernel)
theorem d_MO_feed_80 : decode b_MO_feed 80 = .ok (.getfield 148, 3) := dc_180 (by decide +kernel)
theorem d_MO_feed_83 : decode b_MO_feed 83 = .ok (.iload 6, 2) := dc_21 (by decide +kernel)
theorem d_MO_feed_85 : decode b_MO_feed 85 = .ok (.iadd, 1) := dc_96 (by decide +kernel)
theorem d_MO_feed_86 : decode b_MO_feed 86 = .ok (.iload 7, 2) := dc_21 (by decide +kernel)
theorem d_MO_feed_88 : decode b_MO_feed 88 = .ok (.bipush 24, 2) := dc_16 (by decide +kernel)
theorem d_MO_feed_90 : decode b_MO_feed 90 = .ok (.bipush 8, 2) := dc_16 (by decide +kernel)
theorem d_MO_feed_92 : decode b_MO_feed 92 = .ok (.iload 6, 2) := dc_21 (by decide +kernel)
theorem d_MO_feed_94 : decode b_MO_feed 94 = .ok (.iconst 4, 1) := dc_7 (by decide +kernel)
theorem d_MO_feed_95 : decode b_MO_feed 95 = .ok (.irem, 1) := dc_112 (by decide +kernel)
theorem d_MO_feed_96 : decode b_MO_feed 96 = .ok (.imul, 1) := dc_104 (by decide +kernel)
theorem d_MO_feed_97 : decode b_MO_feed 97 = .ok (.isub, 1) := dc_100 (by decide +kernel)
theorem d_MO_feed_98 : decode b_MO_feed 98 = .ok (.ishr, 1) := dc_122 (by decide +kernel)
theorem d_MO_feed_99 : decode b_MO_feed 99 = .ok (.sipush 255, 3) := dc_17 (by decide +kernel)
theorem d_MO_feed_102 : decode b_MO_feed 102 = .ok (.iand, 1) := dc_126 (by decide +kernel)
theorem d_MO_feed_103 : decode b_MO_feed 103 = .ok (.iastore, 1) := dc_79 (by decide +kernel)
theorem d_MO_feed_104 : decode b_MO_feed 104 = .ok (.iinc 6 1, 3) := dc_132 (by decide +kernel)
theorem d_MO_feed_107 : decode b_MO_feed 107 = .ok (.goto (-87), 3) := dc_167 (by decide +kernel)
theorem d_MO_feed_110 : decode b_MO_feed 110 = .ok (.aload_n 0, 1) := dc_42 (by decide +kernel)
theorem d_MO_feed_111 : decode b_MO_feed 111 = .ok (.dup, 1) := dc_89 (by decide +kernel)
theorem d_MO_feed_112 : decode b_MO_feed 112 = .ok (.getfield 148, 3) := dc_180 (by decide +kernel)
theorem d_MO_feed_115 : decode b_MO_feed 115 = .ok (.bipush 20, 2) := dc_16 (by decide +kernel)
theorem d_MO_feed_117 : decode b_MO_feed 117 = .ok (.iadd, 1) := dc_96 (by decide +kernel)
theorem d_MO_feed_118 : decode b_MO_feed 118 = .ok (.putfield 148, 3) := dc_181 (by decide +kernel)
theorem d_MO_feed_121 : decode b_MO_feed 121 = .ok (.aload_n 0, 1) := dc_42 (by decide +kernel)
theorem d_MO_feed_122 : decode b_MO_feed 122 = .ok (.getfield 148, 3) := dc_180 (by decide +kernel)
theorem d_MO_feed_125 : decode b_MO_feed 125 = .ok (.ireturn, 1) := dc_172 (by decide +kernel)
def t_MO_feed_L73 (x1 : Int) (x2 : Int) (x3 : Int) (x4 : Int) (x5 : Int) (bk20 : Mem → Int → Option (Mem × Int)) (M : Mem) (v6_ : Int) (v7_ : Int) : Option (Mem × Int) := (qguard (0 ≤ (w32 ((M.1 191 2) + v6_)) ∧ (w32 ((M.1 191 2) + v6_)) < 700) (qlet (setI M 192 (w32 ((M.1 191 2) + v6_)) (q_and (q_shr v7_ (w32 (24 - (w32 (8 * (q_rem v6_ 4)))))) 255)) fun M14 => (bk20 M14 (w32 (v6_ + 1)))))
def t_MO_feed_L20 (x1 : Int) (x2 : Int) (x3 : Int) (x4 : Int) (x5 : Int)  : Nat → Mem → Int → Option (Mem × Int)
  | 0, _, _ => none
  | fu + 1, M, v6_ => (if 20 ≤ v6_ then (qlet (setI M 191 2 (w32 ((M.1 191 2) + 20))) fun M6 => (some (M6, (M6.1 191 2)))) else (if 4 ≤ v6_ then (if 8 ≤ v6_ then (if 12 ≤ v6_ then (if 16 ≤ v6_ then (t_MO_feed_L73 x1 x2 x3 x4 x5 (fun a0_ a1_ => t_MO_feed_L20 x1 x2 x3 x4 x5 fu a0_ a1_) M v6_ x5) else (t_MO_feed_L73 x1 x2 x3 x4 x5 (fun a0_ a1_ => t_MO_feed_L20 x1 x2 x3 x4 x5 fu a0_ a1_) M v6_ x4)) else (t_MO_feed_L73 x1 x2 x3 x4 x5 (fun a0_ a1_ => t_MO_feed_L20 x1 x2 x3 x4 x5 fu a0_ a1_) M v6_ x3)) else (t_MO_feed_L73 x1 x2 x3 x4 x5 (fun a0_ a1_ => t_MO_feed_L20 x1 x2 x3 x4 x5 fu a0_ a1_) M v6_ x2)) else (t_MO_feed_L73 x1 x2 x3 x4 x5 (fun a0_ a1_ => t_MO_feed_L20 x1 x2 x3 x4 x5 fu a0_ a1_) M v6_ x1)))
def t_MO_feed (M : Mem) (x1 : Int) (x2 : Int) (x3 : Int) (x4 : Int) (x5 : Int) : Option (Mem × Int) := (qlet (setI M 191 0 0) fun M1 => (if (M1.1 191 2) ≤ 680 then (t_MO_feed_L20 x1 x2 x3 x4 x5 FU M1 0) else (some (M1, (-1)))))
set_option maxHeartbeats 4000000 in
set_option maxRecDepth 100000 in
theorem k_MO_feed_L73 (l : Launch) {p : Program} {e : Env} {s : State} {m : MethodId} {below : List Frame} {meth : Method} {c : Code} {b n : Nat} {C : CT} (hlo : 231 ≤ n) (x1 : Int) (x2 : Int) (x3 : Int) (x4 : Int) (x5 : Int) (hx1 : InR x1) (hx2 : InR x2) (hx3 : InR x3) (hx4 : InR x4) (hx5 : InR x5) (F : Cx b p m c b_MO_feed 8 s ([.ref (b + 191), vI x1, vI x2, vI x3, vI x4, vI x5] : List Value).toArray "WardFallsModel" C n 231) (hlk : meth.locks = false) (hr : meth.sig.returnType = some .int) {res : Mem × Int} (bk20 : Mem → Int → Option (Mem × Int)) (hbk20 : ∀ (M : Mem) (v6_ : Int) (hv6_ : InR v6_) (H : Heap) (locs : List Loc) (ls : Array Slot), St b C n M s H locs → lv_has ls 8 [(0, .ref (b + 191)), (1, vI x1), (2, vI x2), (3, vI x3), (4, vI x4), (5, vI x5), (6, vI v6_)] → bk20 M v6_ = some res → W p l e (headSpec (wsM y_MO_feed b_MO_feed 8 (some .int)) (rmD 0)).room s m ([.ref (b + 191), vI x1, vI x2, vI x3, vI x4, vI x5] : List Value).toArray below meth c H locs 0 0 (MQ below (QI b C n res.1 res.2) ([.ref (b + 191), vI x1, vI x2, vI x3, vI x4, vI x5] : List Value).toArray s 0 0 (frb b)) (F0 m 20 ls [])) (M : Mem) (v6_ : Int) (hv6_ : InR v6_) (v7_ : Int) (hv7_ : InR v7_) (H : Heap) (locs : List Loc) (ls : Array Slot) (hS : St b C n M s H locs) (hl : lv_has ls 8 [(0, .ref (b + 191)), (1, vI x1), (2, vI x2), (3, vI x3), (4, vI x4), (5, vI x5), (6, vI v6_)]) (hT : t_MO_feed_L73 x1 x2 x3 x4 x5 bk20 M v6_ v7_ = some res) : W p l e (headSpec (wsM y_MO_feed b_MO_feed 8 (some .int)) (rmD 0)).room s m ([.ref (b + 191), vI x1, vI x2, vI x3, vI x4, vI x5] : List Value).toArray below meth c H locs 0 0 (MQ below (QI b C n res.1 res.2) ([.ref (b + 191), vI x1, vI x2, vI x3, vI x4, vI x5] : List Value).toArray s 0 0 (frb b)) (F0 m 73 ls [vI v7_]) := by
  unfold t_MO_feed_L73 at hT
  refine lv_istore (lv' := [(7, vI v7_), (0, .ref (b + 191)), (1, vI x1), (2, vI x2), (3, vI x3), (4, vI x4), (5, vI x5), (6, vI v6_)]) F.hx F.hb d_MO_feed_73 hl (Nat.le_of_ble_eq_true rfl) rfl (fun ls hl => ?_)
  refine lv_aload_n F.hx F.hb d_MO_feed_75 rfl (lv_at hl 1 rfl) ?_
  refine r_get (v := .ref (b + 192)) (N := 68) (T := T1) (j := 1) F hS (show 191 < 231 by decide) (show shK 191 = 5 from rfl) (show shN 191 = 68 from rfl) rfl (Nat.le_of_ble_eq_true rfl) ing1 mw_1390 (fv_sg rfl rfl rfl) d_MO_feed_76 ?_
  refine lv_aload_n F.hx F.hb d_MO_feed_79 rfl (lv_at hl 1 rfl) ?_
  refine r_get (v := vI (M.1 191 2)) (N := 68) (T := T1) (j := 2) F hS (show 191 < 231 by decide) (show shK 191 = 5 from rfl) (show shN 191 = 68 from rfl) rfl (Nat.le_of_ble_eq_true rfl) ing1 mw_1391 (fv_int rfl) d_MO_feed_80 ?_
  have i12 := hS.rng 191 2
  refine lv_iload F.hx F.hb d_MO_feed_83 (lv_at hl 7 rfl) ?_
  refine r_iadd F.hx F.hb d_MO_feed_85 ?_
  refine lv_iload F.hx F.hb d_MO_feed_86 (lv_at hl 0 rfl) ?_
  refine r_bipush F.hx F.hb d_MO_feed_88 rfl ?_
  refine r_bipush F.hx F.hb d_MO_feed_90 rfl ?_
  refine lv_iload F.hx F.hb d_MO_feed_92 (lv_at hl 7 rfl) ?_
  refine r_iconst F.hx F.hb d_MO_feed_94 ?_
  refine r_irem F.hx F.hb (inr_c rfl) (by decide) d_MO_feed_95 ?_
  refine r_imul F.hx F.hb d_MO_feed_96 ?_
  refine r_isub F.hx F.hb d_MO_feed_97 ?_
  refine r_ishr F.hx F.hb d_MO_feed_98 ?_
  refine r_sipush F.hx F.hb d_MO_feed_99 rfl ?_
  refine r_iand F.hx F.hb d_MO_feed_102 ?_
  obtain ⟨⟨g13a, g13b⟩, hT⟩ := q_guard hT
  refine r_iast F hS (show 192 < 231 by decide) (show shK 192 = 0 from rfl) (show shN 192 = 700 from rfl) (inr_w32 _) (q_inr_toInt _) g13a g13b d_MO_feed_103 (fun H locs hS => ?_)
  obtain ⟨M14, eM14⟩ : ∃ q, q = (setI M 192 (w32 ((M.1 191 2) + v6_)) (q_and (q_shr v7_ (w32 (24 - (w32 (8 * (q_rem v6_ 4)))))) 255)) := ⟨_, rfl⟩
  replace hS : St b C n M14 s H locs := by rw [eM14]; exact hS
  replace hT := qlet_eq hT eM14
  refine lv_iinc (v := Int32.ofInt (w32 (v6_ + 1))) (lv' := [(6, vI (w32 (v6_ + 1))), (7, vI v7_), (0, .ref (b + 191)), (1, vI x1), (2, vI x2), (3, vI x3), (4, vI x4), (5, vI x5)]) F.hx F.hb d_MO_feed_104 hl (k := 7) rfl (q_of_add _ _) (Nat.le_of_ble_eq_true rfl) rfl (fun ls hl => ?_)
  refine lv_goto (tgt := 20) F.hx F.hb d_MO_feed_107 (by decide) ?_
  exact hbk20 M14 (w32 (v6_ + 1)) (inr_w32 _) _ _ _ hS (lv_sub hl [2, 3, 4, 5, 6, 7, 0] rfl) hT
set_option maxHeartbeats 4000000 in
set_option maxRecDepth 100000 in
theorem k_MO_feed_L20 (l : Launch) {p : Program} {e : Env} {s : State} {m : MethodId} {below : List Frame} {meth : Method} {c : Code} {b n : Nat} {C : CT} (hlo : 231 ≤ n) (x1 : Int) (x2 : Int) (x3 : Int) (x4 : Int) (x5 : Int) (hx1 : InR x1) (hx2 : InR x2) (hx3 : InR x3) (hx4 : InR x4) (hx5 : InR x5) (F : Cx b p m c b_MO_feed 8 s ([.ref (b + 191), vI x1, vI x2, vI x3, vI x4, vI x5] : List Value).toArray "WardFallsModel" C n 231) (hlk : meth.locks = false) (hr : meth.sig.returnType = some .int) {res : Mem × Int} : ∀ (fu : Nat) (M : Mem) (v6_ : Int) (hv6_ : InR v6_) (H : Heap) (locs : List Loc) (ls : Array Slot), St b C n M s H locs → lv_has ls 8 [(0, .ref (b + 191)), (1, vI x1), (2, vI x2), (3, vI x3), (4, vI x4), (5, vI x5), (6, vI v6_)] → t_MO_feed_L20 x1 x2 x3 x4 x5 fu M v6_ = some res → W p l e (headSpec (wsM y_MO_feed b_MO_feed 8 (some .int)) (rmD 0)).room s m ([.ref (b + 191), vI x1, vI x2, vI x3, vI x4, vI x5] : List Value).toArray below meth c H locs 0 0 (MQ below (QI b C n res.1 res.2) ([.ref (b + 191), vI x1, vI x2, vI x3, vI x4, vI x5] : List Value).toArray s 0 0 (frb b)) (F0 m 20 ls []) := by
  intro fu
  induction fu with
  | zero => intro M v6_ hv6_ H locs ls hS hl hT; exact absurd hT (by simp [t_MO_feed_L20])
  | succ fu ih =>
    intro M v6_ hv6_ H locs ls hS hl hT
    rw [t_MO_feed_L20] at hT
    refine lv_iload F.hx F.hb d_MO_feed_20 (lv_at hl 6 rfl) ?_
    refine r_bipush F.hx F.hb d_MO_feed_22 rfl ?_
    refine r_icmp_ge (tgt := 110) F.hx F.hb hv6_ (inr_c rfl) d_MO_feed_24 (by decide) (fun c4 => ?_) (fun c4 => ?_)
    · replace hT := (if_pos c4).symm.trans hT
      refine lv_aload_n F.hx F.hb d_MO_feed_110 rfl (lv_at hl 0 rfl) ?_
      refine lv_dup F.hx F.hb d_MO_feed_111 rfl ?_
      refine r_get (v := vI (M.1 191 2)) (N := 68) (T := T1) (j := 2) F hS (show 191 < 231 by decide) (show shK 191 = 5 from rfl) (show shN 191 = 68 from rfl) rfl (Nat.le_of_ble_eq_true rfl) ing1 mw_1391 (fv_int rfl) d_MO_feed_112 ?_
      have i5 := hS.rng 191 2
      refine r_bipush F.hx F.hb d_MO_feed_115 rfl ?_
      refine r_iadd F.hx F.hb d_MO_feed_117 ?_
      refine r_putI (N := 68) (T := T1) (j := 2) F hS (show 191 < 231 by decide) (show shK 191 = 5 from rfl) (show shN 191 = 68 from rfl) rfl (Nat.le_of_ble_eq_true rfl) ing1 tyok1 nm1 rfl rfl rfl rfl rfl rfl mw_1391 (inr_w32 _) d_MO_feed_118 (fun H locs hS => ?_)
      obtain ⟨M6, eM6⟩ : ∃ q, q = (setI M 191 2 (w32 ((M.1 191 2) + 20))) := ⟨_, rfl⟩
      replace hS : St b C n M6 s H locs := by rw [eM6]; exact hS
      replace hT := qlet_eq hT eM6
      refine lv_aload_n F.hx F.hb d_MO_feed_121 rfl (lv_at hl 0 rfl) ?_
      refine r_get (v := vI (M6.1 191 2)) (N := 68) (T := T1) (j := 2) F hS (show 191 < 231 by decide) (show shK 191 = 5 from rfl) (show shN 191 = 68 from rfl) rfl (Nat.le_of_ble_eq_true rfl) ing1 mw_1391 (fv_int rfl) d_MO_feed_122 ?_
      have i7 := hS.rng 191 2
      cases hT
      exact r_iret F hlk hr rfl hS i7 d_MO_feed_125
    · replace hT := (if_neg c4).symm.trans hT
      refine lv_iload F.hx F.hb d_MO_feed_27 (lv_at hl 6 rfl) ?_
      refine r_iconst F.hx F.hb d_MO_feed_29 ?_
      refine r_icmp_ge (tgt := 37) F.hx F.hb hv6_ (inr_c rfl) d_MO_feed_30 (by decide) (fun c8 => ?_) (fun c8 => ?_)
      · replace hT := (if_pos c8).symm.trans hT
        refine lv_iload F.hx F.hb d_MO_feed_37 (lv_at hl 6 rfl) ?_
        refine r_bipush F.hx F.hb d_MO_feed_39 rfl ?_
        refine r_icmp_ge (tgt := 48) F.hx F.hb hv6_ (inr_c rfl) d_MO_feed_41 (by decide) (fun c9 => ?_) (fun c9 => ?_)
        · replace hT := (if_pos c9).symm.trans hT
          refine lv_iload F.hx F.hb d_MO_feed_48 (lv_at hl 6 rfl) ?_
          refine r_bipush F.hx F.hb d_MO_feed_50 rfl ?_
          refine r_icmp_ge (tgt := 59) F.hx F.hb hv6_ (inr_c rfl) d_MO_feed_52 (by decide) (fun c10 => ?_) (fun c10 => ?_)
          · replace hT := (if_pos c10).symm.trans hT
            refine lv_iload F.hx F.hb d_MO_feed_59 (lv_at hl 6 rfl) ?_
            refine r_bipush F.hx F.hb d_MO_feed_61 rfl ?_
            refine r_icmp_ge (tgt := 71) F.hx F.hb hv6_ (inr_c rfl) d_MO_feed_63 (by decide) (fun c11 => ?_) (fun c11 => ?_)
            · replace hT := (if_pos c11).symm.trans hT
              refine lv_iload F.hx F.hb d_MO_feed_71 (lv_at hl 5 rfl) ?_
              exact k_MO_feed_L73 l hlo x1 x2 x3 x4 x5 hx1 hx2 hx3 hx4 hx5 F hlk hr (fun a0_ a1_ => t_MO_feed_L20 x1 x2 x3 x4 x5 fu a0_ a1_) ih M v6_ hv6_ x5 hx5 _ _ _ hS (lv_sub hl [0, 1, 2, 3, 4, 5, 6] rfl) hT
            · replace hT := (if_neg c11).symm.trans hT
              refine lv_iload F.hx F.hb d_MO_feed_66 (lv_at hl 4 rfl) ?_
              refine lv_goto (tgt := 73) F.hx F.hb d_MO_feed_68 (by decide) ?_
              exact k_MO_feed_L73 l hlo x1 x2 x3 x4 x5 hx1 hx2 hx3 hx4 hx5 F hlk hr (fun a0_ a1_ => t_MO_feed_L20 x1 x2 x3 x4 x5 fu a0_ a1_) ih M v6_ hv6_ x4 hx4 _ _ _ hS (lv_sub hl [0, 1, 2, 3, 4, 5, 6] rfl) hT
          · replace hT := (if_neg c10).symm.trans hT
            refine lv_iload_n F.hx F.hb d_MO_feed_55 rfl (lv_at hl 3 rfl) ?_
            refine lv_goto (tgt := 73) F.hx F.hb d_MO_feed_56 (by decide) ?_
            exact k_MO_feed_L73 l hlo x1 x2 x3 x4 x5 hx1 hx2 hx3 hx4 hx5 F hlk hr (fun a0_ a1_ => t_MO_feed_L20 x1 x2 x3 x4 x5 fu a0_ a1_) ih M v6_ hv6_ x3 hx3 _ _ _ hS (lv_sub hl [0, 1, 2, 3, 4, 5, 6] rfl) hT
        · replace hT := (if_neg c9).symm.trans hT
          refine lv_iload_n F.hx F.hb d_MO_feed_44 rfl (lv_at hl 2 rfl) ?_
          refine lv_goto (tgt := 73) F.hx F.hb d_MO_feed_45 (by decide) ?_
          exact k_MO_feed_L73 l hlo x1 x2 x3 x4 x5 hx1 hx2 hx3 hx4 hx5 F hlk hr (fun a0_ a1_ => t_MO_feed_L20 x1 x2 x3 x4 x5 fu a0_ a1_) ih M v6_ hv6_ x2 hx2 _ _ _ hS (lv_sub hl [0, 1, 2, 3, 4, 5, 6] rfl) hT
      · replace hT := (if_neg c8).symm.trans hT
        refine lv_iload_n F.hx F.hb d_MO_feed_33 rfl (lv_at hl 1 rfl) ?_
        refine lv_goto (tgt := 73) F.hx F.hb d_MO_feed_34 (by decide) ?_
        exact k_MO_feed_L73 l hlo x1 x2 x3 x4 x5 hx1 hx2 hx3 hx4 hx5 F hlk hr (fun a0_ a1_ => t_MO_feed_L20 x1 x2 x3 x4 x5 fu a0_ a1_) ih M v6_ hv6_ x1 hx1 _ _ _ hS (lv_sub hl [0, 1, 2, 3, 4, 5, 6] rfl) hT
set_option maxHeartbeats 4000000 in
set_option maxRecDepth 100000 in
theorem c_MO_feed (l : Launch) {b n : Nat} {C : CT} (hlo : 231 ≤ n) (M : Mem) (x1 : Int) (x2 : Int) (x3 : Int) (x4 : Int) (x5 : Int) (hx1 : InR x1) (hx2 : InR x2) (hx3 : InR x3) (hx4 : InR x4) (hx5 : InR x5) (res : Mem × Int) (hT : t_MO_feed M x1 x2 x3 x4 x5 = some res) : CM l b C n 0 y_MO_feed b_MO_feed 8 (some .int) [.ref (b + 191), vI x1, vI x2, vI x3, vI x4, vI x5] M (QI b C n res.1 res.2) := by
  refine CM.of (lo := 231) (ow := "WardFallsModel") (by decide) rfl (Nat.le_of_ble_eq_true rfl) hlo (fun p e s m below meth c F hlk hr hS ls hl => ?_)
  have hl : lv_has ls 8 [(0, .ref (b + 191)), (1, vI x1), (2, vI x2), (3, vI x3), (4, vI x4), (5, vI x5)] := hl
  unfold t_MO_feed at hT
  refine lv_aload_n F.hx F.hb d_MO_feed_0 rfl (lv_at hl 0 rfl) ?_
  refine r_iconst F.hx F.hb d_MO_feed_1 ?_
  refine r_putI (N := 68) (T := T1) (j := 0) F hS (show 191 < 231 by decide) (show shK 191 = 5 from rfl) (show shN 191 = 68 from rfl) rfl (Nat.le_of_ble_eq_true rfl) ing1 tyok1 nm1 rfl rfl rfl rfl rfl rfl mw_1389 (inr_c rfl) d_MO_feed_2 (fun H locs hS => ?_)
  obtain ⟨M1, eM1⟩ : ∃ q, q = (setI M 191 0 0) := ⟨_, rfl⟩
  replace hS : St b C n M1 s H locs := by rw [eM1]; exact hS
  replace hT := qlet_eq hT eM1
  refine lv_aload_n F.hx F.hb d_MO_feed_5 rfl (lv_at hl 0 rfl) ?_
  refine r_get (v := vI (M1.1 191 2)) (N := 68) (T := T1) (j := 2) F hS (show 191 < 231 by decide) (show shK 191 = 5 from rfl) (show shN 191 = 68 from rfl) rfl (Nat.le_of_ble_eq_true rfl) ing1 mw_1391 (fv_int rfl) d_MO_feed_6 ?_
  have i2 := hS.rng 191 2
  refine r_sipush F.hx F.hb d_MO_feed_9 rfl ?_
  refine r_icmp_le (tgt := 17) F.hx F.hb i2 (inr_c rfl) d_MO_feed_12 (by decide) (fun c3 => ?_) (fun c3 => ?_)
  · replace hT := (if_pos c3).symm.trans hT
    refine r_iconst F.hx F.hb d_MO_feed_17 ?_
    refine lv_istore (lv' := [(6, vI 0), (0, .ref (b + 191)), (1, vI x1), (2, vI x2), (3, vI x3), (4, vI x4), (5, vI x5)]) F.hx F.hb d_MO_feed_18 hl (Nat.le_of_ble_eq_true rfl) rfl (fun ls hl => ?_)
    exact k_MO_feed_L20 l hlo x1 x2 x3 x4 x5 hx1 hx2 hx3 hx4 hx5 F hlk hr FU M1 0 (inr_c rfl) _ _ _ hS (lv_sub hl [1, 2, 3, 4, 5, 6, 0] rfl) hT
  · replace hT := (if_neg c3).symm.trans hT
    refine r_iconst F.hx F.hb d_MO_feed_15 ?_
    cases hT
    exact r_iret F hlk hr rfl hS (inr_c rfl) d_MO_feed_16
theorem d_MO_here_0 : decode b_MO_here 0 = .ok (.aload_n 0, 1) := dc_42 (by decide +kernel)
theorem d_MO_here_1 : decode b_MO_here 1 = .ok (.getfield 151, 3) := dc_180 (by decide +kernel)
theorem d_MO_here_4 : decode b_MO_here 4 = .ok (.aload_n 0, 1) := dc_42 (by decide +kernel)
theorem d_MO_here_5 : decode b_MO_here 5 = .ok (.getfield 154, 3) := dc_180 (by decide +kernel)
theorem d_MO_here_8 : decode b_MO_here 8 = .ok (.if_icmp .ge 15, 3) := dc_162 (by decide +kernel)
theorem d_MO_here_11 : decode b_MO_here 11 = .ok (.aload_n 0, 1) := dc_42 (by decide +kernel)
theorem d_MO_here_12 : decode b_MO_here 12 = .ok (.getfield 7, 3) := dc_180 (by decide +kernel)
theorem d_MO_here_15 : decode b_MO_here 15 = .ok (.aload_n 0, 1) := dc_42 (by decide +kernel)
theorem d_MO_here_16 : decode b_MO_here 16 = .ok (.getfield 151, 3) := dc_180 (by decide +kernel)
theorem d_MO_here_19 : decode b_MO_here 19 = .ok (.iaload, 1) := dc_46 (by decide +kernel)
theorem d_MO_here_20 : decode b_MO_here 20 = .ok (.goto 4, 3) := dc_167 (by decide +kernel)
theorem d_MO_here_23 : decode b_MO_here 23 = .ok (.iconst (-1), 1) := dc_2 (by decide +kernel)
theorem d_MO_here_24 : decode b_MO_here 24 = .ok (.ireturn, 1) := dc_172 (by decide +kernel)
def t_MO_here (M : Mem)  : Option (Int) := (if (M.1 191 19) ≤ (M.1 191 20) then (some (-1)) else (qguard (0 ≤ (M.1 191 20) ∧ (M.1 191 20) < 700) (some (M.1 192 (M.1 191 20)))))
set_option maxHeartbeats 4000000 in
set_option maxRecDepth 100000 in
theorem c_MO_here (l : Launch) {b n : Nat} {C : CT} (hlo : 231 ≤ n) (M : Mem)   (res : Int) (hT : t_MO_here M  = some res) : CM l b C n 0 y_MO_here b_MO_here 1 (some .int) [.ref (b + 191)] M (QI b C n M res) := by
  refine CM.of (lo := 231) (ow := "WardFallsModel") (by decide) rfl (Nat.le_of_ble_eq_true rfl) hlo (fun p e s m below meth c F hlk hr hS ls hl => ?_)
  have hl : lv_has ls 1 [(0, .ref (b + 191))] := hl
  unfold t_MO_here at hT
  refine lv_aload_n F.hx F.hb d_MO_here_0 rfl (lv_at hl 0 rfl) ?_
  refine r_get (v := vI (M.1 191 20)) (N := 68) (T := T1) (j := 20) F hS (show 191 < 231 by decide) (show shK 191 = 5 from rfl) (show shN 191 = 68 from rfl) rfl (Nat.le_of_ble_eq_true rfl) ing1 mw_1409 (fv_int rfl) d_MO_here_1 ?_
  have i1 := hS.rng 191 20
  refine lv_aload_n F.hx F.hb d_MO_here_4 rfl (lv_at hl 0 rfl) ?_
  refine r_get (v := vI (M.1 191 19)) (N := 68) (T := T1) (j := 19) F hS (show 191 < 231 by decide) (show shK 191 = 5 from rfl) (show shN 191 = 68 from rfl) rfl (Nat.le_of_ble_eq_true rfl) ing1 mw_1408 (fv_int rfl) d_MO_here_5 ?_
  have i2 := hS.rng 191 19
  refine r_icmp_ge (tgt := 23) F.hx F.hb i1 i2 d_MO_here_8 (by decide) (fun c3 => ?_) (fun c3 => ?_)
  · replace hT := (if_pos c3).symm.trans hT
    refine r_iconst F.hx F.hb d_MO_here_23 ?_
    cases hT
    exact r_iret F hlk hr rfl hS (inr_c rfl) d_MO_here_24
  · replace hT := (if_neg c3).symm.trans hT
    refine lv_aload_n F.hx F.hb d_MO_here_11 rfl (lv_at hl 0 rfl) ?_
    refine r_get (v := .ref (b + 192)) (N := 68) (T := T1) (j := 1) F hS (show 191 < 231 by decide) (show shK 191 = 5 from rfl) (show shN 191 = 68 from rfl) rfl (Nat.le_of_ble_eq_true rfl) ing1 mw_1390 (fv_sg rfl rfl rfl) d_MO_here_12 ?_
    refine lv_aload_n F.hx F.hb d_MO_here_15 rfl (lv_at hl 0 rfl) ?_
    refine r_get (v := vI (M.1 191 20)) (N := 68) (T := T1) (j := 20) F hS (show 191 < 231 by decide) (show shK 191 = 5 from rfl) (show shN 191 = 68 from rfl) rfl (Nat.le_of_ble_eq_true rfl) ing1 mw_1409 (fv_int rfl) d_MO_here_16 ?_
    have i4 := hS.rng 191 20
    obtain ⟨⟨g5a, g5b⟩, hT⟩ := q_guard hT
    refine r_iald F hS (show 192 < 231 by decide) (show shK 192 = 0 from rfl) (show shN 192 = 700 from rfl) i4 g5a g5b d_MO_here_19 ?_
    have i6 := hS.rng 192 (M.1 191 20)
    refine lv_goto (tgt := 24) F.hx F.hb d_MO_here_20 (by decide) ?_
    cases hT
    exact r_iret F hlk hr rfl hS i6 d_MO_here_24
theorem d_MO_isSmall_0 : decode b_MO_isSmall 0 = .ok (.iload_n 0, 1) := dc_26 (by decide +kernel)
theorem d_MO_isSmall_1 : decode b_MO_isSmall 1 = .ok (.bipush 97, 2) := dc_16 (by decide +kernel)
theorem d_MO_isSmall_3 : decode b_MO_isSmall 3 = .ok (.if_icmp .lt 13, 3) := dc_161 (by decide +kernel)
theorem d_MO_isSmall_6 : decode b_MO_isSmall 6 = .ok (.iload_n 0, 1) := dc_26 (by decide +kernel)
theorem d_MO_isSmall_7 : decode b_MO_isSmall 7 = .ok (.bipush 122, 2) := dc_16 (by decide +kernel)
theorem d_MO_isSmall_9 : decode b_MO_isSmall 9 = .ok (.if_icmp .gt 7, 3) := dc_163 (by decide +kernel)
theorem d_MO_isSmall_12 : decode b_MO_isSmall 12 = .ok (.iconst 1, 1) := dc_4 (by decide +kernel)
theorem d_MO_isSmall_13 : decode b_MO_isSmall 13 = .ok (.goto 4, 3) := dc_167 (by decide +kernel)
theorem d_MO_isSmall_16 : decode b_MO_isSmall 16 = .ok (.iconst 0, 1) := dc_3 (by decide +kernel)
theorem d_MO_isSmall_17 : decode b_MO_isSmall 17 = .ok (.ireturn, 1) := dc_172 (by decide +kernel)
def t_MO_isSmall (M : Mem) (x1 : Int) : Int := (if x1 < 97 then 0 else (if 122 < x1 then 0 else 1))
set_option maxHeartbeats 4000000 in
set_option maxRecDepth 100000 in
theorem c_MO_isSmall (l : Launch) {b n : Nat} {C : CT} (hlo : 231 ≤ n) (M : Mem) (x1 : Int) (hx1 : InR x1) (res : Int) (hT : t_MO_isSmall M x1 = res) : CM l b C n 0 y_MO_isSmall b_MO_isSmall 1 (some .boolean) [vI x1] M (QZ b C n M res) := by
  refine CM.of (lo := 231) (ow := "WardFallsModel") (by decide) rfl (Nat.le_of_ble_eq_true rfl) hlo (fun p e s m below meth c F hlk hr hS ls hl => ?_)
  have hl : lv_has ls 1 [(0, vI x1)] := hl
  unfold t_MO_isSmall at hT
  refine lv_iload_n F.hx F.hb d_MO_isSmall_0 rfl (lv_at hl 0 rfl) ?_
  refine r_bipush F.hx F.hb d_MO_isSmall_1 rfl ?_
  refine r_icmp_lt (tgt := 16) F.hx F.hb hx1 (inr_c rfl) d_MO_isSmall_3 (by decide) (fun c1 => ?_) (fun c1 => ?_)
  · replace hT := (if_pos c1).symm.trans hT
    refine r_iconst F.hx F.hb d_MO_isSmall_16 ?_
    subst hT
    exact r_zret F hlk hr hS (Or.inl rfl) d_MO_isSmall_17
  · replace hT := (if_neg c1).symm.trans hT
    refine lv_iload_n F.hx F.hb d_MO_isSmall_6 rfl (lv_at hl 0 rfl) ?_
    refine r_bipush F.hx F.hb d_MO_isSmall_7 rfl ?_
    refine r_icmp_gt (tgt := 16) F.hx F.hb hx1 (inr_c rfl) d_MO_isSmall_9 (by decide) (fun c2 => ?_) (fun c2 => ?_)
    · replace hT := (if_pos c2).symm.trans hT
      refine r_iconst F.hx F.hb d_MO_isSmall_16 ?_
      subst hT
      exact r_zret F hlk hr hS (Or.inl rfl) d_MO_isSmall_17
    · replace hT := (if_neg c2).symm.trans hT
      refine r_iconst F.hx F.hb d_MO_isSmall_12 ?_
      refine lv_goto (tgt := 17) F.hx F.hb d_MO_isSmall_13 (by decide) ?_
      subst hT
      exact r_zret F hlk hr hS (Or.inr rfl) d_MO_isSmall_17
theorem d_MO_isDigit_0 : decode b_MO_isDigit 0 = .ok (.iload_n 0, 1) := dc_26 (by decide +kernel)
theorem d_MO_isDigit_1 : decode b_MO_isDigit 1 = .ok (.bipush 48, 2) := dc_16 (by decide +kernel)
theorem d_MO_isDigit_3 : decode b_MO_isDigit 3 = .ok (.if_icmp .lt 13, 3) := dc_161 (by decide +kernel)
theorem d_MO_isDigit_6 : decode b_MO_isDigit 6 = .ok (.iload_n 0, 1) := dc_26 (by decide +kernel)
theorem d_MO_isDigit_7 : decode b_MO_isDigit 7 = .ok (.bipush 57, 2) := dc_16 (by decide +kernel)
theorem d_MO_isDigit_9 : decode b_MO_isDigit 9 = .ok (.if_icmp .gt 7, 3) := dc_163 (by decide +kernel)
theorem d_MO_isDigit_12 : decode b_MO_isDigit 12 = .ok (.iconst 1, 1) := dc_4 (by decide +kernel)
theorem d_MO_isDigit_13 : decode b_MO_isDigit 13 = .ok (.goto 4, 3) := dc_167 (by decide +kernel)
theorem d_MO_isDigit_16 : decode b_MO_isDigit 16 = .ok (.iconst 0, 1) := dc_3 (by decide +kernel)
theorem d_MO_isDigit_17 : decode b_MO_isDigit 17 = .ok (.ireturn, 1) := dc_172 (by decide +kernel)
def t_MO_isDigit (M : Mem) (x1 : Int) : Int := (if x1 < 48 then 0 else (if 57 < x1 then 0 else 1))
set_option maxHeartbeats 4000000 in
set_option maxRecDepth 100000 in
theorem c_MO_isDigit (l : Launch) {b n : Nat} {C : CT} (hlo : 231 ≤ n) (M : Mem) (x1 : Int) (hx1 : InR x1) (res : Int) (hT : t_MO_isDigit M x1 = res) : CM l b C n 0 y_MO_isDigit b_MO_isDigit 1 (some .boolean) [vI x1] M (QZ b C n M res) := by
  refine CM.of (lo := 231) (ow := "WardFallsModel") (by decide) rfl (Nat.le_of_ble_eq_true rfl) hlo (fun p e s m below meth c F hlk hr hS ls hl => ?_)
  have hl : lv_has ls 1 [(0, vI x1)] := hl
  unfold t_MO_isDigit at hT
  refine lv_iload_n F.hx F.hb d_MO_isDigit_0 rfl (lv_at hl 0 rfl) ?_
  refine r_bipush F.hx F.hb d_MO_isDigit_1 rfl ?_
  refine r_icmp_lt (tgt := 16) F.hx F.hb hx1 (inr_c rfl) d_MO_isDigit_3 (by decide) (fun c1 => ?_) (fun c1 => ?_)
  · replace hT := (if_pos c1).symm.trans hT
    refine r_iconst F.hx F.hb d_MO_isDigit_16 ?_
    subst hT
    exact r_zret F hlk hr hS (Or.inl rfl) d_MO_isDigit_17
  · replace hT := (if_neg c1).symm.trans hT
    refine lv_iload_n F.hx F.hb d_MO_isDigit_6 rfl (lv_at hl 0 rfl) ?_
    refine r_bipush F.hx F.hb d_MO_isDigit_7 rfl ?_
    refine r_icmp_gt (tgt := 16) F.hx F.hb hx1 (inr_c rfl) d_MO_isDigit_9 (by decide) (fun c2 => ?_) (fun c2 => ?_)
    · replace hT := (if_pos c2).symm.trans hT
      refine r_iconst F.hx F.hb d_MO_isDigit_16 ?_
      subst hT
      exact r_zret F hlk hr hS (Or.inl rfl) d_MO_isDigit_17
    · replace hT := (if_neg c2).symm.trans hT
      refine r_iconst F.hx F.hb d_MO_isDigit_12 ?_
      refine lv_goto (tgt := 17) F.hx F.hb d_MO_isDigit_13 (by decide) ?_
      subst hT
      exact r_zret F hlk hr hS (Or.inr rfl) d_MO_isDigit_17
theorem d_MO_word_0 : decode b_MO_word 0 = .ok (.iconst 0, 1) := dc_3 (by decide +kernel)
theorem d_MO_word_1 : decode b_MO_word 1 = .ok (.istore_n 1, 1) := dc_60 (by decide +kernel)
theorem d_MO_word_2 : decode b_MO_word 2 = .ok (.iconst 0, 1) := dc_3 (by decide +kernel)
theorem d_MO_word_3 : decode b_MO_word 3 = .ok (.istore_n 2, 1) := dc_61 (by decide +kernel)
theorem d_MO_word_4 : decode b_MO_word 4 = .ok (.iload_n 2, 1) := dc_28 (by decide +kernel)
theorem d_MO_word_5 : decode b_MO_word 5 = .ok (.ldc 188, 2) := dc_18 (by decide +kernel)
theorem d_MO_word_7 : decode b_MO_word 7 = .ok (.invokevirtual 190, 3) := dc_182 (by decide +kernel)
theorem d_MO_word_10 : decode b_MO_word 10 = .ok (.if_icmp .ge 113, 3) := dc_162 (by decide +kernel)
theorem d_MO_word_13 : decode b_MO_word 13 = .ok (.iconst 0, 1) := dc_3 (by decide +kernel)
theorem d_MO_word_14 : decode b_MO_word 14 = .ok (.istore_n 3, 1) := dc_62 (by decide +kernel)
theorem d_MO_word_15 : decode b_MO_word 15 = .ok (.ldc 188, 2) := dc_18 (by decide +kernel)
theorem d_MO_word_17 : decode b_MO_word 17 = .ok (.iload_n 2, 1) := dc_28 (by decide +kernel)
theorem d_MO_word_18 : decode b_MO_word 18 = .ok (.iload_n 3, 1) := dc_29 (by decide +kernel)
theorem d_MO_word_19 : decode b_MO_word 19 = .ok (.iadd, 1) := dc_96 (by decide +kernel)
theorem d_MO_word_20 : decode b_MO_word 20 = .ok (.invokevirtual 195, 3) := dc_182 (by decide +kernel)
theorem d_MO_word_23 : decode b_MO_word 23 = .ok (.bipush 32, 2) := dc_16 (by decide +kernel)
theorem d_MO_word_25 : decode b_MO_word 25 = .ok (.if_icmp .eq 44, 3) := dc_159 (by decide +kernel)
theorem d_MO_word_28 : decode b_MO_word 28 = .ok (.aload_n 0, 1) := dc_42 (by decide +kernel)
theorem d_MO_word_29 : decode b_MO_word 29 = .ok (.getfield 161, 3) := dc_180 (by decide +kernel)
theorem d_MO_word_32 : decode b_MO_word 32 = .ok (.iload_n 3, 1) := dc_29 (by decide +kernel)
theorem d_MO_word_33 : decode b_MO_word 33 = .ok (.iadd, 1) := dc_96 (by decide +kernel)
theorem d_MO_word_34 : decode b_MO_word 34 = .ok (.aload_n 0, 1) := dc_42 (by decide +kernel)
theorem d_MO_word_35 : decode b_MO_word 35 = .ok (.getfield 151, 3) := dc_180 (by decide +kernel)
theorem d_MO_word_38 : decode b_MO_word 38 = .ok (.if_icmp .ge 31, 3) := dc_162 (by decide +kernel)
theorem d_MO_word_41 : decode b_MO_word 41 = .ok (.aload_n 0, 1) := dc_42 (by decide +kernel)
theorem d_MO_word_42 : decode b_MO_word 42 = .ok (.getfield 7, 3) := dc_180 (by decide +kernel)
theorem d_MO_word_45 : decode b_MO_word 45 = .ok (.aload_n 0, 1) := dc_42 (by decide +kernel)
theorem d_MO_word_46 : decode b_MO_word 46 = .ok (.getfield 161, 3) := dc_180 (by decide +kernel)
theorem d_MO_word_49 : decode b_MO_word 49 = .ok (.iload_n 3, 1) := dc_29 (by decide +kernel)
theorem d_MO_word_50 : decode b_MO_word 50 = .ok (.iadd, 1) := dc_96 (by decide +kernel)
theorem d_MO_word_51 : decode b_MO_word 51 = .ok (.iaload, 1) := dc_46 (by decide +kernel)
theorem d_MO_word_52 : decode b_MO_word 52 = .ok (.ldc 188, 2) := dc_18 (by decide +kernel)
theorem d_MO_word_54 : decode b_MO_word 54 = .ok (.iload_n 2, 1) := dc_28 (by decide +kernel)
theorem d_MO_word_55 : decode b_MO_word 55 = .ok (.iload_n 3, 1) := dc_29 (by decide +kernel)
theorem d_MO_word_56 : decode b_MO_word 56 = .ok (.iadd, 1) := dc_96 (by decide +kernel)
theorem d_MO_word_57 : decode b_MO_word 57 = .ok (.invokevirtual 195, 3) := dc_182 (by decide +kernel)
theorem d_MO_word_60 : decode b_MO_word 60 = .ok (.if_icmp .ne 9, 3) := dc_160 (by decide +kernel)
theorem d_MO_word_63 : decode b_MO_word 63 = .ok (.iinc 3 1, 3) := dc_132 (by decide +kernel)
theorem d_MO_word_66 : decode b_MO_word 66 = .ok (.goto (-51), 3) := dc_167 (by decide +kernel)
theorem d_MO_word_69 : decode b_MO_word 69 = .ok (.ldc 188, 2) := dc_18 (by decide +kernel)
theorem d_MO_word_71 : decode b_MO_word 71 = .ok (.iload_n 2, 1) := dc_28 (by decide +kernel)
theorem d_MO_word_72 : decode b_MO_word 72 = .ok (.iload_n 3, 1) := dc_29 (by decide +kernel)
theorem d_MO_word_73 : decode b_MO_word 73 = .ok (.iadd, 1) := dc_96 (by decide +kernel)
theorem d_MO_word_74 : decode b_MO_word 74 = .ok (.invokevirtual 195, 3) := dc_182 (by decide +kernel)
theorem d_MO_word_77 : decode b_MO_word 77 = .ok (.bipush 32, 2) := dc_16 (by decide +kernel)
theorem d_MO_word_79 : decode b_MO_word 79 = .ok (.if_icmp .ne 18, 3) := dc_160 (by decide +kernel)
theorem d_MO_word_82 : decode b_MO_word 82 = .ok (.aload_n 0, 1) := dc_42 (by decide +kernel)
theorem d_MO_word_83 : decode b_MO_word 83 = .ok (.getfield 161, 3) := dc_180 (by decide +kernel)
theorem d_MO_word_86 : decode b_MO_word 86 = .ok (.iload_n 3, 1) := dc_29 (by decide +kernel)
theorem d_MO_word_87 : decode b_MO_word 87 = .ok (.iadd, 1) := dc_96 (by decide +kernel)
theorem d_MO_word_88 : decode b_MO_word 88 = .ok (.aload_n 0, 1) := dc_42 (by decide +kernel)
theorem d_MO_word_89 : decode b_MO_word 89 = .ok (.getfield 151, 3) := dc_180 (by decide +kernel)
theorem d_MO_word_92 : decode b_MO_word 92 = .ok (.if_icmp .ne 5, 3) := dc_160 (by decide +kernel)
theorem d_MO_word_95 : decode b_MO_word 95 = .ok (.iload_n 1, 1) := dc_27 (by decide +kernel)
theorem d_MO_word_96 : decode b_MO_word 96 = .ok (.ireturn, 1) := dc_172 (by decide +kernel)
theorem d_MO_word_97 : decode b_MO_word 97 = .ok (.ldc 188, 2) := dc_18 (by decide +kernel)
theorem d_MO_word_99 : decode b_MO_word 99 = .ok (.iload_n 2, 1) := dc_28 (by decide +kernel)
theorem d_MO_word_100 : decode b_MO_word 100 = .ok (.invokevirtual 195, 3) := dc_182 (by decide +kernel)
theorem d_MO_word_103 : decode b_MO_word 103 = .ok (.bipush 32, 2) := dc_16 (by decide +kernel)
theorem d_MO_word_105 : decode b_MO_word 105 = .ok (.if_icmp .eq 9, 3) := dc_159 (by decide +kernel)
theorem d_MO_word_108 : decode b_MO_word 108 = .ok (.iinc 2 1, 3) := dc_132 (by decide +kernel)
theorem d_MO_word_111 : decode b_MO_word 111 = .ok (.goto (-14), 3) := dc_167 (by decide +kernel)
theorem d_MO_word_114 : decode b_MO_word 114 = .ok (.iinc 2 1, 3) := dc_132 (by decide +kernel)
theorem d_MO_word_117 : decode b_MO_word 117 = .ok (.iinc 1 1, 3) := dc_132 (by decide +kernel)
theorem d_MO_word_120 : decode b_MO_word 120 = .ok (.goto (-116), 3) := dc_167 (by decide +kernel)
theorem d_MO_word_123 : decode b_MO_word 123 = .ok (.iconst (-1), 1) := dc_2 (by decide +kernel)
theorem d_MO_word_124 : decode b_MO_word 124 = .ok (.ireturn, 1) := dc_172 (by decide +kernel)
def t_MO_word_L97  (bk4 : Mem → Int → Int → Option (Int)) : Nat → Mem → Int → Int → Option (Int)
  | 0, _, _, _ => none
  | fu + 1, M, v1_, v2_ => (qguard (0 ≤ v2_ ∧ v2_ < 126) (if (chW v2_) = 32 then (bk4 M (w32 (v1_ + 1)) (w32 (v2_ + 1))) else (t_MO_word_L97 bk4 fu M v1_ (w32 (v2_ + 1)))))
def t_MO_word_L69  (bk4 : Mem → Int → Int → Option (Int)) (M : Mem) (v1_ : Int) (v2_ : Int) (v3_ : Int) : Option (Int) := (qguard (0 ≤ (w32 (v2_ + v3_)) ∧ (w32 (v2_ + v3_)) < 126) (if (chW (w32 (v2_ + v3_))) = 32 then (if (w32 ((M.1 191 21) + v3_)) = (M.1 191 20) then (some v1_) else (t_MO_word_L97 bk4 FU M v1_ v2_)) else (t_MO_word_L97 bk4 FU M v1_ v2_)))
def t_MO_word_L15  (bk4 : Mem → Int → Int → Option (Int)) : Nat → Mem → Int → Int → Int → Option (Int)
  | 0, _, _, _, _ => none
  | fu + 1, M, v1_, v2_, v3_ => (qguard (0 ≤ (w32 (v2_ + v3_)) ∧ (w32 (v2_ + v3_)) < 126) (if (chW (w32 (v2_ + v3_))) = 32 then (t_MO_word_L69 bk4 M v1_ v2_ v3_) else (if (M.1 191 20) ≤ (w32 ((M.1 191 21) + v3_)) then (t_MO_word_L69 bk4 M v1_ v2_ v3_) else (qguard (0 ≤ (w32 ((M.1 191 21) + v3_)) ∧ (w32 ((M.1 191 21) + v3_)) < 700) (qguard (0 ≤ (w32 (v2_ + v3_)) ∧ (w32 (v2_ + v3_)) < 126) (if (M.1 192 (w32 ((M.1 191 21) + v3_))) = (chW (w32 (v2_ + v3_))) then (t_MO_word_L15 bk4 fu M v1_ v2_ (w32 (v3_ + 1))) else (t_MO_word_L69 bk4 M v1_ v2_ v3_)))))))
def t_MO_word_L4   : Nat → Mem → Int → Int → Option (Int)
  | 0, _, _, _ => none
  | fu + 1, M, v1_, v2_ => (if 126 ≤ v2_ then (some (-1)) else (t_MO_word_L15 (fun a0_ a1_ a2_ => t_MO_word_L4 fu a0_ a1_ a2_) FU M v1_ v2_ 0))
def t_MO_word (M : Mem)  : Option (Int) := (t_MO_word_L4 FU M 0 0)
set_option maxHeartbeats 4000000 in
set_option maxRecDepth 100000 in
theorem k_MO_word_L97 (l : Launch) {p : Program} {e : Env} {s : State} {m : MethodId} {below : List Frame} {meth : Method} {c : Code} {b n : Nat} {C : CT} (hlo : 231 ≤ n)   (F : Cx b p m c b_MO_word 4 s ([.ref (b + 191)] : List Value).toArray "WardFallsModel" C n 231) (hlk : meth.locks = false) (hr : meth.sig.returnType = some .int) {res : Int} (bk4 : Mem → Int → Int → Option (Int)) (hbk4 : ∀ (M : Mem) (v1_ : Int) (hv1_ : InR v1_) (v2_ : Int) (hv2_ : InR v2_) (H : Heap) (locs : List Loc) (ls : Array Slot), St b C n M s H locs → lv_has ls 4 [(0, .ref (b + 191)), (1, vI v1_), (2, vI v2_)] → bk4 M v1_ v2_ = some res → W p l e (headSpec (wsM y_MO_word b_MO_word 4 (some .int)) (rmD 4)).room s m ([.ref (b + 191)] : List Value).toArray below meth c H locs 0 0 (MQ below (QI b C n M res) ([.ref (b + 191)] : List Value).toArray s 0 0 (frb b)) (F0 m 4 ls [])) : ∀ (fu : Nat) (M : Mem) (v1_ : Int) (hv1_ : InR v1_) (v2_ : Int) (hv2_ : InR v2_) (H : Heap) (locs : List Loc) (ls : Array Slot), St b C n M s H locs → lv_has ls 4 [(0, .ref (b + 191)), (1, vI v1_), (2, vI v2_)] → t_MO_word_L97 bk4 fu M v1_ v2_ = some res → W p l e (headSpec (wsM y_MO_word b_MO_word 4 (some .int)) (rmD 4)).room s m ([.ref (b + 191)] : List Value).toArray below meth c H locs 0 0 (MQ below (QI b C n M res) ([.ref (b + 191)] : List Value).toArray s 0 0 (frb b)) (F0 m 97 ls []) := by
  intro fu
  induction fu with
  | zero => intro M v1_ hv1_ v2_ hv2_ H locs ls hS hl hT; exact absurd hT (by simp [t_MO_word_L97])
  | succ fu ih =>
    intro M v1_ hv1_ v2_ hv2_ H locs ls hS hl hT
    rw [t_MO_word_L97] at hT
    refine va_ldcS F.hx F.hb F.hown F.2.2.2.2.2.1.1 d_MO_word_97 ?_
    refine lv_iload_n F.hx F.hb d_MO_word_99 rfl (lv_at hl 2 rfl) ?_
    obtain ⟨⟨g21a, g21b⟩, hT⟩ := q_guard hT
    refine r_backI F hS (r_runVT (As := [vI v2_]) F hS (isStr2 (C := C)) rfl (c_Str_charAt l _ (isStr2 (C := C)) hv2_ g21a g21b) gs_MO_195 hd_Str_charAt ⟨Nat.le_of_ble_eq_true rfl, Nat.le_of_ble_eq_true rfl⟩ rfl hl.1 (Nat.le_of_ble_eq_true rfl) ⟨Nat.zero_le _, Nat.zero_le _⟩ rfl d_MO_word_100) (fun H locs hS h22 => ?_)
    refine r_bipush F.hx F.hb d_MO_word_103 rfl ?_
    refine r_icmp_eq (tgt := 114) F.hx F.hb h22 (inr_c rfl) d_MO_word_105 (by decide) (fun c23 => ?_) (fun c23 => ?_)
    · replace hT := (if_pos c23).symm.trans hT
      refine lv_iinc (v := Int32.ofInt (w32 (v2_ + 1))) (lv' := [(2, vI (w32 (v2_ + 1))), (0, .ref (b + 191)), (1, vI v1_)]) F.hx F.hb d_MO_word_114 hl (k := 2) rfl (q_of_add _ _) (Nat.le_of_ble_eq_true rfl) rfl (fun ls hl => ?_)
      refine lv_iinc (v := Int32.ofInt (w32 (v1_ + 1))) (lv' := [(1, vI (w32 (v1_ + 1))), (2, vI (w32 (v2_ + 1))), (0, .ref (b + 191))]) F.hx F.hb d_MO_word_117 hl (k := 2) rfl (q_of_add _ _) (Nat.le_of_ble_eq_true rfl) rfl (fun ls hl => ?_)
      refine lv_goto (tgt := 4) F.hx F.hb d_MO_word_120 (by decide) ?_
      exact hbk4 M (w32 (v1_ + 1)) (inr_w32 _) (w32 (v2_ + 1)) (inr_w32 _) _ _ _ hS (lv_sub hl [2, 0, 1] rfl) hT
    · replace hT := (if_neg c23).symm.trans hT
      refine lv_iinc (v := Int32.ofInt (w32 (v2_ + 1))) (lv' := [(2, vI (w32 (v2_ + 1))), (0, .ref (b + 191)), (1, vI v1_)]) F.hx F.hb d_MO_word_108 hl (k := 2) rfl (q_of_add _ _) (Nat.le_of_ble_eq_true rfl) rfl (fun ls hl => ?_)
      refine lv_goto (tgt := 97) F.hx F.hb d_MO_word_111 (by decide) ?_
      exact ih M v1_ hv1_ (w32 (v2_ + 1)) (inr_w32 _) _ _ _ hS (lv_sub hl [1, 2, 0] rfl) hT
set_option maxHeartbeats 4000000 in
set_option maxRecDepth 100000 in
theorem k_MO_word_L69 (l : Launch) {p : Program} {e : Env} {s : State} {m : MethodId} {below : List Frame} {meth : Method} {c : Code} {b n : Nat} {C : CT} (hlo : 231 ≤ n)   (F : Cx b p m c b_MO_word 4 s ([.ref (b + 191)] : List Value).toArray "WardFallsModel" C n 231) (hlk : meth.locks = false) (hr : meth.sig.returnType = some .int) {res : Int} (bk4 : Mem → Int → Int → Option (Int)) (hbk4 : ∀ (M : Mem) (v1_ : Int) (hv1_ : InR v1_) (v2_ : Int) (hv2_ : InR v2_) (H : Heap) (locs : List Loc) (ls : Array Slot), St b C n M s H locs → lv_has ls 4 [(0, .ref (b + 191)), (1, vI v1_), (2, vI v2_)] → bk4 M v1_ v2_ = some res → W p l e (headSpec (wsM y_MO_word b_MO_word 4 (some .int)) (rmD 4)).room s m ([.ref (b + 191)] : List Value).toArray below meth c H locs 0 0 (MQ below (QI b C n M res) ([.ref (b + 191)] : List Value).toArray s 0 0 (frb b)) (F0 m 4 ls [])) (M : Mem) (v1_ : Int) (hv1_ : InR v1_) (v2_ : Int) (hv2_ : InR v2_) (v3_ : Int) (hv3_ : InR v3_) (H : Heap) (locs : List Loc) (ls : Array Slot) (hS : St b C n M s H locs) (hl : lv_has ls 4 [(0, .ref (b + 191)), (1, vI v1_), (2, vI v2_), (3, vI v3_)]) (hT : t_MO_word_L69 bk4 M v1_ v2_ v3_ = some res) : W p l e (headSpec (wsM y_MO_word b_MO_word 4 (some .int)) (rmD 4)).room s m ([.ref (b + 191)] : List Value).toArray below meth c H locs 0 0 (MQ below (QI b C n M res) ([.ref (b + 191)] : List Value).toArray s 0 0 (frb b)) (F0 m 69 ls []) := by
  unfold t_MO_word_L69 at hT
  refine va_ldcS F.hx F.hb F.hown F.2.2.2.2.2.1.1 d_MO_word_69 ?_
  refine lv_iload_n F.hx F.hb d_MO_word_71 rfl (lv_at hl 2 rfl) ?_
  refine lv_iload_n F.hx F.hb d_MO_word_72 rfl (lv_at hl 3 rfl) ?_
  refine r_iadd F.hx F.hb d_MO_word_73 ?_
  obtain ⟨⟨g15a, g15b⟩, hT⟩ := q_guard hT
  refine r_backI F hS (r_runVT (As := [vI (w32 (v2_ + v3_))]) F hS (isStr2 (C := C)) rfl (c_Str_charAt l _ (isStr2 (C := C)) (inr_w32 _) g15a g15b) gs_MO_195 hd_Str_charAt ⟨Nat.le_of_ble_eq_true rfl, Nat.le_of_ble_eq_true rfl⟩ rfl hl.1 (Nat.le_of_ble_eq_true rfl) ⟨Nat.zero_le _, Nat.zero_le _⟩ rfl d_MO_word_74) (fun H locs hS h16 => ?_)
  refine r_bipush F.hx F.hb d_MO_word_77 rfl ?_
  refine r_icmp_ne (tgt := 97) F.hx F.hb h16 (inr_c rfl) d_MO_word_79 (by decide) (fun c17 => ?_) (fun c17 => ?_)
  · replace hT := (if_neg c17).symm.trans hT
    exact k_MO_word_L97 l hlo F hlk hr bk4 hbk4 FU M v1_ hv1_ v2_ hv2_ _ _ _ hS (lv_sub hl [0, 1, 2] rfl) hT
  · replace hT := (if_pos c17).symm.trans hT
    refine lv_aload_n F.hx F.hb d_MO_word_82 rfl (lv_at hl 0 rfl) ?_
    refine r_get (v := vI (M.1 191 21)) (N := 68) (T := T1) (j := 21) F hS (show 191 < 231 by decide) (show shK 191 = 5 from rfl) (show shN 191 = 68 from rfl) rfl (Nat.le_of_ble_eq_true rfl) ing1 mw_1410 (fv_int rfl) d_MO_word_83 ?_
    have i18 := hS.rng 191 21
    refine lv_iload_n F.hx F.hb d_MO_word_86 rfl (lv_at hl 3 rfl) ?_
    refine r_iadd F.hx F.hb d_MO_word_87 ?_
    refine lv_aload_n F.hx F.hb d_MO_word_88 rfl (lv_at hl 0 rfl) ?_
    refine r_get (v := vI (M.1 191 20)) (N := 68) (T := T1) (j := 20) F hS (show 191 < 231 by decide) (show shK 191 = 5 from rfl) (show shN 191 = 68 from rfl) rfl (Nat.le_of_ble_eq_true rfl) ing1 mw_1409 (fv_int rfl) d_MO_word_89 ?_
    have i19 := hS.rng 191 20
    refine r_icmp_ne (tgt := 97) F.hx F.hb (inr_w32 _) i19 d_MO_word_92 (by decide) (fun c20 => ?_) (fun c20 => ?_)
    · replace hT := (if_neg c20).symm.trans hT
      exact k_MO_word_L97 l hlo F hlk hr bk4 hbk4 FU M v1_ hv1_ v2_ hv2_ _ _ _ hS (lv_sub hl [0, 1, 2] rfl) hT
    · replace hT := (if_pos c20).symm.trans hT
      refine lv_iload_n F.hx F.hb d_MO_word_95 rfl (lv_at hl 1 rfl) ?_
      cases hT
      exact r_iret F hlk hr rfl hS hv1_ d_MO_word_96
set_option maxHeartbeats 4000000 in
set_option maxRecDepth 100000 in
theorem k_MO_word_L15 (l : Launch) {p : Program} {e : Env} {s : State} {m : MethodId} {below : List Frame} {meth : Method} {c : Code} {b n : Nat} {C : CT} (hlo : 231 ≤ n)   (F : Cx b p m c b_MO_word 4 s ([.ref (b + 191)] : List Value).toArray "WardFallsModel" C n 231) (hlk : meth.locks = false) (hr : meth.sig.returnType = some .int) {res : Int} (bk4 : Mem → Int → Int → Option (Int)) (hbk4 : ∀ (M : Mem) (v1_ : Int) (hv1_ : InR v1_) (v2_ : Int) (hv2_ : InR v2_) (H : Heap) (locs : List Loc) (ls : Array Slot), St b C n M s H locs → lv_has ls 4 [(0, .ref (b + 191)), (1, vI v1_), (2, vI v2_)] → bk4 M v1_ v2_ = some res → W p l e (headSpec (wsM y_MO_word b_MO_word 4 (some .int)) (rmD 4)).room s m ([.ref (b + 191)] : List Value).toArray below meth c H locs 0 0 (MQ below (QI b C n M res) ([.ref (b + 191)] : List Value).toArray s 0 0 (frb b)) (F0 m 4 ls [])) : ∀ (fu : Nat) (M : Mem) (v1_ : Int) (hv1_ : InR v1_) (v2_ : Int) (hv2_ : InR v2_) (v3_ : Int) (hv3_ : InR v3_) (H : Heap) (locs : List Loc) (ls : Array Slot), St b C n M s H locs → lv_has ls 4 [(0, .ref (b + 191)), (1, vI v1_), (2, vI v2_), (3, vI v3_)] → t_MO_word_L15 bk4 fu M v1_ v2_ v3_ = some res → W p l e (headSpec (wsM y_MO_word b_MO_word 4 (some .int)) (rmD 4)).room s m ([.ref (b + 191)] : List Value).toArray below meth c H locs 0 0 (MQ below (QI b C n M res) ([.ref (b + 191)] : List Value).toArray s 0 0 (frb b)) (F0 m 15 ls []) := by
  intro fu
  induction fu with
  | zero => intro M v1_ hv1_ v2_ hv2_ v3_ hv3_ H locs ls hS hl hT; exact absurd hT (by simp [t_MO_word_L15])
  | succ fu ih =>
    intro M v1_ hv1_ v2_ hv2_ v3_ hv3_ H locs ls hS hl hT
    rw [t_MO_word_L15] at hT
    refine va_ldcS F.hx F.hb F.hown F.2.2.2.2.2.1.1 d_MO_word_15 ?_
    refine lv_iload_n F.hx F.hb d_MO_word_17 rfl (lv_at hl 2 rfl) ?_
    refine lv_iload_n F.hx F.hb d_MO_word_18 rfl (lv_at hl 3 rfl) ?_
    refine r_iadd F.hx F.hb d_MO_word_19 ?_
    obtain ⟨⟨g3a, g3b⟩, hT⟩ := q_guard hT
    refine r_backI F hS (r_runVT (As := [vI (w32 (v2_ + v3_))]) F hS (isStr2 (C := C)) rfl (c_Str_charAt l _ (isStr2 (C := C)) (inr_w32 _) g3a g3b) gs_MO_195 hd_Str_charAt ⟨Nat.le_of_ble_eq_true rfl, Nat.le_of_ble_eq_true rfl⟩ rfl hl.1 (Nat.le_of_ble_eq_true rfl) ⟨Nat.zero_le _, Nat.zero_le _⟩ rfl d_MO_word_20) (fun H locs hS h4 => ?_)
    refine r_bipush F.hx F.hb d_MO_word_23 rfl ?_
    refine r_icmp_eq (tgt := 69) F.hx F.hb h4 (inr_c rfl) d_MO_word_25 (by decide) (fun c5 => ?_) (fun c5 => ?_)
    · replace hT := (if_pos c5).symm.trans hT
      exact k_MO_word_L69 l hlo F hlk hr bk4 hbk4 M v1_ hv1_ v2_ hv2_ v3_ hv3_ _ _ _ hS (lv_sub hl [0, 1, 2, 3] rfl) hT
    · replace hT := (if_neg c5).symm.trans hT
      refine lv_aload_n F.hx F.hb d_MO_word_28 rfl (lv_at hl 0 rfl) ?_
      refine r_get (v := vI (M.1 191 21)) (N := 68) (T := T1) (j := 21) F hS (show 191 < 231 by decide) (show shK 191 = 5 from rfl) (show shN 191 = 68 from rfl) rfl (Nat.le_of_ble_eq_true rfl) ing1 mw_1410 (fv_int rfl) d_MO_word_29 ?_
      have i6 := hS.rng 191 21
      refine lv_iload_n F.hx F.hb d_MO_word_32 rfl (lv_at hl 3 rfl) ?_
      refine r_iadd F.hx F.hb d_MO_word_33 ?_
      refine lv_aload_n F.hx F.hb d_MO_word_34 rfl (lv_at hl 0 rfl) ?_
      refine r_get (v := vI (M.1 191 20)) (N := 68) (T := T1) (j := 20) F hS (show 191 < 231 by decide) (show shK 191 = 5 from rfl) (show shN 191 = 68 from rfl) rfl (Nat.le_of_ble_eq_true rfl) ing1 mw_1409 (fv_int rfl) d_MO_word_35 ?_
      have i7 := hS.rng 191 20
      refine r_icmp_ge (tgt := 69) F.hx F.hb (inr_w32 _) i7 d_MO_word_38 (by decide) (fun c8 => ?_) (fun c8 => ?_)
      · replace hT := (if_pos c8).symm.trans hT
        exact k_MO_word_L69 l hlo F hlk hr bk4 hbk4 M v1_ hv1_ v2_ hv2_ v3_ hv3_ _ _ _ hS (lv_sub hl [0, 1, 2, 3] rfl) hT
      · replace hT := (if_neg c8).symm.trans hT
        refine lv_aload_n F.hx F.hb d_MO_word_41 rfl (lv_at hl 0 rfl) ?_
        refine r_get (v := .ref (b + 192)) (N := 68) (T := T1) (j := 1) F hS (show 191 < 231 by decide) (show shK 191 = 5 from rfl) (show shN 191 = 68 from rfl) rfl (Nat.le_of_ble_eq_true rfl) ing1 mw_1390 (fv_sg rfl rfl rfl) d_MO_word_42 ?_
        refine lv_aload_n F.hx F.hb d_MO_word_45 rfl (lv_at hl 0 rfl) ?_
        refine r_get (v := vI (M.1 191 21)) (N := 68) (T := T1) (j := 21) F hS (show 191 < 231 by decide) (show shK 191 = 5 from rfl) (show shN 191 = 68 from rfl) rfl (Nat.le_of_ble_eq_true rfl) ing1 mw_1410 (fv_int rfl) d_MO_word_46 ?_
        have i9 := hS.rng 191 21
        refine lv_iload_n F.hx F.hb d_MO_word_49 rfl (lv_at hl 3 rfl) ?_
        refine r_iadd F.hx F.hb d_MO_word_50 ?_
        obtain ⟨⟨g10a, g10b⟩, hT⟩ := q_guard hT
        refine r_iald F hS (show 192 < 231 by decide) (show shK 192 = 0 from rfl) (show shN 192 = 700 from rfl) (inr_w32 _) g10a g10b d_MO_word_51 ?_
        have i11 := hS.rng 192 (w32 ((M.1 191 21) + v3_))
        refine va_ldcS F.hx F.hb F.hown F.2.2.2.2.2.1.1 d_MO_word_52 ?_
        refine lv_iload_n F.hx F.hb d_MO_word_54 rfl (lv_at hl 2 rfl) ?_
        refine lv_iload_n F.hx F.hb d_MO_word_55 rfl (lv_at hl 3 rfl) ?_
        refine r_iadd F.hx F.hb d_MO_word_56 ?_
        obtain ⟨⟨g12a, g12b⟩, hT⟩ := q_guard hT
        refine r_backI F hS (r_runVT (As := [vI (w32 (v2_ + v3_))]) F hS (isStr2 (C := C)) rfl (c_Str_charAt l _ (isStr2 (C := C)) (inr_w32 _) g12a g12b) gs_MO_195 hd_Str_charAt ⟨Nat.le_of_ble_eq_true rfl, Nat.le_of_ble_eq_true rfl⟩ rfl hl.1 (Nat.le_of_ble_eq_true rfl) ⟨Nat.zero_le _, Nat.zero_le _⟩ rfl d_MO_word_57) (fun H locs hS h13 => ?_)
        refine r_icmp_ne (tgt := 69) F.hx F.hb i11 h13 d_MO_word_60 (by decide) (fun c14 => ?_) (fun c14 => ?_)
        · replace hT := (if_neg c14).symm.trans hT
          exact k_MO_word_L69 l hlo F hlk hr bk4 hbk4 M v1_ hv1_ v2_ hv2_ v3_ hv3_ _ _ _ hS (lv_sub hl [0, 1, 2, 3] rfl) hT
        · replace hT := (if_pos c14).symm.trans hT
          refine lv_iinc (v := Int32.ofInt (w32 (v3_ + 1))) (lv' := [(3, vI (w32 (v3_ + 1))), (0, .ref (b + 191)), (1, vI v1_), (2, vI v2_)]) F.hx F.hb d_MO_word_63 hl (k := 3) rfl (q_of_add _ _) (Nat.le_of_ble_eq_true rfl) rfl (fun ls hl => ?_)
          refine lv_goto (tgt := 15) F.hx F.hb d_MO_word_66 (by decide) ?_
          exact ih M v1_ hv1_ v2_ hv2_ (w32 (v3_ + 1)) (inr_w32 _) _ _ _ hS (lv_sub hl [1, 2, 3, 0] rfl) hT
set_option maxHeartbeats 4000000 in
set_option maxRecDepth 100000 in
theorem k_MO_word_L4 (l : Launch) {p : Program} {e : Env} {s : State} {m : MethodId} {below : List Frame} {meth : Method} {c : Code} {b n : Nat} {C : CT} (hlo : 231 ≤ n)   (F : Cx b p m c b_MO_word 4 s ([.ref (b + 191)] : List Value).toArray "WardFallsModel" C n 231) (hlk : meth.locks = false) (hr : meth.sig.returnType = some .int) {res : Int} : ∀ (fu : Nat) (M : Mem) (v1_ : Int) (hv1_ : InR v1_) (v2_ : Int) (hv2_ : InR v2_) (H : Heap) (locs : List Loc) (ls : Array Slot), St b C n M s H locs → lv_has ls 4 [(0, .ref (b + 191)), (1, vI v1_), (2, vI v2_)] → t_MO_word_L4 fu M v1_ v2_ = some res → W p l e (headSpec (wsM y_MO_word b_MO_word 4 (some .int)) (rmD 4)).room s m ([.ref (b + 191)] : List Value).toArray below meth c H locs 0 0 (MQ below (QI b C n M res) ([.ref (b + 191)] : List Value).toArray s 0 0 (frb b)) (F0 m 4 ls []) := by
  intro fu
  induction fu with
  | zero => intro M v1_ hv1_ v2_ hv2_ H locs ls hS hl hT; exact absurd hT (by simp [t_MO_word_L4])
  | succ fu ih =>
    intro M v1_ hv1_ v2_ hv2_ H locs ls hS hl hT
    rw [t_MO_word_L4] at hT
    refine lv_iload_n F.hx F.hb d_MO_word_4 rfl (lv_at hl 2 rfl) ?_
    refine va_ldcS F.hx F.hb F.hown F.2.2.2.2.2.1.1 d_MO_word_5 ?_
    refine r_backI F hS (r_runVT (As := []) F hS (isStr2 (C := C)) rfl (c_Str_length l _ (isStr2 (C := C))) gs_MO_190 hd_Str_length ⟨Nat.le_of_ble_eq_true rfl, Nat.le_of_ble_eq_true rfl⟩ rfl hl.1 (Nat.le_of_ble_eq_true rfl) ⟨Nat.zero_le _, Nat.zero_le _⟩ rfl d_MO_word_7) (fun H locs hS h1 => ?_)
    refine r_icmp_ge (tgt := 123) F.hx F.hb hv2_ h1 d_MO_word_10 (by decide) (fun c2 => ?_) (fun c2 => ?_)
    · replace hT := (if_pos c2).symm.trans hT
      refine r_iconst F.hx F.hb d_MO_word_123 ?_
      cases hT
      exact r_iret F hlk hr rfl hS (inr_c rfl) d_MO_word_124
    · replace hT := (if_neg c2).symm.trans hT
      refine r_iconst F.hx F.hb d_MO_word_13 ?_
      refine lv_istore_n (lv' := [(3, vI 0), (0, .ref (b + 191)), (1, vI v1_), (2, vI v2_)]) F.hx F.hb d_MO_word_14 rfl hl (Nat.le_of_ble_eq_true rfl) rfl (fun ls hl => ?_)
      exact k_MO_word_L15 l hlo F hlk hr (fun a0_ a1_ a2_ => t_MO_word_L4 fu a0_ a1_ a2_) ih FU M v1_ hv1_ v2_ hv2_ 0 (inr_c rfl) _ _ _ hS (lv_sub hl [1, 2, 3, 0] rfl) hT
set_option maxHeartbeats 4000000 in
set_option maxRecDepth 100000 in
theorem c_MO_word (l : Launch) {b n : Nat} {C : CT} (hlo : 231 ≤ n) (M : Mem)   (res : Int) (hT : t_MO_word M  = some res) : CM l b C n 4 y_MO_word b_MO_word 4 (some .int) [.ref (b + 191)] M (QI b C n M res) := by
  refine CM.of (lo := 231) (ow := "WardFallsModel") (by decide) rfl (Nat.le_of_ble_eq_true rfl) hlo (fun p e s m below meth c F hlk hr hS ls hl => ?_)
  have hl : lv_has ls 4 [(0, .ref (b + 191))] := hl
  unfold t_MO_word at hT
  refine r_iconst F.hx F.hb d_MO_word_0 ?_
  refine lv_istore_n (lv' := [(1, vI 0), (0, .ref (b + 191))]) F.hx F.hb d_MO_word_1 rfl hl (Nat.le_of_ble_eq_true rfl) rfl (fun ls hl => ?_)
  refine r_iconst F.hx F.hb d_MO_word_2 ?_
  refine lv_istore_n (lv' := [(2, vI 0), (1, vI 0), (0, .ref (b + 191))]) F.hx F.hb d_MO_word_3 rfl hl (Nat.le_of_ble_eq_true rfl) rfl (fun ls hl => ?_)
  exact k_MO_word_L4 l hlo F hlk hr FU M 0 (inr_c rfl) 0 (inr_c rfl) _ _ _ hS (lv_sub hl [2, 1, 0] rfl) hT
theorem d_MO_name_0 : decode b_MO_name 0 = .ok (.aload_n 0, 1) := dc_42 (by decide +kernel)
theorem d_MO_name_1 : decode b_MO_name 1 = .ok (.iconst 0, 1) := dc_3 (by decide +kernel)
theorem d_MO_name_2 : decode b_MO_name 2 = .ok (.putfield 174, 3) := dc_181 (by decide +kernel)
theorem d_MO_name_5 : decode b_MO_name 5 = .ok (.iconst 0, 1) := dc_3 (by decide +kernel)
theorem d_MO_name_6 : decode b_MO_name 6 = .ok (.istore_n 1, 1) := dc_60 (by decide +kernel)
theorem d_MO_name_7 : decode b_MO_name 7 = .ok (.iload_n 1, 1) := dc_27 (by decide +kernel)
theorem d_MO_name_8 : decode b_MO_name 8 = .ok (.bipush 6, 2) := dc_16 (by decide +kernel)
theorem d_MO_name_10 : decode b_MO_name 10 = .ok (.if_icmp .ge 53, 3) := dc_162 (by decide +kernel)
theorem d_MO_name_13 : decode b_MO_name 13 = .ok (.aload_n 0, 1) := dc_42 (by decide +kernel)
theorem d_MO_name_14 : decode b_MO_name 14 = .ok (.aload_n 0, 1) := dc_42 (by decide +kernel)
theorem d_MO_name_15 : decode b_MO_name 15 = .ok (.getfield 174, 3) := dc_180 (by decide +kernel)
theorem d_MO_name_18 : decode b_MO_name 18 = .ok (.iconst 5, 1) := dc_8 (by decide +kernel)
theorem d_MO_name_19 : decode b_MO_name 19 = .ok (.ishl, 1) := dc_120 (by decide +kernel)
theorem d_MO_name_20 : decode b_MO_name 20 = .ok (.aload_n 0, 1) := dc_42 (by decide +kernel)
theorem d_MO_name_21 : decode b_MO_name 21 = .ok (.getfield 161, 3) := dc_180 (by decide +kernel)
theorem d_MO_name_24 : decode b_MO_name 24 = .ok (.iload_n 1, 1) := dc_27 (by decide +kernel)
theorem d_MO_name_25 : decode b_MO_name 25 = .ok (.iadd, 1) := dc_96 (by decide +kernel)
theorem d_MO_name_26 : decode b_MO_name 26 = .ok (.aload_n 0, 1) := dc_42 (by decide +kernel)
theorem d_MO_name_27 : decode b_MO_name 27 = .ok (.getfield 151, 3) := dc_180 (by decide +kernel)
theorem d_MO_name_30 : decode b_MO_name 30 = .ok (.if_icmp .ge 22, 3) := dc_162 (by decide +kernel)
theorem d_MO_name_33 : decode b_MO_name 33 = .ok (.aload_n 0, 1) := dc_42 (by decide +kernel)
theorem d_MO_name_34 : decode b_MO_name 34 = .ok (.getfield 7, 3) := dc_180 (by decide +kernel)
theorem d_MO_name_37 : decode b_MO_name 37 = .ok (.aload_n 0, 1) := dc_42 (by decide +kernel)
theorem d_MO_name_38 : decode b_MO_name 38 = .ok (.getfield 161, 3) := dc_180 (by decide +kernel)
theorem d_MO_name_41 : decode b_MO_name 41 = .ok (.iload_n 1, 1) := dc_27 (by decide +kernel)
theorem d_MO_name_42 : decode b_MO_name 42 = .ok (.iadd, 1) := dc_96 (by decide +kernel)
theorem d_MO_name_43 : decode b_MO_name 43 = .ok (.iaload, 1) := dc_46 (by decide +kernel)
theorem d_MO_name_44 : decode b_MO_name 44 = .ok (.bipush 97, 2) := dc_16 (by decide +kernel)
theorem d_MO_name_46 : decode b_MO_name 46 = .ok (.isub, 1) := dc_100 (by decide +kernel)
theorem d_MO_name_47 : decode b_MO_name 47 = .ok (.iconst 1, 1) := dc_4 (by decide +kernel)
theorem d_MO_name_48 : decode b_MO_name 48 = .ok (.iadd, 1) := dc_96 (by decide +kernel)
theorem d_MO_name_49 : decode b_MO_name 49 = .ok (.goto 4, 3) := dc_167 (by decide +kernel)
theorem d_MO_name_52 : decode b_MO_name 52 = .ok (.iconst 0, 1) := dc_3 (by decide +kernel)
theorem d_MO_name_53 : decode b_MO_name 53 = .ok (.ior, 1) := dc_128 (by decide +kernel)
theorem d_MO_name_54 : decode b_MO_name 54 = .ok (.putfield 174, 3) := dc_181 (by decide +kernel)
theorem d_MO_name_57 : decode b_MO_name 57 = .ok (.iinc 1 1, 3) := dc_132 (by decide +kernel)
theorem d_MO_name_60 : decode b_MO_name 60 = .ok (.goto (-53), 3) := dc_167 (by decide +kernel)
theorem d_MO_name_63 : decode b_MO_name 63 = .ok (.return_, 1) := dc_177 (by decide +kernel)
def t_MO_name_L53  (bk7 : Mem → Int → Option (Mem)) (M : Mem) (v1_ : Int) (v3_ : Int) (v4_ : Int) : Option (Mem) := (qlet (setI M 191 23 (q_or v3_ v4_)) fun M10 => (bk7 M10 (w32 (v1_ + 1))))
def t_MO_name_L7   : Nat → Mem → Int → Option (Mem)
  | 0, _, _ => none
  | fu + 1, M, v1_ => (if 6 ≤ v1_ then (some M) else (if (M.1 191 20) ≤ (w32 ((M.1 191 21) + v1_)) then (t_MO_name_L53 (fun a0_ a1_ => t_MO_name_L7 fu a0_ a1_) M v1_ (q_shl (M.1 191 23) 5) 0) else (qguard (0 ≤ (w32 ((M.1 191 21) + v1_)) ∧ (w32 ((M.1 191 21) + v1_)) < 700) (t_MO_name_L53 (fun a0_ a1_ => t_MO_name_L7 fu a0_ a1_) M v1_ (q_shl (M.1 191 23) 5) (w32 ((w32 ((M.1 192 (w32 ((M.1 191 21) + v1_))) - 97)) + 1))))))
def t_MO_name (M : Mem)  : Option (Mem) := (qlet (setI M 191 23 0) fun M1 => (t_MO_name_L7 FU M1 0))
set_option maxHeartbeats 4000000 in
set_option maxRecDepth 100000 in
theorem k_MO_name_L53 (l : Launch) {p : Program} {e : Env} {s : State} {m : MethodId} {below : List Frame} {meth : Method} {c : Code} {b n : Nat} {C : CT} (hlo : 231 ≤ n)   (F : Cx b p m c b_MO_name 2 s ([.ref (b + 191)] : List Value).toArray "WardFallsModel" C n 231) (hlk : meth.locks = false) (hr : meth.sig.returnType = none) {res : Mem} (bk7 : Mem → Int → Option (Mem)) (hbk7 : ∀ (M : Mem) (v1_ : Int) (hv1_ : InR v1_) (H : Heap) (locs : List Loc) (ls : Array Slot), St b C n M s H locs → lv_has ls 2 [(0, .ref (b + 191)), (1, vI v1_)] → bk7 M v1_ = some res → W p l e (headSpec (wsM y_MO_name b_MO_name 2 (none)) (rmD 0)).room s m ([.ref (b + 191)] : List Value).toArray below meth c H locs 0 0 (MQ below (QV b C n res) ([.ref (b + 191)] : List Value).toArray s 0 0 (frb b)) (F0 m 7 ls [])) (M : Mem) (v1_ : Int) (hv1_ : InR v1_) (v3_ : Int) (hv3_ : InR v3_) (v4_ : Int) (hv4_ : InR v4_) (H : Heap) (locs : List Loc) (ls : Array Slot) (hS : St b C n M s H locs) (hl : lv_has ls 2 [(0, .ref (b + 191)), (1, vI v1_)]) (hT : t_MO_name_L53 bk7 M v1_ v3_ v4_ = some res) : W p l e (headSpec (wsM y_MO_name b_MO_name 2 (none)) (rmD 0)).room s m ([.ref (b + 191)] : List Value).toArray below meth c H locs 0 0 (MQ below (QV b C n res) ([.ref (b + 191)] : List Value).toArray s 0 0 (frb b)) (F0 m 53 ls [vI v4_, vI v3_, .ref (b + 191)]) := by
  unfold t_MO_name_L53 at hT
  refine r_ior F.hx F.hb d_MO_name_53 ?_
  refine r_putI (N := 68) (T := T1) (j := 23) F hS (show 191 < 231 by decide) (show shK 191 = 5 from rfl) (show shN 191 = 68 from rfl) rfl (Nat.le_of_ble_eq_true rfl) ing1 tyok1 nm1 rfl rfl rfl rfl rfl rfl mw_1412 (q_inr_toInt _) d_MO_name_54 (fun H locs hS => ?_)
  obtain ⟨M10, eM10⟩ : ∃ q, q = (setI M 191 23 (q_or v3_ v4_)) := ⟨_, rfl⟩
  replace hS : St b C n M10 s H locs := by rw [eM10]; exact hS
  replace hT := qlet_eq hT eM10
  refine lv_iinc (v := Int32.ofInt (w32 (v1_ + 1))) (lv' := [(1, vI (w32 (v1_ + 1))), (0, .ref (b + 191))]) F.hx F.hb d_MO_name_57 hl (k := 1) rfl (q_of_add _ _) (Nat.le_of_ble_eq_true rfl) rfl (fun ls hl => ?_)
  refine lv_goto (tgt := 7) F.hx F.hb d_MO_name_60 (by decide) ?_
  exact hbk7 M10 (w32 (v1_ + 1)) (inr_w32 _) _ _ _ hS (lv_sub hl [1, 0] rfl) hT
set_option maxHeartbeats 4000000 in
set_option maxRecDepth 100000 in
theorem k_MO_name_L7 (l : Launch) {p : Program} {e : Env} {s : State} {m : MethodId} {below : List Frame} {meth : Method} {c : Code} {b n : Nat} {C : CT} (hlo : 231 ≤ n)   (F : Cx b p m c b_MO_name 2 s ([.ref (b + 191)] : List Value).toArray "WardFallsModel" C n 231) (hlk : meth.locks = false) (hr : meth.sig.returnType = none) {res : Mem} : ∀ (fu : Nat) (M : Mem) (v1_ : Int) (hv1_ : InR v1_) (H : Heap) (locs : List Loc) (ls : Array Slot), St b C n M s H locs → lv_has ls 2 [(0, .ref (b + 191)), (1, vI v1_)] → t_MO_name_L7 fu M v1_ = some res → W p l e (headSpec (wsM y_MO_name b_MO_name 2 (none)) (rmD 0)).room s m ([.ref (b + 191)] : List Value).toArray below meth c H locs 0 0 (MQ below (QV b C n res) ([.ref (b + 191)] : List Value).toArray s 0 0 (frb b)) (F0 m 7 ls []) := by
  intro fu
  induction fu with
  | zero => intro M v1_ hv1_ H locs ls hS hl hT; exact absurd hT (by simp [t_MO_name_L7])
  | succ fu ih =>
    intro M v1_ hv1_ H locs ls hS hl hT
    rw [t_MO_name_L7] at hT
    refine lv_iload_n F.hx F.hb d_MO_name_7 rfl (lv_at hl 1 rfl) ?_
    refine r_bipush F.hx F.hb d_MO_name_8 rfl ?_
    refine r_icmp_ge (tgt := 63) F.hx F.hb hv1_ (inr_c rfl) d_MO_name_10 (by decide) (fun c2 => ?_) (fun c2 => ?_)
    · replace hT := (if_pos c2).symm.trans hT
      cases hT
      exact r_vret F hlk hr hS d_MO_name_63
    · replace hT := (if_neg c2).symm.trans hT
      refine lv_aload_n F.hx F.hb d_MO_name_13 rfl (lv_at hl 0 rfl) ?_
      refine lv_aload_n F.hx F.hb d_MO_name_14 rfl (lv_at hl 0 rfl) ?_
      refine r_get (v := vI (M.1 191 23)) (N := 68) (T := T1) (j := 23) F hS (show 191 < 231 by decide) (show shK 191 = 5 from rfl) (show shN 191 = 68 from rfl) rfl (Nat.le_of_ble_eq_true rfl) ing1 mw_1412 (fv_int rfl) d_MO_name_15 ?_
      have i3 := hS.rng 191 23
      refine r_iconst F.hx F.hb d_MO_name_18 ?_
      refine r_ishl F.hx F.hb d_MO_name_19 ?_
      refine lv_aload_n F.hx F.hb d_MO_name_20 rfl (lv_at hl 0 rfl) ?_
      refine r_get (v := vI (M.1 191 21)) (N := 68) (T := T1) (j := 21) F hS (show 191 < 231 by decide) (show shK 191 = 5 from rfl) (show shN 191 = 68 from rfl) rfl (Nat.le_of_ble_eq_true rfl) ing1 mw_1410 (fv_int rfl) d_MO_name_21 ?_
      have i4 := hS.rng 191 21
      refine lv_iload_n F.hx F.hb d_MO_name_24 rfl (lv_at hl 1 rfl) ?_
      refine r_iadd F.hx F.hb d_MO_name_25 ?_
      refine lv_aload_n F.hx F.hb d_MO_name_26 rfl (lv_at hl 0 rfl) ?_
      refine r_get (v := vI (M.1 191 20)) (N := 68) (T := T1) (j := 20) F hS (show 191 < 231 by decide) (show shK 191 = 5 from rfl) (show shN 191 = 68 from rfl) rfl (Nat.le_of_ble_eq_true rfl) ing1 mw_1409 (fv_int rfl) d_MO_name_27 ?_
      have i5 := hS.rng 191 20
      refine r_icmp_ge (tgt := 52) F.hx F.hb (inr_w32 _) i5 d_MO_name_30 (by decide) (fun c6 => ?_) (fun c6 => ?_)
      · replace hT := (if_pos c6).symm.trans hT
        refine r_iconst F.hx F.hb d_MO_name_52 ?_
        exact k_MO_name_L53 l hlo F hlk hr (fun a0_ a1_ => t_MO_name_L7 fu a0_ a1_) ih M v1_ hv1_ (q_shl (M.1 191 23) 5) (q_inr_toInt _) 0 (inr_c rfl) _ _ _ hS (lv_sub hl [0, 1] rfl) hT
      · replace hT := (if_neg c6).symm.trans hT
        refine lv_aload_n F.hx F.hb d_MO_name_33 rfl (lv_at hl 0 rfl) ?_
        refine r_get (v := .ref (b + 192)) (N := 68) (T := T1) (j := 1) F hS (show 191 < 231 by decide) (show shK 191 = 5 from rfl) (show shN 191 = 68 from rfl) rfl (Nat.le_of_ble_eq_true rfl) ing1 mw_1390 (fv_sg rfl rfl rfl) d_MO_name_34 ?_
        refine lv_aload_n F.hx F.hb d_MO_name_37 rfl (lv_at hl 0 rfl) ?_
        refine r_get (v := vI (M.1 191 21)) (N := 68) (T := T1) (j := 21) F hS (show 191 < 231 by decide) (show shK 191 = 5 from rfl) (show shN 191 = 68 from rfl) rfl (Nat.le_of_ble_eq_true rfl) ing1 mw_1410 (fv_int rfl) d_MO_name_38 ?_
        have i7 := hS.rng 191 21
        refine lv_iload_n F.hx F.hb d_MO_name_41 rfl (lv_at hl 1 rfl) ?_
        refine r_iadd F.hx F.hb d_MO_name_42 ?_
        obtain ⟨⟨g8a, g8b⟩, hT⟩ := q_guard hT
        refine r_iald F hS (show 192 < 231 by decide) (show shK 192 = 0 from rfl) (show shN 192 = 700 from rfl) (inr_w32 _) g8a g8b d_MO_name_43 ?_
        have i9 := hS.rng 192 (w32 ((M.1 191 21) + v1_))
        refine r_bipush F.hx F.hb d_MO_name_44 rfl ?_
        refine r_isub F.hx F.hb d_MO_name_46 ?_
        refine r_iconst F.hx F.hb d_MO_name_47 ?_
        refine r_iadd F.hx F.hb d_MO_name_48 ?_
        refine lv_goto (tgt := 53) F.hx F.hb d_MO_name_49 (by decide) ?_
        exact k_MO_name_L53 l hlo F hlk hr (fun a0_ a1_ => t_MO_name_L7 fu a0_ a1_) ih M v1_ hv1_ (q_shl (M.1 191 23) 5) (q_inr_toInt _) (w32 ((w32 ((M.1 192 (w32 ((M.1 191 21) + v1_))) - 97)) + 1)) (inr_w32 _) _ _ _ hS (lv_sub hl [0, 1] rfl) hT
set_option maxHeartbeats 4000000 in
set_option maxRecDepth 100000 in
theorem c_MO_name (l : Launch) {b n : Nat} {C : CT} (hlo : 231 ≤ n) (M : Mem)   (res : Mem) (hT : t_MO_name M  = some res) : CM l b C n 0 y_MO_name b_MO_name 2 (none) [.ref (b + 191)] M (QV b C n res) := by
  refine CM.of (lo := 231) (ow := "WardFallsModel") (by decide) rfl (Nat.le_of_ble_eq_true rfl) hlo (fun p e s m below meth c F hlk hr hS ls hl => ?_)
  have hl : lv_has ls 2 [(0, .ref (b + 191))] := hl
  unfold t_MO_name at hT
  refine lv_aload_n F.hx F.hb d_MO_name_0 rfl (lv_at hl 0 rfl) ?_
  refine r_iconst F.hx F.hb d_MO_name_1 ?_
  refine r_putI (N := 68) (T := T1) (j := 23) F hS (show 191 < 231 by decide) (show shK 191 = 5 from rfl) (show shN 191 = 68 from rfl) rfl (Nat.le_of_ble_eq_true rfl) ing1 tyok1 nm1 rfl rfl rfl rfl rfl rfl mw_1412 (inr_c rfl) d_MO_name_2 (fun H locs hS => ?_)
  obtain ⟨M1, eM1⟩ : ∃ q, q = (setI M 191 23 0) := ⟨_, rfl⟩
  replace hS : St b C n M1 s H locs := by rw [eM1]; exact hS
  replace hT := qlet_eq hT eM1
  refine r_iconst F.hx F.hb d_MO_name_5 ?_
  refine lv_istore_n (lv' := [(1, vI 0), (0, .ref (b + 191))]) F.hx F.hb d_MO_name_6 rfl hl (Nat.le_of_ble_eq_true rfl) rfl (fun ls hl => ?_)
  exact k_MO_name_L7 l hlo F hlk hr FU M1 0 (inr_c rfl) _ _ _ hS (lv_sub hl [1, 0] rfl) hT
theorem wn_MO_sign_0 : ∀ i, i < 96 → bA b_MO_sign (0 + i) = wB [42, 89, 180, 0, 151, 4, 96, 181, 0, 151, 42, 27, 16, 59, 159, 0, 57, 27, 16, 40, 159, 0, 51, 27, 16, 41, 159, 0, 45, 27, 16, 43, 159, 0, 39, 27, 16, 45, 159, 0, 33, 27, 16, 42, 159, 0, 27, 27, 16, 47, 159, 0, 21, 27, 16, 60, 159, 0, 15, 27, 16, 61, 159, 0, 9, 27, 16, 62, 160, 0, 7, 6, 167, 0, 4, 8, 181, 0, 164, 42, 27, 181, 0, 174, 27, 16, 60, 160, 0, 19, 42, 182, 0, 157, 16, 61] i := wB_of (by decide +kernel)
theorem d_MO_sign_0 : decode b_MO_sign 0 = .ok (.aload_n 0, 1) := dc_42 (q0_win (r := 0) wn_MO_sign_0 (by decide +kernel))
theorem d_MO_sign_1 : decode b_MO_sign 1 = .ok (.dup, 1) := dc_89 (q0_win (r := 1) wn_MO_sign_0 (by decide +kernel))
theorem d_MO_sign_2 : decode b_MO_sign 2 = .ok (.getfield 151, 3) := dc_180 (qU2_win (r := 2) wn_MO_sign_0 (by decide +kernel))
theorem d_MO_sign_5 : decode b_MO_sign 5 = .ok (.iconst 1, 1) := dc_4 (q0_win (r := 5) wn_MO_sign_0 (by decide +kernel))
theorem d_MO_sign_6 : decode b_MO_sign 6 = .ok (.iadd, 1) := dc_96 (q0_win (r := 6) wn_MO_sign_0 (by decide +kernel))
theorem d_MO_sign_7 : decode b_MO_sign 7 = .ok (.putfield 151, 3) := dc_181 (qU2_win (r := 7) wn_MO_sign_0 (by decide +kernel))
theorem d_MO_sign_10 : decode b_MO_sign 10 = .ok (.aload_n 0, 1) := dc_42 (q0_win (r := 10) wn_MO_sign_0 (by decide +kernel))
theorem d_MO_sign_11 : decode b_MO_sign 11 = .ok (.iload_n 1, 1) := dc_27 (q0_win (r := 11) wn_MO_sign_0 (by decide +kernel))
theorem d_MO_sign_12 : decode b_MO_sign 12 = .ok (.bipush 59, 2) := dc_16 (qS1_win (r := 12) wn_MO_sign_0 (by decide +kernel))
theorem d_MO_sign_14 : decode b_MO_sign 14 = .ok (.if_icmp .eq 57, 3) := dc_159 (qS2_win (r := 14) wn_MO_sign_0 (by decide +kernel))
theorem d_MO_sign_17 : decode b_MO_sign 17 = .ok (.iload_n 1, 1) := dc_27 (q0_win (r := 17) wn_MO_sign_0 (by decide +kernel))
theorem d_MO_sign_18 : decode b_MO_sign 18 = .ok (.bipush 40, 2) := dc_16 (qS1_win (r := 18) wn_MO_sign_0 (by decide +kernel))
theorem d_MO_sign_20 : decode b_MO_sign 20 = .ok (.if_icmp .eq 51, 3) := dc_159 (qS2_win (r := 20) wn_MO_sign_0 (by decide +kernel))
theorem d_MO_sign_23 : decode b_MO_sign 23 = .ok (.iload_n 1, 1) := dc_27 (q0_win (r := 23) wn_MO_sign_0 (by decide +kernel))
theorem d_MO_sign_24 : decode b_MO_sign 24 = .ok (.bipush 41, 2) := dc_16 (qS1_win (r := 24) wn_MO_sign_0 (by decide +kernel))
theorem d_MO_sign_26 : decode b_MO_sign 26 = .ok (.if_icmp .eq 45, 3) := dc_159 (qS2_win (r := 26) wn_MO_sign_0 (by decide +kernel))
theorem d_MO_sign_29 : decode b_MO_sign 29 = .ok (.iload_n 1, 1) := dc_27 (q0_win (r := 29) wn_MO_sign_0 (by decide +kernel))
theorem d_MO_sign_30 : decode b_MO_sign 30 = .ok (.bipush 43, 2) := dc_16 (qS1_win (r := 30) wn_MO_sign_0 (by decide +kernel))
theorem d_MO_sign_32 : decode b_MO_sign 32 = .ok (.if_icmp .eq 39, 3) := dc_159 (qS2_win (r := 32) wn_MO_sign_0 (by decide +kernel))
theorem d_MO_sign_35 : decode b_MO_sign 35 = .ok (.iload_n 1, 1) := dc_27 (q0_win (r := 35) wn_MO_sign_0 (by decide +kernel))
theorem d_MO_sign_36 : decode b_MO_sign 36 = .ok (.bipush 45, 2) := dc_16 (qS1_win (r := 36) wn_MO_sign_0 (by decide +kernel))
theorem d_MO_sign_38 : decode b_MO_sign 38 = .ok (.if_icmp .eq 33, 3) := dc_159 (qS2_win (r := 38) wn_MO_sign_0 (by decide +kernel))
theorem d_MO_sign_41 : decode b_MO_sign 41 = .ok (.iload_n 1, 1) := dc_27 (q0_win (r := 41) wn_MO_sign_0 (by decide +kernel))
theorem d_MO_sign_42 : decode b_MO_sign 42 = .ok (.bipush 42, 2) := dc_16 (qS1_win (r := 42) wn_MO_sign_0 (by decide +kernel))
theorem d_MO_sign_44 : decode b_MO_sign 44 = .ok (.if_icmp .eq 27, 3) := dc_159 (qS2_win (r := 44) wn_MO_sign_0 (by decide +kernel))
theorem d_MO_sign_47 : decode b_MO_sign 47 = .ok (.iload_n 1, 1) := dc_27 (q0_win (r := 47) wn_MO_sign_0 (by decide +kernel))
theorem d_MO_sign_48 : decode b_MO_sign 48 = .ok (.bipush 47, 2) := dc_16 (qS1_win (r := 48) wn_MO_sign_0 (by decide +kernel))
theorem d_MO_sign_50 : decode b_MO_sign 50 = .ok (.if_icmp .eq 21, 3) := dc_159 (qS2_win (r := 50) wn_MO_sign_0 (by decide +kernel))
theorem d_MO_sign_53 : decode b_MO_sign 53 = .ok (.iload_n 1, 1) := dc_27 (q0_win (r := 53) wn_MO_sign_0 (by decide +kernel))
theorem d_MO_sign_54 : decode b_MO_sign 54 = .ok (.bipush 60, 2) := dc_16 (qS1_win (r := 54) wn_MO_sign_0 (by decide +kernel))
theorem d_MO_sign_56 : decode b_MO_sign 56 = .ok (.if_icmp .eq 15, 3) := dc_159 (qS2_win (r := 56) wn_MO_sign_0 (by decide +kernel))
theorem d_MO_sign_59 : decode b_MO_sign 59 = .ok (.iload_n 1, 1) := dc_27 (q0_win (r := 59) wn_MO_sign_0 (by decide +kernel))
theorem d_MO_sign_60 : decode b_MO_sign 60 = .ok (.bipush 61, 2) := dc_16 (qS1_win (r := 60) wn_MO_sign_0 (by decide +kernel))
theorem d_MO_sign_62 : decode b_MO_sign 62 = .ok (.if_icmp .eq 9, 3) := dc_159 (qS2_win (r := 62) wn_MO_sign_0 (by decide +kernel))
theorem d_MO_sign_65 : decode b_MO_sign 65 = .ok (.iload_n 1, 1) := dc_27 (q0_win (r := 65) wn_MO_sign_0 (by decide +kernel))
theorem d_MO_sign_66 : decode b_MO_sign 66 = .ok (.bipush 62, 2) := dc_16 (qS1_win (r := 66) wn_MO_sign_0 (by decide +kernel))
theorem d_MO_sign_68 : decode b_MO_sign 68 = .ok (.if_icmp .ne 7, 3) := dc_160 (qS2_win (r := 68) wn_MO_sign_0 (by decide +kernel))
theorem d_MO_sign_71 : decode b_MO_sign 71 = .ok (.iconst 3, 1) := dc_6 (q0_win (r := 71) wn_MO_sign_0 (by decide +kernel))
theorem d_MO_sign_72 : decode b_MO_sign 72 = .ok (.goto 4, 3) := dc_167 (qS2_win (r := 72) wn_MO_sign_0 (by decide +kernel))
theorem d_MO_sign_75 : decode b_MO_sign 75 = .ok (.iconst 5, 1) := dc_8 (q0_win (r := 75) wn_MO_sign_0 (by decide +kernel))
theorem d_MO_sign_76 : decode b_MO_sign 76 = .ok (.putfield 164, 3) := dc_181 (qU2_win (r := 76) wn_MO_sign_0 (by decide +kernel))
theorem d_MO_sign_79 : decode b_MO_sign 79 = .ok (.aload_n 0, 1) := dc_42 (q0_win (r := 79) wn_MO_sign_0 (by decide +kernel))
theorem d_MO_sign_80 : decode b_MO_sign 80 = .ok (.iload_n 1, 1) := dc_27 (q0_win (r := 80) wn_MO_sign_0 (by decide +kernel))
theorem d_MO_sign_81 : decode b_MO_sign 81 = .ok (.putfield 174, 3) := dc_181 (qU2_win (r := 81) wn_MO_sign_0 (by decide +kernel))
theorem d_MO_sign_84 : decode b_MO_sign 84 = .ok (.iload_n 1, 1) := dc_27 (q0_win (r := 84) wn_MO_sign_0 (by decide +kernel))
theorem d_MO_sign_85 : decode b_MO_sign 85 = .ok (.bipush 60, 2) := dc_16 (qS1_win (r := 85) wn_MO_sign_0 (by decide +kernel))
theorem d_MO_sign_87 : decode b_MO_sign 87 = .ok (.if_icmp .ne 19, 3) := dc_160 (qS2_win (r := 87) wn_MO_sign_0 (by decide +kernel))
theorem d_MO_sign_90 : decode b_MO_sign 90 = .ok (.aload_n 0, 1) := dc_42 (q0_win (r := 90) wn_MO_sign_0 (by decide +kernel))
theorem d_MO_sign_91 : decode b_MO_sign 91 = .ok (.invokevirtual 157, 3) := dc_182 (qU2_win (r := 91) wn_MO_sign_0 (by decide +kernel))
theorem d_MO_sign_94 : decode b_MO_sign 94 = .ok (.bipush 61, 2) := dc_16 (qS1_win (r := 94) wn_MO_sign_0 (by decide +kernel))
theorem wn_MO_sign_96 : ∀ i, i < 75 → bA b_MO_sign (96 + i) = wB [160, 0, 10, 42, 17, 1, 0, 181, 0, 174, 27, 16, 60, 160, 0, 19, 42, 182, 0, 157, 16, 62, 160, 0, 10, 42, 17, 1, 1, 181, 0, 174, 27, 16, 62, 160, 0, 19, 42, 182, 0, 157, 16, 61, 160, 0, 10, 42, 17, 1, 2, 181, 0, 174, 42, 180, 0, 174, 17, 1, 0, 161, 0, 13, 42, 89, 180, 0, 151, 4, 96, 181, 0, 151, 177] i := wB_of (by decide +kernel)
theorem d_MO_sign_96 : decode b_MO_sign 96 = .ok (.if_icmp .ne 10, 3) := dc_160 (qS2_win (r := 0) wn_MO_sign_96 (by decide +kernel))
theorem d_MO_sign_99 : decode b_MO_sign 99 = .ok (.aload_n 0, 1) := dc_42 (q0_win (r := 3) wn_MO_sign_96 (by decide +kernel))
theorem d_MO_sign_100 : decode b_MO_sign 100 = .ok (.sipush 256, 3) := dc_17 (qS2_win (r := 4) wn_MO_sign_96 (by decide +kernel))
theorem d_MO_sign_103 : decode b_MO_sign 103 = .ok (.putfield 174, 3) := dc_181 (qU2_win (r := 7) wn_MO_sign_96 (by decide +kernel))
theorem d_MO_sign_106 : decode b_MO_sign 106 = .ok (.iload_n 1, 1) := dc_27 (q0_win (r := 10) wn_MO_sign_96 (by decide +kernel))
theorem d_MO_sign_107 : decode b_MO_sign 107 = .ok (.bipush 60, 2) := dc_16 (qS1_win (r := 11) wn_MO_sign_96 (by decide +kernel))
theorem d_MO_sign_109 : decode b_MO_sign 109 = .ok (.if_icmp .ne 19, 3) := dc_160 (qS2_win (r := 13) wn_MO_sign_96 (by decide +kernel))
theorem d_MO_sign_112 : decode b_MO_sign 112 = .ok (.aload_n 0, 1) := dc_42 (q0_win (r := 16) wn_MO_sign_96 (by decide +kernel))
theorem d_MO_sign_113 : decode b_MO_sign 113 = .ok (.invokevirtual 157, 3) := dc_182 (qU2_win (r := 17) wn_MO_sign_96 (by decide +kernel))
theorem d_MO_sign_116 : decode b_MO_sign 116 = .ok (.bipush 62, 2) := dc_16 (qS1_win (r := 20) wn_MO_sign_96 (by decide +kernel))
theorem d_MO_sign_118 : decode b_MO_sign 118 = .ok (.if_icmp .ne 10, 3) := dc_160 (qS2_win (r := 22) wn_MO_sign_96 (by decide +kernel))
theorem d_MO_sign_121 : decode b_MO_sign 121 = .ok (.aload_n 0, 1) := dc_42 (q0_win (r := 25) wn_MO_sign_96 (by decide +kernel))
theorem d_MO_sign_122 : decode b_MO_sign 122 = .ok (.sipush 257, 3) := dc_17 (qS2_win (r := 26) wn_MO_sign_96 (by decide +kernel))
theorem d_MO_sign_125 : decode b_MO_sign 125 = .ok (.putfield 174, 3) := dc_181 (qU2_win (r := 29) wn_MO_sign_96 (by decide +kernel))
theorem d_MO_sign_128 : decode b_MO_sign 128 = .ok (.iload_n 1, 1) := dc_27 (q0_win (r := 32) wn_MO_sign_96 (by decide +kernel))
theorem d_MO_sign_129 : decode b_MO_sign 129 = .ok (.bipush 62, 2) := dc_16 (qS1_win (r := 33) wn_MO_sign_96 (by decide +kernel))
theorem d_MO_sign_131 : decode b_MO_sign 131 = .ok (.if_icmp .ne 19, 3) := dc_160 (qS2_win (r := 35) wn_MO_sign_96 (by decide +kernel))
theorem d_MO_sign_134 : decode b_MO_sign 134 = .ok (.aload_n 0, 1) := dc_42 (q0_win (r := 38) wn_MO_sign_96 (by decide +kernel))
theorem d_MO_sign_135 : decode b_MO_sign 135 = .ok (.invokevirtual 157, 3) := dc_182 (qU2_win (r := 39) wn_MO_sign_96 (by decide +kernel))
theorem d_MO_sign_138 : decode b_MO_sign 138 = .ok (.bipush 61, 2) := dc_16 (qS1_win (r := 42) wn_MO_sign_96 (by decide +kernel))
theorem d_MO_sign_140 : decode b_MO_sign 140 = .ok (.if_icmp .ne 10, 3) := dc_160 (qS2_win (r := 44) wn_MO_sign_96 (by decide +kernel))
theorem d_MO_sign_143 : decode b_MO_sign 143 = .ok (.aload_n 0, 1) := dc_42 (q0_win (r := 47) wn_MO_sign_96 (by decide +kernel))
theorem d_MO_sign_144 : decode b_MO_sign 144 = .ok (.sipush 258, 3) := dc_17 (qS2_win (r := 48) wn_MO_sign_96 (by decide +kernel))
theorem d_MO_sign_147 : decode b_MO_sign 147 = .ok (.putfield 174, 3) := dc_181 (qU2_win (r := 51) wn_MO_sign_96 (by decide +kernel))
theorem d_MO_sign_150 : decode b_MO_sign 150 = .ok (.aload_n 0, 1) := dc_42 (q0_win (r := 54) wn_MO_sign_96 (by decide +kernel))
theorem d_MO_sign_151 : decode b_MO_sign 151 = .ok (.getfield 174, 3) := dc_180 (qU2_win (r := 55) wn_MO_sign_96 (by decide +kernel))
theorem d_MO_sign_154 : decode b_MO_sign 154 = .ok (.sipush 256, 3) := dc_17 (qS2_win (r := 58) wn_MO_sign_96 (by decide +kernel))
theorem d_MO_sign_157 : decode b_MO_sign 157 = .ok (.if_icmp .lt 13, 3) := dc_161 (qS2_win (r := 61) wn_MO_sign_96 (by decide +kernel))
theorem d_MO_sign_160 : decode b_MO_sign 160 = .ok (.aload_n 0, 1) := dc_42 (q0_win (r := 64) wn_MO_sign_96 (by decide +kernel))
theorem d_MO_sign_161 : decode b_MO_sign 161 = .ok (.dup, 1) := dc_89 (q0_win (r := 65) wn_MO_sign_96 (by decide +kernel))
theorem d_MO_sign_162 : decode b_MO_sign 162 = .ok (.getfield 151, 3) := dc_180 (qU2_win (r := 66) wn_MO_sign_96 (by decide +kernel))
theorem d_MO_sign_165 : decode b_MO_sign 165 = .ok (.iconst 1, 1) := dc_4 (q0_win (r := 69) wn_MO_sign_96 (by decide +kernel))
theorem d_MO_sign_166 : decode b_MO_sign 166 = .ok (.iadd, 1) := dc_96 (q0_win (r := 70) wn_MO_sign_96 (by decide +kernel))
theorem d_MO_sign_167 : decode b_MO_sign 167 = .ok (.putfield 151, 3) := dc_181 (qU2_win (r := 71) wn_MO_sign_96 (by decide +kernel))
theorem d_MO_sign_170 : decode b_MO_sign 170 = .ok (.return_, 1) := dc_177 (q0_win (r := 74) wn_MO_sign_96 (by decide +kernel))
def t_MO_sign_L150 (x1 : Int)  (M : Mem)  : Option (Mem) := (if (M.1 191 23) < 256 then (some M) else (qlet (setI M 191 20 (w32 ((M.1 191 20) + 1))) fun M33 => (some M33)))
def t_MO_sign_L128 (x1 : Int)  (M : Mem)  : Option (Mem) := (if x1 = 62 then (obind (t_MO_here M) fun q26 => (if q26 = 61 then (qlet (setI M 191 23 258) fun M29 => (t_MO_sign_L150 x1 M29)) else (t_MO_sign_L150 x1 M))) else (t_MO_sign_L150 x1 M))
def t_MO_sign_L106 (x1 : Int)  (M : Mem)  : Option (Mem) := (if x1 = 60 then (obind (t_MO_here M) fun q21 => (if q21 = 62 then (qlet (setI M 191 23 257) fun M24 => (t_MO_sign_L128 x1 M24)) else (t_MO_sign_L128 x1 M))) else (t_MO_sign_L128 x1 M))
def t_MO_sign_L76 (x1 : Int)  (M : Mem) (v3_ : Int) : Option (Mem) := (qlet (setI M 191 22 v3_) fun M13 => (qlet (setI M13 191 23 x1) fun M14 => (if x1 = 60 then (obind (t_MO_here M14) fun q16 => (if q16 = 61 then (qlet (setI M14 191 23 256) fun M19 => (t_MO_sign_L106 x1 M19)) else (t_MO_sign_L106 x1 M14))) else (t_MO_sign_L106 x1 M14))))
def t_MO_sign_L71 (x1 : Int)  (M : Mem)  : Option (Mem) := (t_MO_sign_L76 x1 M 3)
def t_MO_sign (M : Mem) (x1 : Int) : Option (Mem) := (qlet (setI M 191 20 (w32 ((M.1 191 20) + 1))) fun M2 => (if x1 = 59 then (t_MO_sign_L71 x1 M2) else (if x1 = 40 then (t_MO_sign_L71 x1 M2) else (if x1 = 41 then (t_MO_sign_L71 x1 M2) else (if x1 = 43 then (t_MO_sign_L71 x1 M2) else (if x1 = 45 then (t_MO_sign_L71 x1 M2) else (if x1 = 42 then (t_MO_sign_L71 x1 M2) else (if x1 = 47 then (t_MO_sign_L71 x1 M2) else (if x1 = 60 then (t_MO_sign_L71 x1 M2) else (if x1 = 61 then (t_MO_sign_L71 x1 M2) else (if x1 = 62 then (t_MO_sign_L71 x1 M2) else (t_MO_sign_L76 x1 M2 5))))))))))))
set_option maxHeartbeats 4000000 in
set_option maxRecDepth 100000 in
theorem k_MO_sign_L150 (l : Launch) {p : Program} {e : Env} {s : State} {m : MethodId} {below : List Frame} {meth : Method} {c : Code} {b n : Nat} {C : CT} (hlo : 231 ≤ n) (x1 : Int) (hx1 : InR x1) (F : Cx b p m c b_MO_sign 2 s ([.ref (b + 191), vI x1] : List Value).toArray "WardFallsModel" C n 231) (hlk : meth.locks = false) (hr : meth.sig.returnType = none) {res : Mem} (M : Mem)  (H : Heap) (locs : List Loc) (ls : Array Slot) (hS : St b C n M s H locs) (hl : lv_has ls 2 [(0, .ref (b + 191))]) (hT : t_MO_sign_L150 x1 M = some res) : W p l e (headSpec (wsM y_MO_sign b_MO_sign 2 (none)) (rmD 1)).room s m ([.ref (b + 191), vI x1] : List Value).toArray below meth c H locs 0 0 (MQ below (QV b C n res) ([.ref (b + 191), vI x1] : List Value).toArray s 0 0 (frb b)) (F0 m 150 ls []) := by
  unfold t_MO_sign_L150 at hT
  refine lv_aload_n F.hx F.hb d_MO_sign_150 rfl (lv_at hl 0 rfl) ?_
  refine r_get (v := vI (M.1 191 23)) (N := 68) (T := T1) (j := 23) F hS (show 191 < 231 by decide) (show shK 191 = 5 from rfl) (show shN 191 = 68 from rfl) rfl (Nat.le_of_ble_eq_true rfl) ing1 mw_1412 (fv_int rfl) d_MO_sign_151 ?_
  have i30 := hS.rng 191 23
  refine r_sipush F.hx F.hb d_MO_sign_154 rfl ?_
  refine r_icmp_lt (tgt := 170) F.hx F.hb i30 (inr_c rfl) d_MO_sign_157 (by decide) (fun c31 => ?_) (fun c31 => ?_)
  · replace hT := (if_pos c31).symm.trans hT
    cases hT
    exact r_vret F hlk hr hS d_MO_sign_170
  · replace hT := (if_neg c31).symm.trans hT
    refine lv_aload_n F.hx F.hb d_MO_sign_160 rfl (lv_at hl 0 rfl) ?_
    refine lv_dup F.hx F.hb d_MO_sign_161 rfl ?_
    refine r_get (v := vI (M.1 191 20)) (N := 68) (T := T1) (j := 20) F hS (show 191 < 231 by decide) (show shK 191 = 5 from rfl) (show shN 191 = 68 from rfl) rfl (Nat.le_of_ble_eq_true rfl) ing1 mw_1409 (fv_int rfl) d_MO_sign_162 ?_
    have i32 := hS.rng 191 20
    refine r_iconst F.hx F.hb d_MO_sign_165 ?_
    refine r_iadd F.hx F.hb d_MO_sign_166 ?_
    refine r_putI (N := 68) (T := T1) (j := 20) F hS (show 191 < 231 by decide) (show shK 191 = 5 from rfl) (show shN 191 = 68 from rfl) rfl (Nat.le_of_ble_eq_true rfl) ing1 tyok1 nm1 rfl rfl rfl rfl rfl rfl mw_1409 (inr_w32 _) d_MO_sign_167 (fun H locs hS => ?_)
    obtain ⟨M33, eM33⟩ : ∃ q, q = (setI M 191 20 (w32 ((M.1 191 20) + 1))) := ⟨_, rfl⟩
    replace hS : St b C n M33 s H locs := by rw [eM33]; exact hS
    replace hT := qlet_eq hT eM33
    cases hT
    exact r_vret F hlk hr hS d_MO_sign_170
set_option maxHeartbeats 4000000 in
set_option maxRecDepth 100000 in
theorem k_MO_sign_L128 (l : Launch) {p : Program} {e : Env} {s : State} {m : MethodId} {below : List Frame} {meth : Method} {c : Code} {b n : Nat} {C : CT} (hlo : 231 ≤ n) (x1 : Int) (hx1 : InR x1) (F : Cx b p m c b_MO_sign 2 s ([.ref (b + 191), vI x1] : List Value).toArray "WardFallsModel" C n 231) (hlk : meth.locks = false) (hr : meth.sig.returnType = none) {res : Mem} (M : Mem)  (H : Heap) (locs : List Loc) (ls : Array Slot) (hS : St b C n M s H locs) (hl : lv_has ls 2 [(0, .ref (b + 191)), (1, vI x1)]) (hT : t_MO_sign_L128 x1 M = some res) : W p l e (headSpec (wsM y_MO_sign b_MO_sign 2 (none)) (rmD 1)).room s m ([.ref (b + 191), vI x1] : List Value).toArray below meth c H locs 0 0 (MQ below (QV b C n res) ([.ref (b + 191), vI x1] : List Value).toArray s 0 0 (frb b)) (F0 m 128 ls []) := by
  unfold t_MO_sign_L128 at hT
  refine lv_iload_n F.hx F.hb d_MO_sign_128 rfl (lv_at hl 1 rfl) ?_
  refine r_bipush F.hx F.hb d_MO_sign_129 rfl ?_
  refine r_icmp_ne (tgt := 150) F.hx F.hb hx1 (inr_c rfl) d_MO_sign_131 (by decide) (fun c25 => ?_) (fun c25 => ?_)
  · replace hT := (if_neg c25).symm.trans hT
    exact k_MO_sign_L150 l hlo x1 hx1 F hlk hr M _ _ _ hS (lv_sub hl [0] rfl) hT
  · replace hT := (if_pos c25).symm.trans hT
    refine lv_aload_n F.hx F.hb d_MO_sign_134 rfl (lv_at hl 0 rfl) ?_
    obtain ⟨q26, hq26, hT⟩ := q_obind hT
    refine r_backI F hS (r_runV (k := 191) (N := 68) (T := T1) (As := []) F hS (show 191 < 231 by decide) (show shK 191 = 5 from rfl) rfl (c_MO_here l F.2.2.1 M _ hq26) gs_MO_157 hd_MO_here ⟨Nat.le_of_ble_eq_true rfl, Nat.le_of_ble_eq_true rfl⟩ rfl hl.1 (Nat.le_of_ble_eq_true rfl) ⟨Nat.zero_le _, Nat.zero_le _⟩ rfl d_MO_sign_135) (fun H locs hS h27 => ?_)
    refine r_bipush F.hx F.hb d_MO_sign_138 rfl ?_
    refine r_icmp_ne (tgt := 150) F.hx F.hb h27 (inr_c rfl) d_MO_sign_140 (by decide) (fun c28 => ?_) (fun c28 => ?_)
    · replace hT := (if_neg c28).symm.trans hT
      exact k_MO_sign_L150 l hlo x1 hx1 F hlk hr M _ _ _ hS (lv_sub hl [0] rfl) hT
    · replace hT := (if_pos c28).symm.trans hT
      refine lv_aload_n F.hx F.hb d_MO_sign_143 rfl (lv_at hl 0 rfl) ?_
      refine r_sipush F.hx F.hb d_MO_sign_144 rfl ?_
      refine r_putI (N := 68) (T := T1) (j := 23) F hS (show 191 < 231 by decide) (show shK 191 = 5 from rfl) (show shN 191 = 68 from rfl) rfl (Nat.le_of_ble_eq_true rfl) ing1 tyok1 nm1 rfl rfl rfl rfl rfl rfl mw_1412 (inr_c rfl) d_MO_sign_147 (fun H locs hS => ?_)
      obtain ⟨M29, eM29⟩ : ∃ q, q = (setI M 191 23 258) := ⟨_, rfl⟩
      replace hS : St b C n M29 s H locs := by rw [eM29]; exact hS
      replace hT := qlet_eq hT eM29
      exact k_MO_sign_L150 l hlo x1 hx1 F hlk hr M29 _ _ _ hS (lv_sub hl [0] rfl) hT
set_option maxHeartbeats 4000000 in
set_option maxRecDepth 100000 in
theorem k_MO_sign_L106 (l : Launch) {p : Program} {e : Env} {s : State} {m : MethodId} {below : List Frame} {meth : Method} {c : Code} {b n : Nat} {C : CT} (hlo : 231 ≤ n) (x1 : Int) (hx1 : InR x1) (F : Cx b p m c b_MO_sign 2 s ([.ref (b + 191), vI x1] : List Value).toArray "WardFallsModel" C n 231) (hlk : meth.locks = false) (hr : meth.sig.returnType = none) {res : Mem} (M : Mem)  (H : Heap) (locs : List Loc) (ls : Array Slot) (hS : St b C n M s H locs) (hl : lv_has ls 2 [(0, .ref (b + 191)), (1, vI x1)]) (hT : t_MO_sign_L106 x1 M = some res) : W p l e (headSpec (wsM y_MO_sign b_MO_sign 2 (none)) (rmD 1)).room s m ([.ref (b + 191), vI x1] : List Value).toArray below meth c H locs 0 0 (MQ below (QV b C n res) ([.ref (b + 191), vI x1] : List Value).toArray s 0 0 (frb b)) (F0 m 106 ls []) := by
  unfold t_MO_sign_L106 at hT
  refine lv_iload_n F.hx F.hb d_MO_sign_106 rfl (lv_at hl 1 rfl) ?_
  refine r_bipush F.hx F.hb d_MO_sign_107 rfl ?_
  refine r_icmp_ne (tgt := 128) F.hx F.hb hx1 (inr_c rfl) d_MO_sign_109 (by decide) (fun c20 => ?_) (fun c20 => ?_)
  · replace hT := (if_neg c20).symm.trans hT
    exact k_MO_sign_L128 l hlo x1 hx1 F hlk hr M _ _ _ hS (lv_sub hl [0, 1] rfl) hT
  · replace hT := (if_pos c20).symm.trans hT
    refine lv_aload_n F.hx F.hb d_MO_sign_112 rfl (lv_at hl 0 rfl) ?_
    obtain ⟨q21, hq21, hT⟩ := q_obind hT
    refine r_backI F hS (r_runV (k := 191) (N := 68) (T := T1) (As := []) F hS (show 191 < 231 by decide) (show shK 191 = 5 from rfl) rfl (c_MO_here l F.2.2.1 M _ hq21) gs_MO_157 hd_MO_here ⟨Nat.le_of_ble_eq_true rfl, Nat.le_of_ble_eq_true rfl⟩ rfl hl.1 (Nat.le_of_ble_eq_true rfl) ⟨Nat.zero_le _, Nat.zero_le _⟩ rfl d_MO_sign_113) (fun H locs hS h22 => ?_)
    refine r_bipush F.hx F.hb d_MO_sign_116 rfl ?_
    refine r_icmp_ne (tgt := 128) F.hx F.hb h22 (inr_c rfl) d_MO_sign_118 (by decide) (fun c23 => ?_) (fun c23 => ?_)
    · replace hT := (if_neg c23).symm.trans hT
      exact k_MO_sign_L128 l hlo x1 hx1 F hlk hr M _ _ _ hS (lv_sub hl [0, 1] rfl) hT
    · replace hT := (if_pos c23).symm.trans hT
      refine lv_aload_n F.hx F.hb d_MO_sign_121 rfl (lv_at hl 0 rfl) ?_
      refine r_sipush F.hx F.hb d_MO_sign_122 rfl ?_
      refine r_putI (N := 68) (T := T1) (j := 23) F hS (show 191 < 231 by decide) (show shK 191 = 5 from rfl) (show shN 191 = 68 from rfl) rfl (Nat.le_of_ble_eq_true rfl) ing1 tyok1 nm1 rfl rfl rfl rfl rfl rfl mw_1412 (inr_c rfl) d_MO_sign_125 (fun H locs hS => ?_)
      obtain ⟨M24, eM24⟩ : ∃ q, q = (setI M 191 23 257) := ⟨_, rfl⟩
      replace hS : St b C n M24 s H locs := by rw [eM24]; exact hS
      replace hT := qlet_eq hT eM24
      exact k_MO_sign_L128 l hlo x1 hx1 F hlk hr M24 _ _ _ hS (lv_sub hl [0, 1] rfl) hT
set_option maxHeartbeats 4000000 in
set_option maxRecDepth 100000 in
theorem k_MO_sign_L76 (l : Launch) {p : Program} {e : Env} {s : State} {m : MethodId} {below : List Frame} {meth : Method} {c : Code} {b n : Nat} {C : CT} (hlo : 231 ≤ n) (x1 : Int) (hx1 : InR x1) (F : Cx b p m c b_MO_sign 2 s ([.ref (b + 191), vI x1] : List Value).toArray "WardFallsModel" C n 231) (hlk : meth.locks = false) (hr : meth.sig.returnType = none) {res : Mem} (M : Mem) (v3_ : Int) (hv3_ : InR v3_) (H : Heap) (locs : List Loc) (ls : Array Slot) (hS : St b C n M s H locs) (hl : lv_has ls 2 [(0, .ref (b + 191)), (1, vI x1)]) (hT : t_MO_sign_L76 x1 M v3_ = some res) : W p l e (headSpec (wsM y_MO_sign b_MO_sign 2 (none)) (rmD 1)).room s m ([.ref (b + 191), vI x1] : List Value).toArray below meth c H locs 0 0 (MQ below (QV b C n res) ([.ref (b + 191), vI x1] : List Value).toArray s 0 0 (frb b)) (F0 m 76 ls [vI v3_, .ref (b + 191)]) := by
  unfold t_MO_sign_L76 at hT
  refine r_putI (N := 68) (T := T1) (j := 22) F hS (show 191 < 231 by decide) (show shK 191 = 5 from rfl) (show shN 191 = 68 from rfl) rfl (Nat.le_of_ble_eq_true rfl) ing1 tyok1 nm1 rfl rfl rfl rfl rfl rfl mw_1411 hv3_ d_MO_sign_76 (fun H locs hS => ?_)
  obtain ⟨M13, eM13⟩ : ∃ q, q = (setI M 191 22 v3_) := ⟨_, rfl⟩
  replace hS : St b C n M13 s H locs := by rw [eM13]; exact hS
  replace hT := qlet_eq hT eM13
  refine lv_aload_n F.hx F.hb d_MO_sign_79 rfl (lv_at hl 0 rfl) ?_
  refine lv_iload_n F.hx F.hb d_MO_sign_80 rfl (lv_at hl 1 rfl) ?_
  refine r_putI (N := 68) (T := T1) (j := 23) F hS (show 191 < 231 by decide) (show shK 191 = 5 from rfl) (show shN 191 = 68 from rfl) rfl (Nat.le_of_ble_eq_true rfl) ing1 tyok1 nm1 rfl rfl rfl rfl rfl rfl mw_1412 hx1 d_MO_sign_81 (fun H locs hS => ?_)
  obtain ⟨M14, eM14⟩ : ∃ q, q = (setI M13 191 23 x1) := ⟨_, rfl⟩
  replace hS : St b C n M14 s H locs := by rw [eM14]; exact hS
  replace hT := qlet_eq hT eM14
  refine lv_iload_n F.hx F.hb d_MO_sign_84 rfl (lv_at hl 1 rfl) ?_
  refine r_bipush F.hx F.hb d_MO_sign_85 rfl ?_
  refine r_icmp_ne (tgt := 106) F.hx F.hb hx1 (inr_c rfl) d_MO_sign_87 (by decide) (fun c15 => ?_) (fun c15 => ?_)
  · replace hT := (if_neg c15).symm.trans hT
    exact k_MO_sign_L106 l hlo x1 hx1 F hlk hr M14 _ _ _ hS (lv_sub hl [0, 1] rfl) hT
  · replace hT := (if_pos c15).symm.trans hT
    refine lv_aload_n F.hx F.hb d_MO_sign_90 rfl (lv_at hl 0 rfl) ?_
    obtain ⟨q16, hq16, hT⟩ := q_obind hT
    refine r_backI F hS (r_runV (k := 191) (N := 68) (T := T1) (As := []) F hS (show 191 < 231 by decide) (show shK 191 = 5 from rfl) rfl (c_MO_here l F.2.2.1 M14 _ hq16) gs_MO_157 hd_MO_here ⟨Nat.le_of_ble_eq_true rfl, Nat.le_of_ble_eq_true rfl⟩ rfl hl.1 (Nat.le_of_ble_eq_true rfl) ⟨Nat.zero_le _, Nat.zero_le _⟩ rfl d_MO_sign_91) (fun H locs hS h17 => ?_)
    refine r_bipush F.hx F.hb d_MO_sign_94 rfl ?_
    refine r_icmp_ne (tgt := 106) F.hx F.hb h17 (inr_c rfl) d_MO_sign_96 (by decide) (fun c18 => ?_) (fun c18 => ?_)
    · replace hT := (if_neg c18).symm.trans hT
      exact k_MO_sign_L106 l hlo x1 hx1 F hlk hr M14 _ _ _ hS (lv_sub hl [0, 1] rfl) hT
    · replace hT := (if_pos c18).symm.trans hT
      refine lv_aload_n F.hx F.hb d_MO_sign_99 rfl (lv_at hl 0 rfl) ?_
      refine r_sipush F.hx F.hb d_MO_sign_100 rfl ?_
      refine r_putI (N := 68) (T := T1) (j := 23) F hS (show 191 < 231 by decide) (show shK 191 = 5 from rfl) (show shN 191 = 68 from rfl) rfl (Nat.le_of_ble_eq_true rfl) ing1 tyok1 nm1 rfl rfl rfl rfl rfl rfl mw_1412 (inr_c rfl) d_MO_sign_103 (fun H locs hS => ?_)
      obtain ⟨M19, eM19⟩ : ∃ q, q = (setI M14 191 23 256) := ⟨_, rfl⟩
      replace hS : St b C n M19 s H locs := by rw [eM19]; exact hS
      replace hT := qlet_eq hT eM19
      exact k_MO_sign_L106 l hlo x1 hx1 F hlk hr M19 _ _ _ hS (lv_sub hl [0, 1] rfl) hT
set_option maxHeartbeats 4000000 in
set_option maxRecDepth 100000 in
theorem k_MO_sign_L71 (l : Launch) {p : Program} {e : Env} {s : State} {m : MethodId} {below : List Frame} {meth : Method} {c : Code} {b n : Nat} {C : CT} (hlo : 231 ≤ n) (x1 : Int) (hx1 : InR x1) (F : Cx b p m c b_MO_sign 2 s ([.ref (b + 191), vI x1] : List Value).toArray "WardFallsModel" C n 231) (hlk : meth.locks = false) (hr : meth.sig.returnType = none) {res : Mem} (M : Mem)  (H : Heap) (locs : List Loc) (ls : Array Slot) (hS : St b C n M s H locs) (hl : lv_has ls 2 [(0, .ref (b + 191)), (1, vI x1)]) (hT : t_MO_sign_L71 x1 M = some res) : W p l e (headSpec (wsM y_MO_sign b_MO_sign 2 (none)) (rmD 1)).room s m ([.ref (b + 191), vI x1] : List Value).toArray below meth c H locs 0 0 (MQ below (QV b C n res) ([.ref (b + 191), vI x1] : List Value).toArray s 0 0 (frb b)) (F0 m 71 ls [.ref (b + 191)]) := by
  unfold t_MO_sign_L71 at hT
  refine r_iconst F.hx F.hb d_MO_sign_71 ?_
  refine lv_goto (tgt := 76) F.hx F.hb d_MO_sign_72 (by decide) ?_
  exact k_MO_sign_L76 l hlo x1 hx1 F hlk hr M 3 (inr_c rfl) _ _ _ hS (lv_sub hl [0, 1] rfl) hT
set_option maxHeartbeats 4000000 in
set_option maxRecDepth 100000 in
theorem c_MO_sign (l : Launch) {b n : Nat} {C : CT} (hlo : 231 ≤ n) (M : Mem) (x1 : Int) (hx1 : InR x1) (res : Mem) (hT : t_MO_sign M x1 = some res) : CM l b C n 1 y_MO_sign b_MO_sign 2 (none) [.ref (b + 191), vI x1] M (QV b C n res) := by
  refine CM.of (lo := 231) (ow := "WardFallsModel") (by decide) rfl (Nat.le_of_ble_eq_true rfl) hlo (fun p e s m below meth c F hlk hr hS ls hl => ?_)
  have hl : lv_has ls 2 [(0, .ref (b + 191)), (1, vI x1)] := hl
  unfold t_MO_sign at hT
  refine lv_aload_n F.hx F.hb d_MO_sign_0 rfl (lv_at hl 0 rfl) ?_
  refine lv_dup F.hx F.hb d_MO_sign_1 rfl ?_
  refine r_get (v := vI (M.1 191 20)) (N := 68) (T := T1) (j := 20) F hS (show 191 < 231 by decide) (show shK 191 = 5 from rfl) (show shN 191 = 68 from rfl) rfl (Nat.le_of_ble_eq_true rfl) ing1 mw_1409 (fv_int rfl) d_MO_sign_2 ?_
  have i1 := hS.rng 191 20
  refine r_iconst F.hx F.hb d_MO_sign_5 ?_
  refine r_iadd F.hx F.hb d_MO_sign_6 ?_
  refine r_putI (N := 68) (T := T1) (j := 20) F hS (show 191 < 231 by decide) (show shK 191 = 5 from rfl) (show shN 191 = 68 from rfl) rfl (Nat.le_of_ble_eq_true rfl) ing1 tyok1 nm1 rfl rfl rfl rfl rfl rfl mw_1409 (inr_w32 _) d_MO_sign_7 (fun H locs hS => ?_)
  obtain ⟨M2, eM2⟩ : ∃ q, q = (setI M 191 20 (w32 ((M.1 191 20) + 1))) := ⟨_, rfl⟩
  replace hS : St b C n M2 s H locs := by rw [eM2]; exact hS
  replace hT := qlet_eq hT eM2
  refine lv_aload_n F.hx F.hb d_MO_sign_10 rfl (lv_at hl 0 rfl) ?_
  refine lv_iload_n F.hx F.hb d_MO_sign_11 rfl (lv_at hl 1 rfl) ?_
  refine r_bipush F.hx F.hb d_MO_sign_12 rfl ?_
  refine r_icmp_eq (tgt := 71) F.hx F.hb hx1 (inr_c rfl) d_MO_sign_14 (by decide) (fun c3 => ?_) (fun c3 => ?_)
  · replace hT := (if_pos c3).symm.trans hT
    exact k_MO_sign_L71 l hlo x1 hx1 F hlk hr M2 _ _ _ hS (lv_sub hl [0, 1] rfl) hT
  · replace hT := (if_neg c3).symm.trans hT
    refine lv_iload_n F.hx F.hb d_MO_sign_17 rfl (lv_at hl 1 rfl) ?_
    refine r_bipush F.hx F.hb d_MO_sign_18 rfl ?_
    refine r_icmp_eq (tgt := 71) F.hx F.hb hx1 (inr_c rfl) d_MO_sign_20 (by decide) (fun c4 => ?_) (fun c4 => ?_)
    · replace hT := (if_pos c4).symm.trans hT
      exact k_MO_sign_L71 l hlo x1 hx1 F hlk hr M2 _ _ _ hS (lv_sub hl [0, 1] rfl) hT
    · replace hT := (if_neg c4).symm.trans hT
      refine lv_iload_n F.hx F.hb d_MO_sign_23 rfl (lv_at hl 1 rfl) ?_
      refine r_bipush F.hx F.hb d_MO_sign_24 rfl ?_
      refine r_icmp_eq (tgt := 71) F.hx F.hb hx1 (inr_c rfl) d_MO_sign_26 (by decide) (fun c5 => ?_) (fun c5 => ?_)
      · replace hT := (if_pos c5).symm.trans hT
        exact k_MO_sign_L71 l hlo x1 hx1 F hlk hr M2 _ _ _ hS (lv_sub hl [0, 1] rfl) hT
      · replace hT := (if_neg c5).symm.trans hT
        refine lv_iload_n F.hx F.hb d_MO_sign_29 rfl (lv_at hl 1 rfl) ?_
        refine r_bipush F.hx F.hb d_MO_sign_30 rfl ?_
        refine r_icmp_eq (tgt := 71) F.hx F.hb hx1 (inr_c rfl) d_MO_sign_32 (by decide) (fun c6 => ?_) (fun c6 => ?_)
        · replace hT := (if_pos c6).symm.trans hT
          exact k_MO_sign_L71 l hlo x1 hx1 F hlk hr M2 _ _ _ hS (lv_sub hl [0, 1] rfl) hT
        · replace hT := (if_neg c6).symm.trans hT
          refine lv_iload_n F.hx F.hb d_MO_sign_35 rfl (lv_at hl 1 rfl) ?_
          refine r_bipush F.hx F.hb d_MO_sign_36 rfl ?_
          refine r_icmp_eq (tgt := 71) F.hx F.hb hx1 (inr_c rfl) d_MO_sign_38 (by decide) (fun c7 => ?_) (fun c7 => ?_)
          · replace hT := (if_pos c7).symm.trans hT
            exact k_MO_sign_L71 l hlo x1 hx1 F hlk hr M2 _ _ _ hS (lv_sub hl [0, 1] rfl) hT
          · replace hT := (if_neg c7).symm.trans hT
            refine lv_iload_n F.hx F.hb d_MO_sign_41 rfl (lv_at hl 1 rfl) ?_
            refine r_bipush F.hx F.hb d_MO_sign_42 rfl ?_
            refine r_icmp_eq (tgt := 71) F.hx F.hb hx1 (inr_c rfl) d_MO_sign_44 (by decide) (fun c8 => ?_) (fun c8 => ?_)
            · replace hT := (if_pos c8).symm.trans hT
              exact k_MO_sign_L71 l hlo x1 hx1 F hlk hr M2 _ _ _ hS (lv_sub hl [0, 1] rfl) hT
            · replace hT := (if_neg c8).symm.trans hT
              refine lv_iload_n F.hx F.hb d_MO_sign_47 rfl (lv_at hl 1 rfl) ?_
              refine r_bipush F.hx F.hb d_MO_sign_48 rfl ?_
              refine r_icmp_eq (tgt := 71) F.hx F.hb hx1 (inr_c rfl) d_MO_sign_50 (by decide) (fun c9 => ?_) (fun c9 => ?_)
              · replace hT := (if_pos c9).symm.trans hT
                exact k_MO_sign_L71 l hlo x1 hx1 F hlk hr M2 _ _ _ hS (lv_sub hl [0, 1] rfl) hT
              · replace hT := (if_neg c9).symm.trans hT
                refine lv_iload_n F.hx F.hb d_MO_sign_53 rfl (lv_at hl 1 rfl) ?_
                refine r_bipush F.hx F.hb d_MO_sign_54 rfl ?_
                refine r_icmp_eq (tgt := 71) F.hx F.hb hx1 (inr_c rfl) d_MO_sign_56 (by decide) (fun c10 => ?_) (fun c10 => ?_)
                · replace hT := (if_pos c10).symm.trans hT
                  exact k_MO_sign_L71 l hlo x1 hx1 F hlk hr M2 _ _ _ hS (lv_sub hl [0, 1] rfl) hT
                · replace hT := (if_neg c10).symm.trans hT
                  refine lv_iload_n F.hx F.hb d_MO_sign_59 rfl (lv_at hl 1 rfl) ?_
                  refine r_bipush F.hx F.hb d_MO_sign_60 rfl ?_
                  refine r_icmp_eq (tgt := 71) F.hx F.hb hx1 (inr_c rfl) d_MO_sign_62 (by decide) (fun c11 => ?_) (fun c11 => ?_)
                  · replace hT := (if_pos c11).symm.trans hT
                    exact k_MO_sign_L71 l hlo x1 hx1 F hlk hr M2 _ _ _ hS (lv_sub hl [0, 1] rfl) hT
                  · replace hT := (if_neg c11).symm.trans hT
                    refine lv_iload_n F.hx F.hb d_MO_sign_65 rfl (lv_at hl 1 rfl) ?_
                    refine r_bipush F.hx F.hb d_MO_sign_66 rfl ?_
                    refine r_icmp_ne (tgt := 75) F.hx F.hb hx1 (inr_c rfl) d_MO_sign_68 (by decide) (fun c12 => ?_) (fun c12 => ?_)
                    · replace hT := (if_neg c12).symm.trans hT
                      refine r_iconst F.hx F.hb d_MO_sign_75 ?_
                      exact k_MO_sign_L76 l hlo x1 hx1 F hlk hr M2 5 (inr_c rfl) _ _ _ hS (lv_sub hl [0, 1] rfl) hT
                    · replace hT := (if_pos c12).symm.trans hT
                      exact k_MO_sign_L71 l hlo x1 hx1 F hlk hr M2 _ _ _ hS (lv_sub hl [0, 1] rfl) hT
theorem wn_MO_token_0 : ∀ i, i < 96 → bA b_MO_token (0 + i) = wB [42, 182, 0, 157, 16, 10, 159, 0, 12, 42, 182, 0, 157, 16, 32, 160, 0, 16, 42, 89, 180, 0, 151, 4, 96, 181, 0, 151, 167, 255, 228, 42, 42, 180, 0, 151, 181, 0, 161, 42, 182, 0, 157, 60, 27, 2, 160, 0, 11, 42, 7, 181, 0, 164, 167, 0, 171, 27, 184, 0, 167, 153, 0, 84, 42, 182, 0, 157, 184, 0, 167, 153, 0, 16, 42, 89, 180, 0, 151, 4, 96, 181, 0, 151, 167, 255, 236, 42, 42, 182, 0, 171, 181, 0, 174, 42] i := wB_of (by decide +kernel)
theorem d_MO_token_0 : decode b_MO_token 0 = .ok (.aload_n 0, 1) := dc_42 (q0_win (r := 0) wn_MO_token_0 (by decide +kernel))
theorem d_MO_token_1 : decode b_MO_token 1 = .ok (.invokevirtual 157, 3) := dc_182 (qU2_win (r := 1) wn_MO_token_0 (by decide +kernel))
theorem d_MO_token_4 : decode b_MO_token 4 = .ok (.bipush 10, 2) := dc_16 (qS1_win (r := 4) wn_MO_token_0 (by decide +kernel))
theorem d_MO_token_6 : decode b_MO_token 6 = .ok (.if_icmp .eq 12, 3) := dc_159 (qS2_win (r := 6) wn_MO_token_0 (by decide +kernel))
theorem d_MO_token_9 : decode b_MO_token 9 = .ok (.aload_n 0, 1) := dc_42 (q0_win (r := 9) wn_MO_token_0 (by decide +kernel))
theorem d_MO_token_10 : decode b_MO_token 10 = .ok (.invokevirtual 157, 3) := dc_182 (qU2_win (r := 10) wn_MO_token_0 (by decide +kernel))
theorem d_MO_token_13 : decode b_MO_token 13 = .ok (.bipush 32, 2) := dc_16 (qS1_win (r := 13) wn_MO_token_0 (by decide +kernel))
theorem d_MO_token_15 : decode b_MO_token 15 = .ok (.if_icmp .ne 16, 3) := dc_160 (qS2_win (r := 15) wn_MO_token_0 (by decide +kernel))
theorem d_MO_token_18 : decode b_MO_token 18 = .ok (.aload_n 0, 1) := dc_42 (q0_win (r := 18) wn_MO_token_0 (by decide +kernel))
theorem d_MO_token_19 : decode b_MO_token 19 = .ok (.dup, 1) := dc_89 (q0_win (r := 19) wn_MO_token_0 (by decide +kernel))
theorem d_MO_token_20 : decode b_MO_token 20 = .ok (.getfield 151, 3) := dc_180 (qU2_win (r := 20) wn_MO_token_0 (by decide +kernel))
theorem d_MO_token_23 : decode b_MO_token 23 = .ok (.iconst 1, 1) := dc_4 (q0_win (r := 23) wn_MO_token_0 (by decide +kernel))
theorem d_MO_token_24 : decode b_MO_token 24 = .ok (.iadd, 1) := dc_96 (q0_win (r := 24) wn_MO_token_0 (by decide +kernel))
theorem d_MO_token_25 : decode b_MO_token 25 = .ok (.putfield 151, 3) := dc_181 (qU2_win (r := 25) wn_MO_token_0 (by decide +kernel))
theorem d_MO_token_28 : decode b_MO_token 28 = .ok (.goto (-28), 3) := dc_167 (qS2_win (r := 28) wn_MO_token_0 (by decide +kernel))
theorem d_MO_token_31 : decode b_MO_token 31 = .ok (.aload_n 0, 1) := dc_42 (q0_win (r := 31) wn_MO_token_0 (by decide +kernel))
theorem d_MO_token_32 : decode b_MO_token 32 = .ok (.aload_n 0, 1) := dc_42 (q0_win (r := 32) wn_MO_token_0 (by decide +kernel))
theorem d_MO_token_33 : decode b_MO_token 33 = .ok (.getfield 151, 3) := dc_180 (qU2_win (r := 33) wn_MO_token_0 (by decide +kernel))
theorem d_MO_token_36 : decode b_MO_token 36 = .ok (.putfield 161, 3) := dc_181 (qU2_win (r := 36) wn_MO_token_0 (by decide +kernel))
theorem d_MO_token_39 : decode b_MO_token 39 = .ok (.aload_n 0, 1) := dc_42 (q0_win (r := 39) wn_MO_token_0 (by decide +kernel))
theorem d_MO_token_40 : decode b_MO_token 40 = .ok (.invokevirtual 157, 3) := dc_182 (qU2_win (r := 40) wn_MO_token_0 (by decide +kernel))
theorem d_MO_token_43 : decode b_MO_token 43 = .ok (.istore_n 1, 1) := dc_60 (q0_win (r := 43) wn_MO_token_0 (by decide +kernel))
theorem d_MO_token_44 : decode b_MO_token 44 = .ok (.iload_n 1, 1) := dc_27 (q0_win (r := 44) wn_MO_token_0 (by decide +kernel))
theorem d_MO_token_45 : decode b_MO_token 45 = .ok (.iconst (-1), 1) := dc_2 (q0_win (r := 45) wn_MO_token_0 (by decide +kernel))
theorem d_MO_token_46 : decode b_MO_token 46 = .ok (.if_icmp .ne 11, 3) := dc_160 (qS2_win (r := 46) wn_MO_token_0 (by decide +kernel))
theorem d_MO_token_49 : decode b_MO_token 49 = .ok (.aload_n 0, 1) := dc_42 (q0_win (r := 49) wn_MO_token_0 (by decide +kernel))
theorem d_MO_token_50 : decode b_MO_token 50 = .ok (.iconst 4, 1) := dc_7 (q0_win (r := 50) wn_MO_token_0 (by decide +kernel))
theorem d_MO_token_51 : decode b_MO_token 51 = .ok (.putfield 164, 3) := dc_181 (qU2_win (r := 51) wn_MO_token_0 (by decide +kernel))
theorem d_MO_token_54 : decode b_MO_token 54 = .ok (.goto 171, 3) := dc_167 (qS2_win (r := 54) wn_MO_token_0 (by decide +kernel))
theorem d_MO_token_57 : decode b_MO_token 57 = .ok (.iload_n 1, 1) := dc_27 (q0_win (r := 57) wn_MO_token_0 (by decide +kernel))
theorem d_MO_token_58 : decode b_MO_token 58 = .ok (.invokestatic 167, 3) := dc_184 (qU2_win (r := 58) wn_MO_token_0 (by decide +kernel))
theorem d_MO_token_61 : decode b_MO_token 61 = .ok (.ifCond .eq 84, 3) := dc_153 (qS2_win (r := 61) wn_MO_token_0 (by decide +kernel))
theorem d_MO_token_64 : decode b_MO_token 64 = .ok (.aload_n 0, 1) := dc_42 (q0_win (r := 64) wn_MO_token_0 (by decide +kernel))
theorem d_MO_token_65 : decode b_MO_token 65 = .ok (.invokevirtual 157, 3) := dc_182 (qU2_win (r := 65) wn_MO_token_0 (by decide +kernel))
theorem d_MO_token_68 : decode b_MO_token 68 = .ok (.invokestatic 167, 3) := dc_184 (qU2_win (r := 68) wn_MO_token_0 (by decide +kernel))
theorem d_MO_token_71 : decode b_MO_token 71 = .ok (.ifCond .eq 16, 3) := dc_153 (qS2_win (r := 71) wn_MO_token_0 (by decide +kernel))
theorem d_MO_token_74 : decode b_MO_token 74 = .ok (.aload_n 0, 1) := dc_42 (q0_win (r := 74) wn_MO_token_0 (by decide +kernel))
theorem d_MO_token_75 : decode b_MO_token 75 = .ok (.dup, 1) := dc_89 (q0_win (r := 75) wn_MO_token_0 (by decide +kernel))
theorem d_MO_token_76 : decode b_MO_token 76 = .ok (.getfield 151, 3) := dc_180 (qU2_win (r := 76) wn_MO_token_0 (by decide +kernel))
theorem d_MO_token_79 : decode b_MO_token 79 = .ok (.iconst 1, 1) := dc_4 (q0_win (r := 79) wn_MO_token_0 (by decide +kernel))
theorem d_MO_token_80 : decode b_MO_token 80 = .ok (.iadd, 1) := dc_96 (q0_win (r := 80) wn_MO_token_0 (by decide +kernel))
theorem d_MO_token_81 : decode b_MO_token 81 = .ok (.putfield 151, 3) := dc_181 (qU2_win (r := 81) wn_MO_token_0 (by decide +kernel))
theorem d_MO_token_84 : decode b_MO_token 84 = .ok (.goto (-20), 3) := dc_167 (qS2_win (r := 84) wn_MO_token_0 (by decide +kernel))
theorem d_MO_token_87 : decode b_MO_token 87 = .ok (.aload_n 0, 1) := dc_42 (q0_win (r := 87) wn_MO_token_0 (by decide +kernel))
theorem d_MO_token_88 : decode b_MO_token 88 = .ok (.aload_n 0, 1) := dc_42 (q0_win (r := 88) wn_MO_token_0 (by decide +kernel))
theorem d_MO_token_89 : decode b_MO_token 89 = .ok (.invokevirtual 171, 3) := dc_182 (qU2_win (r := 89) wn_MO_token_0 (by decide +kernel))
theorem d_MO_token_92 : decode b_MO_token 92 = .ok (.putfield 174, 3) := dc_181 (qU2_win (r := 92) wn_MO_token_0 (by decide +kernel))
theorem d_MO_token_95 : decode b_MO_token 95 = .ok (.aload_n 0, 1) := dc_42 (q0_win (r := 95) wn_MO_token_0 (by decide +kernel))
theorem wn_MO_token_96 : ∀ i, i < 96 → bA b_MO_token (96 + i) = wB [42, 180, 0, 174, 2, 159, 0, 7, 3, 167, 0, 22, 42, 180, 0, 151, 42, 180, 0, 161, 100, 16, 6, 164, 0, 7, 8, 167, 0, 4, 4, 181, 0, 164, 42, 180, 0, 164, 4, 160, 0, 90, 42, 182, 0, 177, 167, 0, 83, 27, 184, 0, 180, 153, 0, 71, 42, 5, 181, 0, 164, 42, 3, 181, 0, 174, 42, 182, 0, 157, 184, 0, 180, 153, 0, 56, 42, 42, 180, 0, 174, 18, 183, 164, 0, 10, 42, 180, 0, 174, 167, 0, 18, 16, 10, 42] i := wB_of (by decide +kernel)
theorem d_MO_token_96 : decode b_MO_token 96 = .ok (.aload_n 0, 1) := dc_42 (q0_win (r := 0) wn_MO_token_96 (by decide +kernel))
theorem d_MO_token_97 : decode b_MO_token 97 = .ok (.getfield 174, 3) := dc_180 (qU2_win (r := 1) wn_MO_token_96 (by decide +kernel))
theorem d_MO_token_100 : decode b_MO_token 100 = .ok (.iconst (-1), 1) := dc_2 (q0_win (r := 4) wn_MO_token_96 (by decide +kernel))
theorem d_MO_token_101 : decode b_MO_token 101 = .ok (.if_icmp .eq 7, 3) := dc_159 (qS2_win (r := 5) wn_MO_token_96 (by decide +kernel))
theorem d_MO_token_104 : decode b_MO_token 104 = .ok (.iconst 0, 1) := dc_3 (q0_win (r := 8) wn_MO_token_96 (by decide +kernel))
theorem d_MO_token_105 : decode b_MO_token 105 = .ok (.goto 22, 3) := dc_167 (qS2_win (r := 9) wn_MO_token_96 (by decide +kernel))
theorem d_MO_token_108 : decode b_MO_token 108 = .ok (.aload_n 0, 1) := dc_42 (q0_win (r := 12) wn_MO_token_96 (by decide +kernel))
theorem d_MO_token_109 : decode b_MO_token 109 = .ok (.getfield 151, 3) := dc_180 (qU2_win (r := 13) wn_MO_token_96 (by decide +kernel))
theorem d_MO_token_112 : decode b_MO_token 112 = .ok (.aload_n 0, 1) := dc_42 (q0_win (r := 16) wn_MO_token_96 (by decide +kernel))
theorem d_MO_token_113 : decode b_MO_token 113 = .ok (.getfield 161, 3) := dc_180 (qU2_win (r := 17) wn_MO_token_96 (by decide +kernel))
theorem d_MO_token_116 : decode b_MO_token 116 = .ok (.isub, 1) := dc_100 (q0_win (r := 20) wn_MO_token_96 (by decide +kernel))
theorem d_MO_token_117 : decode b_MO_token 117 = .ok (.bipush 6, 2) := dc_16 (qS1_win (r := 21) wn_MO_token_96 (by decide +kernel))
theorem d_MO_token_119 : decode b_MO_token 119 = .ok (.if_icmp .le 7, 3) := dc_164 (qS2_win (r := 23) wn_MO_token_96 (by decide +kernel))
theorem d_MO_token_122 : decode b_MO_token 122 = .ok (.iconst 5, 1) := dc_8 (q0_win (r := 26) wn_MO_token_96 (by decide +kernel))
theorem d_MO_token_123 : decode b_MO_token 123 = .ok (.goto 4, 3) := dc_167 (qS2_win (r := 27) wn_MO_token_96 (by decide +kernel))
theorem d_MO_token_126 : decode b_MO_token 126 = .ok (.iconst 1, 1) := dc_4 (q0_win (r := 30) wn_MO_token_96 (by decide +kernel))
theorem d_MO_token_127 : decode b_MO_token 127 = .ok (.putfield 164, 3) := dc_181 (qU2_win (r := 31) wn_MO_token_96 (by decide +kernel))
theorem d_MO_token_130 : decode b_MO_token 130 = .ok (.aload_n 0, 1) := dc_42 (q0_win (r := 34) wn_MO_token_96 (by decide +kernel))
theorem d_MO_token_131 : decode b_MO_token 131 = .ok (.getfield 164, 3) := dc_180 (qU2_win (r := 35) wn_MO_token_96 (by decide +kernel))
theorem d_MO_token_134 : decode b_MO_token 134 = .ok (.iconst 1, 1) := dc_4 (q0_win (r := 38) wn_MO_token_96 (by decide +kernel))
theorem d_MO_token_135 : decode b_MO_token 135 = .ok (.if_icmp .ne 90, 3) := dc_160 (qS2_win (r := 39) wn_MO_token_96 (by decide +kernel))
theorem d_MO_token_138 : decode b_MO_token 138 = .ok (.aload_n 0, 1) := dc_42 (q0_win (r := 42) wn_MO_token_96 (by decide +kernel))
theorem d_MO_token_139 : decode b_MO_token 139 = .ok (.invokevirtual 177, 3) := dc_182 (qU2_win (r := 43) wn_MO_token_96 (by decide +kernel))
theorem d_MO_token_142 : decode b_MO_token 142 = .ok (.goto 83, 3) := dc_167 (qS2_win (r := 46) wn_MO_token_96 (by decide +kernel))
theorem d_MO_token_145 : decode b_MO_token 145 = .ok (.iload_n 1, 1) := dc_27 (q0_win (r := 49) wn_MO_token_96 (by decide +kernel))
theorem d_MO_token_146 : decode b_MO_token 146 = .ok (.invokestatic 180, 3) := dc_184 (qU2_win (r := 50) wn_MO_token_96 (by decide +kernel))
theorem d_MO_token_149 : decode b_MO_token 149 = .ok (.ifCond .eq 71, 3) := dc_153 (qS2_win (r := 53) wn_MO_token_96 (by decide +kernel))
theorem d_MO_token_152 : decode b_MO_token 152 = .ok (.aload_n 0, 1) := dc_42 (q0_win (r := 56) wn_MO_token_96 (by decide +kernel))
theorem d_MO_token_153 : decode b_MO_token 153 = .ok (.iconst 2, 1) := dc_5 (q0_win (r := 57) wn_MO_token_96 (by decide +kernel))
theorem d_MO_token_154 : decode b_MO_token 154 = .ok (.putfield 164, 3) := dc_181 (qU2_win (r := 58) wn_MO_token_96 (by decide +kernel))
theorem d_MO_token_157 : decode b_MO_token 157 = .ok (.aload_n 0, 1) := dc_42 (q0_win (r := 61) wn_MO_token_96 (by decide +kernel))
theorem d_MO_token_158 : decode b_MO_token 158 = .ok (.iconst 0, 1) := dc_3 (q0_win (r := 62) wn_MO_token_96 (by decide +kernel))
theorem d_MO_token_159 : decode b_MO_token 159 = .ok (.putfield 174, 3) := dc_181 (qU2_win (r := 63) wn_MO_token_96 (by decide +kernel))
theorem d_MO_token_162 : decode b_MO_token 162 = .ok (.aload_n 0, 1) := dc_42 (q0_win (r := 66) wn_MO_token_96 (by decide +kernel))
theorem d_MO_token_163 : decode b_MO_token 163 = .ok (.invokevirtual 157, 3) := dc_182 (qU2_win (r := 67) wn_MO_token_96 (by decide +kernel))
theorem d_MO_token_166 : decode b_MO_token 166 = .ok (.invokestatic 180, 3) := dc_184 (qU2_win (r := 70) wn_MO_token_96 (by decide +kernel))
theorem d_MO_token_169 : decode b_MO_token 169 = .ok (.ifCond .eq 56, 3) := dc_153 (qS2_win (r := 73) wn_MO_token_96 (by decide +kernel))
theorem d_MO_token_172 : decode b_MO_token 172 = .ok (.aload_n 0, 1) := dc_42 (q0_win (r := 76) wn_MO_token_96 (by decide +kernel))
theorem d_MO_token_173 : decode b_MO_token 173 = .ok (.aload_n 0, 1) := dc_42 (q0_win (r := 77) wn_MO_token_96 (by decide +kernel))
theorem d_MO_token_174 : decode b_MO_token 174 = .ok (.getfield 174, 3) := dc_180 (qU2_win (r := 78) wn_MO_token_96 (by decide +kernel))
theorem d_MO_token_177 : decode b_MO_token 177 = .ok (.ldc 183, 2) := dc_18 (qU1_win (r := 81) wn_MO_token_96 (by decide +kernel))
theorem d_MO_token_179 : decode b_MO_token 179 = .ok (.if_icmp .le 10, 3) := dc_164 (qS2_win (r := 83) wn_MO_token_96 (by decide +kernel))
theorem d_MO_token_182 : decode b_MO_token 182 = .ok (.aload_n 0, 1) := dc_42 (q0_win (r := 86) wn_MO_token_96 (by decide +kernel))
theorem d_MO_token_183 : decode b_MO_token 183 = .ok (.getfield 174, 3) := dc_180 (qU2_win (r := 87) wn_MO_token_96 (by decide +kernel))
theorem d_MO_token_186 : decode b_MO_token 186 = .ok (.goto 18, 3) := dc_167 (qS2_win (r := 90) wn_MO_token_96 (by decide +kernel))
theorem d_MO_token_189 : decode b_MO_token 189 = .ok (.bipush 10, 2) := dc_16 (qS1_win (r := 93) wn_MO_token_96 (by decide +kernel))
theorem d_MO_token_191 : decode b_MO_token 191 = .ok (.aload_n 0, 1) := dc_42 (q0_win (r := 95) wn_MO_token_96 (by decide +kernel))
theorem wn_MO_token_192 : ∀ i, i < 34 → bA b_MO_token (192 + i) = wB [180, 0, 174, 104, 42, 182, 0, 157, 96, 16, 48, 100, 181, 0, 174, 42, 89, 180, 0, 151, 4, 96, 181, 0, 151, 167, 255, 201, 42, 27, 182, 0, 184, 177] i := wB_of (by decide +kernel)
theorem d_MO_token_192 : decode b_MO_token 192 = .ok (.getfield 174, 3) := dc_180 (qU2_win (r := 0) wn_MO_token_192 (by decide +kernel))
theorem d_MO_token_195 : decode b_MO_token 195 = .ok (.imul, 1) := dc_104 (q0_win (r := 3) wn_MO_token_192 (by decide +kernel))
theorem d_MO_token_196 : decode b_MO_token 196 = .ok (.aload_n 0, 1) := dc_42 (q0_win (r := 4) wn_MO_token_192 (by decide +kernel))
theorem d_MO_token_197 : decode b_MO_token 197 = .ok (.invokevirtual 157, 3) := dc_182 (qU2_win (r := 5) wn_MO_token_192 (by decide +kernel))
theorem d_MO_token_200 : decode b_MO_token 200 = .ok (.iadd, 1) := dc_96 (q0_win (r := 8) wn_MO_token_192 (by decide +kernel))
theorem d_MO_token_201 : decode b_MO_token 201 = .ok (.bipush 48, 2) := dc_16 (qS1_win (r := 9) wn_MO_token_192 (by decide +kernel))
theorem d_MO_token_203 : decode b_MO_token 203 = .ok (.isub, 1) := dc_100 (q0_win (r := 11) wn_MO_token_192 (by decide +kernel))
theorem d_MO_token_204 : decode b_MO_token 204 = .ok (.putfield 174, 3) := dc_181 (qU2_win (r := 12) wn_MO_token_192 (by decide +kernel))
theorem d_MO_token_207 : decode b_MO_token 207 = .ok (.aload_n 0, 1) := dc_42 (q0_win (r := 15) wn_MO_token_192 (by decide +kernel))
theorem d_MO_token_208 : decode b_MO_token 208 = .ok (.dup, 1) := dc_89 (q0_win (r := 16) wn_MO_token_192 (by decide +kernel))
theorem d_MO_token_209 : decode b_MO_token 209 = .ok (.getfield 151, 3) := dc_180 (qU2_win (r := 17) wn_MO_token_192 (by decide +kernel))
theorem d_MO_token_212 : decode b_MO_token 212 = .ok (.iconst 1, 1) := dc_4 (q0_win (r := 20) wn_MO_token_192 (by decide +kernel))
theorem d_MO_token_213 : decode b_MO_token 213 = .ok (.iadd, 1) := dc_96 (q0_win (r := 21) wn_MO_token_192 (by decide +kernel))
theorem d_MO_token_214 : decode b_MO_token 214 = .ok (.putfield 151, 3) := dc_181 (qU2_win (r := 22) wn_MO_token_192 (by decide +kernel))
theorem d_MO_token_217 : decode b_MO_token 217 = .ok (.goto (-55), 3) := dc_167 (qS2_win (r := 25) wn_MO_token_192 (by decide +kernel))
theorem d_MO_token_220 : decode b_MO_token 220 = .ok (.aload_n 0, 1) := dc_42 (q0_win (r := 28) wn_MO_token_192 (by decide +kernel))
theorem d_MO_token_221 : decode b_MO_token 221 = .ok (.iload_n 1, 1) := dc_27 (q0_win (r := 29) wn_MO_token_192 (by decide +kernel))
theorem d_MO_token_222 : decode b_MO_token 222 = .ok (.invokevirtual 184, 3) := dc_182 (qU2_win (r := 30) wn_MO_token_192 (by decide +kernel))
theorem d_MO_token_225 : decode b_MO_token 225 = .ok (.return_, 1) := dc_177 (q0_win (r := 33) wn_MO_token_192 (by decide +kernel))
def t_MO_token_L18  (bk0 : Mem → Option (Mem)) (M : Mem)  : Option (Mem) := (qlet (setI M 191 20 (w32 ((M.1 191 20) + 1))) fun M24 => (bk0 M24))
def t_MO_token_L127   (M : Mem) (v2_ : Int) : Option (Mem) := (qlet (setI M 191 22 v2_) fun M54 => (if (M54.1 191 22) = 1 then (obind (t_MO_name M54) fun q57 => (some q57)) else (some M54)))
def t_MO_token_L64   : Nat → Mem → Option (Mem)
  | 0, _ => none
  | fu + 1, M => (obind (t_MO_here M) fun q36 => (qlet (t_MO_isSmall M q36) fun q38 => (if q38 = 0 then (obind (t_MO_word M) fun q41 => (qlet (setI M 191 23 q41) fun M43 => (if (M43.1 191 23) = (-1) then (if (w32 ((M43.1 191 20) - (M43.1 191 21))) ≤ 6 then (t_MO_token_L127 M43 1) else (t_MO_token_L127 M43 5)) else (t_MO_token_L127 M43 0)))) else (qlet (setI M 191 20 (w32 ((M.1 191 20) + 1))) fun M50 => (t_MO_token_L64 fu M50)))))
def t_MO_token_L204  (bk162 : Mem → Option (Mem)) (M : Mem) (v2_ : Int) : Option (Mem) := (qlet (setI M 191 23 v2_) fun M51 => (qlet (setI M51 191 20 (w32 ((M51.1 191 20) + 1))) fun M53 => (bk162 M53)))
def t_MO_token_L162   : Nat → Mem → Option (Mem)
  | 0, _ => none
  | fu + 1, M => (obind (t_MO_here M) fun q25 => (qlet (t_MO_isDigit M q25) fun q27 => (if q27 = 0 then (some M) else (if (M.1 191 23) ≤ 99999 then (obind (t_MO_here M) fun q33 => (t_MO_token_L204 (fun a0_ => t_MO_token_L162 fu a0_) M (w32 ((w32 ((w32 (10 * (M.1 191 23))) + q33)) - 48)))) else (t_MO_token_L204 (fun a0_ => t_MO_token_L162 fu a0_) M (M.1 191 23))))))
def t_MO_token_L0   : Nat → Mem → Option (Mem)
  | 0, _ => none
  | fu + 1, M => (obind (t_MO_here M) fun q1 => (if q1 = 10 then (t_MO_token_L18 (fun a0_ => t_MO_token_L0 fu a0_) M) else (obind (t_MO_here M) fun q4 => (if q4 = 32 then (t_MO_token_L18 (fun a0_ => t_MO_token_L0 fu a0_) M) else (qlet (setI M 191 21 (M.1 191 20)) fun M8 => (obind (t_MO_here M8) fun q9 => (if q9 = (-1) then (qlet (setI M8 191 22 4) fun M22 => (some M22)) else (qlet (t_MO_isSmall M8 q9) fun q12 => (if q12 = 0 then (qlet (t_MO_isDigit M8 q9) fun q15 => (if q15 = 0 then (obind (t_MO_sign M8 q9) fun q18 => (some q18)) else (qlet (setI M8 191 22 2) fun M20 => (qlet (setI M20 191 23 0) fun M21 => (t_MO_token_L162 FU M21))))) else (t_MO_token_L64 FU M8))))))))))
def t_MO_token (M : Mem)  : Option (Mem) := (t_MO_token_L0 FU M)
set_option maxHeartbeats 4000000 in
set_option maxRecDepth 100000 in
theorem k_MO_token_L18 (l : Launch) {p : Program} {e : Env} {s : State} {m : MethodId} {below : List Frame} {meth : Method} {c : Code} {b n : Nat} {C : CT} (hlo : 231 ≤ n)   (F : Cx b p m c b_MO_token 2 s ([.ref (b + 191)] : List Value).toArray "WardFallsModel" C n 231) (hlk : meth.locks = false) (hr : meth.sig.returnType = none) {res : Mem} (bk0 : Mem → Option (Mem)) (hbk0 : ∀ (M : Mem)  (H : Heap) (locs : List Loc) (ls : Array Slot), St b C n M s H locs → lv_has ls 2 [(0, .ref (b + 191))] → bk0 M  = some res → W p l e (headSpec (wsM y_MO_token b_MO_token 2 (none)) (rmD 5)).room s m ([.ref (b + 191)] : List Value).toArray below meth c H locs 0 0 (MQ below (QV b C n res) ([.ref (b + 191)] : List Value).toArray s 0 0 (frb b)) (F0 m 0 ls [])) (M : Mem)  (H : Heap) (locs : List Loc) (ls : Array Slot) (hS : St b C n M s H locs) (hl : lv_has ls 2 [(0, .ref (b + 191))]) (hT : t_MO_token_L18 bk0 M = some res) : W p l e (headSpec (wsM y_MO_token b_MO_token 2 (none)) (rmD 5)).room s m ([.ref (b + 191)] : List Value).toArray below meth c H locs 0 0 (MQ below (QV b C n res) ([.ref (b + 191)] : List Value).toArray s 0 0 (frb b)) (F0 m 18 ls []) := by
  unfold t_MO_token_L18 at hT
  refine lv_aload_n F.hx F.hb d_MO_token_18 rfl (lv_at hl 0 rfl) ?_
  refine lv_dup F.hx F.hb d_MO_token_19 rfl ?_
  refine r_get (v := vI (M.1 191 20)) (N := 68) (T := T1) (j := 20) F hS (show 191 < 231 by decide) (show shK 191 = 5 from rfl) (show shN 191 = 68 from rfl) rfl (Nat.le_of_ble_eq_true rfl) ing1 mw_1409 (fv_int rfl) d_MO_token_20 ?_
  have i23 := hS.rng 191 20
  refine r_iconst F.hx F.hb d_MO_token_23 ?_
  refine r_iadd F.hx F.hb d_MO_token_24 ?_
  refine r_putI (N := 68) (T := T1) (j := 20) F hS (show 191 < 231 by decide) (show shK 191 = 5 from rfl) (show shN 191 = 68 from rfl) rfl (Nat.le_of_ble_eq_true rfl) ing1 tyok1 nm1 rfl rfl rfl rfl rfl rfl mw_1409 (inr_w32 _) d_MO_token_25 (fun H locs hS => ?_)
  obtain ⟨M24, eM24⟩ : ∃ q, q = (setI M 191 20 (w32 ((M.1 191 20) + 1))) := ⟨_, rfl⟩
  replace hS : St b C n M24 s H locs := by rw [eM24]; exact hS
  replace hT := qlet_eq hT eM24
  refine lv_goto (tgt := 0) F.hx F.hb d_MO_token_28 (by decide) ?_
  exact hbk0 M24 _ _ _ hS (lv_sub hl [0] rfl) hT
set_option maxHeartbeats 4000000 in
set_option maxRecDepth 100000 in
theorem k_MO_token_L127 (l : Launch) {p : Program} {e : Env} {s : State} {m : MethodId} {below : List Frame} {meth : Method} {c : Code} {b n : Nat} {C : CT} (hlo : 231 ≤ n)   (F : Cx b p m c b_MO_token 2 s ([.ref (b + 191)] : List Value).toArray "WardFallsModel" C n 231) (hlk : meth.locks = false) (hr : meth.sig.returnType = none) {res : Mem} (M : Mem) (v2_ : Int) (hv2_ : InR v2_) (H : Heap) (locs : List Loc) (ls : Array Slot) (hS : St b C n M s H locs) (hl : lv_has ls 2 [(0, .ref (b + 191))]) (hT : t_MO_token_L127 M v2_ = some res) : W p l e (headSpec (wsM y_MO_token b_MO_token 2 (none)) (rmD 5)).room s m ([.ref (b + 191)] : List Value).toArray below meth c H locs 0 0 (MQ below (QV b C n res) ([.ref (b + 191)] : List Value).toArray s 0 0 (frb b)) (F0 m 127 ls [vI v2_, .ref (b + 191)]) := by
  unfold t_MO_token_L127 at hT
  refine r_putI (N := 68) (T := T1) (j := 22) F hS (show 191 < 231 by decide) (show shK 191 = 5 from rfl) (show shN 191 = 68 from rfl) rfl (Nat.le_of_ble_eq_true rfl) ing1 tyok1 nm1 rfl rfl rfl rfl rfl rfl mw_1411 hv2_ d_MO_token_127 (fun H locs hS => ?_)
  obtain ⟨M54, eM54⟩ : ∃ q, q = (setI M 191 22 v2_) := ⟨_, rfl⟩
  replace hS : St b C n M54 s H locs := by rw [eM54]; exact hS
  replace hT := qlet_eq hT eM54
  refine lv_aload_n F.hx F.hb d_MO_token_130 rfl (lv_at hl 0 rfl) ?_
  refine r_get (v := vI (M54.1 191 22)) (N := 68) (T := T1) (j := 22) F hS (show 191 < 231 by decide) (show shK 191 = 5 from rfl) (show shN 191 = 68 from rfl) rfl (Nat.le_of_ble_eq_true rfl) ing1 mw_1411 (fv_int rfl) d_MO_token_131 ?_
  have i55 := hS.rng 191 22
  refine r_iconst F.hx F.hb d_MO_token_134 ?_
  refine r_icmp_ne (tgt := 225) F.hx F.hb i55 (inr_c rfl) d_MO_token_135 (by decide) (fun c56 => ?_) (fun c56 => ?_)
  · replace hT := (if_neg c56).symm.trans hT
    cases hT
    exact r_vret F hlk hr hS d_MO_token_225
  · replace hT := (if_pos c56).symm.trans hT
    refine lv_aload_n F.hx F.hb d_MO_token_138 rfl (lv_at hl 0 rfl) ?_
    obtain ⟨q57, hq57, hT⟩ := q_obind hT
    refine r_backV F hS (r_runV (k := 191) (N := 68) (T := T1) (As := []) F hS (show 191 < 231 by decide) (show shK 191 = 5 from rfl) rfl (c_MO_name l F.2.2.1 M54 _ hq57) gs_MO_177 hd_MO_name ⟨Nat.le_of_ble_eq_true rfl, Nat.le_of_ble_eq_true rfl⟩ rfl hl.1 (Nat.le_of_ble_eq_true rfl) ⟨Nat.zero_le _, Nat.zero_le _⟩ rfl d_MO_token_139) (fun H locs hS => ?_)
    refine lv_goto (tgt := 225) F.hx F.hb d_MO_token_142 (by decide) ?_
    cases hT
    exact r_vret F hlk hr hS d_MO_token_225
set_option maxHeartbeats 4000000 in
set_option maxRecDepth 100000 in
theorem k_MO_token_L64 (l : Launch) {p : Program} {e : Env} {s : State} {m : MethodId} {below : List Frame} {meth : Method} {c : Code} {b n : Nat} {C : CT} (hlo : 231 ≤ n)   (F : Cx b p m c b_MO_token 2 s ([.ref (b + 191)] : List Value).toArray "WardFallsModel" C n 231) (hlk : meth.locks = false) (hr : meth.sig.returnType = none) {res : Mem} : ∀ (fu : Nat) (M : Mem)  (H : Heap) (locs : List Loc) (ls : Array Slot), St b C n M s H locs → lv_has ls 2 [(0, .ref (b + 191))] → t_MO_token_L64 fu M = some res → W p l e (headSpec (wsM y_MO_token b_MO_token 2 (none)) (rmD 5)).room s m ([.ref (b + 191)] : List Value).toArray below meth c H locs 0 0 (MQ below (QV b C n res) ([.ref (b + 191)] : List Value).toArray s 0 0 (frb b)) (F0 m 64 ls []) := by
  intro fu
  induction fu with
  | zero => intro M  H locs ls hS hl hT; exact absurd hT (by simp [t_MO_token_L64])
  | succ fu ih =>
    intro M  H locs ls hS hl hT
    rw [t_MO_token_L64] at hT
    refine lv_aload_n F.hx F.hb d_MO_token_64 rfl (lv_at hl 0 rfl) ?_
    obtain ⟨q36, hq36, hT⟩ := q_obind hT
    refine r_backI F hS (r_runV (k := 191) (N := 68) (T := T1) (As := []) F hS (show 191 < 231 by decide) (show shK 191 = 5 from rfl) rfl (c_MO_here l F.2.2.1 M _ hq36) gs_MO_157 hd_MO_here ⟨Nat.le_of_ble_eq_true rfl, Nat.le_of_ble_eq_true rfl⟩ rfl hl.1 (Nat.le_of_ble_eq_true rfl) ⟨Nat.zero_le _, Nat.zero_le _⟩ rfl d_MO_token_65) (fun H locs hS h37 => ?_)
    obtain ⟨q38, hq38⟩ : ∃ q, q = (t_MO_isSmall M q36) := ⟨_, rfl⟩
    replace hT := qlet_eq hT hq38
    refine r_backZ F hS (r_runS (As := [vI q36]) F hS (c_MO_isSmall l F.2.2.1 M q36 h37 _ hq38.symm) gs_MO_167 hd_MO_isSmall ⟨Nat.le_of_ble_eq_true rfl, Nat.le_of_ble_eq_true rfl⟩ rfl hl.1 (Nat.le_of_ble_eq_true rfl) ⟨Nat.zero_le _, Nat.zero_le _⟩ rfl d_MO_token_68) (fun H locs hS h39 => ?_)
    refine r_if_eq (tgt := 87) F.hx F.hb (inr_z h39) d_MO_token_71 (by decide) (fun c40 => ?_) (fun c40 => ?_)
    · replace hT := (if_pos c40).symm.trans hT
      refine lv_aload_n F.hx F.hb d_MO_token_87 rfl (lv_at hl 0 rfl) ?_
      refine lv_aload_n F.hx F.hb d_MO_token_88 rfl (lv_at hl 0 rfl) ?_
      obtain ⟨q41, hq41, hT⟩ := q_obind hT
      refine r_backI F hS (r_runV (k := 191) (N := 68) (T := T1) (As := []) F hS (show 191 < 231 by decide) (show shK 191 = 5 from rfl) rfl (c_MO_word l F.2.2.1 M _ hq41) gs_MO_171 hd_MO_word ⟨Nat.le_of_ble_eq_true rfl, Nat.le_of_ble_eq_true rfl⟩ rfl hl.1 (Nat.le_of_ble_eq_true rfl) ⟨Nat.zero_le _, Nat.zero_le _⟩ rfl d_MO_token_89) (fun H locs hS h42 => ?_)
      refine r_putI (N := 68) (T := T1) (j := 23) F hS (show 191 < 231 by decide) (show shK 191 = 5 from rfl) (show shN 191 = 68 from rfl) rfl (Nat.le_of_ble_eq_true rfl) ing1 tyok1 nm1 rfl rfl rfl rfl rfl rfl mw_1412 h42 d_MO_token_92 (fun H locs hS => ?_)
      obtain ⟨M43, eM43⟩ : ∃ q, q = (setI M 191 23 q41) := ⟨_, rfl⟩
      replace hS : St b C n M43 s H locs := by rw [eM43]; exact hS
      replace hT := qlet_eq hT eM43
      refine lv_aload_n F.hx F.hb d_MO_token_95 rfl (lv_at hl 0 rfl) ?_
      refine lv_aload_n F.hx F.hb d_MO_token_96 rfl (lv_at hl 0 rfl) ?_
      refine r_get (v := vI (M43.1 191 23)) (N := 68) (T := T1) (j := 23) F hS (show 191 < 231 by decide) (show shK 191 = 5 from rfl) (show shN 191 = 68 from rfl) rfl (Nat.le_of_ble_eq_true rfl) ing1 mw_1412 (fv_int rfl) d_MO_token_97 ?_
      have i44 := hS.rng 191 23
      refine r_iconst F.hx F.hb d_MO_token_100 ?_
      refine r_icmp_eq (tgt := 108) F.hx F.hb i44 (inr_c rfl) d_MO_token_101 (by decide) (fun c45 => ?_) (fun c45 => ?_)
      · replace hT := (if_pos c45).symm.trans hT
        refine lv_aload_n F.hx F.hb d_MO_token_108 rfl (lv_at hl 0 rfl) ?_
        refine r_get (v := vI (M43.1 191 20)) (N := 68) (T := T1) (j := 20) F hS (show 191 < 231 by decide) (show shK 191 = 5 from rfl) (show shN 191 = 68 from rfl) rfl (Nat.le_of_ble_eq_true rfl) ing1 mw_1409 (fv_int rfl) d_MO_token_109 ?_
        have i46 := hS.rng 191 20
        refine lv_aload_n F.hx F.hb d_MO_token_112 rfl (lv_at hl 0 rfl) ?_
        refine r_get (v := vI (M43.1 191 21)) (N := 68) (T := T1) (j := 21) F hS (show 191 < 231 by decide) (show shK 191 = 5 from rfl) (show shN 191 = 68 from rfl) rfl (Nat.le_of_ble_eq_true rfl) ing1 mw_1410 (fv_int rfl) d_MO_token_113 ?_
        have i47 := hS.rng 191 21
        refine r_isub F.hx F.hb d_MO_token_116 ?_
        refine r_bipush F.hx F.hb d_MO_token_117 rfl ?_
        refine r_icmp_le (tgt := 126) F.hx F.hb (inr_w32 _) (inr_c rfl) d_MO_token_119 (by decide) (fun c48 => ?_) (fun c48 => ?_)
        · replace hT := (if_pos c48).symm.trans hT
          refine r_iconst F.hx F.hb d_MO_token_126 ?_
          exact k_MO_token_L127 l hlo F hlk hr M43 1 (inr_c rfl) _ _ _ hS (lv_sub hl [0] rfl) hT
        · replace hT := (if_neg c48).symm.trans hT
          refine r_iconst F.hx F.hb d_MO_token_122 ?_
          refine lv_goto (tgt := 127) F.hx F.hb d_MO_token_123 (by decide) ?_
          exact k_MO_token_L127 l hlo F hlk hr M43 5 (inr_c rfl) _ _ _ hS (lv_sub hl [0] rfl) hT
      · replace hT := (if_neg c45).symm.trans hT
        refine r_iconst F.hx F.hb d_MO_token_104 ?_
        refine lv_goto (tgt := 127) F.hx F.hb d_MO_token_105 (by decide) ?_
        exact k_MO_token_L127 l hlo F hlk hr M43 0 (inr_c rfl) _ _ _ hS (lv_sub hl [0] rfl) hT
    · replace hT := (if_neg c40).symm.trans hT
      refine lv_aload_n F.hx F.hb d_MO_token_74 rfl (lv_at hl 0 rfl) ?_
      refine lv_dup F.hx F.hb d_MO_token_75 rfl ?_
      refine r_get (v := vI (M.1 191 20)) (N := 68) (T := T1) (j := 20) F hS (show 191 < 231 by decide) (show shK 191 = 5 from rfl) (show shN 191 = 68 from rfl) rfl (Nat.le_of_ble_eq_true rfl) ing1 mw_1409 (fv_int rfl) d_MO_token_76 ?_
      have i49 := hS.rng 191 20
      refine r_iconst F.hx F.hb d_MO_token_79 ?_
      refine r_iadd F.hx F.hb d_MO_token_80 ?_
      refine r_putI (N := 68) (T := T1) (j := 20) F hS (show 191 < 231 by decide) (show shK 191 = 5 from rfl) (show shN 191 = 68 from rfl) rfl (Nat.le_of_ble_eq_true rfl) ing1 tyok1 nm1 rfl rfl rfl rfl rfl rfl mw_1409 (inr_w32 _) d_MO_token_81 (fun H locs hS => ?_)
      obtain ⟨M50, eM50⟩ : ∃ q, q = (setI M 191 20 (w32 ((M.1 191 20) + 1))) := ⟨_, rfl⟩
      replace hS : St b C n M50 s H locs := by rw [eM50]; exact hS
      replace hT := qlet_eq hT eM50
      refine lv_goto (tgt := 64) F.hx F.hb d_MO_token_84 (by decide) ?_
      exact ih M50 _ _ _ hS (lv_sub hl [0] rfl) hT
set_option maxHeartbeats 4000000 in
set_option maxRecDepth 100000 in
theorem k_MO_token_L204 (l : Launch) {p : Program} {e : Env} {s : State} {m : MethodId} {below : List Frame} {meth : Method} {c : Code} {b n : Nat} {C : CT} (hlo : 231 ≤ n)   (F : Cx b p m c b_MO_token 2 s ([.ref (b + 191)] : List Value).toArray "WardFallsModel" C n 231) (hlk : meth.locks = false) (hr : meth.sig.returnType = none) {res : Mem} (bk162 : Mem → Option (Mem)) (hbk162 : ∀ (M : Mem)  (H : Heap) (locs : List Loc) (ls : Array Slot), St b C n M s H locs → lv_has ls 2 [(0, .ref (b + 191))] → bk162 M  = some res → W p l e (headSpec (wsM y_MO_token b_MO_token 2 (none)) (rmD 5)).room s m ([.ref (b + 191)] : List Value).toArray below meth c H locs 0 0 (MQ below (QV b C n res) ([.ref (b + 191)] : List Value).toArray s 0 0 (frb b)) (F0 m 162 ls [])) (M : Mem) (v2_ : Int) (hv2_ : InR v2_) (H : Heap) (locs : List Loc) (ls : Array Slot) (hS : St b C n M s H locs) (hl : lv_has ls 2 [(0, .ref (b + 191))]) (hT : t_MO_token_L204 bk162 M v2_ = some res) : W p l e (headSpec (wsM y_MO_token b_MO_token 2 (none)) (rmD 5)).room s m ([.ref (b + 191)] : List Value).toArray below meth c H locs 0 0 (MQ below (QV b C n res) ([.ref (b + 191)] : List Value).toArray s 0 0 (frb b)) (F0 m 204 ls [vI v2_, .ref (b + 191)]) := by
  unfold t_MO_token_L204 at hT
  refine r_putI (N := 68) (T := T1) (j := 23) F hS (show 191 < 231 by decide) (show shK 191 = 5 from rfl) (show shN 191 = 68 from rfl) rfl (Nat.le_of_ble_eq_true rfl) ing1 tyok1 nm1 rfl rfl rfl rfl rfl rfl mw_1412 hv2_ d_MO_token_204 (fun H locs hS => ?_)
  obtain ⟨M51, eM51⟩ : ∃ q, q = (setI M 191 23 v2_) := ⟨_, rfl⟩
  replace hS : St b C n M51 s H locs := by rw [eM51]; exact hS
  replace hT := qlet_eq hT eM51
  refine lv_aload_n F.hx F.hb d_MO_token_207 rfl (lv_at hl 0 rfl) ?_
  refine lv_dup F.hx F.hb d_MO_token_208 rfl ?_
  refine r_get (v := vI (M51.1 191 20)) (N := 68) (T := T1) (j := 20) F hS (show 191 < 231 by decide) (show shK 191 = 5 from rfl) (show shN 191 = 68 from rfl) rfl (Nat.le_of_ble_eq_true rfl) ing1 mw_1409 (fv_int rfl) d_MO_token_209 ?_
  have i52 := hS.rng 191 20
  refine r_iconst F.hx F.hb d_MO_token_212 ?_
  refine r_iadd F.hx F.hb d_MO_token_213 ?_
  refine r_putI (N := 68) (T := T1) (j := 20) F hS (show 191 < 231 by decide) (show shK 191 = 5 from rfl) (show shN 191 = 68 from rfl) rfl (Nat.le_of_ble_eq_true rfl) ing1 tyok1 nm1 rfl rfl rfl rfl rfl rfl mw_1409 (inr_w32 _) d_MO_token_214 (fun H locs hS => ?_)
  obtain ⟨M53, eM53⟩ : ∃ q, q = (setI M51 191 20 (w32 ((M51.1 191 20) + 1))) := ⟨_, rfl⟩
  replace hS : St b C n M53 s H locs := by rw [eM53]; exact hS
  replace hT := qlet_eq hT eM53
  refine lv_goto (tgt := 162) F.hx F.hb d_MO_token_217 (by decide) ?_
  exact hbk162 M53 _ _ _ hS (lv_sub hl [0] rfl) hT
set_option maxHeartbeats 4000000 in
set_option maxRecDepth 100000 in
theorem k_MO_token_L162 (l : Launch) {p : Program} {e : Env} {s : State} {m : MethodId} {below : List Frame} {meth : Method} {c : Code} {b n : Nat} {C : CT} (hlo : 231 ≤ n)   (F : Cx b p m c b_MO_token 2 s ([.ref (b + 191)] : List Value).toArray "WardFallsModel" C n 231) (hlk : meth.locks = false) (hr : meth.sig.returnType = none) {res : Mem} : ∀ (fu : Nat) (M : Mem)  (H : Heap) (locs : List Loc) (ls : Array Slot), St b C n M s H locs → lv_has ls 2 [(0, .ref (b + 191))] → t_MO_token_L162 fu M = some res → W p l e (headSpec (wsM y_MO_token b_MO_token 2 (none)) (rmD 5)).room s m ([.ref (b + 191)] : List Value).toArray below meth c H locs 0 0 (MQ below (QV b C n res) ([.ref (b + 191)] : List Value).toArray s 0 0 (frb b)) (F0 m 162 ls []) := by
  intro fu
  induction fu with
  | zero => intro M  H locs ls hS hl hT; exact absurd hT (by simp [t_MO_token_L162])
  | succ fu ih =>
    intro M  H locs ls hS hl hT
    rw [t_MO_token_L162] at hT
    refine lv_aload_n F.hx F.hb d_MO_token_162 rfl (lv_at hl 0 rfl) ?_
    obtain ⟨q25, hq25, hT⟩ := q_obind hT
    refine r_backI F hS (r_runV (k := 191) (N := 68) (T := T1) (As := []) F hS (show 191 < 231 by decide) (show shK 191 = 5 from rfl) rfl (c_MO_here l F.2.2.1 M _ hq25) gs_MO_157 hd_MO_here ⟨Nat.le_of_ble_eq_true rfl, Nat.le_of_ble_eq_true rfl⟩ rfl hl.1 (Nat.le_of_ble_eq_true rfl) ⟨Nat.zero_le _, Nat.zero_le _⟩ rfl d_MO_token_163) (fun H locs hS h26 => ?_)
    obtain ⟨q27, hq27⟩ : ∃ q, q = (t_MO_isDigit M q25) := ⟨_, rfl⟩
    replace hT := qlet_eq hT hq27
    refine r_backZ F hS (r_runS (As := [vI q25]) F hS (c_MO_isDigit l F.2.2.1 M q25 h26 _ hq27.symm) gs_MO_180 hd_MO_isDigit ⟨Nat.le_of_ble_eq_true rfl, Nat.le_of_ble_eq_true rfl⟩ rfl hl.1 (Nat.le_of_ble_eq_true rfl) ⟨Nat.zero_le _, Nat.zero_le _⟩ rfl d_MO_token_166) (fun H locs hS h28 => ?_)
    refine r_if_eq (tgt := 225) F.hx F.hb (inr_z h28) d_MO_token_169 (by decide) (fun c29 => ?_) (fun c29 => ?_)
    · replace hT := (if_pos c29).symm.trans hT
      cases hT
      exact r_vret F hlk hr hS d_MO_token_225
    · replace hT := (if_neg c29).symm.trans hT
      refine lv_aload_n F.hx F.hb d_MO_token_172 rfl (lv_at hl 0 rfl) ?_
      refine lv_aload_n F.hx F.hb d_MO_token_173 rfl (lv_at hl 0 rfl) ?_
      refine r_get (v := vI (M.1 191 23)) (N := 68) (T := T1) (j := 23) F hS (show 191 < 231 by decide) (show shK 191 = 5 from rfl) (show shN 191 = 68 from rfl) rfl (Nat.le_of_ble_eq_true rfl) ing1 mw_1412 (fv_int rfl) d_MO_token_174 ?_
      have i30 := hS.rng 191 23
      refine lv_ldc (v := Int32.ofInt 99999) F.hx F.hb F.hown (F.hts mw_1632) d_MO_token_177 ?_
      refine r_icmp_le (tgt := 189) F.hx F.hb i30 (inr_c rfl) d_MO_token_179 (by decide) (fun c31 => ?_) (fun c31 => ?_)
      · replace hT := (if_pos c31).symm.trans hT
        refine r_bipush F.hx F.hb d_MO_token_189 rfl ?_
        refine lv_aload_n F.hx F.hb d_MO_token_191 rfl (lv_at hl 0 rfl) ?_
        refine r_get (v := vI (M.1 191 23)) (N := 68) (T := T1) (j := 23) F hS (show 191 < 231 by decide) (show shK 191 = 5 from rfl) (show shN 191 = 68 from rfl) rfl (Nat.le_of_ble_eq_true rfl) ing1 mw_1412 (fv_int rfl) d_MO_token_192 ?_
        have i32 := hS.rng 191 23
        refine r_imul F.hx F.hb d_MO_token_195 ?_
        refine lv_aload_n F.hx F.hb d_MO_token_196 rfl (lv_at hl 0 rfl) ?_
        obtain ⟨q33, hq33, hT⟩ := q_obind hT
        refine r_backI F hS (r_runV (k := 191) (N := 68) (T := T1) (As := []) F hS (show 191 < 231 by decide) (show shK 191 = 5 from rfl) rfl (c_MO_here l F.2.2.1 M _ hq33) gs_MO_157 hd_MO_here ⟨Nat.le_of_ble_eq_true rfl, Nat.le_of_ble_eq_true rfl⟩ rfl hl.1 (Nat.le_of_ble_eq_true rfl) ⟨Nat.zero_le _, Nat.zero_le _⟩ rfl d_MO_token_197) (fun H locs hS h34 => ?_)
        refine r_iadd F.hx F.hb d_MO_token_200 ?_
        refine r_bipush F.hx F.hb d_MO_token_201 rfl ?_
        refine r_isub F.hx F.hb d_MO_token_203 ?_
        exact k_MO_token_L204 l hlo F hlk hr (fun a0_ => t_MO_token_L162 fu a0_) ih M (w32 ((w32 ((w32 (10 * (M.1 191 23))) + q33)) - 48)) (inr_w32 _) _ _ _ hS (lv_sub hl [0] rfl) hT
      · replace hT := (if_neg c31).symm.trans hT
        refine lv_aload_n F.hx F.hb d_MO_token_182 rfl (lv_at hl 0 rfl) ?_
        refine r_get (v := vI (M.1 191 23)) (N := 68) (T := T1) (j := 23) F hS (show 191 < 231 by decide) (show shK 191 = 5 from rfl) (show shN 191 = 68 from rfl) rfl (Nat.le_of_ble_eq_true rfl) ing1 mw_1412 (fv_int rfl) d_MO_token_183 ?_
        have i35 := hS.rng 191 23
        refine lv_goto (tgt := 204) F.hx F.hb d_MO_token_186 (by decide) ?_
        exact k_MO_token_L204 l hlo F hlk hr (fun a0_ => t_MO_token_L162 fu a0_) ih M (M.1 191 23) i35 _ _ _ hS (lv_sub hl [0] rfl) hT
set_option maxHeartbeats 4000000 in
set_option maxRecDepth 100000 in
theorem k_MO_token_L0 (l : Launch) {p : Program} {e : Env} {s : State} {m : MethodId} {below : List Frame} {meth : Method} {c : Code} {b n : Nat} {C : CT} (hlo : 231 ≤ n)   (F : Cx b p m c b_MO_token 2 s ([.ref (b + 191)] : List Value).toArray "WardFallsModel" C n 231) (hlk : meth.locks = false) (hr : meth.sig.returnType = none) {res : Mem} : ∀ (fu : Nat) (M : Mem)  (H : Heap) (locs : List Loc) (ls : Array Slot), St b C n M s H locs → lv_has ls 2 [(0, .ref (b + 191))] → t_MO_token_L0 fu M = some res → W p l e (headSpec (wsM y_MO_token b_MO_token 2 (none)) (rmD 5)).room s m ([.ref (b + 191)] : List Value).toArray below meth c H locs 0 0 (MQ below (QV b C n res) ([.ref (b + 191)] : List Value).toArray s 0 0 (frb b)) (F0 m 0 ls []) := by
  intro fu
  induction fu with
  | zero => intro M  H locs ls hS hl hT; exact absurd hT (by simp [t_MO_token_L0])
  | succ fu ih =>
    intro M  H locs ls hS hl hT
    rw [t_MO_token_L0] at hT
    refine lv_aload_n F.hx F.hb d_MO_token_0 rfl (lv_at hl 0 rfl) ?_
    obtain ⟨q1, hq1, hT⟩ := q_obind hT
    refine r_backI F hS (r_runV (k := 191) (N := 68) (T := T1) (As := []) F hS (show 191 < 231 by decide) (show shK 191 = 5 from rfl) rfl (c_MO_here l F.2.2.1 M _ hq1) gs_MO_157 hd_MO_here ⟨Nat.le_of_ble_eq_true rfl, Nat.le_of_ble_eq_true rfl⟩ rfl hl.1 (Nat.le_of_ble_eq_true rfl) ⟨Nat.zero_le _, Nat.zero_le _⟩ rfl d_MO_token_1) (fun H locs hS h2 => ?_)
    refine r_bipush F.hx F.hb d_MO_token_4 rfl ?_
    refine r_icmp_eq (tgt := 18) F.hx F.hb h2 (inr_c rfl) d_MO_token_6 (by decide) (fun c3 => ?_) (fun c3 => ?_)
    · replace hT := (if_pos c3).symm.trans hT
      exact k_MO_token_L18 l hlo F hlk hr (fun a0_ => t_MO_token_L0 fu a0_) ih M _ _ _ hS (lv_sub hl [0] rfl) hT
    · replace hT := (if_neg c3).symm.trans hT
      refine lv_aload_n F.hx F.hb d_MO_token_9 rfl (lv_at hl 0 rfl) ?_
      obtain ⟨q4, hq4, hT⟩ := q_obind hT
      refine r_backI F hS (r_runV (k := 191) (N := 68) (T := T1) (As := []) F hS (show 191 < 231 by decide) (show shK 191 = 5 from rfl) rfl (c_MO_here l F.2.2.1 M _ hq4) gs_MO_157 hd_MO_here ⟨Nat.le_of_ble_eq_true rfl, Nat.le_of_ble_eq_true rfl⟩ rfl hl.1 (Nat.le_of_ble_eq_true rfl) ⟨Nat.zero_le _, Nat.zero_le _⟩ rfl d_MO_token_10) (fun H locs hS h5 => ?_)
      refine r_bipush F.hx F.hb d_MO_token_13 rfl ?_
      refine r_icmp_ne (tgt := 31) F.hx F.hb h5 (inr_c rfl) d_MO_token_15 (by decide) (fun c6 => ?_) (fun c6 => ?_)
      · replace hT := (if_neg c6).symm.trans hT
        refine lv_aload_n F.hx F.hb d_MO_token_31 rfl (lv_at hl 0 rfl) ?_
        refine lv_aload_n F.hx F.hb d_MO_token_32 rfl (lv_at hl 0 rfl) ?_
        refine r_get (v := vI (M.1 191 20)) (N := 68) (T := T1) (j := 20) F hS (show 191 < 231 by decide) (show shK 191 = 5 from rfl) (show shN 191 = 68 from rfl) rfl (Nat.le_of_ble_eq_true rfl) ing1 mw_1409 (fv_int rfl) d_MO_token_33 ?_
        have i7 := hS.rng 191 20
        refine r_putI (N := 68) (T := T1) (j := 21) F hS (show 191 < 231 by decide) (show shK 191 = 5 from rfl) (show shN 191 = 68 from rfl) rfl (Nat.le_of_ble_eq_true rfl) ing1 tyok1 nm1 rfl rfl rfl rfl rfl rfl mw_1410 i7 d_MO_token_36 (fun H locs hS => ?_)
        obtain ⟨M8, eM8⟩ : ∃ q, q = (setI M 191 21 (M.1 191 20)) := ⟨_, rfl⟩
        replace hS : St b C n M8 s H locs := by rw [eM8]; exact hS
        replace hT := qlet_eq hT eM8
        refine lv_aload_n F.hx F.hb d_MO_token_39 rfl (lv_at hl 0 rfl) ?_
        obtain ⟨q9, hq9, hT⟩ := q_obind hT
        refine r_backI F hS (r_runV (k := 191) (N := 68) (T := T1) (As := []) F hS (show 191 < 231 by decide) (show shK 191 = 5 from rfl) rfl (c_MO_here l F.2.2.1 M8 _ hq9) gs_MO_157 hd_MO_here ⟨Nat.le_of_ble_eq_true rfl, Nat.le_of_ble_eq_true rfl⟩ rfl hl.1 (Nat.le_of_ble_eq_true rfl) ⟨Nat.zero_le _, Nat.zero_le _⟩ rfl d_MO_token_40) (fun H locs hS h10 => ?_)
        refine lv_istore_n (lv' := [(1, vI q9), (0, .ref (b + 191))]) F.hx F.hb d_MO_token_43 rfl hl (Nat.le_of_ble_eq_true rfl) rfl (fun ls hl => ?_)
        refine lv_iload_n F.hx F.hb d_MO_token_44 rfl (lv_at hl 0 rfl) ?_
        refine r_iconst F.hx F.hb d_MO_token_45 ?_
        refine r_icmp_ne (tgt := 57) F.hx F.hb h10 (inr_c rfl) d_MO_token_46 (by decide) (fun c11 => ?_) (fun c11 => ?_)
        · replace hT := (if_neg c11).symm.trans hT
          refine lv_iload_n F.hx F.hb d_MO_token_57 rfl (lv_at hl 0 rfl) ?_
          obtain ⟨q12, hq12⟩ : ∃ q, q = (t_MO_isSmall M8 q9) := ⟨_, rfl⟩
          replace hT := qlet_eq hT hq12
          refine r_backZ F hS (r_runS (As := [vI q9]) F hS (c_MO_isSmall l F.2.2.1 M8 q9 h10 _ hq12.symm) gs_MO_167 hd_MO_isSmall ⟨Nat.le_of_ble_eq_true rfl, Nat.le_of_ble_eq_true rfl⟩ rfl hl.1 (Nat.le_of_ble_eq_true rfl) ⟨Nat.zero_le _, Nat.zero_le _⟩ rfl d_MO_token_58) (fun H locs hS h13 => ?_)
          refine r_if_eq (tgt := 145) F.hx F.hb (inr_z h13) d_MO_token_61 (by decide) (fun c14 => ?_) (fun c14 => ?_)
          · replace hT := (if_pos c14).symm.trans hT
            refine lv_iload_n F.hx F.hb d_MO_token_145 rfl (lv_at hl 0 rfl) ?_
            obtain ⟨q15, hq15⟩ : ∃ q, q = (t_MO_isDigit M8 q9) := ⟨_, rfl⟩
            replace hT := qlet_eq hT hq15
            refine r_backZ F hS (r_runS (As := [vI q9]) F hS (c_MO_isDigit l F.2.2.1 M8 q9 h10 _ hq15.symm) gs_MO_180 hd_MO_isDigit ⟨Nat.le_of_ble_eq_true rfl, Nat.le_of_ble_eq_true rfl⟩ rfl hl.1 (Nat.le_of_ble_eq_true rfl) ⟨Nat.zero_le _, Nat.zero_le _⟩ rfl d_MO_token_146) (fun H locs hS h16 => ?_)
            refine r_if_eq (tgt := 220) F.hx F.hb (inr_z h16) d_MO_token_149 (by decide) (fun c17 => ?_) (fun c17 => ?_)
            · replace hT := (if_pos c17).symm.trans hT
              refine lv_aload_n F.hx F.hb d_MO_token_220 rfl (lv_at hl 1 rfl) ?_
              refine lv_iload_n F.hx F.hb d_MO_token_221 rfl (lv_at hl 0 rfl) ?_
              obtain ⟨q18, hq18, hT⟩ := q_obind hT
              refine r_backV F hS (r_runV (k := 191) (N := 68) (T := T1) (As := [vI q9]) F hS (show 191 < 231 by decide) (show shK 191 = 5 from rfl) rfl (c_MO_sign l F.2.2.1 M8 q9 h10 _ hq18) gs_MO_184 hd_MO_sign ⟨Nat.le_of_ble_eq_true rfl, Nat.le_of_ble_eq_true rfl⟩ rfl hl.1 (Nat.le_of_ble_eq_true rfl) ⟨Nat.zero_le _, Nat.zero_le _⟩ rfl d_MO_token_222) (fun H locs hS => ?_)
              cases hT
              exact r_vret F hlk hr hS d_MO_token_225
            · replace hT := (if_neg c17).symm.trans hT
              refine lv_aload_n F.hx F.hb d_MO_token_152 rfl (lv_at hl 1 rfl) ?_
              refine r_iconst F.hx F.hb d_MO_token_153 ?_
              refine r_putI (N := 68) (T := T1) (j := 22) F hS (show 191 < 231 by decide) (show shK 191 = 5 from rfl) (show shN 191 = 68 from rfl) rfl (Nat.le_of_ble_eq_true rfl) ing1 tyok1 nm1 rfl rfl rfl rfl rfl rfl mw_1411 (inr_c rfl) d_MO_token_154 (fun H locs hS => ?_)
              obtain ⟨M20, eM20⟩ : ∃ q, q = (setI M8 191 22 2) := ⟨_, rfl⟩
              replace hS : St b C n M20 s H locs := by rw [eM20]; exact hS
              replace hT := qlet_eq hT eM20
              refine lv_aload_n F.hx F.hb d_MO_token_157 rfl (lv_at hl 1 rfl) ?_
              refine r_iconst F.hx F.hb d_MO_token_158 ?_
              refine r_putI (N := 68) (T := T1) (j := 23) F hS (show 191 < 231 by decide) (show shK 191 = 5 from rfl) (show shN 191 = 68 from rfl) rfl (Nat.le_of_ble_eq_true rfl) ing1 tyok1 nm1 rfl rfl rfl rfl rfl rfl mw_1412 (inr_c rfl) d_MO_token_159 (fun H locs hS => ?_)
              obtain ⟨M21, eM21⟩ : ∃ q, q = (setI M20 191 23 0) := ⟨_, rfl⟩
              replace hS : St b C n M21 s H locs := by rw [eM21]; exact hS
              replace hT := qlet_eq hT eM21
              exact k_MO_token_L162 l hlo F hlk hr FU M21 _ _ _ hS (lv_sub hl [1] rfl) hT
          · replace hT := (if_neg c14).symm.trans hT
            exact k_MO_token_L64 l hlo F hlk hr FU M8 _ _ _ hS (lv_sub hl [1] rfl) hT
        · replace hT := (if_pos c11).symm.trans hT
          refine lv_aload_n F.hx F.hb d_MO_token_49 rfl (lv_at hl 1 rfl) ?_
          refine r_iconst F.hx F.hb d_MO_token_50 ?_
          refine r_putI (N := 68) (T := T1) (j := 22) F hS (show 191 < 231 by decide) (show shK 191 = 5 from rfl) (show shN 191 = 68 from rfl) rfl (Nat.le_of_ble_eq_true rfl) ing1 tyok1 nm1 rfl rfl rfl rfl rfl rfl mw_1411 (inr_c rfl) d_MO_token_51 (fun H locs hS => ?_)
          obtain ⟨M22, eM22⟩ : ∃ q, q = (setI M8 191 22 4) := ⟨_, rfl⟩
          replace hS : St b C n M22 s H locs := by rw [eM22]; exact hS
          replace hT := qlet_eq hT eM22
          refine lv_goto (tgt := 225) F.hx F.hb d_MO_token_54 (by decide) ?_
          cases hT
          exact r_vret F hlk hr hS d_MO_token_225
      · replace hT := (if_pos c6).symm.trans hT
        exact k_MO_token_L18 l hlo F hlk hr (fun a0_ => t_MO_token_L0 fu a0_) ih M _ _ _ hS (lv_sub hl [0] rfl) hT
set_option maxHeartbeats 4000000 in
set_option maxRecDepth 100000 in
theorem c_MO_token (l : Launch) {b n : Nat} {C : CT} (hlo : 231 ≤ n) (M : Mem)   (res : Mem) (hT : t_MO_token M  = some res) : CM l b C n 5 y_MO_token b_MO_token 2 (none) [.ref (b + 191)] M (QV b C n res) := by
  refine CM.of (lo := 231) (ow := "WardFallsModel") (by decide) rfl (Nat.le_of_ble_eq_true rfl) hlo (fun p e s m below meth c F hlk hr hS ls hl => ?_)
  have hl : lv_has ls 2 [(0, .ref (b + 191))] := hl
  unfold t_MO_token at hT
  exact k_MO_token_L0 l hlo F hlk hr FU M _ _ _ hS (lv_sub hl [0] rfl) hT
theorem d_MO_wrong_0 : decode b_MO_wrong 0 = .ok (.aload_n 0, 1) := dc_42 (by decide +kernel)
theorem d_MO_wrong_1 : decode b_MO_wrong 1 = .ok (.getfield 199, 3) := dc_180 (by decide +kernel)
theorem d_MO_wrong_4 : decode b_MO_wrong 4 = .ok (.ifCond .eq 4, 3) := dc_153 (by decide +kernel)
theorem d_MO_wrong_7 : decode b_MO_wrong 7 = .ok (.return_, 1) := dc_177 (by decide +kernel)
theorem d_MO_wrong_8 : decode b_MO_wrong 8 = .ok (.aload_n 0, 1) := dc_42 (by decide +kernel)
theorem d_MO_wrong_9 : decode b_MO_wrong 9 = .ok (.iload_n 1, 1) := dc_27 (by decide +kernel)
theorem d_MO_wrong_10 : decode b_MO_wrong 10 = .ok (.putfield 199, 3) := dc_181 (by decide +kernel)
theorem d_MO_wrong_13 : decode b_MO_wrong 13 = .ok (.aload_n 0, 1) := dc_42 (by decide +kernel)
theorem d_MO_wrong_14 : decode b_MO_wrong 14 = .ok (.aload_n 0, 1) := dc_42 (by decide +kernel)
theorem d_MO_wrong_15 : decode b_MO_wrong 15 = .ok (.getfield 161, 3) := dc_180 (by decide +kernel)
theorem d_MO_wrong_18 : decode b_MO_wrong 18 = .ok (.putfield 202, 3) := dc_181 (by decide +kernel)
theorem d_MO_wrong_21 : decode b_MO_wrong 21 = .ok (.return_, 1) := dc_177 (by decide +kernel)
def t_MO_wrong (M : Mem) (x1 : Int) : Mem := (if (M.1 191 24) = 0 then (qlet (setI M 191 24 x1) fun M3 => (qlet (setI M3 191 25 (M3.1 191 21)) fun M5 => M5)) else M)
set_option maxHeartbeats 4000000 in
set_option maxRecDepth 100000 in
theorem c_MO_wrong (l : Launch) {b n : Nat} {C : CT} (hlo : 231 ≤ n) (M : Mem) (x1 : Int) (hx1 : InR x1) (res : Mem) (hT : t_MO_wrong M x1 = res) : CM l b C n 0 y_MO_wrong b_MO_wrong 2 (none) [.ref (b + 191), vI x1] M (QV b C n res) := by
  refine CM.of (lo := 231) (ow := "WardFallsModel") (by decide) rfl (Nat.le_of_ble_eq_true rfl) hlo (fun p e s m below meth c F hlk hr hS ls hl => ?_)
  have hl : lv_has ls 2 [(0, .ref (b + 191)), (1, vI x1)] := hl
  unfold t_MO_wrong at hT
  refine lv_aload_n F.hx F.hb d_MO_wrong_0 rfl (lv_at hl 0 rfl) ?_
  refine r_get (v := vI (M.1 191 24)) (N := 68) (T := T1) (j := 24) F hS (show 191 < 231 by decide) (show shK 191 = 5 from rfl) (show shN 191 = 68 from rfl) rfl (Nat.le_of_ble_eq_true rfl) ing1 mw_1413 (fv_int rfl) d_MO_wrong_1 ?_
  have i1 := hS.rng 191 24
  refine r_if_eq (tgt := 8) F.hx F.hb i1 d_MO_wrong_4 (by decide) (fun c2 => ?_) (fun c2 => ?_)
  · replace hT := (if_pos c2).symm.trans hT
    refine lv_aload_n F.hx F.hb d_MO_wrong_8 rfl (lv_at hl 0 rfl) ?_
    refine lv_iload_n F.hx F.hb d_MO_wrong_9 rfl (lv_at hl 1 rfl) ?_
    refine r_putI (N := 68) (T := T1) (j := 24) F hS (show 191 < 231 by decide) (show shK 191 = 5 from rfl) (show shN 191 = 68 from rfl) rfl (Nat.le_of_ble_eq_true rfl) ing1 tyok1 nm1 rfl rfl rfl rfl rfl rfl mw_1413 hx1 d_MO_wrong_10 (fun H locs hS => ?_)
    obtain ⟨M3, eM3⟩ : ∃ q, q = (setI M 191 24 x1) := ⟨_, rfl⟩
    replace hS : St b C n M3 s H locs := by rw [eM3]; exact hS
    replace hT := qlet_eq hT eM3
    refine lv_aload_n F.hx F.hb d_MO_wrong_13 rfl (lv_at hl 0 rfl) ?_
    refine lv_aload_n F.hx F.hb d_MO_wrong_14 rfl (lv_at hl 0 rfl) ?_
    refine r_get (v := vI (M3.1 191 21)) (N := 68) (T := T1) (j := 21) F hS (show 191 < 231 by decide) (show shK 191 = 5 from rfl) (show shN 191 = 68 from rfl) rfl (Nat.le_of_ble_eq_true rfl) ing1 mw_1410 (fv_int rfl) d_MO_wrong_15 ?_
    have i4 := hS.rng 191 21
    refine r_putI (N := 68) (T := T1) (j := 25) F hS (show 191 < 231 by decide) (show shK 191 = 5 from rfl) (show shN 191 = 68 from rfl) rfl (Nat.le_of_ble_eq_true rfl) ing1 tyok1 nm1 rfl rfl rfl rfl rfl rfl mw_1414 i4 d_MO_wrong_18 (fun H locs hS => ?_)
    obtain ⟨M5, eM5⟩ : ∃ q, q = (setI M3 191 25 (M3.1 191 21)) := ⟨_, rfl⟩
    replace hS : St b C n M5 s H locs := by rw [eM5]; exact hS
    replace hT := qlet_eq hT eM5
    subst hT
    exact r_vret F hlk hr hS d_MO_wrong_21
  · replace hT := (if_neg c2).symm.trans hT
    subst hT
    exact r_vret F hlk hr hS d_MO_wrong_7
theorem d_MO_isWord_0 : decode b_MO_isWord 0 = .ok (.aload_n 0, 1) := dc_42 (by decide +kernel)
theorem d_MO_isWord_1 : decode b_MO_isWord 1 = .ok (.getfield 199, 3) := dc_180 (by decide +kernel)
theorem d_MO_isWord_4 : decode b_MO_isWord 4 = .ok (.ifCond .ne 22, 3) := dc_154 (by decide +kernel)
theorem d_MO_isWord_7 : decode b_MO_isWord 7 = .ok (.aload_n 0, 1) := dc_42 (by decide +kernel)
theorem d_MO_isWord_8 : decode b_MO_isWord 8 = .ok (.getfield 164, 3) := dc_180 (by decide +kernel)
theorem d_MO_isWord_11 : decode b_MO_isWord 11 = .ok (.ifCond .ne 15, 3) := dc_154 (by decide +kernel)
theorem d_MO_isWord_14 : decode b_MO_isWord 14 = .ok (.aload_n 0, 1) := dc_42 (by decide +kernel)
theorem d_MO_isWord_15 : decode b_MO_isWord 15 = .ok (.getfield 174, 3) := dc_180 (by decide +kernel)
theorem d_MO_isWord_18 : decode b_MO_isWord 18 = .ok (.iload_n 1, 1) := dc_27 (by decide +kernel)
theorem d_MO_isWord_19 : decode b_MO_isWord 19 = .ok (.if_icmp .ne 7, 3) := dc_160 (by decide +kernel)
theorem d_MO_isWord_22 : decode b_MO_isWord 22 = .ok (.iconst 1, 1) := dc_4 (by decide +kernel)
theorem d_MO_isWord_23 : decode b_MO_isWord 23 = .ok (.goto 4, 3) := dc_167 (by decide +kernel)
theorem d_MO_isWord_26 : decode b_MO_isWord 26 = .ok (.iconst 0, 1) := dc_3 (by decide +kernel)
theorem d_MO_isWord_27 : decode b_MO_isWord 27 = .ok (.ireturn, 1) := dc_172 (by decide +kernel)
def t_MO_isWord (M : Mem) (x1 : Int) : Int := (if (M.1 191 24) = 0 then (if (M.1 191 22) = 0 then (if (M.1 191 23) = x1 then 1 else 0) else 0) else 0)
set_option maxHeartbeats 4000000 in
set_option maxRecDepth 100000 in
theorem c_MO_isWord (l : Launch) {b n : Nat} {C : CT} (hlo : 231 ≤ n) (M : Mem) (x1 : Int) (hx1 : InR x1) (res : Int) (hT : t_MO_isWord M x1 = res) : CM l b C n 0 y_MO_isWord b_MO_isWord 2 (some .boolean) [.ref (b + 191), vI x1] M (QZ b C n M res) := by
  refine CM.of (lo := 231) (ow := "WardFallsModel") (by decide) rfl (Nat.le_of_ble_eq_true rfl) hlo (fun p e s m below meth c F hlk hr hS ls hl => ?_)
  have hl : lv_has ls 2 [(0, .ref (b + 191)), (1, vI x1)] := hl
  unfold t_MO_isWord at hT
  refine lv_aload_n F.hx F.hb d_MO_isWord_0 rfl (lv_at hl 0 rfl) ?_
  refine r_get (v := vI (M.1 191 24)) (N := 68) (T := T1) (j := 24) F hS (show 191 < 231 by decide) (show shK 191 = 5 from rfl) (show shN 191 = 68 from rfl) rfl (Nat.le_of_ble_eq_true rfl) ing1 mw_1413 (fv_int rfl) d_MO_isWord_1 ?_
  have i1 := hS.rng 191 24
  refine r_if_ne (tgt := 26) F.hx F.hb i1 d_MO_isWord_4 (by decide) (fun c2 => ?_) (fun c2 => ?_)
  · replace hT := (if_neg c2).symm.trans hT
    refine r_iconst F.hx F.hb d_MO_isWord_26 ?_
    subst hT
    exact r_zret F hlk hr hS (Or.inl rfl) d_MO_isWord_27
  · replace hT := (if_pos c2).symm.trans hT
    refine lv_aload_n F.hx F.hb d_MO_isWord_7 rfl (lv_at hl 0 rfl) ?_
    refine r_get (v := vI (M.1 191 22)) (N := 68) (T := T1) (j := 22) F hS (show 191 < 231 by decide) (show shK 191 = 5 from rfl) (show shN 191 = 68 from rfl) rfl (Nat.le_of_ble_eq_true rfl) ing1 mw_1411 (fv_int rfl) d_MO_isWord_8 ?_
    have i3 := hS.rng 191 22
    refine r_if_ne (tgt := 26) F.hx F.hb i3 d_MO_isWord_11 (by decide) (fun c4 => ?_) (fun c4 => ?_)
    · replace hT := (if_neg c4).symm.trans hT
      refine r_iconst F.hx F.hb d_MO_isWord_26 ?_
      subst hT
      exact r_zret F hlk hr hS (Or.inl rfl) d_MO_isWord_27
    · replace hT := (if_pos c4).symm.trans hT
      refine lv_aload_n F.hx F.hb d_MO_isWord_14 rfl (lv_at hl 0 rfl) ?_
      refine r_get (v := vI (M.1 191 23)) (N := 68) (T := T1) (j := 23) F hS (show 191 < 231 by decide) (show shK 191 = 5 from rfl) (show shN 191 = 68 from rfl) rfl (Nat.le_of_ble_eq_true rfl) ing1 mw_1412 (fv_int rfl) d_MO_isWord_15 ?_
      have i5 := hS.rng 191 23
      refine lv_iload_n F.hx F.hb d_MO_isWord_18 rfl (lv_at hl 1 rfl) ?_
      refine r_icmp_ne (tgt := 26) F.hx F.hb i5 hx1 d_MO_isWord_19 (by decide) (fun c6 => ?_) (fun c6 => ?_)
      · replace hT := (if_neg c6).symm.trans hT
        refine r_iconst F.hx F.hb d_MO_isWord_26 ?_
        subst hT
        exact r_zret F hlk hr hS (Or.inl rfl) d_MO_isWord_27
      · replace hT := (if_pos c6).symm.trans hT
        refine r_iconst F.hx F.hb d_MO_isWord_22 ?_
        refine lv_goto (tgt := 27) F.hx F.hb d_MO_isWord_23 (by decide) ?_
        subst hT
        exact r_zret F hlk hr hS (Or.inr rfl) d_MO_isWord_27
theorem d_MO_isSign_0 : decode b_MO_isSign 0 = .ok (.aload_n 0, 1) := dc_42 (by decide +kernel)
theorem d_MO_isSign_1 : decode b_MO_isSign 1 = .ok (.getfield 199, 3) := dc_180 (by decide +kernel)
theorem d_MO_isSign_4 : decode b_MO_isSign 4 = .ok (.ifCond .ne 23, 3) := dc_154 (by decide +kernel)
theorem d_MO_isSign_7 : decode b_MO_isSign 7 = .ok (.aload_n 0, 1) := dc_42 (by decide +kernel)
theorem d_MO_isSign_8 : decode b_MO_isSign 8 = .ok (.getfield 164, 3) := dc_180 (by decide +kernel)
theorem d_MO_isSign_11 : decode b_MO_isSign 11 = .ok (.iconst 3, 1) := dc_6 (by decide +kernel)
theorem d_MO_isSign_12 : decode b_MO_isSign 12 = .ok (.if_icmp .ne 15, 3) := dc_160 (by decide +kernel)
theorem d_MO_isSign_15 : decode b_MO_isSign 15 = .ok (.aload_n 0, 1) := dc_42 (by decide +kernel)
theorem d_MO_isSign_16 : decode b_MO_isSign 16 = .ok (.getfield 174, 3) := dc_180 (by decide +kernel)
theorem d_MO_isSign_19 : decode b_MO_isSign 19 = .ok (.iload_n 1, 1) := dc_27 (by decide +kernel)
theorem d_MO_isSign_20 : decode b_MO_isSign 20 = .ok (.if_icmp .ne 7, 3) := dc_160 (by decide +kernel)
theorem d_MO_isSign_23 : decode b_MO_isSign 23 = .ok (.iconst 1, 1) := dc_4 (by decide +kernel)
theorem d_MO_isSign_24 : decode b_MO_isSign 24 = .ok (.goto 4, 3) := dc_167 (by decide +kernel)
theorem d_MO_isSign_27 : decode b_MO_isSign 27 = .ok (.iconst 0, 1) := dc_3 (by decide +kernel)
theorem d_MO_isSign_28 : decode b_MO_isSign 28 = .ok (.ireturn, 1) := dc_172 (by decide +kernel)
def t_MO_isSign (M : Mem) (x1 : Int) : Int := (if (M.1 191 24) = 0 then (if (M.1 191 22) = 3 then (if (M.1 191 23) = x1 then 1 else 0) else 0) else 0)
set_option maxHeartbeats 4000000 in
set_option maxRecDepth 100000 in
theorem c_MO_isSign (l : Launch) {b n : Nat} {C : CT} (hlo : 231 ≤ n) (M : Mem) (x1 : Int) (hx1 : InR x1) (res : Int) (hT : t_MO_isSign M x1 = res) : CM l b C n 0 y_MO_isSign b_MO_isSign 2 (some .boolean) [.ref (b + 191), vI x1] M (QZ b C n M res) := by
  refine CM.of (lo := 231) (ow := "WardFallsModel") (by decide) rfl (Nat.le_of_ble_eq_true rfl) hlo (fun p e s m below meth c F hlk hr hS ls hl => ?_)
  have hl : lv_has ls 2 [(0, .ref (b + 191)), (1, vI x1)] := hl
  unfold t_MO_isSign at hT
  refine lv_aload_n F.hx F.hb d_MO_isSign_0 rfl (lv_at hl 0 rfl) ?_
  refine r_get (v := vI (M.1 191 24)) (N := 68) (T := T1) (j := 24) F hS (show 191 < 231 by decide) (show shK 191 = 5 from rfl) (show shN 191 = 68 from rfl) rfl (Nat.le_of_ble_eq_true rfl) ing1 mw_1413 (fv_int rfl) d_MO_isSign_1 ?_
  have i1 := hS.rng 191 24
  refine r_if_ne (tgt := 27) F.hx F.hb i1 d_MO_isSign_4 (by decide) (fun c2 => ?_) (fun c2 => ?_)
  · replace hT := (if_neg c2).symm.trans hT
    refine r_iconst F.hx F.hb d_MO_isSign_27 ?_
    subst hT
    exact r_zret F hlk hr hS (Or.inl rfl) d_MO_isSign_28
  · replace hT := (if_pos c2).symm.trans hT
    refine lv_aload_n F.hx F.hb d_MO_isSign_7 rfl (lv_at hl 0 rfl) ?_
    refine r_get (v := vI (M.1 191 22)) (N := 68) (T := T1) (j := 22) F hS (show 191 < 231 by decide) (show shK 191 = 5 from rfl) (show shN 191 = 68 from rfl) rfl (Nat.le_of_ble_eq_true rfl) ing1 mw_1411 (fv_int rfl) d_MO_isSign_8 ?_
    have i3 := hS.rng 191 22
    refine r_iconst F.hx F.hb d_MO_isSign_11 ?_
    refine r_icmp_ne (tgt := 27) F.hx F.hb i3 (inr_c rfl) d_MO_isSign_12 (by decide) (fun c4 => ?_) (fun c4 => ?_)
    · replace hT := (if_neg c4).symm.trans hT
      refine r_iconst F.hx F.hb d_MO_isSign_27 ?_
      subst hT
      exact r_zret F hlk hr hS (Or.inl rfl) d_MO_isSign_28
    · replace hT := (if_pos c4).symm.trans hT
      refine lv_aload_n F.hx F.hb d_MO_isSign_15 rfl (lv_at hl 0 rfl) ?_
      refine r_get (v := vI (M.1 191 23)) (N := 68) (T := T1) (j := 23) F hS (show 191 < 231 by decide) (show shK 191 = 5 from rfl) (show shN 191 = 68 from rfl) rfl (Nat.le_of_ble_eq_true rfl) ing1 mw_1412 (fv_int rfl) d_MO_isSign_16 ?_
      have i5 := hS.rng 191 23
      refine lv_iload_n F.hx F.hb d_MO_isSign_19 rfl (lv_at hl 1 rfl) ?_
      refine r_icmp_ne (tgt := 27) F.hx F.hb i5 hx1 d_MO_isSign_20 (by decide) (fun c6 => ?_) (fun c6 => ?_)
      · replace hT := (if_neg c6).symm.trans hT
        refine r_iconst F.hx F.hb d_MO_isSign_27 ?_
        subst hT
        exact r_zret F hlk hr hS (Or.inl rfl) d_MO_isSign_28
      · replace hT := (if_pos c6).symm.trans hT
        refine r_iconst F.hx F.hb d_MO_isSign_23 ?_
        refine lv_goto (tgt := 28) F.hx F.hb d_MO_isSign_24 (by decide) ?_
        subst hT
        exact r_zret F hlk hr hS (Or.inr rfl) d_MO_isSign_28
end
section
theorem d_MO_goOn_0 : decode b_MO_goOn 0 = .ok (.aload_n 0, 1) := dc_42 (by decide +kernel)
theorem d_MO_goOn_1 : decode b_MO_goOn 1 = .ok (.getfield 199, 3) := dc_180 (by decide +kernel)
theorem d_MO_goOn_4 : decode b_MO_goOn 4 = .ok (.ifCond .ne 7, 3) := dc_154 (by decide +kernel)
theorem d_MO_goOn_7 : decode b_MO_goOn 7 = .ok (.aload_n 0, 1) := dc_42 (by decide +kernel)
theorem d_MO_goOn_8 : decode b_MO_goOn 8 = .ok (.invokevirtual 205, 3) := dc_182 (by decide +kernel)
theorem d_MO_goOn_11 : decode b_MO_goOn 11 = .ok (.return_, 1) := dc_177 (by decide +kernel)
def t_MO_goOn (M : Mem)  : Option (Mem) := (if (M.1 191 24) = 0 then (obind (t_MO_token M) fun q3 => (some q3)) else (some M))
set_option maxHeartbeats 4000000 in
set_option maxRecDepth 100000 in
theorem c_MO_goOn (l : Launch) {b n : Nat} {C : CT} (hlo : 231 ≤ n) (M : Mem)   (res : Mem) (hT : t_MO_goOn M  = some res) : CM l b C n 6 y_MO_goOn b_MO_goOn 1 (none) [.ref (b + 191)] M (QV b C n res) := by
  refine CM.of (lo := 231) (ow := "WardFallsModel") (by decide) rfl (Nat.le_of_ble_eq_true rfl) hlo (fun p e s m below meth c F hlk hr hS ls hl => ?_)
  have hl : lv_has ls 1 [(0, .ref (b + 191))] := hl
  unfold t_MO_goOn at hT
  refine lv_aload_n F.hx F.hb d_MO_goOn_0 rfl (lv_at hl 0 rfl) ?_
  refine r_get (v := vI (M.1 191 24)) (N := 68) (T := T1) (j := 24) F hS (show 191 < 231 by decide) (show shK 191 = 5 from rfl) (show shN 191 = 68 from rfl) rfl (Nat.le_of_ble_eq_true rfl) ing1 mw_1413 (fv_int rfl) d_MO_goOn_1 ?_
  have i1 := hS.rng 191 24
  refine r_if_ne (tgt := 11) F.hx F.hb i1 d_MO_goOn_4 (by decide) (fun c2 => ?_) (fun c2 => ?_)
  · replace hT := (if_neg c2).symm.trans hT
    cases hT
    exact r_vret F hlk hr hS d_MO_goOn_11
  · replace hT := (if_pos c2).symm.trans hT
    refine lv_aload_n F.hx F.hb d_MO_goOn_7 rfl (lv_at hl 0 rfl) ?_
    obtain ⟨q3, hq3, hT⟩ := q_obind hT
    refine r_backV F hS (r_runV (k := 191) (N := 68) (T := T1) (As := []) F hS (show 191 < 231 by decide) (show shK 191 = 5 from rfl) rfl (c_MO_token l F.2.2.1 M _ hq3) gs_MO_205 hd_MO_token ⟨Nat.le_of_ble_eq_true rfl, Nat.le_of_ble_eq_true rfl⟩ rfl hl.1 (Nat.le_of_ble_eq_true rfl) ⟨Nat.zero_le _, Nat.zero_le _⟩ rfl d_MO_goOn_8) (fun H locs hS => ?_)
    cases hT
    exact r_vret F hlk hr hS d_MO_goOn_11
theorem d_MO_numeralAtHand_0 : decode b_MO_numeralAtHand 0 = .ok (.aload_n 0, 1) := dc_42 (by decide +kernel)
theorem d_MO_numeralAtHand_1 : decode b_MO_numeralAtHand 1 = .ok (.getfield 199, 3) := dc_180 (by decide +kernel)
theorem d_MO_numeralAtHand_4 : decode b_MO_numeralAtHand 4 = .ok (.ifCond .eq 5, 3) := dc_153 (by decide +kernel)
theorem d_MO_numeralAtHand_7 : decode b_MO_numeralAtHand 7 = .ok (.iload_n 1, 1) := dc_27 (by decide +kernel)
theorem d_MO_numeralAtHand_8 : decode b_MO_numeralAtHand 8 = .ok (.ireturn, 1) := dc_172 (by decide +kernel)
theorem d_MO_numeralAtHand_9 : decode b_MO_numeralAtHand 9 = .ok (.aload_n 0, 1) := dc_42 (by decide +kernel)
theorem d_MO_numeralAtHand_10 : decode b_MO_numeralAtHand 10 = .ok (.getfield 164, 3) := dc_180 (by decide +kernel)
theorem d_MO_numeralAtHand_13 : decode b_MO_numeralAtHand 13 = .ok (.iconst 2, 1) := dc_5 (by decide +kernel)
theorem d_MO_numeralAtHand_14 : decode b_MO_numeralAtHand 14 = .ok (.if_icmp .eq 11, 3) := dc_159 (by decide +kernel)
theorem d_MO_numeralAtHand_17 : decode b_MO_numeralAtHand 17 = .ok (.aload_n 0, 1) := dc_42 (by decide +kernel)
theorem d_MO_numeralAtHand_18 : decode b_MO_numeralAtHand 18 = .ok (.iconst 1, 1) := dc_4 (by decide +kernel)
theorem d_MO_numeralAtHand_19 : decode b_MO_numeralAtHand 19 = .ok (.invokevirtual 208, 3) := dc_182 (by decide +kernel)
theorem d_MO_numeralAtHand_22 : decode b_MO_numeralAtHand 22 = .ok (.goto 24, 3) := dc_167 (by decide +kernel)
theorem d_MO_numeralAtHand_25 : decode b_MO_numeralAtHand 25 = .ok (.aload_n 0, 1) := dc_42 (by decide +kernel)
theorem d_MO_numeralAtHand_26 : decode b_MO_numeralAtHand 26 = .ok (.getfield 174, 3) := dc_180 (by decide +kernel)
theorem d_MO_numeralAtHand_29 : decode b_MO_numeralAtHand 29 = .ok (.iload_n 1, 1) := dc_27 (by decide +kernel)
theorem d_MO_numeralAtHand_30 : decode b_MO_numeralAtHand 30 = .ok (.if_icmp .lt 11, 3) := dc_161 (by decide +kernel)
theorem d_MO_numeralAtHand_33 : decode b_MO_numeralAtHand 33 = .ok (.aload_n 0, 1) := dc_42 (by decide +kernel)
theorem d_MO_numeralAtHand_34 : decode b_MO_numeralAtHand 34 = .ok (.getfield 174, 3) := dc_180 (by decide +kernel)
theorem d_MO_numeralAtHand_37 : decode b_MO_numeralAtHand 37 = .ok (.iload_n 2, 1) := dc_28 (by decide +kernel)
theorem d_MO_numeralAtHand_38 : decode b_MO_numeralAtHand 38 = .ok (.if_icmp .le 8, 3) := dc_164 (by decide +kernel)
theorem d_MO_numeralAtHand_41 : decode b_MO_numeralAtHand 41 = .ok (.aload_n 0, 1) := dc_42 (by decide +kernel)
theorem d_MO_numeralAtHand_42 : decode b_MO_numeralAtHand 42 = .ok (.iconst 2, 1) := dc_5 (by decide +kernel)
theorem d_MO_numeralAtHand_43 : decode b_MO_numeralAtHand 43 = .ok (.invokevirtual 208, 3) := dc_182 (by decide +kernel)
theorem d_MO_numeralAtHand_46 : decode b_MO_numeralAtHand 46 = .ok (.aload_n 0, 1) := dc_42 (by decide +kernel)
theorem d_MO_numeralAtHand_47 : decode b_MO_numeralAtHand 47 = .ok (.getfield 199, 3) := dc_180 (by decide +kernel)
theorem d_MO_numeralAtHand_50 : decode b_MO_numeralAtHand 50 = .ok (.ifCond .eq 7, 3) := dc_153 (by decide +kernel)
theorem d_MO_numeralAtHand_53 : decode b_MO_numeralAtHand 53 = .ok (.iload_n 1, 1) := dc_27 (by decide +kernel)
theorem d_MO_numeralAtHand_54 : decode b_MO_numeralAtHand 54 = .ok (.goto 7, 3) := dc_167 (by decide +kernel)
theorem d_MO_numeralAtHand_57 : decode b_MO_numeralAtHand 57 = .ok (.aload_n 0, 1) := dc_42 (by decide +kernel)
theorem d_MO_numeralAtHand_58 : decode b_MO_numeralAtHand 58 = .ok (.getfield 174, 3) := dc_180 (by decide +kernel)
theorem d_MO_numeralAtHand_61 : decode b_MO_numeralAtHand 61 = .ok (.ireturn, 1) := dc_172 (by decide +kernel)
def t_MO_numeralAtHand_L46 (x1 : Int) (x2 : Int)  (M : Mem)  : Mem × Int := (if (M.1 191 24) = 0 then (M, (M.1 191 23)) else (M, x1))
def t_MO_numeralAtHand_L41 (x1 : Int) (x2 : Int)  (M : Mem)  : Mem × Int := (qlet (t_MO_wrong M 2) fun q11 => (t_MO_numeralAtHand_L46 x1 x2 q11))
def t_MO_numeralAtHand (M : Mem) (x1 : Int) (x2 : Int) : Mem × Int := (if (M.1 191 24) = 0 then (if (M.1 191 22) = 2 then (if (M.1 191 23) < x1 then (t_MO_numeralAtHand_L41 x1 x2 M) else (if (M.1 191 23) ≤ x2 then (t_MO_numeralAtHand_L46 x1 x2 M) else (t_MO_numeralAtHand_L41 x1 x2 M))) else (qlet (t_MO_wrong M 1) fun q9 => (t_MO_numeralAtHand_L46 x1 x2 q9))) else (M, x1))
set_option maxHeartbeats 4000000 in
set_option maxRecDepth 100000 in
theorem k_MO_numeralAtHand_L46 (l : Launch) {p : Program} {e : Env} {s : State} {m : MethodId} {below : List Frame} {meth : Method} {c : Code} {b n : Nat} {C : CT} (hlo : 231 ≤ n) (x1 : Int) (x2 : Int) (hx1 : InR x1) (hx2 : InR x2) (F : Cx b p m c b_MO_numeralAtHand 3 s ([.ref (b + 191), vI x1, vI x2] : List Value).toArray "WardFallsModel" C n 231) (hlk : meth.locks = false) (hr : meth.sig.returnType = some .int) {res : Mem × Int} (M : Mem)  (H : Heap) (locs : List Loc) (ls : Array Slot) (hS : St b C n M s H locs) (hl : lv_has ls 3 [(0, .ref (b + 191)), (1, vI x1)]) (hT : t_MO_numeralAtHand_L46 x1 x2 M = res) : W p l e (headSpec (wsM y_MO_numeralAtHand b_MO_numeralAtHand 3 (some .int)) (rmD 1)).room s m ([.ref (b + 191), vI x1, vI x2] : List Value).toArray below meth c H locs 0 0 (MQ below (QI b C n res.1 res.2) ([.ref (b + 191), vI x1, vI x2] : List Value).toArray s 0 0 (frb b)) (F0 m 46 ls []) := by
  unfold t_MO_numeralAtHand_L46 at hT
  refine lv_aload_n F.hx F.hb d_MO_numeralAtHand_46 rfl (lv_at hl 0 rfl) ?_
  refine r_get (v := vI (M.1 191 24)) (N := 68) (T := T1) (j := 24) F hS (show 191 < 231 by decide) (show shK 191 = 5 from rfl) (show shN 191 = 68 from rfl) rfl (Nat.le_of_ble_eq_true rfl) ing1 mw_1413 (fv_int rfl) d_MO_numeralAtHand_47 ?_
  have i13 := hS.rng 191 24
  refine r_if_eq (tgt := 57) F.hx F.hb i13 d_MO_numeralAtHand_50 (by decide) (fun c14 => ?_) (fun c14 => ?_)
  · replace hT := (if_pos c14).symm.trans hT
    refine lv_aload_n F.hx F.hb d_MO_numeralAtHand_57 rfl (lv_at hl 0 rfl) ?_
    refine r_get (v := vI (M.1 191 23)) (N := 68) (T := T1) (j := 23) F hS (show 191 < 231 by decide) (show shK 191 = 5 from rfl) (show shN 191 = 68 from rfl) rfl (Nat.le_of_ble_eq_true rfl) ing1 mw_1412 (fv_int rfl) d_MO_numeralAtHand_58 ?_
    have i15 := hS.rng 191 23
    subst hT
    exact r_iret F hlk hr rfl hS i15 d_MO_numeralAtHand_61
  · replace hT := (if_neg c14).symm.trans hT
    refine lv_iload_n F.hx F.hb d_MO_numeralAtHand_53 rfl (lv_at hl 1 rfl) ?_
    refine lv_goto (tgt := 61) F.hx F.hb d_MO_numeralAtHand_54 (by decide) ?_
    subst hT
    exact r_iret F hlk hr rfl hS hx1 d_MO_numeralAtHand_61
set_option maxHeartbeats 4000000 in
set_option maxRecDepth 100000 in
theorem k_MO_numeralAtHand_L41 (l : Launch) {p : Program} {e : Env} {s : State} {m : MethodId} {below : List Frame} {meth : Method} {c : Code} {b n : Nat} {C : CT} (hlo : 231 ≤ n) (x1 : Int) (x2 : Int) (hx1 : InR x1) (hx2 : InR x2) (F : Cx b p m c b_MO_numeralAtHand 3 s ([.ref (b + 191), vI x1, vI x2] : List Value).toArray "WardFallsModel" C n 231) (hlk : meth.locks = false) (hr : meth.sig.returnType = some .int) {res : Mem × Int} (M : Mem)  (H : Heap) (locs : List Loc) (ls : Array Slot) (hS : St b C n M s H locs) (hl : lv_has ls 3 [(0, .ref (b + 191)), (1, vI x1)]) (hT : t_MO_numeralAtHand_L41 x1 x2 M = res) : W p l e (headSpec (wsM y_MO_numeralAtHand b_MO_numeralAtHand 3 (some .int)) (rmD 1)).room s m ([.ref (b + 191), vI x1, vI x2] : List Value).toArray below meth c H locs 0 0 (MQ below (QI b C n res.1 res.2) ([.ref (b + 191), vI x1, vI x2] : List Value).toArray s 0 0 (frb b)) (F0 m 41 ls []) := by
  unfold t_MO_numeralAtHand_L41 at hT
  refine lv_aload_n F.hx F.hb d_MO_numeralAtHand_41 rfl (lv_at hl 0 rfl) ?_
  refine r_iconst F.hx F.hb d_MO_numeralAtHand_42 ?_
  obtain ⟨q11, hq11⟩ : ∃ q, q = (t_MO_wrong M 2) := ⟨_, rfl⟩
  replace hT := qlet_eq hT hq11
  refine r_backV F hS (r_runV (k := 191) (N := 68) (T := T1) (As := [vI 2]) F hS (show 191 < 231 by decide) (show shK 191 = 5 from rfl) rfl (c_MO_wrong l F.2.2.1 M 2 (inr_c rfl) _ hq11.symm) gs_MO_208 hd_MO_wrong ⟨Nat.le_of_ble_eq_true rfl, Nat.le_of_ble_eq_true rfl⟩ rfl hl.1 (Nat.le_of_ble_eq_true rfl) ⟨Nat.zero_le _, Nat.zero_le _⟩ rfl d_MO_numeralAtHand_43) (fun H locs hS => ?_)
  exact k_MO_numeralAtHand_L46 l hlo x1 x2 hx1 hx2 F hlk hr q11 _ _ _ hS (lv_sub hl [0, 1] rfl) hT
set_option maxHeartbeats 4000000 in
set_option maxRecDepth 100000 in
theorem c_MO_numeralAtHand (l : Launch) {b n : Nat} {C : CT} (hlo : 231 ≤ n) (M : Mem) (x1 : Int) (x2 : Int) (hx1 : InR x1) (hx2 : InR x2) (res : Mem × Int) (hT : t_MO_numeralAtHand M x1 x2 = res) : CM l b C n 1 y_MO_numeralAtHand b_MO_numeralAtHand 3 (some .int) [.ref (b + 191), vI x1, vI x2] M (QI b C n res.1 res.2) := by
  refine CM.of (lo := 231) (ow := "WardFallsModel") (by decide) rfl (Nat.le_of_ble_eq_true rfl) hlo (fun p e s m below meth c F hlk hr hS ls hl => ?_)
  have hl : lv_has ls 3 [(0, .ref (b + 191)), (1, vI x1), (2, vI x2)] := hl
  unfold t_MO_numeralAtHand at hT
  refine lv_aload_n F.hx F.hb d_MO_numeralAtHand_0 rfl (lv_at hl 0 rfl) ?_
  refine r_get (v := vI (M.1 191 24)) (N := 68) (T := T1) (j := 24) F hS (show 191 < 231 by decide) (show shK 191 = 5 from rfl) (show shN 191 = 68 from rfl) rfl (Nat.le_of_ble_eq_true rfl) ing1 mw_1413 (fv_int rfl) d_MO_numeralAtHand_1 ?_
  have i1 := hS.rng 191 24
  refine r_if_eq (tgt := 9) F.hx F.hb i1 d_MO_numeralAtHand_4 (by decide) (fun c2 => ?_) (fun c2 => ?_)
  · replace hT := (if_pos c2).symm.trans hT
    refine lv_aload_n F.hx F.hb d_MO_numeralAtHand_9 rfl (lv_at hl 0 rfl) ?_
    refine r_get (v := vI (M.1 191 22)) (N := 68) (T := T1) (j := 22) F hS (show 191 < 231 by decide) (show shK 191 = 5 from rfl) (show shN 191 = 68 from rfl) rfl (Nat.le_of_ble_eq_true rfl) ing1 mw_1411 (fv_int rfl) d_MO_numeralAtHand_10 ?_
    have i3 := hS.rng 191 22
    refine r_iconst F.hx F.hb d_MO_numeralAtHand_13 ?_
    refine r_icmp_eq (tgt := 25) F.hx F.hb i3 (inr_c rfl) d_MO_numeralAtHand_14 (by decide) (fun c4 => ?_) (fun c4 => ?_)
    · replace hT := (if_pos c4).symm.trans hT
      refine lv_aload_n F.hx F.hb d_MO_numeralAtHand_25 rfl (lv_at hl 0 rfl) ?_
      refine r_get (v := vI (M.1 191 23)) (N := 68) (T := T1) (j := 23) F hS (show 191 < 231 by decide) (show shK 191 = 5 from rfl) (show shN 191 = 68 from rfl) rfl (Nat.le_of_ble_eq_true rfl) ing1 mw_1412 (fv_int rfl) d_MO_numeralAtHand_26 ?_
      have i5 := hS.rng 191 23
      refine lv_iload_n F.hx F.hb d_MO_numeralAtHand_29 rfl (lv_at hl 1 rfl) ?_
      refine r_icmp_lt (tgt := 41) F.hx F.hb i5 hx1 d_MO_numeralAtHand_30 (by decide) (fun c6 => ?_) (fun c6 => ?_)
      · replace hT := (if_pos c6).symm.trans hT
        exact k_MO_numeralAtHand_L41 l hlo x1 x2 hx1 hx2 F hlk hr M _ _ _ hS (lv_sub hl [0, 1] rfl) hT
      · replace hT := (if_neg c6).symm.trans hT
        refine lv_aload_n F.hx F.hb d_MO_numeralAtHand_33 rfl (lv_at hl 0 rfl) ?_
        refine r_get (v := vI (M.1 191 23)) (N := 68) (T := T1) (j := 23) F hS (show 191 < 231 by decide) (show shK 191 = 5 from rfl) (show shN 191 = 68 from rfl) rfl (Nat.le_of_ble_eq_true rfl) ing1 mw_1412 (fv_int rfl) d_MO_numeralAtHand_34 ?_
        have i7 := hS.rng 191 23
        refine lv_iload_n F.hx F.hb d_MO_numeralAtHand_37 rfl (lv_at hl 2 rfl) ?_
        refine r_icmp_le (tgt := 46) F.hx F.hb i7 hx2 d_MO_numeralAtHand_38 (by decide) (fun c8 => ?_) (fun c8 => ?_)
        · replace hT := (if_pos c8).symm.trans hT
          exact k_MO_numeralAtHand_L46 l hlo x1 x2 hx1 hx2 F hlk hr M _ _ _ hS (lv_sub hl [0, 1] rfl) hT
        · replace hT := (if_neg c8).symm.trans hT
          exact k_MO_numeralAtHand_L41 l hlo x1 x2 hx1 hx2 F hlk hr M _ _ _ hS (lv_sub hl [0, 1] rfl) hT
    · replace hT := (if_neg c4).symm.trans hT
      refine lv_aload_n F.hx F.hb d_MO_numeralAtHand_17 rfl (lv_at hl 0 rfl) ?_
      refine r_iconst F.hx F.hb d_MO_numeralAtHand_18 ?_
      obtain ⟨q9, hq9⟩ : ∃ q, q = (t_MO_wrong M 1) := ⟨_, rfl⟩
      replace hT := qlet_eq hT hq9
      refine r_backV F hS (r_runV (k := 191) (N := 68) (T := T1) (As := [vI 1]) F hS (show 191 < 231 by decide) (show shK 191 = 5 from rfl) rfl (c_MO_wrong l F.2.2.1 M 1 (inr_c rfl) _ hq9.symm) gs_MO_208 hd_MO_wrong ⟨Nat.le_of_ble_eq_true rfl, Nat.le_of_ble_eq_true rfl⟩ rfl hl.1 (Nat.le_of_ble_eq_true rfl) ⟨Nat.zero_le _, Nat.zero_le _⟩ rfl d_MO_numeralAtHand_19) (fun H locs hS => ?_)
      refine lv_goto (tgt := 46) F.hx F.hb d_MO_numeralAtHand_22 (by decide) ?_
      exact k_MO_numeralAtHand_L46 l hlo x1 x2 hx1 hx2 F hlk hr q9 _ _ _ hS (lv_sub hl [0, 1] rfl) hT
  · replace hT := (if_neg c2).symm.trans hT
    refine lv_iload_n F.hx F.hb d_MO_numeralAtHand_7 rfl (lv_at hl 1 rfl) ?_
    subst hT
    exact r_iret F hlk hr rfl hS hx1 d_MO_numeralAtHand_8
theorem d_MO_numeral_0 : decode b_MO_numeral 0 = .ok (.aload_n 0, 1) := dc_42 (by decide +kernel)
theorem d_MO_numeral_1 : decode b_MO_numeral 1 = .ok (.iload_n 1, 1) := dc_27 (by decide +kernel)
theorem d_MO_numeral_2 : decode b_MO_numeral 2 = .ok (.iload_n 2, 1) := dc_28 (by decide +kernel)
theorem d_MO_numeral_3 : decode b_MO_numeral 3 = .ok (.invokevirtual 211, 3) := dc_182 (by decide +kernel)
theorem d_MO_numeral_6 : decode b_MO_numeral 6 = .ok (.istore_n 3, 1) := dc_62 (by decide +kernel)
theorem d_MO_numeral_7 : decode b_MO_numeral 7 = .ok (.aload_n 0, 1) := dc_42 (by decide +kernel)
theorem d_MO_numeral_8 : decode b_MO_numeral 8 = .ok (.invokevirtual 215, 3) := dc_182 (by decide +kernel)
theorem d_MO_numeral_11 : decode b_MO_numeral 11 = .ok (.iload_n 3, 1) := dc_29 (by decide +kernel)
theorem d_MO_numeral_12 : decode b_MO_numeral 12 = .ok (.ireturn, 1) := dc_172 (by decide +kernel)
def t_MO_numeral (M : Mem) (x1 : Int) (x2 : Int) : Option (Mem × Int) := (qlet (t_MO_numeralAtHand M x1 x2) fun q1 => (obind (t_MO_goOn (q1.1)) fun q3 => (some (q3, (q1.2)))))
set_option maxHeartbeats 4000000 in
set_option maxRecDepth 100000 in
theorem c_MO_numeral (l : Launch) {b n : Nat} {C : CT} (hlo : 231 ≤ n) (M : Mem) (x1 : Int) (x2 : Int) (hx1 : InR x1) (hx2 : InR x2) (res : Mem × Int) (hT : t_MO_numeral M x1 x2 = some res) : CM l b C n 7 y_MO_numeral b_MO_numeral 4 (some .int) [.ref (b + 191), vI x1, vI x2] M (QI b C n res.1 res.2) := by
  refine CM.of (lo := 231) (ow := "WardFallsModel") (by decide) rfl (Nat.le_of_ble_eq_true rfl) hlo (fun p e s m below meth c F hlk hr hS ls hl => ?_)
  have hl : lv_has ls 4 [(0, .ref (b + 191)), (1, vI x1), (2, vI x2)] := hl
  unfold t_MO_numeral at hT
  refine lv_aload_n F.hx F.hb d_MO_numeral_0 rfl (lv_at hl 0 rfl) ?_
  refine lv_iload_n F.hx F.hb d_MO_numeral_1 rfl (lv_at hl 1 rfl) ?_
  refine lv_iload_n F.hx F.hb d_MO_numeral_2 rfl (lv_at hl 2 rfl) ?_
  obtain ⟨q1, hq1⟩ : ∃ q, q = (t_MO_numeralAtHand M x1 x2) := ⟨_, rfl⟩
  replace hT := qlet_eq hT hq1
  refine r_backI F hS (r_runV (k := 191) (N := 68) (T := T1) (As := [vI x1, vI x2]) F hS (show 191 < 231 by decide) (show shK 191 = 5 from rfl) rfl (c_MO_numeralAtHand l F.2.2.1 M x1 x2 hx1 hx2 _ hq1.symm) gs_MO_211 hd_MO_numeralAtHand ⟨Nat.le_of_ble_eq_true rfl, Nat.le_of_ble_eq_true rfl⟩ rfl hl.1 (Nat.le_of_ble_eq_true rfl) ⟨Nat.zero_le _, Nat.zero_le _⟩ rfl d_MO_numeral_3) (fun H locs hS h2 => ?_)
  refine lv_istore_n (lv' := [(3, vI (q1.2)), (0, .ref (b + 191)), (1, vI x1), (2, vI x2)]) F.hx F.hb d_MO_numeral_6 rfl hl (Nat.le_of_ble_eq_true rfl) rfl (fun ls hl => ?_)
  refine lv_aload_n F.hx F.hb d_MO_numeral_7 rfl (lv_at hl 1 rfl) ?_
  obtain ⟨q3, hq3, hT⟩ := q_obind hT
  refine r_backV F hS (r_runV (k := 191) (N := 68) (T := T1) (As := []) F hS (show 191 < 231 by decide) (show shK 191 = 5 from rfl) rfl (c_MO_goOn l F.2.2.1 (q1.1) _ hq3) gs_MO_215 hd_MO_goOn ⟨Nat.le_of_ble_eq_true rfl, Nat.le_of_ble_eq_true rfl⟩ rfl hl.1 (Nat.le_of_ble_eq_true rfl) ⟨Nat.zero_le _, Nat.zero_le _⟩ rfl d_MO_numeral_8) (fun H locs hS => ?_)
  refine lv_iload_n F.hx F.hb d_MO_numeral_11 rfl (lv_at hl 0 rfl) ?_
  cases hT
  exact r_iret F hlk hr rfl hS h2 d_MO_numeral_12
theorem d_MO_found_0 : decode b_MO_found 0 = .ok (.iconst 0, 1) := dc_3 (by decide +kernel)
theorem d_MO_found_1 : decode b_MO_found 1 = .ok (.istore 4, 2) := dc_54 (by decide +kernel)
theorem d_MO_found_3 : decode b_MO_found 3 = .ok (.iload 4, 2) := dc_21 (by decide +kernel)
theorem d_MO_found_5 : decode b_MO_found 5 = .ok (.iload_n 2, 1) := dc_28 (by decide +kernel)
theorem d_MO_found_6 : decode b_MO_found 6 = .ok (.if_icmp .ge 22, 3) := dc_162 (by decide +kernel)
theorem d_MO_found_9 : decode b_MO_found 9 = .ok (.aload_n 0, 1) := dc_42 (by decide +kernel)
theorem d_MO_found_10 : decode b_MO_found 10 = .ok (.iload_n 1, 1) := dc_27 (by decide +kernel)
theorem d_MO_found_11 : decode b_MO_found 11 = .ok (.iload 4, 2) := dc_21 (by decide +kernel)
theorem d_MO_found_13 : decode b_MO_found 13 = .ok (.iadd, 1) := dc_96 (by decide +kernel)
theorem d_MO_found_14 : decode b_MO_found 14 = .ok (.iaload, 1) := dc_46 (by decide +kernel)
theorem d_MO_found_15 : decode b_MO_found 15 = .ok (.iload_n 3, 1) := dc_29 (by decide +kernel)
theorem d_MO_found_16 : decode b_MO_found 16 = .ok (.if_icmp .ne 6, 3) := dc_160 (by decide +kernel)
theorem d_MO_found_19 : decode b_MO_found 19 = .ok (.iload 4, 2) := dc_21 (by decide +kernel)
theorem d_MO_found_21 : decode b_MO_found 21 = .ok (.ireturn, 1) := dc_172 (by decide +kernel)
theorem d_MO_found_22 : decode b_MO_found 22 = .ok (.iinc 4 1, 3) := dc_132 (by decide +kernel)
theorem d_MO_found_25 : decode b_MO_found 25 = .ok (.goto (-22), 3) := dc_167 (by decide +kernel)
theorem d_MO_found_28 : decode b_MO_found 28 = .ok (.iconst (-1), 1) := dc_2 (by decide +kernel)
theorem d_MO_found_29 : decode b_MO_found 29 = .ok (.ireturn, 1) := dc_172 (by decide +kernel)
def t_MO_found_L3 (r1 : Nat) (N1 : Nat) (x2 : Int) (x3 : Int) (x4 : Int)  : Nat → Mem → Int → Option (Int)
  | 0, _, _ => none
  | fu + 1, M, v4_ => (if x3 ≤ v4_ then (some (-1)) else (qguard (0 ≤ (w32 (x2 + v4_)) ∧ (w32 (x2 + v4_)) < (N1 : Int)) (if (M.1 r1 (w32 (x2 + v4_))) = x4 then (some v4_) else (t_MO_found_L3 r1 N1 x2 x3 x4 fu M (w32 (v4_ + 1))))))
def t_MO_found (M : Mem) (r1 : Nat) (N1 : Nat) (x2 : Int) (x3 : Int) (x4 : Int) : Option (Int) := (t_MO_found_L3 r1 N1 x2 x3 x4 FU M 0)
set_option maxHeartbeats 4000000 in
set_option maxRecDepth 100000 in
theorem k_MO_found_L3 (l : Launch) {p : Program} {e : Env} {s : State} {m : MethodId} {below : List Frame} {meth : Method} {c : Code} {b n : Nat} {C : CT} (hlo : 231 ≤ n) (r1 : Nat) (N1 : Nat) (x2 : Int) (x3 : Int) (x4 : Int) (hr1 : arrP 0 r1 N1 231) (hx2 : InR x2) (hx3 : InR x3) (hx4 : InR x4) (F : Cx b p m c b_MO_found 5 s ([.ref (b + r1), vI x2, vI x3, vI x4] : List Value).toArray "WardFallsModel" C n 231) (hlk : meth.locks = false) (hr : meth.sig.returnType = some .int) {res : Int} : ∀ (fu : Nat) (M : Mem) (v4_ : Int) (hv4_ : InR v4_) (H : Heap) (locs : List Loc) (ls : Array Slot), St b C n M s H locs → lv_has ls 5 [(0, .ref (b + r1)), (1, vI x2), (2, vI x3), (3, vI x4), (4, vI v4_)] → t_MO_found_L3 r1 N1 x2 x3 x4 fu M v4_ = some res → W p l e (headSpec (wsM y_MO_found b_MO_found 5 (some .int)) (rmD 0)).room s m ([.ref (b + r1), vI x2, vI x3, vI x4] : List Value).toArray below meth c H locs 0 0 (MQ below (QI b C n M res) ([.ref (b + r1), vI x2, vI x3, vI x4] : List Value).toArray s 0 0 (frb b)) (F0 m 3 ls []) := by
  intro fu
  induction fu with
  | zero => intro M v4_ hv4_ H locs ls hS hl hT; exact absurd hT (by simp [t_MO_found_L3])
  | succ fu ih =>
    intro M v4_ hv4_ H locs ls hS hl hT
    rw [t_MO_found_L3] at hT
    refine lv_iload F.hx F.hb d_MO_found_3 (lv_at hl 4 rfl) ?_
    refine lv_iload_n F.hx F.hb d_MO_found_5 rfl (lv_at hl 2 rfl) ?_
    refine r_icmp_ge (tgt := 28) F.hx F.hb hv4_ hx3 d_MO_found_6 (by decide) (fun c1 => ?_) (fun c1 => ?_)
    · replace hT := (if_pos c1).symm.trans hT
      refine r_iconst F.hx F.hb d_MO_found_28 ?_
      cases hT
      exact r_iret F hlk hr rfl hS (inr_c rfl) d_MO_found_29
    · replace hT := (if_neg c1).symm.trans hT
      refine lv_aload_n F.hx F.hb d_MO_found_9 rfl (lv_at hl 0 rfl) ?_
      refine lv_iload_n F.hx F.hb d_MO_found_10 rfl (lv_at hl 1 rfl) ?_
      refine lv_iload F.hx F.hb d_MO_found_11 (lv_at hl 4 rfl) ?_
      refine r_iadd F.hx F.hb d_MO_found_13 ?_
      obtain ⟨⟨g2a, g2b⟩, hT⟩ := q_guard hT
      refine r_iald F hS hr1.2.2 hr1.1 hr1.2.1 (inr_w32 _) g2a g2b d_MO_found_14 ?_
      have i3 := hS.rng r1 (w32 (x2 + v4_))
      refine lv_iload_n F.hx F.hb d_MO_found_15 rfl (lv_at hl 3 rfl) ?_
      refine r_icmp_ne (tgt := 22) F.hx F.hb i3 hx4 d_MO_found_16 (by decide) (fun c4 => ?_) (fun c4 => ?_)
      · replace hT := (if_neg c4).symm.trans hT
        refine lv_iinc (v := Int32.ofInt (w32 (v4_ + 1))) (lv' := [(4, vI (w32 (v4_ + 1))), (0, .ref (b + r1)), (1, vI x2), (2, vI x3), (3, vI x4)]) F.hx F.hb d_MO_found_22 hl (k := 4) rfl (q_of_add _ _) (Nat.le_of_ble_eq_true rfl) rfl (fun ls hl => ?_)
        refine lv_goto (tgt := 3) F.hx F.hb d_MO_found_25 (by decide) ?_
        exact ih M (w32 (v4_ + 1)) (inr_w32 _) _ _ _ hS (lv_sub hl [1, 2, 3, 4, 0] rfl) hT
      · replace hT := (if_pos c4).symm.trans hT
        refine lv_iload F.hx F.hb d_MO_found_19 (lv_at hl 4 rfl) ?_
        cases hT
        exact r_iret F hlk hr rfl hS hv4_ d_MO_found_21
set_option maxHeartbeats 4000000 in
set_option maxRecDepth 100000 in
theorem c_MO_found (l : Launch) {b n : Nat} {C : CT} (hlo : 231 ≤ n) (M : Mem) (r1 : Nat) (N1 : Nat) (x2 : Int) (x3 : Int) (x4 : Int) (hr1 : arrP 0 r1 N1 231) (hx2 : InR x2) (hx3 : InR x3) (hx4 : InR x4) (res : Int) (hT : t_MO_found M r1 N1 x2 x3 x4 = some res) : CM l b C n 0 y_MO_found b_MO_found 5 (some .int) [.ref (b + r1), vI x2, vI x3, vI x4] M (QI b C n M res) := by
  refine CM.of (lo := 231) (ow := "WardFallsModel") (by decide) rfl (Nat.le_of_ble_eq_true rfl) hlo (fun p e s m below meth c F hlk hr hS ls hl => ?_)
  have hl : lv_has ls 5 [(0, .ref (b + r1)), (1, vI x2), (2, vI x3), (3, vI x4)] := hl
  unfold t_MO_found at hT
  refine r_iconst F.hx F.hb d_MO_found_0 ?_
  refine lv_istore (lv' := [(4, vI 0), (0, .ref (b + r1)), (1, vI x2), (2, vI x3), (3, vI x4)]) F.hx F.hb d_MO_found_1 hl (Nat.le_of_ble_eq_true rfl) rfl (fun ls hl => ?_)
  exact k_MO_found_L3 l hlo r1 N1 x2 x3 x4 hr1 hx2 hx3 hx4 F hlk hr FU M 0 (inr_c rfl) _ _ _ hS (lv_sub hl [1, 2, 3, 4, 0] rfl) hT
theorem d_MO_fresh_0 : decode b_MO_fresh 0 = .ok (.aload_n 0, 1) := dc_42 (by decide +kernel)
theorem d_MO_fresh_1 : decode b_MO_fresh 1 = .ok (.getfield 199, 3) := dc_180 (by decide +kernel)
theorem d_MO_fresh_4 : decode b_MO_fresh 4 = .ok (.ifCond .eq 5, 3) := dc_153 (by decide +kernel)
theorem d_MO_fresh_7 : decode b_MO_fresh 7 = .ok (.iconst 0, 1) := dc_3 (by decide +kernel)
theorem d_MO_fresh_8 : decode b_MO_fresh 8 = .ok (.ireturn, 1) := dc_172 (by decide +kernel)
theorem d_MO_fresh_9 : decode b_MO_fresh 9 = .ok (.aload_n 0, 1) := dc_42 (by decide +kernel)
theorem d_MO_fresh_10 : decode b_MO_fresh 10 = .ok (.getfield 164, 3) := dc_180 (by decide +kernel)
theorem d_MO_fresh_13 : decode b_MO_fresh 13 = .ok (.iconst 1, 1) := dc_4 (by decide +kernel)
theorem d_MO_fresh_14 : decode b_MO_fresh 14 = .ok (.if_icmp .eq 11, 3) := dc_159 (by decide +kernel)
theorem d_MO_fresh_17 : decode b_MO_fresh 17 = .ok (.aload_n 0, 1) := dc_42 (by decide +kernel)
theorem d_MO_fresh_18 : decode b_MO_fresh 18 = .ok (.iconst 1, 1) := dc_4 (by decide +kernel)
theorem d_MO_fresh_19 : decode b_MO_fresh 19 = .ok (.invokevirtual 208, 3) := dc_182 (by decide +kernel)
theorem d_MO_fresh_22 : decode b_MO_fresh 22 = .ok (.goto 22, 3) := dc_167 (by decide +kernel)
theorem d_MO_fresh_25 : decode b_MO_fresh 25 = .ok (.aload_n 1, 1) := dc_43 (by decide +kernel)
theorem d_MO_fresh_26 : decode b_MO_fresh 26 = .ok (.iload_n 2, 1) := dc_28 (by decide +kernel)
theorem d_MO_fresh_27 : decode b_MO_fresh 27 = .ok (.iload_n 3, 1) := dc_29 (by decide +kernel)
theorem d_MO_fresh_28 : decode b_MO_fresh 28 = .ok (.aload_n 0, 1) := dc_42 (by decide +kernel)
theorem d_MO_fresh_29 : decode b_MO_fresh 29 = .ok (.getfield 174, 3) := dc_180 (by decide +kernel)
theorem d_MO_fresh_32 : decode b_MO_fresh 32 = .ok (.invokestatic 218, 3) := dc_184 (by decide +kernel)
theorem d_MO_fresh_35 : decode b_MO_fresh 35 = .ok (.iconst (-1), 1) := dc_2 (by decide +kernel)
theorem d_MO_fresh_36 : decode b_MO_fresh 36 = .ok (.if_icmp .eq 8, 3) := dc_159 (by decide +kernel)
theorem d_MO_fresh_39 : decode b_MO_fresh 39 = .ok (.aload_n 0, 1) := dc_42 (by decide +kernel)
theorem d_MO_fresh_40 : decode b_MO_fresh 40 = .ok (.iconst 3, 1) := dc_6 (by decide +kernel)
theorem d_MO_fresh_41 : decode b_MO_fresh 41 = .ok (.invokevirtual 208, 3) := dc_182 (by decide +kernel)
theorem d_MO_fresh_44 : decode b_MO_fresh 44 = .ok (.aload_n 0, 1) := dc_42 (by decide +kernel)
theorem d_MO_fresh_45 : decode b_MO_fresh 45 = .ok (.getfield 199, 3) := dc_180 (by decide +kernel)
theorem d_MO_fresh_48 : decode b_MO_fresh 48 = .ok (.ifCond .eq 5, 3) := dc_153 (by decide +kernel)
theorem d_MO_fresh_51 : decode b_MO_fresh 51 = .ok (.iconst 0, 1) := dc_3 (by decide +kernel)
theorem d_MO_fresh_52 : decode b_MO_fresh 52 = .ok (.ireturn, 1) := dc_172 (by decide +kernel)
theorem d_MO_fresh_53 : decode b_MO_fresh 53 = .ok (.aload_n 0, 1) := dc_42 (by decide +kernel)
theorem d_MO_fresh_54 : decode b_MO_fresh 54 = .ok (.getfield 174, 3) := dc_180 (by decide +kernel)
theorem d_MO_fresh_57 : decode b_MO_fresh 57 = .ok (.istore 4, 2) := dc_54 (by decide +kernel)
theorem d_MO_fresh_59 : decode b_MO_fresh 59 = .ok (.aload_n 0, 1) := dc_42 (by decide +kernel)
theorem d_MO_fresh_60 : decode b_MO_fresh 60 = .ok (.invokevirtual 205, 3) := dc_182 (by decide +kernel)
theorem d_MO_fresh_63 : decode b_MO_fresh 63 = .ok (.iload 4, 2) := dc_21 (by decide +kernel)
theorem d_MO_fresh_65 : decode b_MO_fresh 65 = .ok (.ireturn, 1) := dc_172 (by decide +kernel)
def t_MO_fresh_L44 (r1 : Nat) (N1 : Nat) (x2 : Int) (x3 : Int)  (M : Mem)  : Option (Mem × Int) := (if (M.1 191 24) = 0 then (obind (t_MO_token M) fun q16 => (some (q16, (M.1 191 23)))) else (some (M, 0)))
def t_MO_fresh (M : Mem) (r1 : Nat) (N1 : Nat) (x2 : Int) (x3 : Int) : Option (Mem × Int) := (if (M.1 191 24) = 0 then (if (M.1 191 22) = 1 then (obind (t_MO_found M r1 N1 x2 x3 (M.1 191 23)) fun q6 => (if q6 = (-1) then (t_MO_fresh_L44 r1 N1 x2 x3 M) else (qlet (t_MO_wrong M 3) fun q9 => (t_MO_fresh_L44 r1 N1 x2 x3 q9)))) else (qlet (t_MO_wrong M 1) fun q11 => (t_MO_fresh_L44 r1 N1 x2 x3 q11))) else (some (M, 0)))
set_option maxHeartbeats 4000000 in
set_option maxRecDepth 100000 in
theorem k_MO_fresh_L44 (l : Launch) {p : Program} {e : Env} {s : State} {m : MethodId} {below : List Frame} {meth : Method} {c : Code} {b n : Nat} {C : CT} (hlo : 231 ≤ n) (r1 : Nat) (N1 : Nat) (x2 : Int) (x3 : Int) (hr1 : arrP 0 r1 N1 231) (hx2 : InR x2) (hx3 : InR x3) (F : Cx b p m c b_MO_fresh 5 s ([.ref (b + 191), .ref (b + r1), vI x2, vI x3] : List Value).toArray "WardFallsModel" C n 231) (hlk : meth.locks = false) (hr : meth.sig.returnType = some .int) {res : Mem × Int} (M : Mem)  (H : Heap) (locs : List Loc) (ls : Array Slot) (hS : St b C n M s H locs) (hl : lv_has ls 5 [(0, .ref (b + 191))]) (hT : t_MO_fresh_L44 r1 N1 x2 x3 M = some res) : W p l e (headSpec (wsM y_MO_fresh b_MO_fresh 5 (some .int)) (rmD 6)).room s m ([.ref (b + 191), .ref (b + r1), vI x2, vI x3] : List Value).toArray below meth c H locs 0 0 (MQ below (QI b C n res.1 res.2) ([.ref (b + 191), .ref (b + r1), vI x2, vI x3] : List Value).toArray s 0 0 (frb b)) (F0 m 44 ls []) := by
  unfold t_MO_fresh_L44 at hT
  refine lv_aload_n F.hx F.hb d_MO_fresh_44 rfl (lv_at hl 0 rfl) ?_
  refine r_get (v := vI (M.1 191 24)) (N := 68) (T := T1) (j := 24) F hS (show 191 < 231 by decide) (show shK 191 = 5 from rfl) (show shN 191 = 68 from rfl) rfl (Nat.le_of_ble_eq_true rfl) ing1 mw_1413 (fv_int rfl) d_MO_fresh_45 ?_
  have i13 := hS.rng 191 24
  refine r_if_eq (tgt := 53) F.hx F.hb i13 d_MO_fresh_48 (by decide) (fun c14 => ?_) (fun c14 => ?_)
  · replace hT := (if_pos c14).symm.trans hT
    refine lv_aload_n F.hx F.hb d_MO_fresh_53 rfl (lv_at hl 0 rfl) ?_
    refine r_get (v := vI (M.1 191 23)) (N := 68) (T := T1) (j := 23) F hS (show 191 < 231 by decide) (show shK 191 = 5 from rfl) (show shN 191 = 68 from rfl) rfl (Nat.le_of_ble_eq_true rfl) ing1 mw_1412 (fv_int rfl) d_MO_fresh_54 ?_
    have i15 := hS.rng 191 23
    refine lv_istore (lv' := [(4, vI (M.1 191 23)), (0, .ref (b + 191))]) F.hx F.hb d_MO_fresh_57 hl (Nat.le_of_ble_eq_true rfl) rfl (fun ls hl => ?_)
    refine lv_aload_n F.hx F.hb d_MO_fresh_59 rfl (lv_at hl 1 rfl) ?_
    obtain ⟨q16, hq16, hT⟩ := q_obind hT
    refine r_backV F hS (r_runV (k := 191) (N := 68) (T := T1) (As := []) F hS (show 191 < 231 by decide) (show shK 191 = 5 from rfl) rfl (c_MO_token l F.2.2.1 M _ hq16) gs_MO_205 hd_MO_token ⟨Nat.le_of_ble_eq_true rfl, Nat.le_of_ble_eq_true rfl⟩ rfl hl.1 (Nat.le_of_ble_eq_true rfl) ⟨Nat.zero_le _, Nat.zero_le _⟩ rfl d_MO_fresh_60) (fun H locs hS => ?_)
    refine lv_iload F.hx F.hb d_MO_fresh_63 (lv_at hl 0 rfl) ?_
    cases hT
    exact r_iret F hlk hr rfl hS i15 d_MO_fresh_65
  · replace hT := (if_neg c14).symm.trans hT
    refine r_iconst F.hx F.hb d_MO_fresh_51 ?_
    cases hT
    exact r_iret F hlk hr rfl hS (inr_c rfl) d_MO_fresh_52
set_option maxHeartbeats 4000000 in
set_option maxRecDepth 100000 in
theorem c_MO_fresh (l : Launch) {b n : Nat} {C : CT} (hlo : 231 ≤ n) (M : Mem) (r1 : Nat) (N1 : Nat) (x2 : Int) (x3 : Int) (hr1 : arrP 0 r1 N1 231) (hx2 : InR x2) (hx3 : InR x3) (res : Mem × Int) (hT : t_MO_fresh M r1 N1 x2 x3 = some res) : CM l b C n 6 y_MO_fresh b_MO_fresh 5 (some .int) [.ref (b + 191), .ref (b + r1), vI x2, vI x3] M (QI b C n res.1 res.2) := by
  refine CM.of (lo := 231) (ow := "WardFallsModel") (by decide) rfl (Nat.le_of_ble_eq_true rfl) hlo (fun p e s m below meth c F hlk hr hS ls hl => ?_)
  have hl : lv_has ls 5 [(0, .ref (b + 191)), (1, .ref (b + r1)), (2, vI x2), (3, vI x3)] := hl
  unfold t_MO_fresh at hT
  refine lv_aload_n F.hx F.hb d_MO_fresh_0 rfl (lv_at hl 0 rfl) ?_
  refine r_get (v := vI (M.1 191 24)) (N := 68) (T := T1) (j := 24) F hS (show 191 < 231 by decide) (show shK 191 = 5 from rfl) (show shN 191 = 68 from rfl) rfl (Nat.le_of_ble_eq_true rfl) ing1 mw_1413 (fv_int rfl) d_MO_fresh_1 ?_
  have i1 := hS.rng 191 24
  refine r_if_eq (tgt := 9) F.hx F.hb i1 d_MO_fresh_4 (by decide) (fun c2 => ?_) (fun c2 => ?_)
  · replace hT := (if_pos c2).symm.trans hT
    refine lv_aload_n F.hx F.hb d_MO_fresh_9 rfl (lv_at hl 0 rfl) ?_
    refine r_get (v := vI (M.1 191 22)) (N := 68) (T := T1) (j := 22) F hS (show 191 < 231 by decide) (show shK 191 = 5 from rfl) (show shN 191 = 68 from rfl) rfl (Nat.le_of_ble_eq_true rfl) ing1 mw_1411 (fv_int rfl) d_MO_fresh_10 ?_
    have i3 := hS.rng 191 22
    refine r_iconst F.hx F.hb d_MO_fresh_13 ?_
    refine r_icmp_eq (tgt := 25) F.hx F.hb i3 (inr_c rfl) d_MO_fresh_14 (by decide) (fun c4 => ?_) (fun c4 => ?_)
    · replace hT := (if_pos c4).symm.trans hT
      refine lv_aload_n F.hx F.hb d_MO_fresh_25 rfl (lv_at hl 1 rfl) ?_
      refine lv_iload_n F.hx F.hb d_MO_fresh_26 rfl (lv_at hl 2 rfl) ?_
      refine lv_iload_n F.hx F.hb d_MO_fresh_27 rfl (lv_at hl 3 rfl) ?_
      refine lv_aload_n F.hx F.hb d_MO_fresh_28 rfl (lv_at hl 0 rfl) ?_
      refine r_get (v := vI (M.1 191 23)) (N := 68) (T := T1) (j := 23) F hS (show 191 < 231 by decide) (show shK 191 = 5 from rfl) (show shN 191 = 68 from rfl) rfl (Nat.le_of_ble_eq_true rfl) ing1 mw_1412 (fv_int rfl) d_MO_fresh_29 ?_
      have i5 := hS.rng 191 23
      obtain ⟨q6, hq6, hT⟩ := q_obind hT
      refine r_backI F hS (r_runS (As := [.ref (b + r1), vI x2, vI x3, vI (M.1 191 23)]) F hS (c_MO_found l F.2.2.1 M r1 N1 x2 x3 (M.1 191 23) hr1 hx2 hx3 i5 _ hq6) gs_MO_218 hd_MO_found ⟨Nat.le_of_ble_eq_true rfl, Nat.le_of_ble_eq_true rfl⟩ rfl hl.1 (Nat.le_of_ble_eq_true rfl) ⟨Nat.zero_le _, Nat.zero_le _⟩ rfl d_MO_fresh_32) (fun H locs hS h7 => ?_)
      refine r_iconst F.hx F.hb d_MO_fresh_35 ?_
      refine r_icmp_eq (tgt := 44) F.hx F.hb h7 (inr_c rfl) d_MO_fresh_36 (by decide) (fun c8 => ?_) (fun c8 => ?_)
      · replace hT := (if_pos c8).symm.trans hT
        exact k_MO_fresh_L44 l hlo r1 N1 x2 x3 hr1 hx2 hx3 F hlk hr M _ _ _ hS (lv_sub hl [0] rfl) hT
      · replace hT := (if_neg c8).symm.trans hT
        refine lv_aload_n F.hx F.hb d_MO_fresh_39 rfl (lv_at hl 0 rfl) ?_
        refine r_iconst F.hx F.hb d_MO_fresh_40 ?_
        obtain ⟨q9, hq9⟩ : ∃ q, q = (t_MO_wrong M 3) := ⟨_, rfl⟩
        replace hT := qlet_eq hT hq9
        refine r_backV F hS (r_runV (k := 191) (N := 68) (T := T1) (As := [vI 3]) F hS (show 191 < 231 by decide) (show shK 191 = 5 from rfl) rfl (c_MO_wrong l F.2.2.1 M 3 (inr_c rfl) _ hq9.symm) gs_MO_208 hd_MO_wrong ⟨Nat.le_of_ble_eq_true rfl, Nat.le_of_ble_eq_true rfl⟩ rfl hl.1 (Nat.le_of_ble_eq_true rfl) ⟨Nat.zero_le _, Nat.zero_le _⟩ rfl d_MO_fresh_41) (fun H locs hS => ?_)
        exact k_MO_fresh_L44 l hlo r1 N1 x2 x3 hr1 hx2 hx3 F hlk hr q9 _ _ _ hS (lv_sub hl [0] rfl) hT
    · replace hT := (if_neg c4).symm.trans hT
      refine lv_aload_n F.hx F.hb d_MO_fresh_17 rfl (lv_at hl 0 rfl) ?_
      refine r_iconst F.hx F.hb d_MO_fresh_18 ?_
      obtain ⟨q11, hq11⟩ : ∃ q, q = (t_MO_wrong M 1) := ⟨_, rfl⟩
      replace hT := qlet_eq hT hq11
      refine r_backV F hS (r_runV (k := 191) (N := 68) (T := T1) (As := [vI 1]) F hS (show 191 < 231 by decide) (show shK 191 = 5 from rfl) rfl (c_MO_wrong l F.2.2.1 M 1 (inr_c rfl) _ hq11.symm) gs_MO_208 hd_MO_wrong ⟨Nat.le_of_ble_eq_true rfl, Nat.le_of_ble_eq_true rfl⟩ rfl hl.1 (Nat.le_of_ble_eq_true rfl) ⟨Nat.zero_le _, Nat.zero_le _⟩ rfl d_MO_fresh_19) (fun H locs hS => ?_)
      refine lv_goto (tgt := 44) F.hx F.hb d_MO_fresh_22 (by decide) ?_
      exact k_MO_fresh_L44 l hlo r1 N1 x2 x3 hr1 hx2 hx3 F hlk hr q11 _ _ _ hS (lv_sub hl [0] rfl) hT
  · replace hT := (if_neg c2).symm.trans hT
    refine r_iconst F.hx F.hb d_MO_fresh_7 ?_
    cases hT
    exact r_iret F hlk hr rfl hS (inr_c rfl) d_MO_fresh_8
theorem d_MO_fresher_0 : decode b_MO_fresher 0 = .ok (.aload_n 0, 1) := dc_42 (by decide +kernel)
theorem d_MO_fresher_1 : decode b_MO_fresher 1 = .ok (.getfield 13, 3) := dc_180 (by decide +kernel)
theorem d_MO_fresher_4 : decode b_MO_fresher 4 = .ok (.bipush 9, 2) := dc_16 (by decide +kernel)
theorem d_MO_fresher_6 : decode b_MO_fresher 6 = .ok (.iload_n 1, 1) := dc_27 (by decide +kernel)
theorem d_MO_fresher_7 : decode b_MO_fresher 7 = .ok (.iadd, 1) := dc_96 (by decide +kernel)
theorem d_MO_fresher_8 : decode b_MO_fresher 8 = .ok (.iaload, 1) := dc_46 (by decide +kernel)
theorem d_MO_fresher_9 : decode b_MO_fresher 9 = .ok (.ireturn, 1) := dc_172 (by decide +kernel)
def t_MO_fresher (M : Mem) (x1 : Int) : Option (Int) := (qguard (0 ≤ (w32 (9 + x1)) ∧ (w32 (9 + x1)) < 18) (some (M.1 193 (w32 (9 + x1)))))
set_option maxHeartbeats 4000000 in
set_option maxRecDepth 100000 in
theorem c_MO_fresher (l : Launch) {b n : Nat} {C : CT} (hlo : 231 ≤ n) (M : Mem) (x1 : Int) (hx1 : InR x1) (res : Int) (hT : t_MO_fresher M x1 = some res) : CM l b C n 0 y_MO_fresher b_MO_fresher 2 (some .int) [.ref (b + 191), vI x1] M (QI b C n M res) := by
  refine CM.of (lo := 231) (ow := "WardFallsModel") (by decide) rfl (Nat.le_of_ble_eq_true rfl) hlo (fun p e s m below meth c F hlk hr hS ls hl => ?_)
  have hl : lv_has ls 2 [(0, .ref (b + 191)), (1, vI x1)] := hl
  unfold t_MO_fresher at hT
  refine lv_aload_n F.hx F.hb d_MO_fresher_0 rfl (lv_at hl 0 rfl) ?_
  refine r_get (v := .ref (b + 193)) (N := 68) (T := T1) (j := 3) F hS (show 191 < 231 by decide) (show shK 191 = 5 from rfl) (show shN 191 = 68 from rfl) rfl (Nat.le_of_ble_eq_true rfl) ing1 mw_1392 (fv_sg rfl rfl rfl) d_MO_fresher_1 ?_
  refine r_bipush F.hx F.hb d_MO_fresher_4 rfl ?_
  refine lv_iload_n F.hx F.hb d_MO_fresher_6 rfl (lv_at hl 1 rfl) ?_
  refine r_iadd F.hx F.hb d_MO_fresher_7 ?_
  obtain ⟨⟨g1a, g1b⟩, hT⟩ := q_guard hT
  refine r_iald F hS (show 193 < 231 by decide) (show shK 193 = 0 from rfl) (show shN 193 = 18 from rfl) (inr_w32 _) g1a g1b d_MO_fresher_8 ?_
  have i2 := hS.rng 193 (w32 (9 + x1))
  cases hT
  exact r_iret F hlk hr rfl hS i2 d_MO_fresher_9
theorem d_MO_cellAtHand_0 : decode b_MO_cellAtHand 0 = .ok (.aload_n 0, 1) := dc_42 (by decide +kernel)
theorem d_MO_cellAtHand_1 : decode b_MO_cellAtHand 1 = .ok (.iconst 0, 1) := dc_3 (by decide +kernel)
theorem d_MO_cellAtHand_2 : decode b_MO_cellAtHand 2 = .ok (.aload_n 0, 1) := dc_42 (by decide +kernel)
theorem d_MO_cellAtHand_3 : decode b_MO_cellAtHand 3 = .ok (.iconst 0, 1) := dc_3 (by decide +kernel)
theorem d_MO_cellAtHand_4 : decode b_MO_cellAtHand 4 = .ok (.invokevirtual 222, 3) := dc_182 (by decide +kernel)
theorem d_MO_cellAtHand_7 : decode b_MO_cellAtHand 7 = .ok (.iconst 1, 1) := dc_4 (by decide +kernel)
theorem d_MO_cellAtHand_8 : decode b_MO_cellAtHand 8 = .ok (.isub, 1) := dc_100 (by decide +kernel)
theorem d_MO_cellAtHand_9 : decode b_MO_cellAtHand 9 = .ok (.invokevirtual 226, 3) := dc_182 (by decide +kernel)
theorem d_MO_cellAtHand_12 : decode b_MO_cellAtHand 12 = .ok (.istore_n 1, 1) := dc_60 (by decide +kernel)
theorem d_MO_cellAtHand_13 : decode b_MO_cellAtHand 13 = .ok (.aload_n 0, 1) := dc_42 (by decide +kernel)
theorem d_MO_cellAtHand_14 : decode b_MO_cellAtHand 14 = .ok (.iconst 0, 1) := dc_3 (by decide +kernel)
theorem d_MO_cellAtHand_15 : decode b_MO_cellAtHand 15 = .ok (.aload_n 0, 1) := dc_42 (by decide +kernel)
theorem d_MO_cellAtHand_16 : decode b_MO_cellAtHand 16 = .ok (.iconst 1, 1) := dc_4 (by decide +kernel)
theorem d_MO_cellAtHand_17 : decode b_MO_cellAtHand 17 = .ok (.invokevirtual 222, 3) := dc_182 (by decide +kernel)
theorem d_MO_cellAtHand_20 : decode b_MO_cellAtHand 20 = .ok (.iconst 1, 1) := dc_4 (by decide +kernel)
theorem d_MO_cellAtHand_21 : decode b_MO_cellAtHand 21 = .ok (.isub, 1) := dc_100 (by decide +kernel)
theorem d_MO_cellAtHand_22 : decode b_MO_cellAtHand 22 = .ok (.invokevirtual 211, 3) := dc_182 (by decide +kernel)
theorem d_MO_cellAtHand_25 : decode b_MO_cellAtHand 25 = .ok (.istore_n 2, 1) := dc_61 (by decide +kernel)
theorem d_MO_cellAtHand_26 : decode b_MO_cellAtHand 26 = .ok (.iload_n 2, 1) := dc_28 (by decide +kernel)
theorem d_MO_cellAtHand_27 : decode b_MO_cellAtHand 27 = .ok (.aload_n 0, 1) := dc_42 (by decide +kernel)
theorem d_MO_cellAtHand_28 : decode b_MO_cellAtHand 28 = .ok (.iconst 0, 1) := dc_3 (by decide +kernel)
theorem d_MO_cellAtHand_29 : decode b_MO_cellAtHand 29 = .ok (.invokevirtual 222, 3) := dc_182 (by decide +kernel)
theorem d_MO_cellAtHand_32 : decode b_MO_cellAtHand 32 = .ok (.imul, 1) := dc_104 (by decide +kernel)
theorem d_MO_cellAtHand_33 : decode b_MO_cellAtHand 33 = .ok (.iload_n 1, 1) := dc_27 (by decide +kernel)
theorem d_MO_cellAtHand_34 : decode b_MO_cellAtHand 34 = .ok (.iadd, 1) := dc_96 (by decide +kernel)
theorem d_MO_cellAtHand_35 : decode b_MO_cellAtHand 35 = .ok (.ireturn, 1) := dc_172 (by decide +kernel)
def t_MO_cellAtHand (M : Mem)  : Option (Mem × Int) := (obind (t_MO_fresher M 0) fun q1 => (obind (t_MO_numeral M 0 (w32 (q1 - 1))) fun q3 => (obind (t_MO_fresher (q3.1) 1) fun q5 => (qlet (t_MO_numeralAtHand (q3.1) 0 (w32 (q5 - 1))) fun q7 => (obind (t_MO_fresher (q7.1) 0) fun q9 => (some ((q7.1), (w32 ((w32 ((q7.2) * q9)) + (q3.2))))))))))
set_option maxHeartbeats 4000000 in
set_option maxRecDepth 100000 in
theorem c_MO_cellAtHand (l : Launch) {b n : Nat} {C : CT} (hlo : 231 ≤ n) (M : Mem)   (res : Mem × Int) (hT : t_MO_cellAtHand M  = some res) : CM l b C n 8 y_MO_cellAtHand b_MO_cellAtHand 3 (some .int) [.ref (b + 191)] M (QI b C n res.1 res.2) := by
  refine CM.of (lo := 231) (ow := "WardFallsModel") (by decide) rfl (Nat.le_of_ble_eq_true rfl) hlo (fun p e s m below meth c F hlk hr hS ls hl => ?_)
  have hl : lv_has ls 3 [(0, .ref (b + 191))] := hl
  unfold t_MO_cellAtHand at hT
  refine lv_aload_n F.hx F.hb d_MO_cellAtHand_0 rfl (lv_at hl 0 rfl) ?_
  refine r_iconst F.hx F.hb d_MO_cellAtHand_1 ?_
  refine lv_aload_n F.hx F.hb d_MO_cellAtHand_2 rfl (lv_at hl 0 rfl) ?_
  refine r_iconst F.hx F.hb d_MO_cellAtHand_3 ?_
  obtain ⟨q1, hq1, hT⟩ := q_obind hT
  refine r_backI F hS (r_runV (k := 191) (N := 68) (T := T1) (As := [vI 0]) F hS (show 191 < 231 by decide) (show shK 191 = 5 from rfl) rfl (c_MO_fresher l F.2.2.1 M 0 (inr_c rfl) _ hq1) gs_MO_222 hd_MO_fresher ⟨Nat.le_of_ble_eq_true rfl, Nat.le_of_ble_eq_true rfl⟩ rfl hl.1 (Nat.le_of_ble_eq_true rfl) ⟨Nat.zero_le _, Nat.zero_le _⟩ rfl d_MO_cellAtHand_4) (fun H locs hS h2 => ?_)
  refine r_iconst F.hx F.hb d_MO_cellAtHand_7 ?_
  refine r_isub F.hx F.hb d_MO_cellAtHand_8 ?_
  obtain ⟨q3, hq3, hT⟩ := q_obind hT
  refine r_backI F hS (r_runV (k := 191) (N := 68) (T := T1) (As := [vI 0, vI (w32 (q1 - 1))]) F hS (show 191 < 231 by decide) (show shK 191 = 5 from rfl) rfl (c_MO_numeral l F.2.2.1 M 0 (w32 (q1 - 1)) (inr_c rfl) (inr_w32 _) _ hq3) gs_MO_226 hd_MO_numeral ⟨Nat.le_of_ble_eq_true rfl, Nat.le_of_ble_eq_true rfl⟩ rfl hl.1 (Nat.le_of_ble_eq_true rfl) ⟨Nat.zero_le _, Nat.zero_le _⟩ rfl d_MO_cellAtHand_9) (fun H locs hS h4 => ?_)
  refine lv_istore_n (lv' := [(1, vI (q3.2)), (0, .ref (b + 191))]) F.hx F.hb d_MO_cellAtHand_12 rfl hl (Nat.le_of_ble_eq_true rfl) rfl (fun ls hl => ?_)
  refine lv_aload_n F.hx F.hb d_MO_cellAtHand_13 rfl (lv_at hl 1 rfl) ?_
  refine r_iconst F.hx F.hb d_MO_cellAtHand_14 ?_
  refine lv_aload_n F.hx F.hb d_MO_cellAtHand_15 rfl (lv_at hl 1 rfl) ?_
  refine r_iconst F.hx F.hb d_MO_cellAtHand_16 ?_
  obtain ⟨q5, hq5, hT⟩ := q_obind hT
  refine r_backI F hS (r_runV (k := 191) (N := 68) (T := T1) (As := [vI 1]) F hS (show 191 < 231 by decide) (show shK 191 = 5 from rfl) rfl (c_MO_fresher l F.2.2.1 (q3.1) 1 (inr_c rfl) _ hq5) gs_MO_222 hd_MO_fresher ⟨Nat.le_of_ble_eq_true rfl, Nat.le_of_ble_eq_true rfl⟩ rfl hl.1 (Nat.le_of_ble_eq_true rfl) ⟨Nat.zero_le _, Nat.zero_le _⟩ rfl d_MO_cellAtHand_17) (fun H locs hS h6 => ?_)
  refine r_iconst F.hx F.hb d_MO_cellAtHand_20 ?_
  refine r_isub F.hx F.hb d_MO_cellAtHand_21 ?_
  obtain ⟨q7, hq7⟩ : ∃ q, q = (t_MO_numeralAtHand (q3.1) 0 (w32 (q5 - 1))) := ⟨_, rfl⟩
  replace hT := qlet_eq hT hq7
  refine r_backI F hS (r_runV (k := 191) (N := 68) (T := T1) (As := [vI 0, vI (w32 (q5 - 1))]) F hS (show 191 < 231 by decide) (show shK 191 = 5 from rfl) rfl (c_MO_numeralAtHand l F.2.2.1 (q3.1) 0 (w32 (q5 - 1)) (inr_c rfl) (inr_w32 _) _ hq7.symm) gs_MO_211 hd_MO_numeralAtHand ⟨Nat.le_of_ble_eq_true rfl, Nat.le_of_ble_eq_true rfl⟩ rfl hl.1 (Nat.le_of_ble_eq_true rfl) ⟨Nat.zero_le _, Nat.zero_le _⟩ rfl d_MO_cellAtHand_22) (fun H locs hS h8 => ?_)
  refine lv_istore_n (lv' := [(2, vI (q7.2)), (1, vI (q3.2)), (0, .ref (b + 191))]) F.hx F.hb d_MO_cellAtHand_25 rfl hl (Nat.le_of_ble_eq_true rfl) rfl (fun ls hl => ?_)
  refine lv_iload_n F.hx F.hb d_MO_cellAtHand_26 rfl (lv_at hl 0 rfl) ?_
  refine lv_aload_n F.hx F.hb d_MO_cellAtHand_27 rfl (lv_at hl 2 rfl) ?_
  refine r_iconst F.hx F.hb d_MO_cellAtHand_28 ?_
  obtain ⟨q9, hq9, hT⟩ := q_obind hT
  refine r_backI F hS (r_runV (k := 191) (N := 68) (T := T1) (As := [vI 0]) F hS (show 191 < 231 by decide) (show shK 191 = 5 from rfl) rfl (c_MO_fresher l F.2.2.1 (q7.1) 0 (inr_c rfl) _ hq9) gs_MO_222 hd_MO_fresher ⟨Nat.le_of_ble_eq_true rfl, Nat.le_of_ble_eq_true rfl⟩ rfl hl.1 (Nat.le_of_ble_eq_true rfl) ⟨Nat.zero_le _, Nat.zero_le _⟩ rfl d_MO_cellAtHand_29) (fun H locs hS h10 => ?_)
  refine r_imul F.hx F.hb d_MO_cellAtHand_32 ?_
  refine lv_iload_n F.hx F.hb d_MO_cellAtHand_33 rfl (lv_at hl 1 rfl) ?_
  refine r_iadd F.hx F.hb d_MO_cellAtHand_34 ?_
  cases hT
  exact r_iret F hlk hr rfl hS (inr_w32 _) d_MO_cellAtHand_35
theorem d_MO_reads_0 : decode b_MO_reads 0 = .ok (.aload_n 0, 1) := dc_42 (by decide +kernel)
theorem d_MO_reads_1 : decode b_MO_reads 1 = .ok (.getfield 13, 3) := dc_180 (by decide +kernel)
theorem d_MO_reads_4 : decode b_MO_reads 4 = .ok (.bipush 9, 2) := dc_16 (by decide +kernel)
theorem d_MO_reads_6 : decode b_MO_reads 6 = .ok (.iload_n 1, 1) := dc_27 (by decide +kernel)
theorem d_MO_reads_7 : decode b_MO_reads 7 = .ok (.iadd, 1) := dc_96 (by decide +kernel)
theorem d_MO_reads_8 : decode b_MO_reads 8 = .ok (.iload_n 2, 1) := dc_28 (by decide +kernel)
theorem d_MO_reads_9 : decode b_MO_reads 9 = .ok (.iastore, 1) := dc_79 (by decide +kernel)
theorem d_MO_reads_10 : decode b_MO_reads 10 = .ok (.return_, 1) := dc_177 (by decide +kernel)
def t_MO_reads (M : Mem) (x1 : Int) (x2 : Int) : Option (Mem) := (qguard (0 ≤ (w32 (9 + x1)) ∧ (w32 (9 + x1)) < 18) (qlet (setI M 193 (w32 (9 + x1)) x2) fun M2 => (some M2)))
set_option maxHeartbeats 4000000 in
set_option maxRecDepth 100000 in
theorem c_MO_reads (l : Launch) {b n : Nat} {C : CT} (hlo : 231 ≤ n) (M : Mem) (x1 : Int) (x2 : Int) (hx1 : InR x1) (hx2 : InR x2) (res : Mem) (hT : t_MO_reads M x1 x2 = some res) : CM l b C n 0 y_MO_reads b_MO_reads 3 (none) [.ref (b + 191), vI x1, vI x2] M (QV b C n res) := by
  refine CM.of (lo := 231) (ow := "WardFallsModel") (by decide) rfl (Nat.le_of_ble_eq_true rfl) hlo (fun p e s m below meth c F hlk hr hS ls hl => ?_)
  have hl : lv_has ls 3 [(0, .ref (b + 191)), (1, vI x1), (2, vI x2)] := hl
  unfold t_MO_reads at hT
  refine lv_aload_n F.hx F.hb d_MO_reads_0 rfl (lv_at hl 0 rfl) ?_
  refine r_get (v := .ref (b + 193)) (N := 68) (T := T1) (j := 3) F hS (show 191 < 231 by decide) (show shK 191 = 5 from rfl) (show shN 191 = 68 from rfl) rfl (Nat.le_of_ble_eq_true rfl) ing1 mw_1392 (fv_sg rfl rfl rfl) d_MO_reads_1 ?_
  refine r_bipush F.hx F.hb d_MO_reads_4 rfl ?_
  refine lv_iload_n F.hx F.hb d_MO_reads_6 rfl (lv_at hl 1 rfl) ?_
  refine r_iadd F.hx F.hb d_MO_reads_7 ?_
  refine lv_iload_n F.hx F.hb d_MO_reads_8 rfl (lv_at hl 2 rfl) ?_
  obtain ⟨⟨g1a, g1b⟩, hT⟩ := q_guard hT
  refine r_iast F hS (show 193 < 231 by decide) (show shK 193 = 0 from rfl) (show shN 193 = 18 from rfl) (inr_w32 _) hx2 g1a g1b d_MO_reads_9 (fun H locs hS => ?_)
  obtain ⟨M2, eM2⟩ : ∃ q, q = (setI M 193 (w32 (9 + x1)) x2) := ⟨_, rfl⟩
  replace hS : St b C n M2 s H locs := by rw [eM2]; exact hS
  replace hT := qlet_eq hT eM2
  cases hT
  exact r_vret F hlk hr hS d_MO_reads_10
theorem d_MO_isFull_0 : decode b_MO_isFull 0 = .ok (.iload_n 1, 1) := dc_27 (by decide +kernel)
theorem d_MO_isFull_1 : decode b_MO_isFull 1 = .ok (.iconst 1, 1) := dc_4 (by decide +kernel)
theorem d_MO_isFull_2 : decode b_MO_isFull 2 = .ok (.if_icmp .ne 12, 3) := dc_160 (by decide +kernel)
theorem d_MO_isFull_5 : decode b_MO_isFull 5 = .ok (.aload_n 0, 1) := dc_42 (by decide +kernel)
theorem d_MO_isFull_6 : decode b_MO_isFull 6 = .ok (.iconst 2, 1) := dc_5 (by decide +kernel)
theorem d_MO_isFull_7 : decode b_MO_isFull 7 = .ok (.invokevirtual 222, 3) := dc_182 (by decide +kernel)
theorem d_MO_isFull_10 : decode b_MO_isFull 10 = .ok (.iconst 4, 1) := dc_7 (by decide +kernel)
theorem d_MO_isFull_11 : decode b_MO_isFull 11 = .ok (.if_icmp .eq 64, 3) := dc_159 (by decide +kernel)
theorem d_MO_isFull_14 : decode b_MO_isFull 14 = .ok (.iload_n 1, 1) := dc_27 (by decide +kernel)
theorem d_MO_isFull_15 : decode b_MO_isFull 15 = .ok (.iconst 2, 1) := dc_5 (by decide +kernel)
theorem d_MO_isFull_16 : decode b_MO_isFull 16 = .ok (.if_icmp .ne 13, 3) := dc_160 (by decide +kernel)
theorem d_MO_isFull_19 : decode b_MO_isFull 19 = .ok (.aload_n 0, 1) := dc_42 (by decide +kernel)
theorem d_MO_isFull_20 : decode b_MO_isFull 20 = .ok (.iconst 3, 1) := dc_6 (by decide +kernel)
theorem d_MO_isFull_21 : decode b_MO_isFull 21 = .ok (.invokevirtual 222, 3) := dc_182 (by decide +kernel)
theorem d_MO_isFull_24 : decode b_MO_isFull 24 = .ok (.bipush 12, 2) := dc_16 (by decide +kernel)
theorem d_MO_isFull_26 : decode b_MO_isFull 26 = .ok (.if_icmp .eq 49, 3) := dc_159 (by decide +kernel)
theorem d_MO_isFull_29 : decode b_MO_isFull 29 = .ok (.iload_n 1, 1) := dc_27 (by decide +kernel)
theorem d_MO_isFull_30 : decode b_MO_isFull 30 = .ok (.iconst 3, 1) := dc_6 (by decide +kernel)
theorem d_MO_isFull_31 : decode b_MO_isFull 31 = .ok (.if_icmp .ne 13, 3) := dc_160 (by decide +kernel)
theorem d_MO_isFull_34 : decode b_MO_isFull 34 = .ok (.aload_n 0, 1) := dc_42 (by decide +kernel)
theorem d_MO_isFull_35 : decode b_MO_isFull 35 = .ok (.iconst 4, 1) := dc_7 (by decide +kernel)
theorem d_MO_isFull_36 : decode b_MO_isFull 36 = .ok (.invokevirtual 222, 3) := dc_182 (by decide +kernel)
theorem d_MO_isFull_39 : decode b_MO_isFull 39 = .ok (.bipush 12, 2) := dc_16 (by decide +kernel)
theorem d_MO_isFull_41 : decode b_MO_isFull 41 = .ok (.if_icmp .eq 34, 3) := dc_159 (by decide +kernel)
theorem d_MO_isFull_44 : decode b_MO_isFull 44 = .ok (.iload_n 1, 1) := dc_27 (by decide +kernel)
theorem d_MO_isFull_45 : decode b_MO_isFull 45 = .ok (.iconst 4, 1) := dc_7 (by decide +kernel)
theorem d_MO_isFull_46 : decode b_MO_isFull 46 = .ok (.if_icmp .ne 13, 3) := dc_160 (by decide +kernel)
theorem d_MO_isFull_49 : decode b_MO_isFull 49 = .ok (.aload_n 0, 1) := dc_42 (by decide +kernel)
theorem d_MO_isFull_50 : decode b_MO_isFull 50 = .ok (.iconst 5, 1) := dc_8 (by decide +kernel)
theorem d_MO_isFull_51 : decode b_MO_isFull 51 = .ok (.invokevirtual 222, 3) := dc_182 (by decide +kernel)
theorem d_MO_isFull_54 : decode b_MO_isFull 54 = .ok (.bipush 8, 2) := dc_16 (by decide +kernel)
theorem d_MO_isFull_56 : decode b_MO_isFull 56 = .ok (.if_icmp .eq 19, 3) := dc_159 (by decide +kernel)
theorem d_MO_isFull_59 : decode b_MO_isFull 59 = .ok (.iload_n 1, 1) := dc_27 (by decide +kernel)
theorem d_MO_isFull_60 : decode b_MO_isFull 60 = .ok (.iconst 5, 1) := dc_8 (by decide +kernel)
theorem d_MO_isFull_61 : decode b_MO_isFull 61 = .ok (.if_icmp .ne 18, 3) := dc_160 (by decide +kernel)
theorem d_MO_isFull_64 : decode b_MO_isFull 64 = .ok (.aload_n 0, 1) := dc_42 (by decide +kernel)
theorem d_MO_isFull_65 : decode b_MO_isFull 65 = .ok (.bipush 6, 2) := dc_16 (by decide +kernel)
theorem d_MO_isFull_67 : decode b_MO_isFull 67 = .ok (.invokevirtual 222, 3) := dc_182 (by decide +kernel)
theorem d_MO_isFull_70 : decode b_MO_isFull 70 = .ok (.bipush 8, 2) := dc_16 (by decide +kernel)
theorem d_MO_isFull_72 : decode b_MO_isFull 72 = .ok (.if_icmp .ne 7, 3) := dc_160 (by decide +kernel)
theorem d_MO_isFull_75 : decode b_MO_isFull 75 = .ok (.iconst 1, 1) := dc_4 (by decide +kernel)
theorem d_MO_isFull_76 : decode b_MO_isFull 76 = .ok (.goto 4, 3) := dc_167 (by decide +kernel)
theorem d_MO_isFull_79 : decode b_MO_isFull 79 = .ok (.iconst 0, 1) := dc_3 (by decide +kernel)
theorem d_MO_isFull_80 : decode b_MO_isFull 80 = .ok (.ireturn, 1) := dc_172 (by decide +kernel)
def t_MO_isFull_L59 (x1 : Int)  (M : Mem)  : Option (Int) := (if x1 = 5 then (obind (t_MO_fresher M 6) fun q18 => (if q18 = 8 then (some 1) else (some 0))) else (some 0))
def t_MO_isFull_L44 (x1 : Int)  (M : Mem)  : Option (Int) := (if x1 = 4 then (obind (t_MO_fresher M 5) fun q14 => (if q14 = 8 then (some 1) else (t_MO_isFull_L59 x1 M))) else (t_MO_isFull_L59 x1 M))
def t_MO_isFull_L29 (x1 : Int)  (M : Mem)  : Option (Int) := (if x1 = 3 then (obind (t_MO_fresher M 4) fun q10 => (if q10 = 12 then (some 1) else (t_MO_isFull_L44 x1 M))) else (t_MO_isFull_L44 x1 M))
def t_MO_isFull_L14 (x1 : Int)  (M : Mem)  : Option (Int) := (if x1 = 2 then (obind (t_MO_fresher M 3) fun q6 => (if q6 = 12 then (some 1) else (t_MO_isFull_L29 x1 M))) else (t_MO_isFull_L29 x1 M))
def t_MO_isFull (M : Mem) (x1 : Int) : Option (Int) := (if x1 = 1 then (obind (t_MO_fresher M 2) fun q2 => (if q2 = 4 then (some 1) else (t_MO_isFull_L14 x1 M))) else (t_MO_isFull_L14 x1 M))
set_option maxHeartbeats 4000000 in
set_option maxRecDepth 100000 in
theorem k_MO_isFull_L59 (l : Launch) {p : Program} {e : Env} {s : State} {m : MethodId} {below : List Frame} {meth : Method} {c : Code} {b n : Nat} {C : CT} (hlo : 231 ≤ n) (x1 : Int) (hx1 : InR x1) (F : Cx b p m c b_MO_isFull 2 s ([.ref (b + 191), vI x1] : List Value).toArray "WardFallsModel" C n 231) (hlk : meth.locks = false) (hr : meth.sig.returnType = some .boolean) {res : Int} (M : Mem)  (H : Heap) (locs : List Loc) (ls : Array Slot) (hS : St b C n M s H locs) (hl : lv_has ls 2 [(0, .ref (b + 191)), (1, vI x1)]) (hT : t_MO_isFull_L59 x1 M = some res) : W p l e (headSpec (wsM y_MO_isFull b_MO_isFull 2 (some .boolean)) (rmD 1)).room s m ([.ref (b + 191), vI x1] : List Value).toArray below meth c H locs 0 0 (MQ below (QZ b C n M res) ([.ref (b + 191), vI x1] : List Value).toArray s 0 0 (frb b)) (F0 m 59 ls []) := by
  unfold t_MO_isFull_L59 at hT
  refine lv_iload_n F.hx F.hb d_MO_isFull_59 rfl (lv_at hl 1 rfl) ?_
  refine r_iconst F.hx F.hb d_MO_isFull_60 ?_
  refine r_icmp_ne (tgt := 79) F.hx F.hb hx1 (inr_c rfl) d_MO_isFull_61 (by decide) (fun c17 => ?_) (fun c17 => ?_)
  · replace hT := (if_neg c17).symm.trans hT
    refine r_iconst F.hx F.hb d_MO_isFull_79 ?_
    cases hT
    exact r_zret F hlk hr hS (Or.inl rfl) d_MO_isFull_80
  · replace hT := (if_pos c17).symm.trans hT
    refine lv_aload_n F.hx F.hb d_MO_isFull_64 rfl (lv_at hl 0 rfl) ?_
    refine r_bipush F.hx F.hb d_MO_isFull_65 rfl ?_
    obtain ⟨q18, hq18, hT⟩ := q_obind hT
    refine r_backI F hS (r_runV (k := 191) (N := 68) (T := T1) (As := [vI 6]) F hS (show 191 < 231 by decide) (show shK 191 = 5 from rfl) rfl (c_MO_fresher l F.2.2.1 M 6 (inr_c rfl) _ hq18) gs_MO_222 hd_MO_fresher ⟨Nat.le_of_ble_eq_true rfl, Nat.le_of_ble_eq_true rfl⟩ rfl hl.1 (Nat.le_of_ble_eq_true rfl) ⟨Nat.zero_le _, Nat.zero_le _⟩ rfl d_MO_isFull_67) (fun H locs hS h19 => ?_)
    refine r_bipush F.hx F.hb d_MO_isFull_70 rfl ?_
    refine r_icmp_ne (tgt := 79) F.hx F.hb h19 (inr_c rfl) d_MO_isFull_72 (by decide) (fun c20 => ?_) (fun c20 => ?_)
    · replace hT := (if_neg c20).symm.trans hT
      refine r_iconst F.hx F.hb d_MO_isFull_79 ?_
      cases hT
      exact r_zret F hlk hr hS (Or.inl rfl) d_MO_isFull_80
    · replace hT := (if_pos c20).symm.trans hT
      refine r_iconst F.hx F.hb d_MO_isFull_75 ?_
      refine lv_goto (tgt := 80) F.hx F.hb d_MO_isFull_76 (by decide) ?_
      cases hT
      exact r_zret F hlk hr hS (Or.inr rfl) d_MO_isFull_80
set_option maxHeartbeats 4000000 in
set_option maxRecDepth 100000 in
theorem k_MO_isFull_L44 (l : Launch) {p : Program} {e : Env} {s : State} {m : MethodId} {below : List Frame} {meth : Method} {c : Code} {b n : Nat} {C : CT} (hlo : 231 ≤ n) (x1 : Int) (hx1 : InR x1) (F : Cx b p m c b_MO_isFull 2 s ([.ref (b + 191), vI x1] : List Value).toArray "WardFallsModel" C n 231) (hlk : meth.locks = false) (hr : meth.sig.returnType = some .boolean) {res : Int} (M : Mem)  (H : Heap) (locs : List Loc) (ls : Array Slot) (hS : St b C n M s H locs) (hl : lv_has ls 2 [(0, .ref (b + 191)), (1, vI x1)]) (hT : t_MO_isFull_L44 x1 M = some res) : W p l e (headSpec (wsM y_MO_isFull b_MO_isFull 2 (some .boolean)) (rmD 1)).room s m ([.ref (b + 191), vI x1] : List Value).toArray below meth c H locs 0 0 (MQ below (QZ b C n M res) ([.ref (b + 191), vI x1] : List Value).toArray s 0 0 (frb b)) (F0 m 44 ls []) := by
  unfold t_MO_isFull_L44 at hT
  refine lv_iload_n F.hx F.hb d_MO_isFull_44 rfl (lv_at hl 1 rfl) ?_
  refine r_iconst F.hx F.hb d_MO_isFull_45 ?_
  refine r_icmp_ne (tgt := 59) F.hx F.hb hx1 (inr_c rfl) d_MO_isFull_46 (by decide) (fun c13 => ?_) (fun c13 => ?_)
  · replace hT := (if_neg c13).symm.trans hT
    exact k_MO_isFull_L59 l hlo x1 hx1 F hlk hr M _ _ _ hS (lv_sub hl [0, 1] rfl) hT
  · replace hT := (if_pos c13).symm.trans hT
    refine lv_aload_n F.hx F.hb d_MO_isFull_49 rfl (lv_at hl 0 rfl) ?_
    refine r_iconst F.hx F.hb d_MO_isFull_50 ?_
    obtain ⟨q14, hq14, hT⟩ := q_obind hT
    refine r_backI F hS (r_runV (k := 191) (N := 68) (T := T1) (As := [vI 5]) F hS (show 191 < 231 by decide) (show shK 191 = 5 from rfl) rfl (c_MO_fresher l F.2.2.1 M 5 (inr_c rfl) _ hq14) gs_MO_222 hd_MO_fresher ⟨Nat.le_of_ble_eq_true rfl, Nat.le_of_ble_eq_true rfl⟩ rfl hl.1 (Nat.le_of_ble_eq_true rfl) ⟨Nat.zero_le _, Nat.zero_le _⟩ rfl d_MO_isFull_51) (fun H locs hS h15 => ?_)
    refine r_bipush F.hx F.hb d_MO_isFull_54 rfl ?_
    refine r_icmp_eq (tgt := 75) F.hx F.hb h15 (inr_c rfl) d_MO_isFull_56 (by decide) (fun c16 => ?_) (fun c16 => ?_)
    · replace hT := (if_pos c16).symm.trans hT
      refine r_iconst F.hx F.hb d_MO_isFull_75 ?_
      refine lv_goto (tgt := 80) F.hx F.hb d_MO_isFull_76 (by decide) ?_
      cases hT
      exact r_zret F hlk hr hS (Or.inr rfl) d_MO_isFull_80
    · replace hT := (if_neg c16).symm.trans hT
      exact k_MO_isFull_L59 l hlo x1 hx1 F hlk hr M _ _ _ hS (lv_sub hl [0, 1] rfl) hT
set_option maxHeartbeats 4000000 in
set_option maxRecDepth 100000 in
theorem k_MO_isFull_L29 (l : Launch) {p : Program} {e : Env} {s : State} {m : MethodId} {below : List Frame} {meth : Method} {c : Code} {b n : Nat} {C : CT} (hlo : 231 ≤ n) (x1 : Int) (hx1 : InR x1) (F : Cx b p m c b_MO_isFull 2 s ([.ref (b + 191), vI x1] : List Value).toArray "WardFallsModel" C n 231) (hlk : meth.locks = false) (hr : meth.sig.returnType = some .boolean) {res : Int} (M : Mem)  (H : Heap) (locs : List Loc) (ls : Array Slot) (hS : St b C n M s H locs) (hl : lv_has ls 2 [(0, .ref (b + 191)), (1, vI x1)]) (hT : t_MO_isFull_L29 x1 M = some res) : W p l e (headSpec (wsM y_MO_isFull b_MO_isFull 2 (some .boolean)) (rmD 1)).room s m ([.ref (b + 191), vI x1] : List Value).toArray below meth c H locs 0 0 (MQ below (QZ b C n M res) ([.ref (b + 191), vI x1] : List Value).toArray s 0 0 (frb b)) (F0 m 29 ls []) := by
  unfold t_MO_isFull_L29 at hT
  refine lv_iload_n F.hx F.hb d_MO_isFull_29 rfl (lv_at hl 1 rfl) ?_
  refine r_iconst F.hx F.hb d_MO_isFull_30 ?_
  refine r_icmp_ne (tgt := 44) F.hx F.hb hx1 (inr_c rfl) d_MO_isFull_31 (by decide) (fun c9 => ?_) (fun c9 => ?_)
  · replace hT := (if_neg c9).symm.trans hT
    exact k_MO_isFull_L44 l hlo x1 hx1 F hlk hr M _ _ _ hS (lv_sub hl [0, 1] rfl) hT
  · replace hT := (if_pos c9).symm.trans hT
    refine lv_aload_n F.hx F.hb d_MO_isFull_34 rfl (lv_at hl 0 rfl) ?_
    refine r_iconst F.hx F.hb d_MO_isFull_35 ?_
    obtain ⟨q10, hq10, hT⟩ := q_obind hT
    refine r_backI F hS (r_runV (k := 191) (N := 68) (T := T1) (As := [vI 4]) F hS (show 191 < 231 by decide) (show shK 191 = 5 from rfl) rfl (c_MO_fresher l F.2.2.1 M 4 (inr_c rfl) _ hq10) gs_MO_222 hd_MO_fresher ⟨Nat.le_of_ble_eq_true rfl, Nat.le_of_ble_eq_true rfl⟩ rfl hl.1 (Nat.le_of_ble_eq_true rfl) ⟨Nat.zero_le _, Nat.zero_le _⟩ rfl d_MO_isFull_36) (fun H locs hS h11 => ?_)
    refine r_bipush F.hx F.hb d_MO_isFull_39 rfl ?_
    refine r_icmp_eq (tgt := 75) F.hx F.hb h11 (inr_c rfl) d_MO_isFull_41 (by decide) (fun c12 => ?_) (fun c12 => ?_)
    · replace hT := (if_pos c12).symm.trans hT
      refine r_iconst F.hx F.hb d_MO_isFull_75 ?_
      refine lv_goto (tgt := 80) F.hx F.hb d_MO_isFull_76 (by decide) ?_
      cases hT
      exact r_zret F hlk hr hS (Or.inr rfl) d_MO_isFull_80
    · replace hT := (if_neg c12).symm.trans hT
      exact k_MO_isFull_L44 l hlo x1 hx1 F hlk hr M _ _ _ hS (lv_sub hl [0, 1] rfl) hT
set_option maxHeartbeats 4000000 in
set_option maxRecDepth 100000 in
theorem k_MO_isFull_L14 (l : Launch) {p : Program} {e : Env} {s : State} {m : MethodId} {below : List Frame} {meth : Method} {c : Code} {b n : Nat} {C : CT} (hlo : 231 ≤ n) (x1 : Int) (hx1 : InR x1) (F : Cx b p m c b_MO_isFull 2 s ([.ref (b + 191), vI x1] : List Value).toArray "WardFallsModel" C n 231) (hlk : meth.locks = false) (hr : meth.sig.returnType = some .boolean) {res : Int} (M : Mem)  (H : Heap) (locs : List Loc) (ls : Array Slot) (hS : St b C n M s H locs) (hl : lv_has ls 2 [(0, .ref (b + 191)), (1, vI x1)]) (hT : t_MO_isFull_L14 x1 M = some res) : W p l e (headSpec (wsM y_MO_isFull b_MO_isFull 2 (some .boolean)) (rmD 1)).room s m ([.ref (b + 191), vI x1] : List Value).toArray below meth c H locs 0 0 (MQ below (QZ b C n M res) ([.ref (b + 191), vI x1] : List Value).toArray s 0 0 (frb b)) (F0 m 14 ls []) := by
  unfold t_MO_isFull_L14 at hT
  refine lv_iload_n F.hx F.hb d_MO_isFull_14 rfl (lv_at hl 1 rfl) ?_
  refine r_iconst F.hx F.hb d_MO_isFull_15 ?_
  refine r_icmp_ne (tgt := 29) F.hx F.hb hx1 (inr_c rfl) d_MO_isFull_16 (by decide) (fun c5 => ?_) (fun c5 => ?_)
  · replace hT := (if_neg c5).symm.trans hT
    exact k_MO_isFull_L29 l hlo x1 hx1 F hlk hr M _ _ _ hS (lv_sub hl [0, 1] rfl) hT
  · replace hT := (if_pos c5).symm.trans hT
    refine lv_aload_n F.hx F.hb d_MO_isFull_19 rfl (lv_at hl 0 rfl) ?_
    refine r_iconst F.hx F.hb d_MO_isFull_20 ?_
    obtain ⟨q6, hq6, hT⟩ := q_obind hT
    refine r_backI F hS (r_runV (k := 191) (N := 68) (T := T1) (As := [vI 3]) F hS (show 191 < 231 by decide) (show shK 191 = 5 from rfl) rfl (c_MO_fresher l F.2.2.1 M 3 (inr_c rfl) _ hq6) gs_MO_222 hd_MO_fresher ⟨Nat.le_of_ble_eq_true rfl, Nat.le_of_ble_eq_true rfl⟩ rfl hl.1 (Nat.le_of_ble_eq_true rfl) ⟨Nat.zero_le _, Nat.zero_le _⟩ rfl d_MO_isFull_21) (fun H locs hS h7 => ?_)
    refine r_bipush F.hx F.hb d_MO_isFull_24 rfl ?_
    refine r_icmp_eq (tgt := 75) F.hx F.hb h7 (inr_c rfl) d_MO_isFull_26 (by decide) (fun c8 => ?_) (fun c8 => ?_)
    · replace hT := (if_pos c8).symm.trans hT
      refine r_iconst F.hx F.hb d_MO_isFull_75 ?_
      refine lv_goto (tgt := 80) F.hx F.hb d_MO_isFull_76 (by decide) ?_
      cases hT
      exact r_zret F hlk hr hS (Or.inr rfl) d_MO_isFull_80
    · replace hT := (if_neg c8).symm.trans hT
      exact k_MO_isFull_L29 l hlo x1 hx1 F hlk hr M _ _ _ hS (lv_sub hl [0, 1] rfl) hT
set_option maxHeartbeats 4000000 in
set_option maxRecDepth 100000 in
theorem c_MO_isFull (l : Launch) {b n : Nat} {C : CT} (hlo : 231 ≤ n) (M : Mem) (x1 : Int) (hx1 : InR x1) (res : Int) (hT : t_MO_isFull M x1 = some res) : CM l b C n 1 y_MO_isFull b_MO_isFull 2 (some .boolean) [.ref (b + 191), vI x1] M (QZ b C n M res) := by
  refine CM.of (lo := 231) (ow := "WardFallsModel") (by decide) rfl (Nat.le_of_ble_eq_true rfl) hlo (fun p e s m below meth c F hlk hr hS ls hl => ?_)
  have hl : lv_has ls 2 [(0, .ref (b + 191)), (1, vI x1)] := hl
  unfold t_MO_isFull at hT
  refine lv_iload_n F.hx F.hb d_MO_isFull_0 rfl (lv_at hl 1 rfl) ?_
  refine r_iconst F.hx F.hb d_MO_isFull_1 ?_
  refine r_icmp_ne (tgt := 14) F.hx F.hb hx1 (inr_c rfl) d_MO_isFull_2 (by decide) (fun c1 => ?_) (fun c1 => ?_)
  · replace hT := (if_neg c1).symm.trans hT
    exact k_MO_isFull_L14 l hlo x1 hx1 F hlk hr M _ _ _ hS (lv_sub hl [0, 1] rfl) hT
  · replace hT := (if_pos c1).symm.trans hT
    refine lv_aload_n F.hx F.hb d_MO_isFull_5 rfl (lv_at hl 0 rfl) ?_
    refine r_iconst F.hx F.hb d_MO_isFull_6 ?_
    obtain ⟨q2, hq2, hT⟩ := q_obind hT
    refine r_backI F hS (r_runV (k := 191) (N := 68) (T := T1) (As := [vI 2]) F hS (show 191 < 231 by decide) (show shK 191 = 5 from rfl) rfl (c_MO_fresher l F.2.2.1 M 2 (inr_c rfl) _ hq2) gs_MO_222 hd_MO_fresher ⟨Nat.le_of_ble_eq_true rfl, Nat.le_of_ble_eq_true rfl⟩ rfl hl.1 (Nat.le_of_ble_eq_true rfl) ⟨Nat.zero_le _, Nat.zero_le _⟩ rfl d_MO_isFull_7) (fun H locs hS h3 => ?_)
    refine r_iconst F.hx F.hb d_MO_isFull_10 ?_
    refine r_icmp_eq (tgt := 75) F.hx F.hb h3 (inr_c rfl) d_MO_isFull_11 (by decide) (fun c4 => ?_) (fun c4 => ?_)
    · replace hT := (if_pos c4).symm.trans hT
      refine r_iconst F.hx F.hb d_MO_isFull_75 ?_
      refine lv_goto (tgt := 80) F.hx F.hb d_MO_isFull_76 (by decide) ?_
      cases hT
      exact r_zret F hlk hr hS (Or.inr rfl) d_MO_isFull_80
    · replace hT := (if_neg c4).symm.trans hT
      exact k_MO_isFull_L14 l hlo x1 hx1 F hlk hr M _ _ _ hS (lv_sub hl [0, 1] rfl) hT
theorem d_MO_isTold_0 : decode b_MO_isTold 0 = .ok (.aload_n 0, 1) := dc_42 (by decide +kernel)
theorem d_MO_isTold_1 : decode b_MO_isTold 1 = .ok (.getfield 229, 3) := dc_180 (by decide +kernel)
theorem d_MO_isTold_4 : decode b_MO_isTold 4 = .ok (.iload_n 1, 1) := dc_27 (by decide +kernel)
theorem d_MO_isTold_5 : decode b_MO_isTold 5 = .ok (.ishr, 1) := dc_122 (by decide +kernel)
theorem d_MO_isTold_6 : decode b_MO_isTold 6 = .ok (.iconst 1, 1) := dc_4 (by decide +kernel)
theorem d_MO_isTold_7 : decode b_MO_isTold 7 = .ok (.iand, 1) := dc_126 (by decide +kernel)
theorem d_MO_isTold_8 : decode b_MO_isTold 8 = .ok (.iconst 1, 1) := dc_4 (by decide +kernel)
theorem d_MO_isTold_9 : decode b_MO_isTold 9 = .ok (.if_icmp .ne 7, 3) := dc_160 (by decide +kernel)
theorem d_MO_isTold_12 : decode b_MO_isTold 12 = .ok (.iconst 1, 1) := dc_4 (by decide +kernel)
theorem d_MO_isTold_13 : decode b_MO_isTold 13 = .ok (.goto 4, 3) := dc_167 (by decide +kernel)
theorem d_MO_isTold_16 : decode b_MO_isTold 16 = .ok (.iconst 0, 1) := dc_3 (by decide +kernel)
theorem d_MO_isTold_17 : decode b_MO_isTold 17 = .ok (.ireturn, 1) := dc_172 (by decide +kernel)
def t_MO_isTold (M : Mem) (x1 : Int) : Int := (if (q_and (q_shr (M.1 191 17) x1) 1) = 1 then 1 else 0)
set_option maxHeartbeats 4000000 in
set_option maxRecDepth 100000 in
theorem c_MO_isTold (l : Launch) {b n : Nat} {C : CT} (hlo : 231 ≤ n) (M : Mem) (x1 : Int) (hx1 : InR x1) (res : Int) (hT : t_MO_isTold M x1 = res) : CM l b C n 0 y_MO_isTold b_MO_isTold 2 (some .boolean) [.ref (b + 191), vI x1] M (QZ b C n M res) := by
  refine CM.of (lo := 231) (ow := "WardFallsModel") (by decide) rfl (Nat.le_of_ble_eq_true rfl) hlo (fun p e s m below meth c F hlk hr hS ls hl => ?_)
  have hl : lv_has ls 2 [(0, .ref (b + 191)), (1, vI x1)] := hl
  unfold t_MO_isTold at hT
  refine lv_aload_n F.hx F.hb d_MO_isTold_0 rfl (lv_at hl 0 rfl) ?_
  refine r_get (v := vI (M.1 191 17)) (N := 68) (T := T1) (j := 17) F hS (show 191 < 231 by decide) (show shK 191 = 5 from rfl) (show shN 191 = 68 from rfl) rfl (Nat.le_of_ble_eq_true rfl) ing1 mw_1406 (fv_int rfl) d_MO_isTold_1 ?_
  have i1 := hS.rng 191 17
  refine lv_iload_n F.hx F.hb d_MO_isTold_4 rfl (lv_at hl 1 rfl) ?_
  refine r_ishr F.hx F.hb d_MO_isTold_5 ?_
  refine r_iconst F.hx F.hb d_MO_isTold_6 ?_
  refine r_iand F.hx F.hb d_MO_isTold_7 ?_
  refine r_iconst F.hx F.hb d_MO_isTold_8 ?_
  refine r_icmp_ne (tgt := 16) F.hx F.hb (q_inr_toInt _) (inr_c rfl) d_MO_isTold_9 (by decide) (fun c2 => ?_) (fun c2 => ?_)
  · replace hT := (if_neg c2).symm.trans hT
    refine r_iconst F.hx F.hb d_MO_isTold_16 ?_
    subst hT
    exact r_zret F hlk hr hS (Or.inl rfl) d_MO_isTold_17
  · replace hT := (if_pos c2).symm.trans hT
    refine r_iconst F.hx F.hb d_MO_isTold_12 ?_
    refine lv_goto (tgt := 17) F.hx F.hb d_MO_isTold_13 (by decide) ?_
    subst hT
    exact r_zret F hlk hr hS (Or.inr rfl) d_MO_isTold_17
theorem d_MO_wardLine_0 : decode b_MO_wardLine 0 = .ok (.aload_n 0, 1) := dc_42 (by decide +kernel)
theorem d_MO_wardLine_1 : decode b_MO_wardLine 1 = .ok (.getfield 16, 3) := dc_180 (by decide +kernel)
theorem d_MO_wardLine_4 : decode b_MO_wardLine 4 = .ok (.iload_n 1, 1) := dc_27 (by decide +kernel)
theorem d_MO_wardLine_5 : decode b_MO_wardLine 5 = .ok (.aload_n 0, 1) := dc_42 (by decide +kernel)
theorem d_MO_wardLine_6 : decode b_MO_wardLine 6 = .ok (.aload_n 0, 1) := dc_42 (by decide +kernel)
theorem d_MO_wardLine_7 : decode b_MO_wardLine 7 = .ok (.getfield 16, 3) := dc_180 (by decide +kernel)
theorem d_MO_wardLine_10 : decode b_MO_wardLine 10 = .ok (.iconst 4, 1) := dc_7 (by decide +kernel)
theorem d_MO_wardLine_11 : decode b_MO_wardLine 11 = .ok (.aload_n 0, 1) := dc_42 (by decide +kernel)
theorem d_MO_wardLine_12 : decode b_MO_wardLine 12 = .ok (.iconst 2, 1) := dc_5 (by decide +kernel)
theorem d_MO_wardLine_13 : decode b_MO_wardLine 13 = .ok (.invokevirtual 222, 3) := dc_182 (by decide +kernel)
theorem d_MO_wardLine_16 : decode b_MO_wardLine 16 = .ok (.invokevirtual 266, 3) := dc_182 (by decide +kernel)
theorem d_MO_wardLine_19 : decode b_MO_wardLine 19 = .ok (.iastore, 1) := dc_79 (by decide +kernel)
theorem d_MO_wardLine_20 : decode b_MO_wardLine 20 = .ok (.aload_n 0, 1) := dc_42 (by decide +kernel)
theorem d_MO_wardLine_21 : decode b_MO_wardLine 21 = .ok (.getfield 199, 3) := dc_180 (by decide +kernel)
theorem d_MO_wardLine_24 : decode b_MO_wardLine 24 = .ok (.ifCond .ne 33, 3) := dc_154 (by decide +kernel)
theorem d_MO_wardLine_27 : decode b_MO_wardLine 27 = .ok (.aload_n 0, 1) := dc_42 (by decide +kernel)
theorem d_MO_wardLine_28 : decode b_MO_wardLine 28 = .ok (.getfield 164, 3) := dc_180 (by decide +kernel)
theorem d_MO_wardLine_31 : decode b_MO_wardLine 31 = .ok (.ifCond .ne 21, 3) := dc_154 (by decide +kernel)
theorem d_MO_wardLine_34 : decode b_MO_wardLine 34 = .ok (.aload_n 0, 1) := dc_42 (by decide +kernel)
theorem d_MO_wardLine_35 : decode b_MO_wardLine 35 = .ok (.getfield 174, 3) := dc_180 (by decide +kernel)
theorem d_MO_wardLine_38 : decode b_MO_wardLine 38 = .ok (.bipush 8, 2) := dc_16 (by decide +kernel)
theorem d_MO_wardLine_40 : decode b_MO_wardLine 40 = .ok (.if_icmp .lt 12, 3) := dc_161 (by decide +kernel)
theorem d_MO_wardLine_43 : decode b_MO_wardLine 43 = .ok (.aload_n 0, 1) := dc_42 (by decide +kernel)
theorem d_MO_wardLine_44 : decode b_MO_wardLine 44 = .ok (.getfield 174, 3) := dc_180 (by decide +kernel)
theorem d_MO_wardLine_47 : decode b_MO_wardLine 47 = .ok (.bipush 12, 2) := dc_16 (by decide +kernel)
theorem d_MO_wardLine_49 : decode b_MO_wardLine 49 = .ok (.if_icmp .le 8, 3) := dc_164 (by decide +kernel)
theorem d_MO_wardLine_52 : decode b_MO_wardLine 52 = .ok (.aload_n 0, 1) := dc_42 (by decide +kernel)
theorem d_MO_wardLine_53 : decode b_MO_wardLine 53 = .ok (.iconst 1, 1) := dc_4 (by decide +kernel)
theorem d_MO_wardLine_54 : decode b_MO_wardLine 54 = .ok (.invokevirtual 208, 3) := dc_182 (by decide +kernel)
theorem d_MO_wardLine_57 : decode b_MO_wardLine 57 = .ok (.aload_n 0, 1) := dc_42 (by decide +kernel)
theorem d_MO_wardLine_58 : decode b_MO_wardLine 58 = .ok (.getfield 199, 3) := dc_180 (by decide +kernel)
theorem d_MO_wardLine_61 : decode b_MO_wardLine 61 = .ok (.ifCond .eq 4, 3) := dc_153 (by decide +kernel)
theorem d_MO_wardLine_64 : decode b_MO_wardLine 64 = .ok (.return_, 1) := dc_177 (by decide +kernel)
theorem d_MO_wardLine_65 : decode b_MO_wardLine 65 = .ok (.aload_n 0, 1) := dc_42 (by decide +kernel)
theorem d_MO_wardLine_66 : decode b_MO_wardLine 66 = .ok (.getfield 19, 3) := dc_180 (by decide +kernel)
theorem d_MO_wardLine_69 : decode b_MO_wardLine 69 = .ok (.iload_n 1, 1) := dc_27 (by decide +kernel)
theorem d_MO_wardLine_70 : decode b_MO_wardLine 70 = .ok (.aload_n 0, 1) := dc_42 (by decide +kernel)
theorem d_MO_wardLine_71 : decode b_MO_wardLine 71 = .ok (.getfield 174, 3) := dc_180 (by decide +kernel)
theorem d_MO_wardLine_74 : decode b_MO_wardLine 74 = .ok (.bipush 8, 2) := dc_16 (by decide +kernel)
theorem d_MO_wardLine_76 : decode b_MO_wardLine 76 = .ok (.isub, 1) := dc_100 (by decide +kernel)
theorem d_MO_wardLine_77 : decode b_MO_wardLine 77 = .ok (.iastore, 1) := dc_79 (by decide +kernel)
theorem d_MO_wardLine_78 : decode b_MO_wardLine 78 = .ok (.aload_n 0, 1) := dc_42 (by decide +kernel)
theorem d_MO_wardLine_79 : decode b_MO_wardLine 79 = .ok (.invokevirtual 205, 3) := dc_182 (by decide +kernel)
theorem d_MO_wardLine_82 : decode b_MO_wardLine 82 = .ok (.aload_n 0, 1) := dc_42 (by decide +kernel)
theorem d_MO_wardLine_83 : decode b_MO_wardLine 83 = .ok (.getfield 22, 3) := dc_180 (by decide +kernel)
theorem d_MO_wardLine_86 : decode b_MO_wardLine 86 = .ok (.iload_n 1, 1) := dc_27 (by decide +kernel)
theorem d_MO_wardLine_87 : decode b_MO_wardLine 87 = .ok (.aload_n 0, 1) := dc_42 (by decide +kernel)
theorem d_MO_wardLine_88 : decode b_MO_wardLine 88 = .ok (.iconst 0, 1) := dc_3 (by decide +kernel)
theorem d_MO_wardLine_89 : decode b_MO_wardLine 89 = .ok (.bipush 99, 2) := dc_16 (by decide +kernel)
theorem d_MO_wardLine_91 : decode b_MO_wardLine 91 = .ok (.invokevirtual 226, 3) := dc_182 (by decide +kernel)
theorem d_MO_wardLine_94 : decode b_MO_wardLine 94 = .ok (.iastore, 1) := dc_79 (by decide +kernel)
theorem d_MO_wardLine_95 : decode b_MO_wardLine 95 = .ok (.aload_n 0, 1) := dc_42 (by decide +kernel)
theorem d_MO_wardLine_96 : decode b_MO_wardLine 96 = .ok (.iconst 2, 1) := dc_5 (by decide +kernel)
theorem d_MO_wardLine_97 : decode b_MO_wardLine 97 = .ok (.aload_n 0, 1) := dc_42 (by decide +kernel)
theorem d_MO_wardLine_98 : decode b_MO_wardLine 98 = .ok (.iconst 2, 1) := dc_5 (by decide +kernel)
theorem d_MO_wardLine_99 : decode b_MO_wardLine 99 = .ok (.invokevirtual 222, 3) := dc_182 (by decide +kernel)
theorem d_MO_wardLine_102 : decode b_MO_wardLine 102 = .ok (.iconst 1, 1) := dc_4 (by decide +kernel)
theorem d_MO_wardLine_103 : decode b_MO_wardLine 103 = .ok (.iadd, 1) := dc_96 (by decide +kernel)
theorem d_MO_wardLine_104 : decode b_MO_wardLine 104 = .ok (.invokevirtual 238, 3) := dc_182 (by decide +kernel)
theorem d_MO_wardLine_107 : decode b_MO_wardLine 107 = .ok (.return_, 1) := dc_177 (by decide +kernel)
def t_MO_wardLine_L57 (x1 : Int)  (M : Mem)  : Option (Mem) := (if (M.1 191 24) = 0 then (qguard (0 ≤ x1 ∧ x1 < 8) (qlet (setI M 195 x1 (w32 ((M.1 191 23) - 8))) fun M19 => (obind (t_MO_token M19) fun q20 => (obind (t_MO_numeral q20 0 99) fun q22 => (qguard (0 ≤ x1 ∧ x1 < 8) (qlet (setI (q22.1) 196 x1 (q22.2)) fun M25 => (obind (t_MO_fresher M25 2) fun q26 => (obind (t_MO_reads M25 2 (w32 (q26 + 1))) fun q28 => (some q28))))))))) else (some M))
def t_MO_wardLine_L52 (x1 : Int)  (M : Mem)  : Option (Mem) := (qlet (t_MO_wrong M 1) fun q30 => (t_MO_wardLine_L57 x1 q30))
def t_MO_wardLine (M : Mem) (x1 : Int) : Option (Mem) := (obind (t_MO_fresher M 2) fun q1 => (obind (t_MO_fresh M 194 8 4 q1) fun q3 => (qguard (0 ≤ x1 ∧ x1 < 8) (qlet (setI (q3.1) 194 x1 (q3.2)) fun M6 => (if (M6.1 191 24) = 0 then (if (M6.1 191 22) = 0 then (if (M6.1 191 23) < 8 then (t_MO_wardLine_L52 x1 M6) else (if (M6.1 191 23) ≤ 12 then (t_MO_wardLine_L57 x1 M6) else (t_MO_wardLine_L52 x1 M6))) else (t_MO_wardLine_L52 x1 M6)) else (t_MO_wardLine_L57 x1 M6))))))
set_option maxHeartbeats 4000000 in
set_option maxRecDepth 100000 in
theorem k_MO_wardLine_L57 (l : Launch) {p : Program} {e : Env} {s : State} {m : MethodId} {below : List Frame} {meth : Method} {c : Code} {b n : Nat} {C : CT} (hlo : 231 ≤ n) (x1 : Int) (hx1 : InR x1) (F : Cx b p m c b_MO_wardLine 2 s ([.ref (b + 191), vI x1] : List Value).toArray "WardFallsModel" C n 231) (hlk : meth.locks = false) (hr : meth.sig.returnType = none) {res : Mem} (M : Mem)  (H : Heap) (locs : List Loc) (ls : Array Slot) (hS : St b C n M s H locs) (hl : lv_has ls 2 [(0, .ref (b + 191)), (1, vI x1)]) (hT : t_MO_wardLine_L57 x1 M = some res) : W p l e (headSpec (wsM y_MO_wardLine b_MO_wardLine 2 (none)) (rmD 8)).room s m ([.ref (b + 191), vI x1] : List Value).toArray below meth c H locs 0 0 (MQ below (QV b C n res) ([.ref (b + 191), vI x1] : List Value).toArray s 0 0 (frb b)) (F0 m 57 ls []) := by
  unfold t_MO_wardLine_L57 at hT
  refine lv_aload_n F.hx F.hb d_MO_wardLine_57 rfl (lv_at hl 0 rfl) ?_
  refine r_get (v := vI (M.1 191 24)) (N := 68) (T := T1) (j := 24) F hS (show 191 < 231 by decide) (show shK 191 = 5 from rfl) (show shN 191 = 68 from rfl) rfl (Nat.le_of_ble_eq_true rfl) ing1 mw_1413 (fv_int rfl) d_MO_wardLine_58 ?_
  have i15 := hS.rng 191 24
  refine r_if_eq (tgt := 65) F.hx F.hb i15 d_MO_wardLine_61 (by decide) (fun c16 => ?_) (fun c16 => ?_)
  · replace hT := (if_pos c16).symm.trans hT
    refine lv_aload_n F.hx F.hb d_MO_wardLine_65 rfl (lv_at hl 0 rfl) ?_
    refine r_get (v := .ref (b + 195)) (N := 68) (T := T1) (j := 5) F hS (show 191 < 231 by decide) (show shK 191 = 5 from rfl) (show shN 191 = 68 from rfl) rfl (Nat.le_of_ble_eq_true rfl) ing1 mw_1394 (fv_sg rfl rfl rfl) d_MO_wardLine_66 ?_
    refine lv_iload_n F.hx F.hb d_MO_wardLine_69 rfl (lv_at hl 1 rfl) ?_
    refine lv_aload_n F.hx F.hb d_MO_wardLine_70 rfl (lv_at hl 0 rfl) ?_
    refine r_get (v := vI (M.1 191 23)) (N := 68) (T := T1) (j := 23) F hS (show 191 < 231 by decide) (show shK 191 = 5 from rfl) (show shN 191 = 68 from rfl) rfl (Nat.le_of_ble_eq_true rfl) ing1 mw_1412 (fv_int rfl) d_MO_wardLine_71 ?_
    have i17 := hS.rng 191 23
    refine r_bipush F.hx F.hb d_MO_wardLine_74 rfl ?_
    refine r_isub F.hx F.hb d_MO_wardLine_76 ?_
    obtain ⟨⟨g18a, g18b⟩, hT⟩ := q_guard hT
    refine r_iast F hS (show 195 < 231 by decide) (show shK 195 = 0 from rfl) (show shN 195 = 8 from rfl) hx1 (inr_w32 _) g18a g18b d_MO_wardLine_77 (fun H locs hS => ?_)
    obtain ⟨M19, eM19⟩ : ∃ q, q = (setI M 195 x1 (w32 ((M.1 191 23) - 8))) := ⟨_, rfl⟩
    replace hS : St b C n M19 s H locs := by rw [eM19]; exact hS
    replace hT := qlet_eq hT eM19
    refine lv_aload_n F.hx F.hb d_MO_wardLine_78 rfl (lv_at hl 0 rfl) ?_
    obtain ⟨q20, hq20, hT⟩ := q_obind hT
    refine r_backV F hS (r_runV (k := 191) (N := 68) (T := T1) (As := []) F hS (show 191 < 231 by decide) (show shK 191 = 5 from rfl) rfl (c_MO_token l F.2.2.1 M19 _ hq20) gs_MO_205 hd_MO_token ⟨Nat.le_of_ble_eq_true rfl, Nat.le_of_ble_eq_true rfl⟩ rfl hl.1 (Nat.le_of_ble_eq_true rfl) ⟨Nat.zero_le _, Nat.zero_le _⟩ rfl d_MO_wardLine_79) (fun H locs hS => ?_)
    refine lv_aload_n F.hx F.hb d_MO_wardLine_82 rfl (lv_at hl 0 rfl) ?_
    refine r_get (v := .ref (b + 196)) (N := 68) (T := T1) (j := 6) F hS (show 191 < 231 by decide) (show shK 191 = 5 from rfl) (show shN 191 = 68 from rfl) rfl (Nat.le_of_ble_eq_true rfl) ing1 mw_1395 (fv_sg rfl rfl rfl) d_MO_wardLine_83 ?_
    refine lv_iload_n F.hx F.hb d_MO_wardLine_86 rfl (lv_at hl 1 rfl) ?_
    refine lv_aload_n F.hx F.hb d_MO_wardLine_87 rfl (lv_at hl 0 rfl) ?_
    refine r_iconst F.hx F.hb d_MO_wardLine_88 ?_
    refine r_bipush F.hx F.hb d_MO_wardLine_89 rfl ?_
    obtain ⟨q22, hq22, hT⟩ := q_obind hT
    refine r_backI F hS (r_runV (k := 191) (N := 68) (T := T1) (As := [vI 0, vI 99]) F hS (show 191 < 231 by decide) (show shK 191 = 5 from rfl) rfl (c_MO_numeral l F.2.2.1 q20 0 99 (inr_c rfl) (inr_c rfl) _ hq22) gs_MO_226 hd_MO_numeral ⟨Nat.le_of_ble_eq_true rfl, Nat.le_of_ble_eq_true rfl⟩ rfl hl.1 (Nat.le_of_ble_eq_true rfl) ⟨Nat.zero_le _, Nat.zero_le _⟩ rfl d_MO_wardLine_91) (fun H locs hS h23 => ?_)
    obtain ⟨⟨g24a, g24b⟩, hT⟩ := q_guard hT
    refine r_iast F hS (show 196 < 231 by decide) (show shK 196 = 0 from rfl) (show shN 196 = 8 from rfl) hx1 h23 g24a g24b d_MO_wardLine_94 (fun H locs hS => ?_)
    obtain ⟨M25, eM25⟩ : ∃ q, q = (setI (q22.1) 196 x1 (q22.2)) := ⟨_, rfl⟩
    replace hS : St b C n M25 s H locs := by rw [eM25]; exact hS
    replace hT := qlet_eq hT eM25
    refine lv_aload_n F.hx F.hb d_MO_wardLine_95 rfl (lv_at hl 0 rfl) ?_
    refine r_iconst F.hx F.hb d_MO_wardLine_96 ?_
    refine lv_aload_n F.hx F.hb d_MO_wardLine_97 rfl (lv_at hl 0 rfl) ?_
    refine r_iconst F.hx F.hb d_MO_wardLine_98 ?_
    obtain ⟨q26, hq26, hT⟩ := q_obind hT
    refine r_backI F hS (r_runV (k := 191) (N := 68) (T := T1) (As := [vI 2]) F hS (show 191 < 231 by decide) (show shK 191 = 5 from rfl) rfl (c_MO_fresher l F.2.2.1 M25 2 (inr_c rfl) _ hq26) gs_MO_222 hd_MO_fresher ⟨Nat.le_of_ble_eq_true rfl, Nat.le_of_ble_eq_true rfl⟩ rfl hl.1 (Nat.le_of_ble_eq_true rfl) ⟨Nat.zero_le _, Nat.zero_le _⟩ rfl d_MO_wardLine_99) (fun H locs hS h27 => ?_)
    refine r_iconst F.hx F.hb d_MO_wardLine_102 ?_
    refine r_iadd F.hx F.hb d_MO_wardLine_103 ?_
    obtain ⟨q28, hq28, hT⟩ := q_obind hT
    refine r_backV F hS (r_runV (k := 191) (N := 68) (T := T1) (As := [vI 2, vI (w32 (q26 + 1))]) F hS (show 191 < 231 by decide) (show shK 191 = 5 from rfl) rfl (c_MO_reads l F.2.2.1 M25 2 (w32 (q26 + 1)) (inr_c rfl) (inr_w32 _) _ hq28) gs_MO_238 hd_MO_reads ⟨Nat.le_of_ble_eq_true rfl, Nat.le_of_ble_eq_true rfl⟩ rfl hl.1 (Nat.le_of_ble_eq_true rfl) ⟨Nat.zero_le _, Nat.zero_le _⟩ rfl d_MO_wardLine_104) (fun H locs hS => ?_)
    cases hT
    exact r_vret F hlk hr hS d_MO_wardLine_107
  · replace hT := (if_neg c16).symm.trans hT
    cases hT
    exact r_vret F hlk hr hS d_MO_wardLine_64
set_option maxHeartbeats 4000000 in
set_option maxRecDepth 100000 in
theorem k_MO_wardLine_L52 (l : Launch) {p : Program} {e : Env} {s : State} {m : MethodId} {below : List Frame} {meth : Method} {c : Code} {b n : Nat} {C : CT} (hlo : 231 ≤ n) (x1 : Int) (hx1 : InR x1) (F : Cx b p m c b_MO_wardLine 2 s ([.ref (b + 191), vI x1] : List Value).toArray "WardFallsModel" C n 231) (hlk : meth.locks = false) (hr : meth.sig.returnType = none) {res : Mem} (M : Mem)  (H : Heap) (locs : List Loc) (ls : Array Slot) (hS : St b C n M s H locs) (hl : lv_has ls 2 [(0, .ref (b + 191)), (1, vI x1)]) (hT : t_MO_wardLine_L52 x1 M = some res) : W p l e (headSpec (wsM y_MO_wardLine b_MO_wardLine 2 (none)) (rmD 8)).room s m ([.ref (b + 191), vI x1] : List Value).toArray below meth c H locs 0 0 (MQ below (QV b C n res) ([.ref (b + 191), vI x1] : List Value).toArray s 0 0 (frb b)) (F0 m 52 ls []) := by
  unfold t_MO_wardLine_L52 at hT
  refine lv_aload_n F.hx F.hb d_MO_wardLine_52 rfl (lv_at hl 0 rfl) ?_
  refine r_iconst F.hx F.hb d_MO_wardLine_53 ?_
  obtain ⟨q30, hq30⟩ : ∃ q, q = (t_MO_wrong M 1) := ⟨_, rfl⟩
  replace hT := qlet_eq hT hq30
  refine r_backV F hS (r_runV (k := 191) (N := 68) (T := T1) (As := [vI 1]) F hS (show 191 < 231 by decide) (show shK 191 = 5 from rfl) rfl (c_MO_wrong l F.2.2.1 M 1 (inr_c rfl) _ hq30.symm) gs_MO_208 hd_MO_wrong ⟨Nat.le_of_ble_eq_true rfl, Nat.le_of_ble_eq_true rfl⟩ rfl hl.1 (Nat.le_of_ble_eq_true rfl) ⟨Nat.zero_le _, Nat.zero_le _⟩ rfl d_MO_wardLine_54) (fun H locs hS => ?_)
  exact k_MO_wardLine_L57 l hlo x1 hx1 F hlk hr q30 _ _ _ hS (lv_sub hl [0, 1] rfl) hT
set_option maxHeartbeats 4000000 in
set_option maxRecDepth 100000 in
theorem c_MO_wardLine (l : Launch) {b n : Nat} {C : CT} (hlo : 231 ≤ n) (M : Mem) (x1 : Int) (hx1 : InR x1) (res : Mem) (hT : t_MO_wardLine M x1 = some res) : CM l b C n 8 y_MO_wardLine b_MO_wardLine 2 (none) [.ref (b + 191), vI x1] M (QV b C n res) := by
  refine CM.of (lo := 231) (ow := "WardFallsModel") (by decide) rfl (Nat.le_of_ble_eq_true rfl) hlo (fun p e s m below meth c F hlk hr hS ls hl => ?_)
  have hl : lv_has ls 2 [(0, .ref (b + 191)), (1, vI x1)] := hl
  unfold t_MO_wardLine at hT
  refine lv_aload_n F.hx F.hb d_MO_wardLine_0 rfl (lv_at hl 0 rfl) ?_
  refine r_get (v := .ref (b + 194)) (N := 68) (T := T1) (j := 4) F hS (show 191 < 231 by decide) (show shK 191 = 5 from rfl) (show shN 191 = 68 from rfl) rfl (Nat.le_of_ble_eq_true rfl) ing1 mw_1393 (fv_sg rfl rfl rfl) d_MO_wardLine_1 ?_
  refine lv_iload_n F.hx F.hb d_MO_wardLine_4 rfl (lv_at hl 1 rfl) ?_
  refine lv_aload_n F.hx F.hb d_MO_wardLine_5 rfl (lv_at hl 0 rfl) ?_
  refine lv_aload_n F.hx F.hb d_MO_wardLine_6 rfl (lv_at hl 0 rfl) ?_
  refine r_get (v := .ref (b + 194)) (N := 68) (T := T1) (j := 4) F hS (show 191 < 231 by decide) (show shK 191 = 5 from rfl) (show shN 191 = 68 from rfl) rfl (Nat.le_of_ble_eq_true rfl) ing1 mw_1393 (fv_sg rfl rfl rfl) d_MO_wardLine_7 ?_
  refine r_iconst F.hx F.hb d_MO_wardLine_10 ?_
  refine lv_aload_n F.hx F.hb d_MO_wardLine_11 rfl (lv_at hl 0 rfl) ?_
  refine r_iconst F.hx F.hb d_MO_wardLine_12 ?_
  obtain ⟨q1, hq1, hT⟩ := q_obind hT
  refine r_backI F hS (r_runV (k := 191) (N := 68) (T := T1) (As := [vI 2]) F hS (show 191 < 231 by decide) (show shK 191 = 5 from rfl) rfl (c_MO_fresher l F.2.2.1 M 2 (inr_c rfl) _ hq1) gs_MO_222 hd_MO_fresher ⟨Nat.le_of_ble_eq_true rfl, Nat.le_of_ble_eq_true rfl⟩ rfl hl.1 (Nat.le_of_ble_eq_true rfl) ⟨Nat.zero_le _, Nat.zero_le _⟩ rfl d_MO_wardLine_13) (fun H locs hS h2 => ?_)
  obtain ⟨q3, hq3, hT⟩ := q_obind hT
  refine r_backI F hS (r_runV (k := 191) (N := 68) (T := T1) (As := [.ref (b + 194), vI 4, vI q1]) F hS (show 191 < 231 by decide) (show shK 191 = 5 from rfl) rfl (c_MO_fresh l F.2.2.1 M 194 8 4 q1 (show arrP 0 194 8 231 from ⟨rfl, rfl, by decide⟩) (inr_c rfl) h2 _ hq3) gs_MO_266 hd_MO_fresh ⟨Nat.le_of_ble_eq_true rfl, Nat.le_of_ble_eq_true rfl⟩ rfl hl.1 (Nat.le_of_ble_eq_true rfl) ⟨Nat.zero_le _, Nat.zero_le _⟩ rfl d_MO_wardLine_16) (fun H locs hS h4 => ?_)
  obtain ⟨⟨g5a, g5b⟩, hT⟩ := q_guard hT
  refine r_iast F hS (show 194 < 231 by decide) (show shK 194 = 0 from rfl) (show shN 194 = 8 from rfl) hx1 h4 g5a g5b d_MO_wardLine_19 (fun H locs hS => ?_)
  obtain ⟨M6, eM6⟩ : ∃ q, q = (setI (q3.1) 194 x1 (q3.2)) := ⟨_, rfl⟩
  replace hS : St b C n M6 s H locs := by rw [eM6]; exact hS
  replace hT := qlet_eq hT eM6
  refine lv_aload_n F.hx F.hb d_MO_wardLine_20 rfl (lv_at hl 0 rfl) ?_
  refine r_get (v := vI (M6.1 191 24)) (N := 68) (T := T1) (j := 24) F hS (show 191 < 231 by decide) (show shK 191 = 5 from rfl) (show shN 191 = 68 from rfl) rfl (Nat.le_of_ble_eq_true rfl) ing1 mw_1413 (fv_int rfl) d_MO_wardLine_21 ?_
  have i7 := hS.rng 191 24
  refine r_if_ne (tgt := 57) F.hx F.hb i7 d_MO_wardLine_24 (by decide) (fun c8 => ?_) (fun c8 => ?_)
  · replace hT := (if_neg c8).symm.trans hT
    exact k_MO_wardLine_L57 l hlo x1 hx1 F hlk hr M6 _ _ _ hS (lv_sub hl [0, 1] rfl) hT
  · replace hT := (if_pos c8).symm.trans hT
    refine lv_aload_n F.hx F.hb d_MO_wardLine_27 rfl (lv_at hl 0 rfl) ?_
    refine r_get (v := vI (M6.1 191 22)) (N := 68) (T := T1) (j := 22) F hS (show 191 < 231 by decide) (show shK 191 = 5 from rfl) (show shN 191 = 68 from rfl) rfl (Nat.le_of_ble_eq_true rfl) ing1 mw_1411 (fv_int rfl) d_MO_wardLine_28 ?_
    have i9 := hS.rng 191 22
    refine r_if_ne (tgt := 52) F.hx F.hb i9 d_MO_wardLine_31 (by decide) (fun c10 => ?_) (fun c10 => ?_)
    · replace hT := (if_neg c10).symm.trans hT
      exact k_MO_wardLine_L52 l hlo x1 hx1 F hlk hr M6 _ _ _ hS (lv_sub hl [0, 1] rfl) hT
    · replace hT := (if_pos c10).symm.trans hT
      refine lv_aload_n F.hx F.hb d_MO_wardLine_34 rfl (lv_at hl 0 rfl) ?_
      refine r_get (v := vI (M6.1 191 23)) (N := 68) (T := T1) (j := 23) F hS (show 191 < 231 by decide) (show shK 191 = 5 from rfl) (show shN 191 = 68 from rfl) rfl (Nat.le_of_ble_eq_true rfl) ing1 mw_1412 (fv_int rfl) d_MO_wardLine_35 ?_
      have i11 := hS.rng 191 23
      refine r_bipush F.hx F.hb d_MO_wardLine_38 rfl ?_
      refine r_icmp_lt (tgt := 52) F.hx F.hb i11 (inr_c rfl) d_MO_wardLine_40 (by decide) (fun c12 => ?_) (fun c12 => ?_)
      · replace hT := (if_pos c12).symm.trans hT
        exact k_MO_wardLine_L52 l hlo x1 hx1 F hlk hr M6 _ _ _ hS (lv_sub hl [0, 1] rfl) hT
      · replace hT := (if_neg c12).symm.trans hT
        refine lv_aload_n F.hx F.hb d_MO_wardLine_43 rfl (lv_at hl 0 rfl) ?_
        refine r_get (v := vI (M6.1 191 23)) (N := 68) (T := T1) (j := 23) F hS (show 191 < 231 by decide) (show shK 191 = 5 from rfl) (show shN 191 = 68 from rfl) rfl (Nat.le_of_ble_eq_true rfl) ing1 mw_1412 (fv_int rfl) d_MO_wardLine_44 ?_
        have i13 := hS.rng 191 23
        refine r_bipush F.hx F.hb d_MO_wardLine_47 rfl ?_
        refine r_icmp_le (tgt := 57) F.hx F.hb i13 (inr_c rfl) d_MO_wardLine_49 (by decide) (fun c14 => ?_) (fun c14 => ?_)
        · replace hT := (if_pos c14).symm.trans hT
          exact k_MO_wardLine_L57 l hlo x1 hx1 F hlk hr M6 _ _ _ hS (lv_sub hl [0, 1] rfl) hT
        · replace hT := (if_neg c14).symm.trans hT
          exact k_MO_wardLine_L52 l hlo x1 hx1 F hlk hr M6 _ _ _ hS (lv_sub hl [0, 1] rfl) hT
theorem wn_MO_partLine_0 : ∀ i, i < 94 → bA b_MO_partLine (0 + i) = wB [42, 180, 0, 164, 4, 159, 0, 11, 42, 4, 182, 0, 208, 167, 0, 29, 42, 180, 0, 16, 7, 42, 5, 182, 0, 222, 42, 180, 0, 174, 184, 0, 218, 2, 160, 0, 8, 42, 7, 182, 0, 208, 42, 180, 0, 199, 153, 0, 4, 177, 42, 180, 0, 16, 7, 42, 5, 182, 0, 222, 42, 180, 0, 174, 184, 0, 218, 60, 42, 182, 0, 205, 42, 3, 42, 3, 182, 0, 222, 4, 100, 182, 0, 226, 61, 42, 3, 42, 4, 182, 0, 222, 4, 100] i := wB_of (by decide +kernel)
theorem d_MO_partLine_0 : decode b_MO_partLine 0 = .ok (.aload_n 0, 1) := dc_42 (q0_win (r := 0) wn_MO_partLine_0 (by decide +kernel))
theorem d_MO_partLine_1 : decode b_MO_partLine 1 = .ok (.getfield 164, 3) := dc_180 (qU2_win (r := 1) wn_MO_partLine_0 (by decide +kernel))
theorem d_MO_partLine_4 : decode b_MO_partLine 4 = .ok (.iconst 1, 1) := dc_4 (q0_win (r := 4) wn_MO_partLine_0 (by decide +kernel))
theorem d_MO_partLine_5 : decode b_MO_partLine 5 = .ok (.if_icmp .eq 11, 3) := dc_159 (qS2_win (r := 5) wn_MO_partLine_0 (by decide +kernel))
theorem d_MO_partLine_8 : decode b_MO_partLine 8 = .ok (.aload_n 0, 1) := dc_42 (q0_win (r := 8) wn_MO_partLine_0 (by decide +kernel))
theorem d_MO_partLine_9 : decode b_MO_partLine 9 = .ok (.iconst 1, 1) := dc_4 (q0_win (r := 9) wn_MO_partLine_0 (by decide +kernel))
theorem d_MO_partLine_10 : decode b_MO_partLine 10 = .ok (.invokevirtual 208, 3) := dc_182 (qU2_win (r := 10) wn_MO_partLine_0 (by decide +kernel))
theorem d_MO_partLine_13 : decode b_MO_partLine 13 = .ok (.goto 29, 3) := dc_167 (qS2_win (r := 13) wn_MO_partLine_0 (by decide +kernel))
theorem d_MO_partLine_16 : decode b_MO_partLine 16 = .ok (.aload_n 0, 1) := dc_42 (q0_win (r := 16) wn_MO_partLine_0 (by decide +kernel))
theorem d_MO_partLine_17 : decode b_MO_partLine 17 = .ok (.getfield 16, 3) := dc_180 (qU2_win (r := 17) wn_MO_partLine_0 (by decide +kernel))
theorem d_MO_partLine_20 : decode b_MO_partLine 20 = .ok (.iconst 4, 1) := dc_7 (q0_win (r := 20) wn_MO_partLine_0 (by decide +kernel))
theorem d_MO_partLine_21 : decode b_MO_partLine 21 = .ok (.aload_n 0, 1) := dc_42 (q0_win (r := 21) wn_MO_partLine_0 (by decide +kernel))
theorem d_MO_partLine_22 : decode b_MO_partLine 22 = .ok (.iconst 2, 1) := dc_5 (q0_win (r := 22) wn_MO_partLine_0 (by decide +kernel))
theorem d_MO_partLine_23 : decode b_MO_partLine 23 = .ok (.invokevirtual 222, 3) := dc_182 (qU2_win (r := 23) wn_MO_partLine_0 (by decide +kernel))
theorem d_MO_partLine_26 : decode b_MO_partLine 26 = .ok (.aload_n 0, 1) := dc_42 (q0_win (r := 26) wn_MO_partLine_0 (by decide +kernel))
theorem d_MO_partLine_27 : decode b_MO_partLine 27 = .ok (.getfield 174, 3) := dc_180 (qU2_win (r := 27) wn_MO_partLine_0 (by decide +kernel))
theorem d_MO_partLine_30 : decode b_MO_partLine 30 = .ok (.invokestatic 218, 3) := dc_184 (qU2_win (r := 30) wn_MO_partLine_0 (by decide +kernel))
theorem d_MO_partLine_33 : decode b_MO_partLine 33 = .ok (.iconst (-1), 1) := dc_2 (q0_win (r := 33) wn_MO_partLine_0 (by decide +kernel))
theorem d_MO_partLine_34 : decode b_MO_partLine 34 = .ok (.if_icmp .ne 8, 3) := dc_160 (qS2_win (r := 34) wn_MO_partLine_0 (by decide +kernel))
theorem d_MO_partLine_37 : decode b_MO_partLine 37 = .ok (.aload_n 0, 1) := dc_42 (q0_win (r := 37) wn_MO_partLine_0 (by decide +kernel))
theorem d_MO_partLine_38 : decode b_MO_partLine 38 = .ok (.iconst 4, 1) := dc_7 (q0_win (r := 38) wn_MO_partLine_0 (by decide +kernel))
theorem d_MO_partLine_39 : decode b_MO_partLine 39 = .ok (.invokevirtual 208, 3) := dc_182 (qU2_win (r := 39) wn_MO_partLine_0 (by decide +kernel))
theorem d_MO_partLine_42 : decode b_MO_partLine 42 = .ok (.aload_n 0, 1) := dc_42 (q0_win (r := 42) wn_MO_partLine_0 (by decide +kernel))
theorem d_MO_partLine_43 : decode b_MO_partLine 43 = .ok (.getfield 199, 3) := dc_180 (qU2_win (r := 43) wn_MO_partLine_0 (by decide +kernel))
theorem d_MO_partLine_46 : decode b_MO_partLine 46 = .ok (.ifCond .eq 4, 3) := dc_153 (qS2_win (r := 46) wn_MO_partLine_0 (by decide +kernel))
theorem d_MO_partLine_49 : decode b_MO_partLine 49 = .ok (.return_, 1) := dc_177 (q0_win (r := 49) wn_MO_partLine_0 (by decide +kernel))
theorem d_MO_partLine_50 : decode b_MO_partLine 50 = .ok (.aload_n 0, 1) := dc_42 (q0_win (r := 50) wn_MO_partLine_0 (by decide +kernel))
theorem d_MO_partLine_51 : decode b_MO_partLine 51 = .ok (.getfield 16, 3) := dc_180 (qU2_win (r := 51) wn_MO_partLine_0 (by decide +kernel))
theorem d_MO_partLine_54 : decode b_MO_partLine 54 = .ok (.iconst 4, 1) := dc_7 (q0_win (r := 54) wn_MO_partLine_0 (by decide +kernel))
theorem d_MO_partLine_55 : decode b_MO_partLine 55 = .ok (.aload_n 0, 1) := dc_42 (q0_win (r := 55) wn_MO_partLine_0 (by decide +kernel))
theorem d_MO_partLine_56 : decode b_MO_partLine 56 = .ok (.iconst 2, 1) := dc_5 (q0_win (r := 56) wn_MO_partLine_0 (by decide +kernel))
theorem d_MO_partLine_57 : decode b_MO_partLine 57 = .ok (.invokevirtual 222, 3) := dc_182 (qU2_win (r := 57) wn_MO_partLine_0 (by decide +kernel))
theorem d_MO_partLine_60 : decode b_MO_partLine 60 = .ok (.aload_n 0, 1) := dc_42 (q0_win (r := 60) wn_MO_partLine_0 (by decide +kernel))
theorem d_MO_partLine_61 : decode b_MO_partLine 61 = .ok (.getfield 174, 3) := dc_180 (qU2_win (r := 61) wn_MO_partLine_0 (by decide +kernel))
theorem d_MO_partLine_64 : decode b_MO_partLine 64 = .ok (.invokestatic 218, 3) := dc_184 (qU2_win (r := 64) wn_MO_partLine_0 (by decide +kernel))
theorem d_MO_partLine_67 : decode b_MO_partLine 67 = .ok (.istore_n 1, 1) := dc_60 (q0_win (r := 67) wn_MO_partLine_0 (by decide +kernel))
theorem d_MO_partLine_68 : decode b_MO_partLine 68 = .ok (.aload_n 0, 1) := dc_42 (q0_win (r := 68) wn_MO_partLine_0 (by decide +kernel))
theorem d_MO_partLine_69 : decode b_MO_partLine 69 = .ok (.invokevirtual 205, 3) := dc_182 (qU2_win (r := 69) wn_MO_partLine_0 (by decide +kernel))
theorem d_MO_partLine_72 : decode b_MO_partLine 72 = .ok (.aload_n 0, 1) := dc_42 (q0_win (r := 72) wn_MO_partLine_0 (by decide +kernel))
theorem d_MO_partLine_73 : decode b_MO_partLine 73 = .ok (.iconst 0, 1) := dc_3 (q0_win (r := 73) wn_MO_partLine_0 (by decide +kernel))
theorem d_MO_partLine_74 : decode b_MO_partLine 74 = .ok (.aload_n 0, 1) := dc_42 (q0_win (r := 74) wn_MO_partLine_0 (by decide +kernel))
theorem d_MO_partLine_75 : decode b_MO_partLine 75 = .ok (.iconst 0, 1) := dc_3 (q0_win (r := 75) wn_MO_partLine_0 (by decide +kernel))
theorem d_MO_partLine_76 : decode b_MO_partLine 76 = .ok (.invokevirtual 222, 3) := dc_182 (qU2_win (r := 76) wn_MO_partLine_0 (by decide +kernel))
theorem d_MO_partLine_79 : decode b_MO_partLine 79 = .ok (.iconst 1, 1) := dc_4 (q0_win (r := 79) wn_MO_partLine_0 (by decide +kernel))
theorem d_MO_partLine_80 : decode b_MO_partLine 80 = .ok (.isub, 1) := dc_100 (q0_win (r := 80) wn_MO_partLine_0 (by decide +kernel))
theorem d_MO_partLine_81 : decode b_MO_partLine 81 = .ok (.invokevirtual 226, 3) := dc_182 (qU2_win (r := 81) wn_MO_partLine_0 (by decide +kernel))
theorem d_MO_partLine_84 : decode b_MO_partLine 84 = .ok (.istore_n 2, 1) := dc_61 (q0_win (r := 84) wn_MO_partLine_0 (by decide +kernel))
theorem d_MO_partLine_85 : decode b_MO_partLine 85 = .ok (.aload_n 0, 1) := dc_42 (q0_win (r := 85) wn_MO_partLine_0 (by decide +kernel))
theorem d_MO_partLine_86 : decode b_MO_partLine 86 = .ok (.iconst 0, 1) := dc_3 (q0_win (r := 86) wn_MO_partLine_0 (by decide +kernel))
theorem d_MO_partLine_87 : decode b_MO_partLine 87 = .ok (.aload_n 0, 1) := dc_42 (q0_win (r := 87) wn_MO_partLine_0 (by decide +kernel))
theorem d_MO_partLine_88 : decode b_MO_partLine 88 = .ok (.iconst 1, 1) := dc_4 (q0_win (r := 88) wn_MO_partLine_0 (by decide +kernel))
theorem d_MO_partLine_89 : decode b_MO_partLine 89 = .ok (.invokevirtual 222, 3) := dc_182 (qU2_win (r := 89) wn_MO_partLine_0 (by decide +kernel))
theorem d_MO_partLine_92 : decode b_MO_partLine 92 = .ok (.iconst 1, 1) := dc_4 (q0_win (r := 92) wn_MO_partLine_0 (by decide +kernel))
theorem d_MO_partLine_93 : decode b_MO_partLine 93 = .ok (.isub, 1) := dc_100 (q0_win (r := 93) wn_MO_partLine_0 (by decide +kernel))
theorem wn_MO_partLine_94 : ∀ i, i < 96 → bA b_MO_partLine (94 + i) = wB [182, 0, 226, 62, 42, 28, 42, 3, 182, 0, 222, 4, 100, 182, 0, 226, 54, 4, 42, 29, 42, 4, 182, 0, 222, 4, 100, 182, 0, 226, 54, 5, 42, 180, 0, 199, 153, 0, 4, 177, 29, 54, 6, 21, 6, 21, 5, 163, 0, 47, 28, 54, 7, 21, 7, 21, 4, 163, 0, 31, 42, 180, 0, 25, 16, 48, 21, 6, 42, 3, 182, 0, 222, 104, 96, 21, 7, 96, 27, 4, 96, 79, 132, 7, 1, 167, 255, 224, 132, 6, 1, 167, 255, 208, 42, 6] i := wB_of (by decide +kernel)
theorem d_MO_partLine_94 : decode b_MO_partLine 94 = .ok (.invokevirtual 226, 3) := dc_182 (qU2_win (r := 0) wn_MO_partLine_94 (by decide +kernel))
theorem d_MO_partLine_97 : decode b_MO_partLine 97 = .ok (.istore_n 3, 1) := dc_62 (q0_win (r := 3) wn_MO_partLine_94 (by decide +kernel))
theorem d_MO_partLine_98 : decode b_MO_partLine 98 = .ok (.aload_n 0, 1) := dc_42 (q0_win (r := 4) wn_MO_partLine_94 (by decide +kernel))
theorem d_MO_partLine_99 : decode b_MO_partLine 99 = .ok (.iload_n 2, 1) := dc_28 (q0_win (r := 5) wn_MO_partLine_94 (by decide +kernel))
theorem d_MO_partLine_100 : decode b_MO_partLine 100 = .ok (.aload_n 0, 1) := dc_42 (q0_win (r := 6) wn_MO_partLine_94 (by decide +kernel))
theorem d_MO_partLine_101 : decode b_MO_partLine 101 = .ok (.iconst 0, 1) := dc_3 (q0_win (r := 7) wn_MO_partLine_94 (by decide +kernel))
theorem d_MO_partLine_102 : decode b_MO_partLine 102 = .ok (.invokevirtual 222, 3) := dc_182 (qU2_win (r := 8) wn_MO_partLine_94 (by decide +kernel))
theorem d_MO_partLine_105 : decode b_MO_partLine 105 = .ok (.iconst 1, 1) := dc_4 (q0_win (r := 11) wn_MO_partLine_94 (by decide +kernel))
theorem d_MO_partLine_106 : decode b_MO_partLine 106 = .ok (.isub, 1) := dc_100 (q0_win (r := 12) wn_MO_partLine_94 (by decide +kernel))
theorem d_MO_partLine_107 : decode b_MO_partLine 107 = .ok (.invokevirtual 226, 3) := dc_182 (qU2_win (r := 13) wn_MO_partLine_94 (by decide +kernel))
theorem d_MO_partLine_110 : decode b_MO_partLine 110 = .ok (.istore 4, 2) := dc_54 (qU1_win (r := 16) wn_MO_partLine_94 (by decide +kernel))
theorem d_MO_partLine_112 : decode b_MO_partLine 112 = .ok (.aload_n 0, 1) := dc_42 (q0_win (r := 18) wn_MO_partLine_94 (by decide +kernel))
theorem d_MO_partLine_113 : decode b_MO_partLine 113 = .ok (.iload_n 3, 1) := dc_29 (q0_win (r := 19) wn_MO_partLine_94 (by decide +kernel))
theorem d_MO_partLine_114 : decode b_MO_partLine 114 = .ok (.aload_n 0, 1) := dc_42 (q0_win (r := 20) wn_MO_partLine_94 (by decide +kernel))
theorem d_MO_partLine_115 : decode b_MO_partLine 115 = .ok (.iconst 1, 1) := dc_4 (q0_win (r := 21) wn_MO_partLine_94 (by decide +kernel))
theorem d_MO_partLine_116 : decode b_MO_partLine 116 = .ok (.invokevirtual 222, 3) := dc_182 (qU2_win (r := 22) wn_MO_partLine_94 (by decide +kernel))
theorem d_MO_partLine_119 : decode b_MO_partLine 119 = .ok (.iconst 1, 1) := dc_4 (q0_win (r := 25) wn_MO_partLine_94 (by decide +kernel))
theorem d_MO_partLine_120 : decode b_MO_partLine 120 = .ok (.isub, 1) := dc_100 (q0_win (r := 26) wn_MO_partLine_94 (by decide +kernel))
theorem d_MO_partLine_121 : decode b_MO_partLine 121 = .ok (.invokevirtual 226, 3) := dc_182 (qU2_win (r := 27) wn_MO_partLine_94 (by decide +kernel))
theorem d_MO_partLine_124 : decode b_MO_partLine 124 = .ok (.istore 5, 2) := dc_54 (qU1_win (r := 30) wn_MO_partLine_94 (by decide +kernel))
theorem d_MO_partLine_126 : decode b_MO_partLine 126 = .ok (.aload_n 0, 1) := dc_42 (q0_win (r := 32) wn_MO_partLine_94 (by decide +kernel))
theorem d_MO_partLine_127 : decode b_MO_partLine 127 = .ok (.getfield 199, 3) := dc_180 (qU2_win (r := 33) wn_MO_partLine_94 (by decide +kernel))
theorem d_MO_partLine_130 : decode b_MO_partLine 130 = .ok (.ifCond .eq 4, 3) := dc_153 (qS2_win (r := 36) wn_MO_partLine_94 (by decide +kernel))
theorem d_MO_partLine_133 : decode b_MO_partLine 133 = .ok (.return_, 1) := dc_177 (q0_win (r := 39) wn_MO_partLine_94 (by decide +kernel))
theorem d_MO_partLine_134 : decode b_MO_partLine 134 = .ok (.iload_n 3, 1) := dc_29 (q0_win (r := 40) wn_MO_partLine_94 (by decide +kernel))
theorem d_MO_partLine_135 : decode b_MO_partLine 135 = .ok (.istore 6, 2) := dc_54 (qU1_win (r := 41) wn_MO_partLine_94 (by decide +kernel))
theorem d_MO_partLine_137 : decode b_MO_partLine 137 = .ok (.iload 6, 2) := dc_21 (qU1_win (r := 43) wn_MO_partLine_94 (by decide +kernel))
theorem d_MO_partLine_139 : decode b_MO_partLine 139 = .ok (.iload 5, 2) := dc_21 (qU1_win (r := 45) wn_MO_partLine_94 (by decide +kernel))
theorem d_MO_partLine_141 : decode b_MO_partLine 141 = .ok (.if_icmp .gt 47, 3) := dc_163 (qS2_win (r := 47) wn_MO_partLine_94 (by decide +kernel))
theorem d_MO_partLine_144 : decode b_MO_partLine 144 = .ok (.iload_n 2, 1) := dc_28 (q0_win (r := 50) wn_MO_partLine_94 (by decide +kernel))
theorem d_MO_partLine_145 : decode b_MO_partLine 145 = .ok (.istore 7, 2) := dc_54 (qU1_win (r := 51) wn_MO_partLine_94 (by decide +kernel))
theorem d_MO_partLine_147 : decode b_MO_partLine 147 = .ok (.iload 7, 2) := dc_21 (qU1_win (r := 53) wn_MO_partLine_94 (by decide +kernel))
theorem d_MO_partLine_149 : decode b_MO_partLine 149 = .ok (.iload 4, 2) := dc_21 (qU1_win (r := 55) wn_MO_partLine_94 (by decide +kernel))
theorem d_MO_partLine_151 : decode b_MO_partLine 151 = .ok (.if_icmp .gt 31, 3) := dc_163 (qS2_win (r := 57) wn_MO_partLine_94 (by decide +kernel))
theorem d_MO_partLine_154 : decode b_MO_partLine 154 = .ok (.aload_n 0, 1) := dc_42 (q0_win (r := 60) wn_MO_partLine_94 (by decide +kernel))
theorem d_MO_partLine_155 : decode b_MO_partLine 155 = .ok (.getfield 25, 3) := dc_180 (qU2_win (r := 61) wn_MO_partLine_94 (by decide +kernel))
theorem d_MO_partLine_158 : decode b_MO_partLine 158 = .ok (.bipush 48, 2) := dc_16 (qS1_win (r := 64) wn_MO_partLine_94 (by decide +kernel))
theorem d_MO_partLine_160 : decode b_MO_partLine 160 = .ok (.iload 6, 2) := dc_21 (qU1_win (r := 66) wn_MO_partLine_94 (by decide +kernel))
theorem d_MO_partLine_162 : decode b_MO_partLine 162 = .ok (.aload_n 0, 1) := dc_42 (q0_win (r := 68) wn_MO_partLine_94 (by decide +kernel))
theorem d_MO_partLine_163 : decode b_MO_partLine 163 = .ok (.iconst 0, 1) := dc_3 (q0_win (r := 69) wn_MO_partLine_94 (by decide +kernel))
theorem d_MO_partLine_164 : decode b_MO_partLine 164 = .ok (.invokevirtual 222, 3) := dc_182 (qU2_win (r := 70) wn_MO_partLine_94 (by decide +kernel))
theorem d_MO_partLine_167 : decode b_MO_partLine 167 = .ok (.imul, 1) := dc_104 (q0_win (r := 73) wn_MO_partLine_94 (by decide +kernel))
theorem d_MO_partLine_168 : decode b_MO_partLine 168 = .ok (.iadd, 1) := dc_96 (q0_win (r := 74) wn_MO_partLine_94 (by decide +kernel))
theorem d_MO_partLine_169 : decode b_MO_partLine 169 = .ok (.iload 7, 2) := dc_21 (qU1_win (r := 75) wn_MO_partLine_94 (by decide +kernel))
theorem d_MO_partLine_171 : decode b_MO_partLine 171 = .ok (.iadd, 1) := dc_96 (q0_win (r := 77) wn_MO_partLine_94 (by decide +kernel))
theorem d_MO_partLine_172 : decode b_MO_partLine 172 = .ok (.iload_n 1, 1) := dc_27 (q0_win (r := 78) wn_MO_partLine_94 (by decide +kernel))
theorem d_MO_partLine_173 : decode b_MO_partLine 173 = .ok (.iconst 1, 1) := dc_4 (q0_win (r := 79) wn_MO_partLine_94 (by decide +kernel))
theorem d_MO_partLine_174 : decode b_MO_partLine 174 = .ok (.iadd, 1) := dc_96 (q0_win (r := 80) wn_MO_partLine_94 (by decide +kernel))
theorem d_MO_partLine_175 : decode b_MO_partLine 175 = .ok (.iastore, 1) := dc_79 (q0_win (r := 81) wn_MO_partLine_94 (by decide +kernel))
theorem d_MO_partLine_176 : decode b_MO_partLine 176 = .ok (.iinc 7 1, 3) := dc_132 (qI_win (r := 82) wn_MO_partLine_94 (by decide +kernel))
theorem d_MO_partLine_179 : decode b_MO_partLine 179 = .ok (.goto (-32), 3) := dc_167 (qS2_win (r := 85) wn_MO_partLine_94 (by decide +kernel))
theorem d_MO_partLine_182 : decode b_MO_partLine 182 = .ok (.iinc 6 1, 3) := dc_132 (qI_win (r := 88) wn_MO_partLine_94 (by decide +kernel))
theorem d_MO_partLine_185 : decode b_MO_partLine 185 = .ok (.goto (-48), 3) := dc_167 (qS2_win (r := 91) wn_MO_partLine_94 (by decide +kernel))
theorem d_MO_partLine_188 : decode b_MO_partLine 188 = .ok (.aload_n 0, 1) := dc_42 (q0_win (r := 94) wn_MO_partLine_94 (by decide +kernel))
theorem d_MO_partLine_189 : decode b_MO_partLine 189 = .ok (.iconst 3, 1) := dc_6 (q0_win (r := 95) wn_MO_partLine_94 (by decide +kernel))
theorem wn_MO_partLine_190 : ∀ i, i < 11 → bA b_MO_partLine (190 + i) = wB [42, 6, 182, 0, 222, 4, 96, 182, 0, 238, 177] i := wB_of (by decide +kernel)
theorem d_MO_partLine_190 : decode b_MO_partLine 190 = .ok (.aload_n 0, 1) := dc_42 (q0_win (r := 0) wn_MO_partLine_190 (by decide +kernel))
theorem d_MO_partLine_191 : decode b_MO_partLine 191 = .ok (.iconst 3, 1) := dc_6 (q0_win (r := 1) wn_MO_partLine_190 (by decide +kernel))
theorem d_MO_partLine_192 : decode b_MO_partLine 192 = .ok (.invokevirtual 222, 3) := dc_182 (qU2_win (r := 2) wn_MO_partLine_190 (by decide +kernel))
theorem d_MO_partLine_195 : decode b_MO_partLine 195 = .ok (.iconst 1, 1) := dc_4 (q0_win (r := 5) wn_MO_partLine_190 (by decide +kernel))
theorem d_MO_partLine_196 : decode b_MO_partLine 196 = .ok (.iadd, 1) := dc_96 (q0_win (r := 6) wn_MO_partLine_190 (by decide +kernel))
theorem d_MO_partLine_197 : decode b_MO_partLine 197 = .ok (.invokevirtual 238, 3) := dc_182 (qU2_win (r := 7) wn_MO_partLine_190 (by decide +kernel))
theorem d_MO_partLine_200 : decode b_MO_partLine 200 = .ok (.return_, 1) := dc_177 (q0_win (r := 10) wn_MO_partLine_190 (by decide +kernel))
def t_MO_partLine_L147  (bk137 : Mem → Int → Int → Int → Int → Int → Option (Mem)) : Nat → Mem → Int → Int → Int → Int → Int → Int → Option (Mem)
  | 0, _, _, _, _, _, _, _ => none
  | fu + 1, M, v1_, v2_, v3_, v4_, v5_, v6_ => (if v3_ < v6_ then (bk137 M v1_ v2_ v3_ v4_ (w32 (v5_ + 1))) else (obind (t_MO_fresher M 0) fun q46 => (qguard (0 ≤ (w32 ((w32 (48 + (w32 (v5_ * q46)))) + v6_)) ∧ (w32 ((w32 (48 + (w32 (v5_ * q46)))) + v6_)) < 96) (qlet (setI M 197 (w32 ((w32 (48 + (w32 (v5_ * q46)))) + v6_)) (w32 (v1_ + 1))) fun M49 => (t_MO_partLine_L147 bk137 fu M49 v1_ v2_ v3_ v4_ v5_ (w32 (v6_ + 1)))))))
def t_MO_partLine_L137   : Nat → Mem → Int → Int → Int → Int → Int → Option (Mem)
  | 0, _, _, _, _, _, _ => none
  | fu + 1, M, v1_, v2_, v3_, v4_, v5_ => (if v4_ < v5_ then (obind (t_MO_fresher M 3) fun q41 => (obind (t_MO_reads M 3 (w32 (q41 + 1))) fun q43 => (some q43))) else (t_MO_partLine_L147 (fun a0_ a1_ a2_ a3_ a4_ a5_ => t_MO_partLine_L137 fu a0_ a1_ a2_ a3_ a4_ a5_) FU M v1_ v2_ v3_ v4_ v5_ v2_))
def t_MO_partLine_L42   (M : Mem)  : Option (Mem) := (if (M.1 191 24) = 0 then (obind (t_MO_fresher M 2) fun q15 => (obind (t_MO_found M 194 8 4 q15 (M.1 191 23)) fun q18 => (obind (t_MO_token M) fun q20 => (obind (t_MO_fresher q20 0) fun q22 => (obind (t_MO_numeral q20 0 (w32 (q22 - 1))) fun q24 => (obind (t_MO_fresher (q24.1) 1) fun q26 => (obind (t_MO_numeral (q24.1) 0 (w32 (q26 - 1))) fun q28 => (obind (t_MO_fresher (q28.1) 0) fun q30 => (obind (t_MO_numeral (q28.1) (q24.2) (w32 (q30 - 1))) fun q32 => (obind (t_MO_fresher (q32.1) 1) fun q34 => (obind (t_MO_numeral (q32.1) (q28.2) (w32 (q34 - 1))) fun q36 => (if ((q36.1).1 191 24) = 0 then (t_MO_partLine_L137 FU (q36.1) q18 (q24.2) (q32.2) (q36.2) (q28.2)) else (some (q36.1)))))))))))))) else (some M))
def t_MO_partLine (M : Mem)  : Option (Mem) := (if (M.1 191 22) = 1 then (obind (t_MO_fresher M 2) fun q3 => (obind (t_MO_found M 194 8 4 q3 (M.1 191 23)) fun q6 => (if q6 = (-1) then (qlet (t_MO_wrong M 4) fun q9 => (t_MO_partLine_L42 q9)) else (t_MO_partLine_L42 M)))) else (qlet (t_MO_wrong M 1) fun q11 => (t_MO_partLine_L42 q11)))
set_option maxHeartbeats 4000000 in
set_option maxRecDepth 100000 in
theorem k_MO_partLine_L147 (l : Launch) {p : Program} {e : Env} {s : State} {m : MethodId} {below : List Frame} {meth : Method} {c : Code} {b n : Nat} {C : CT} (hlo : 231 ≤ n)   (F : Cx b p m c b_MO_partLine 8 s ([.ref (b + 191)] : List Value).toArray "WardFallsModel" C n 231) (hlk : meth.locks = false) (hr : meth.sig.returnType = none) {res : Mem} (bk137 : Mem → Int → Int → Int → Int → Int → Option (Mem)) (hbk137 : ∀ (M : Mem) (v1_ : Int) (hv1_ : InR v1_) (v2_ : Int) (hv2_ : InR v2_) (v3_ : Int) (hv3_ : InR v3_) (v4_ : Int) (hv4_ : InR v4_) (v5_ : Int) (hv5_ : InR v5_) (H : Heap) (locs : List Loc) (ls : Array Slot), St b C n M s H locs → lv_has ls 8 [(0, .ref (b + 191)), (1, vI v1_), (2, vI v2_), (4, vI v3_), (5, vI v4_), (6, vI v5_)] → bk137 M v1_ v2_ v3_ v4_ v5_ = some res → W p l e (headSpec (wsM y_MO_partLine b_MO_partLine 8 (none)) (rmD 8)).room s m ([.ref (b + 191)] : List Value).toArray below meth c H locs 0 0 (MQ below (QV b C n res) ([.ref (b + 191)] : List Value).toArray s 0 0 (frb b)) (F0 m 137 ls [])) : ∀ (fu : Nat) (M : Mem) (v1_ : Int) (hv1_ : InR v1_) (v2_ : Int) (hv2_ : InR v2_) (v3_ : Int) (hv3_ : InR v3_) (v4_ : Int) (hv4_ : InR v4_) (v5_ : Int) (hv5_ : InR v5_) (v6_ : Int) (hv6_ : InR v6_) (H : Heap) (locs : List Loc) (ls : Array Slot), St b C n M s H locs → lv_has ls 8 [(0, .ref (b + 191)), (1, vI v1_), (2, vI v2_), (4, vI v3_), (5, vI v4_), (6, vI v5_), (7, vI v6_)] → t_MO_partLine_L147 bk137 fu M v1_ v2_ v3_ v4_ v5_ v6_ = some res → W p l e (headSpec (wsM y_MO_partLine b_MO_partLine 8 (none)) (rmD 8)).room s m ([.ref (b + 191)] : List Value).toArray below meth c H locs 0 0 (MQ below (QV b C n res) ([.ref (b + 191)] : List Value).toArray s 0 0 (frb b)) (F0 m 147 ls []) := by
  intro fu
  induction fu with
  | zero => intro M v1_ hv1_ v2_ hv2_ v3_ hv3_ v4_ hv4_ v5_ hv5_ v6_ hv6_ H locs ls hS hl hT; exact absurd hT (by simp [t_MO_partLine_L147])
  | succ fu ih =>
    intro M v1_ hv1_ v2_ hv2_ v3_ hv3_ v4_ hv4_ v5_ hv5_ v6_ hv6_ H locs ls hS hl hT
    rw [t_MO_partLine_L147] at hT
    refine lv_iload F.hx F.hb d_MO_partLine_147 (lv_at hl 6 rfl) ?_
    refine lv_iload F.hx F.hb d_MO_partLine_149 (lv_at hl 3 rfl) ?_
    refine r_icmp_gt (tgt := 182) F.hx F.hb hv6_ hv3_ d_MO_partLine_151 (by decide) (fun c45 => ?_) (fun c45 => ?_)
    · replace hT := (if_pos c45).symm.trans hT
      refine lv_iinc (v := Int32.ofInt (w32 (v5_ + 1))) (lv' := [(6, vI (w32 (v5_ + 1))), (0, .ref (b + 191)), (1, vI v1_), (2, vI v2_), (4, vI v3_), (5, vI v4_), (7, vI v6_)]) F.hx F.hb d_MO_partLine_182 hl (k := 5) rfl (q_of_add _ _) (Nat.le_of_ble_eq_true rfl) rfl (fun ls hl => ?_)
      refine lv_goto (tgt := 137) F.hx F.hb d_MO_partLine_185 (by decide) ?_
      exact hbk137 M v1_ hv1_ v2_ hv2_ v3_ hv3_ v4_ hv4_ (w32 (v5_ + 1)) (inr_w32 _) _ _ _ hS (lv_sub hl [1, 2, 3, 4, 5, 0] rfl) hT
    · replace hT := (if_neg c45).symm.trans hT
      refine lv_aload_n F.hx F.hb d_MO_partLine_154 rfl (lv_at hl 0 rfl) ?_
      refine r_get (v := .ref (b + 197)) (N := 68) (T := T1) (j := 7) F hS (show 191 < 231 by decide) (show shK 191 = 5 from rfl) (show shN 191 = 68 from rfl) rfl (Nat.le_of_ble_eq_true rfl) ing1 mw_1396 (fv_sg rfl rfl rfl) d_MO_partLine_155 ?_
      refine r_bipush F.hx F.hb d_MO_partLine_158 rfl ?_
      refine lv_iload F.hx F.hb d_MO_partLine_160 (lv_at hl 5 rfl) ?_
      refine lv_aload_n F.hx F.hb d_MO_partLine_162 rfl (lv_at hl 0 rfl) ?_
      refine r_iconst F.hx F.hb d_MO_partLine_163 ?_
      obtain ⟨q46, hq46, hT⟩ := q_obind hT
      refine r_backI F hS (r_runV (k := 191) (N := 68) (T := T1) (As := [vI 0]) F hS (show 191 < 231 by decide) (show shK 191 = 5 from rfl) rfl (c_MO_fresher l F.2.2.1 M 0 (inr_c rfl) _ hq46) gs_MO_222 hd_MO_fresher ⟨Nat.le_of_ble_eq_true rfl, Nat.le_of_ble_eq_true rfl⟩ rfl hl.1 (Nat.le_of_ble_eq_true rfl) ⟨Nat.zero_le _, Nat.zero_le _⟩ rfl d_MO_partLine_164) (fun H locs hS h47 => ?_)
      refine r_imul F.hx F.hb d_MO_partLine_167 ?_
      refine r_iadd F.hx F.hb d_MO_partLine_168 ?_
      refine lv_iload F.hx F.hb d_MO_partLine_169 (lv_at hl 6 rfl) ?_
      refine r_iadd F.hx F.hb d_MO_partLine_171 ?_
      refine lv_iload_n F.hx F.hb d_MO_partLine_172 rfl (lv_at hl 1 rfl) ?_
      refine r_iconst F.hx F.hb d_MO_partLine_173 ?_
      refine r_iadd F.hx F.hb d_MO_partLine_174 ?_
      obtain ⟨⟨g48a, g48b⟩, hT⟩ := q_guard hT
      refine r_iast F hS (show 197 < 231 by decide) (show shK 197 = 0 from rfl) (show shN 197 = 96 from rfl) (inr_w32 _) (inr_w32 _) g48a g48b d_MO_partLine_175 (fun H locs hS => ?_)
      obtain ⟨M49, eM49⟩ : ∃ q, q = (setI M 197 (w32 ((w32 (48 + (w32 (v5_ * q46)))) + v6_)) (w32 (v1_ + 1))) := ⟨_, rfl⟩
      replace hS : St b C n M49 s H locs := by rw [eM49]; exact hS
      replace hT := qlet_eq hT eM49
      refine lv_iinc (v := Int32.ofInt (w32 (v6_ + 1))) (lv' := [(7, vI (w32 (v6_ + 1))), (0, .ref (b + 191)), (1, vI v1_), (2, vI v2_), (4, vI v3_), (5, vI v4_), (6, vI v5_)]) F.hx F.hb d_MO_partLine_176 hl (k := 6) rfl (q_of_add _ _) (Nat.le_of_ble_eq_true rfl) rfl (fun ls hl => ?_)
      refine lv_goto (tgt := 147) F.hx F.hb d_MO_partLine_179 (by decide) ?_
      exact ih M49 v1_ hv1_ v2_ hv2_ v3_ hv3_ v4_ hv4_ v5_ hv5_ (w32 (v6_ + 1)) (inr_w32 _) _ _ _ hS (lv_sub hl [1, 2, 3, 4, 5, 6, 0] rfl) hT
set_option maxHeartbeats 4000000 in
set_option maxRecDepth 100000 in
theorem k_MO_partLine_L137 (l : Launch) {p : Program} {e : Env} {s : State} {m : MethodId} {below : List Frame} {meth : Method} {c : Code} {b n : Nat} {C : CT} (hlo : 231 ≤ n)   (F : Cx b p m c b_MO_partLine 8 s ([.ref (b + 191)] : List Value).toArray "WardFallsModel" C n 231) (hlk : meth.locks = false) (hr : meth.sig.returnType = none) {res : Mem} : ∀ (fu : Nat) (M : Mem) (v1_ : Int) (hv1_ : InR v1_) (v2_ : Int) (hv2_ : InR v2_) (v3_ : Int) (hv3_ : InR v3_) (v4_ : Int) (hv4_ : InR v4_) (v5_ : Int) (hv5_ : InR v5_) (H : Heap) (locs : List Loc) (ls : Array Slot), St b C n M s H locs → lv_has ls 8 [(0, .ref (b + 191)), (1, vI v1_), (2, vI v2_), (4, vI v3_), (5, vI v4_), (6, vI v5_)] → t_MO_partLine_L137 fu M v1_ v2_ v3_ v4_ v5_ = some res → W p l e (headSpec (wsM y_MO_partLine b_MO_partLine 8 (none)) (rmD 8)).room s m ([.ref (b + 191)] : List Value).toArray below meth c H locs 0 0 (MQ below (QV b C n res) ([.ref (b + 191)] : List Value).toArray s 0 0 (frb b)) (F0 m 137 ls []) := by
  intro fu
  induction fu with
  | zero => intro M v1_ hv1_ v2_ hv2_ v3_ hv3_ v4_ hv4_ v5_ hv5_ H locs ls hS hl hT; exact absurd hT (by simp [t_MO_partLine_L137])
  | succ fu ih =>
    intro M v1_ hv1_ v2_ hv2_ v3_ hv3_ v4_ hv4_ v5_ hv5_ H locs ls hS hl hT
    rw [t_MO_partLine_L137] at hT
    refine lv_iload F.hx F.hb d_MO_partLine_137 (lv_at hl 5 rfl) ?_
    refine lv_iload F.hx F.hb d_MO_partLine_139 (lv_at hl 4 rfl) ?_
    refine r_icmp_gt (tgt := 188) F.hx F.hb hv5_ hv4_ d_MO_partLine_141 (by decide) (fun c40 => ?_) (fun c40 => ?_)
    · replace hT := (if_pos c40).symm.trans hT
      refine lv_aload_n F.hx F.hb d_MO_partLine_188 rfl (lv_at hl 0 rfl) ?_
      refine r_iconst F.hx F.hb d_MO_partLine_189 ?_
      refine lv_aload_n F.hx F.hb d_MO_partLine_190 rfl (lv_at hl 0 rfl) ?_
      refine r_iconst F.hx F.hb d_MO_partLine_191 ?_
      obtain ⟨q41, hq41, hT⟩ := q_obind hT
      refine r_backI F hS (r_runV (k := 191) (N := 68) (T := T1) (As := [vI 3]) F hS (show 191 < 231 by decide) (show shK 191 = 5 from rfl) rfl (c_MO_fresher l F.2.2.1 M 3 (inr_c rfl) _ hq41) gs_MO_222 hd_MO_fresher ⟨Nat.le_of_ble_eq_true rfl, Nat.le_of_ble_eq_true rfl⟩ rfl hl.1 (Nat.le_of_ble_eq_true rfl) ⟨Nat.zero_le _, Nat.zero_le _⟩ rfl d_MO_partLine_192) (fun H locs hS h42 => ?_)
      refine r_iconst F.hx F.hb d_MO_partLine_195 ?_
      refine r_iadd F.hx F.hb d_MO_partLine_196 ?_
      obtain ⟨q43, hq43, hT⟩ := q_obind hT
      refine r_backV F hS (r_runV (k := 191) (N := 68) (T := T1) (As := [vI 3, vI (w32 (q41 + 1))]) F hS (show 191 < 231 by decide) (show shK 191 = 5 from rfl) rfl (c_MO_reads l F.2.2.1 M 3 (w32 (q41 + 1)) (inr_c rfl) (inr_w32 _) _ hq43) gs_MO_238 hd_MO_reads ⟨Nat.le_of_ble_eq_true rfl, Nat.le_of_ble_eq_true rfl⟩ rfl hl.1 (Nat.le_of_ble_eq_true rfl) ⟨Nat.zero_le _, Nat.zero_le _⟩ rfl d_MO_partLine_197) (fun H locs hS => ?_)
      cases hT
      exact r_vret F hlk hr hS d_MO_partLine_200
    · replace hT := (if_neg c40).symm.trans hT
      refine lv_iload_n F.hx F.hb d_MO_partLine_144 rfl (lv_at hl 2 rfl) ?_
      refine lv_istore (lv' := [(7, vI v2_), (0, .ref (b + 191)), (1, vI v1_), (2, vI v2_), (4, vI v3_), (5, vI v4_), (6, vI v5_)]) F.hx F.hb d_MO_partLine_145 hl (Nat.le_of_ble_eq_true rfl) rfl (fun ls hl => ?_)
      exact k_MO_partLine_L147 l hlo F hlk hr (fun a0_ a1_ a2_ a3_ a4_ a5_ => t_MO_partLine_L137 fu a0_ a1_ a2_ a3_ a4_ a5_) ih FU M v1_ hv1_ v2_ hv2_ v3_ hv3_ v4_ hv4_ v5_ hv5_ v2_ hv2_ _ _ _ hS (lv_sub hl [1, 2, 3, 4, 5, 6, 0] rfl) hT
set_option maxHeartbeats 4000000 in
set_option maxRecDepth 100000 in
theorem k_MO_partLine_L42 (l : Launch) {p : Program} {e : Env} {s : State} {m : MethodId} {below : List Frame} {meth : Method} {c : Code} {b n : Nat} {C : CT} (hlo : 231 ≤ n)   (F : Cx b p m c b_MO_partLine 8 s ([.ref (b + 191)] : List Value).toArray "WardFallsModel" C n 231) (hlk : meth.locks = false) (hr : meth.sig.returnType = none) {res : Mem} (M : Mem)  (H : Heap) (locs : List Loc) (ls : Array Slot) (hS : St b C n M s H locs) (hl : lv_has ls 8 [(0, .ref (b + 191))]) (hT : t_MO_partLine_L42 M = some res) : W p l e (headSpec (wsM y_MO_partLine b_MO_partLine 8 (none)) (rmD 8)).room s m ([.ref (b + 191)] : List Value).toArray below meth c H locs 0 0 (MQ below (QV b C n res) ([.ref (b + 191)] : List Value).toArray s 0 0 (frb b)) (F0 m 42 ls []) := by
  unfold t_MO_partLine_L42 at hT
  refine lv_aload_n F.hx F.hb d_MO_partLine_42 rfl (lv_at hl 0 rfl) ?_
  refine r_get (v := vI (M.1 191 24)) (N := 68) (T := T1) (j := 24) F hS (show 191 < 231 by decide) (show shK 191 = 5 from rfl) (show shN 191 = 68 from rfl) rfl (Nat.le_of_ble_eq_true rfl) ing1 mw_1413 (fv_int rfl) d_MO_partLine_43 ?_
  have i13 := hS.rng 191 24
  refine r_if_eq (tgt := 50) F.hx F.hb i13 d_MO_partLine_46 (by decide) (fun c14 => ?_) (fun c14 => ?_)
  · replace hT := (if_pos c14).symm.trans hT
    refine lv_aload_n F.hx F.hb d_MO_partLine_50 rfl (lv_at hl 0 rfl) ?_
    refine r_get (v := .ref (b + 194)) (N := 68) (T := T1) (j := 4) F hS (show 191 < 231 by decide) (show shK 191 = 5 from rfl) (show shN 191 = 68 from rfl) rfl (Nat.le_of_ble_eq_true rfl) ing1 mw_1393 (fv_sg rfl rfl rfl) d_MO_partLine_51 ?_
    refine r_iconst F.hx F.hb d_MO_partLine_54 ?_
    refine lv_aload_n F.hx F.hb d_MO_partLine_55 rfl (lv_at hl 0 rfl) ?_
    refine r_iconst F.hx F.hb d_MO_partLine_56 ?_
    obtain ⟨q15, hq15, hT⟩ := q_obind hT
    refine r_backI F hS (r_runV (k := 191) (N := 68) (T := T1) (As := [vI 2]) F hS (show 191 < 231 by decide) (show shK 191 = 5 from rfl) rfl (c_MO_fresher l F.2.2.1 M 2 (inr_c rfl) _ hq15) gs_MO_222 hd_MO_fresher ⟨Nat.le_of_ble_eq_true rfl, Nat.le_of_ble_eq_true rfl⟩ rfl hl.1 (Nat.le_of_ble_eq_true rfl) ⟨Nat.zero_le _, Nat.zero_le _⟩ rfl d_MO_partLine_57) (fun H locs hS h16 => ?_)
    refine lv_aload_n F.hx F.hb d_MO_partLine_60 rfl (lv_at hl 0 rfl) ?_
    refine r_get (v := vI (M.1 191 23)) (N := 68) (T := T1) (j := 23) F hS (show 191 < 231 by decide) (show shK 191 = 5 from rfl) (show shN 191 = 68 from rfl) rfl (Nat.le_of_ble_eq_true rfl) ing1 mw_1412 (fv_int rfl) d_MO_partLine_61 ?_
    have i17 := hS.rng 191 23
    obtain ⟨q18, hq18, hT⟩ := q_obind hT
    refine r_backI F hS (r_runS (As := [.ref (b + 194), vI 4, vI q15, vI (M.1 191 23)]) F hS (c_MO_found l F.2.2.1 M 194 8 4 q15 (M.1 191 23) (show arrP 0 194 8 231 from ⟨rfl, rfl, by decide⟩) (inr_c rfl) h16 i17 _ hq18) gs_MO_218 hd_MO_found ⟨Nat.le_of_ble_eq_true rfl, Nat.le_of_ble_eq_true rfl⟩ rfl hl.1 (Nat.le_of_ble_eq_true rfl) ⟨Nat.zero_le _, Nat.zero_le _⟩ rfl d_MO_partLine_64) (fun H locs hS h19 => ?_)
    refine lv_istore_n (lv' := [(1, vI q18), (0, .ref (b + 191))]) F.hx F.hb d_MO_partLine_67 rfl hl (Nat.le_of_ble_eq_true rfl) rfl (fun ls hl => ?_)
    refine lv_aload_n F.hx F.hb d_MO_partLine_68 rfl (lv_at hl 1 rfl) ?_
    obtain ⟨q20, hq20, hT⟩ := q_obind hT
    refine r_backV F hS (r_runV (k := 191) (N := 68) (T := T1) (As := []) F hS (show 191 < 231 by decide) (show shK 191 = 5 from rfl) rfl (c_MO_token l F.2.2.1 M _ hq20) gs_MO_205 hd_MO_token ⟨Nat.le_of_ble_eq_true rfl, Nat.le_of_ble_eq_true rfl⟩ rfl hl.1 (Nat.le_of_ble_eq_true rfl) ⟨Nat.zero_le _, Nat.zero_le _⟩ rfl d_MO_partLine_69) (fun H locs hS => ?_)
    refine lv_aload_n F.hx F.hb d_MO_partLine_72 rfl (lv_at hl 1 rfl) ?_
    refine r_iconst F.hx F.hb d_MO_partLine_73 ?_
    refine lv_aload_n F.hx F.hb d_MO_partLine_74 rfl (lv_at hl 1 rfl) ?_
    refine r_iconst F.hx F.hb d_MO_partLine_75 ?_
    obtain ⟨q22, hq22, hT⟩ := q_obind hT
    refine r_backI F hS (r_runV (k := 191) (N := 68) (T := T1) (As := [vI 0]) F hS (show 191 < 231 by decide) (show shK 191 = 5 from rfl) rfl (c_MO_fresher l F.2.2.1 q20 0 (inr_c rfl) _ hq22) gs_MO_222 hd_MO_fresher ⟨Nat.le_of_ble_eq_true rfl, Nat.le_of_ble_eq_true rfl⟩ rfl hl.1 (Nat.le_of_ble_eq_true rfl) ⟨Nat.zero_le _, Nat.zero_le _⟩ rfl d_MO_partLine_76) (fun H locs hS h23 => ?_)
    refine r_iconst F.hx F.hb d_MO_partLine_79 ?_
    refine r_isub F.hx F.hb d_MO_partLine_80 ?_
    obtain ⟨q24, hq24, hT⟩ := q_obind hT
    refine r_backI F hS (r_runV (k := 191) (N := 68) (T := T1) (As := [vI 0, vI (w32 (q22 - 1))]) F hS (show 191 < 231 by decide) (show shK 191 = 5 from rfl) rfl (c_MO_numeral l F.2.2.1 q20 0 (w32 (q22 - 1)) (inr_c rfl) (inr_w32 _) _ hq24) gs_MO_226 hd_MO_numeral ⟨Nat.le_of_ble_eq_true rfl, Nat.le_of_ble_eq_true rfl⟩ rfl hl.1 (Nat.le_of_ble_eq_true rfl) ⟨Nat.zero_le _, Nat.zero_le _⟩ rfl d_MO_partLine_81) (fun H locs hS h25 => ?_)
    refine lv_istore_n (lv' := [(2, vI (q24.2)), (1, vI q18), (0, .ref (b + 191))]) F.hx F.hb d_MO_partLine_84 rfl hl (Nat.le_of_ble_eq_true rfl) rfl (fun ls hl => ?_)
    refine lv_aload_n F.hx F.hb d_MO_partLine_85 rfl (lv_at hl 2 rfl) ?_
    refine r_iconst F.hx F.hb d_MO_partLine_86 ?_
    refine lv_aload_n F.hx F.hb d_MO_partLine_87 rfl (lv_at hl 2 rfl) ?_
    refine r_iconst F.hx F.hb d_MO_partLine_88 ?_
    obtain ⟨q26, hq26, hT⟩ := q_obind hT
    refine r_backI F hS (r_runV (k := 191) (N := 68) (T := T1) (As := [vI 1]) F hS (show 191 < 231 by decide) (show shK 191 = 5 from rfl) rfl (c_MO_fresher l F.2.2.1 (q24.1) 1 (inr_c rfl) _ hq26) gs_MO_222 hd_MO_fresher ⟨Nat.le_of_ble_eq_true rfl, Nat.le_of_ble_eq_true rfl⟩ rfl hl.1 (Nat.le_of_ble_eq_true rfl) ⟨Nat.zero_le _, Nat.zero_le _⟩ rfl d_MO_partLine_89) (fun H locs hS h27 => ?_)
    refine r_iconst F.hx F.hb d_MO_partLine_92 ?_
    refine r_isub F.hx F.hb d_MO_partLine_93 ?_
    obtain ⟨q28, hq28, hT⟩ := q_obind hT
    refine r_backI F hS (r_runV (k := 191) (N := 68) (T := T1) (As := [vI 0, vI (w32 (q26 - 1))]) F hS (show 191 < 231 by decide) (show shK 191 = 5 from rfl) rfl (c_MO_numeral l F.2.2.1 (q24.1) 0 (w32 (q26 - 1)) (inr_c rfl) (inr_w32 _) _ hq28) gs_MO_226 hd_MO_numeral ⟨Nat.le_of_ble_eq_true rfl, Nat.le_of_ble_eq_true rfl⟩ rfl hl.1 (Nat.le_of_ble_eq_true rfl) ⟨Nat.zero_le _, Nat.zero_le _⟩ rfl d_MO_partLine_94) (fun H locs hS h29 => ?_)
    refine lv_istore_n (lv' := [(3, vI (q28.2)), (2, vI (q24.2)), (1, vI q18), (0, .ref (b + 191))]) F.hx F.hb d_MO_partLine_97 rfl hl (Nat.le_of_ble_eq_true rfl) rfl (fun ls hl => ?_)
    refine lv_aload_n F.hx F.hb d_MO_partLine_98 rfl (lv_at hl 3 rfl) ?_
    refine lv_iload_n F.hx F.hb d_MO_partLine_99 rfl (lv_at hl 1 rfl) ?_
    refine lv_aload_n F.hx F.hb d_MO_partLine_100 rfl (lv_at hl 3 rfl) ?_
    refine r_iconst F.hx F.hb d_MO_partLine_101 ?_
    obtain ⟨q30, hq30, hT⟩ := q_obind hT
    refine r_backI F hS (r_runV (k := 191) (N := 68) (T := T1) (As := [vI 0]) F hS (show 191 < 231 by decide) (show shK 191 = 5 from rfl) rfl (c_MO_fresher l F.2.2.1 (q28.1) 0 (inr_c rfl) _ hq30) gs_MO_222 hd_MO_fresher ⟨Nat.le_of_ble_eq_true rfl, Nat.le_of_ble_eq_true rfl⟩ rfl hl.1 (Nat.le_of_ble_eq_true rfl) ⟨Nat.zero_le _, Nat.zero_le _⟩ rfl d_MO_partLine_102) (fun H locs hS h31 => ?_)
    refine r_iconst F.hx F.hb d_MO_partLine_105 ?_
    refine r_isub F.hx F.hb d_MO_partLine_106 ?_
    obtain ⟨q32, hq32, hT⟩ := q_obind hT
    refine r_backI F hS (r_runV (k := 191) (N := 68) (T := T1) (As := [vI (q24.2), vI (w32 (q30 - 1))]) F hS (show 191 < 231 by decide) (show shK 191 = 5 from rfl) rfl (c_MO_numeral l F.2.2.1 (q28.1) (q24.2) (w32 (q30 - 1)) h25 (inr_w32 _) _ hq32) gs_MO_226 hd_MO_numeral ⟨Nat.le_of_ble_eq_true rfl, Nat.le_of_ble_eq_true rfl⟩ rfl hl.1 (Nat.le_of_ble_eq_true rfl) ⟨Nat.zero_le _, Nat.zero_le _⟩ rfl d_MO_partLine_107) (fun H locs hS h33 => ?_)
    refine lv_istore (lv' := [(4, vI (q32.2)), (3, vI (q28.2)), (2, vI (q24.2)), (1, vI q18), (0, .ref (b + 191))]) F.hx F.hb d_MO_partLine_110 hl (Nat.le_of_ble_eq_true rfl) rfl (fun ls hl => ?_)
    refine lv_aload_n F.hx F.hb d_MO_partLine_112 rfl (lv_at hl 4 rfl) ?_
    refine lv_iload_n F.hx F.hb d_MO_partLine_113 rfl (lv_at hl 1 rfl) ?_
    refine lv_aload_n F.hx F.hb d_MO_partLine_114 rfl (lv_at hl 4 rfl) ?_
    refine r_iconst F.hx F.hb d_MO_partLine_115 ?_
    obtain ⟨q34, hq34, hT⟩ := q_obind hT
    refine r_backI F hS (r_runV (k := 191) (N := 68) (T := T1) (As := [vI 1]) F hS (show 191 < 231 by decide) (show shK 191 = 5 from rfl) rfl (c_MO_fresher l F.2.2.1 (q32.1) 1 (inr_c rfl) _ hq34) gs_MO_222 hd_MO_fresher ⟨Nat.le_of_ble_eq_true rfl, Nat.le_of_ble_eq_true rfl⟩ rfl hl.1 (Nat.le_of_ble_eq_true rfl) ⟨Nat.zero_le _, Nat.zero_le _⟩ rfl d_MO_partLine_116) (fun H locs hS h35 => ?_)
    refine r_iconst F.hx F.hb d_MO_partLine_119 ?_
    refine r_isub F.hx F.hb d_MO_partLine_120 ?_
    obtain ⟨q36, hq36, hT⟩ := q_obind hT
    refine r_backI F hS (r_runV (k := 191) (N := 68) (T := T1) (As := [vI (q28.2), vI (w32 (q34 - 1))]) F hS (show 191 < 231 by decide) (show shK 191 = 5 from rfl) rfl (c_MO_numeral l F.2.2.1 (q32.1) (q28.2) (w32 (q34 - 1)) h29 (inr_w32 _) _ hq36) gs_MO_226 hd_MO_numeral ⟨Nat.le_of_ble_eq_true rfl, Nat.le_of_ble_eq_true rfl⟩ rfl hl.1 (Nat.le_of_ble_eq_true rfl) ⟨Nat.zero_le _, Nat.zero_le _⟩ rfl d_MO_partLine_121) (fun H locs hS h37 => ?_)
    refine lv_istore (lv' := [(5, vI (q36.2)), (4, vI (q32.2)), (3, vI (q28.2)), (2, vI (q24.2)), (1, vI q18), (0, .ref (b + 191))]) F.hx F.hb d_MO_partLine_124 hl (Nat.le_of_ble_eq_true rfl) rfl (fun ls hl => ?_)
    refine lv_aload_n F.hx F.hb d_MO_partLine_126 rfl (lv_at hl 5 rfl) ?_
    refine r_get (v := vI ((q36.1).1 191 24)) (N := 68) (T := T1) (j := 24) F hS (show 191 < 231 by decide) (show shK 191 = 5 from rfl) (show shN 191 = 68 from rfl) rfl (Nat.le_of_ble_eq_true rfl) ing1 mw_1413 (fv_int rfl) d_MO_partLine_127 ?_
    have i38 := hS.rng 191 24
    refine r_if_eq (tgt := 134) F.hx F.hb i38 d_MO_partLine_130 (by decide) (fun c39 => ?_) (fun c39 => ?_)
    · replace hT := (if_pos c39).symm.trans hT
      refine lv_iload_n F.hx F.hb d_MO_partLine_134 rfl (lv_at hl 2 rfl) ?_
      refine lv_istore (lv' := [(6, vI (q28.2)), (5, vI (q36.2)), (4, vI (q32.2)), (3, vI (q28.2)), (2, vI (q24.2)), (1, vI q18), (0, .ref (b + 191))]) F.hx F.hb d_MO_partLine_135 hl (Nat.le_of_ble_eq_true rfl) rfl (fun ls hl => ?_)
      exact k_MO_partLine_L137 l hlo F hlk hr FU (q36.1) q18 h19 (q24.2) h25 (q32.2) h33 (q36.2) h37 (q28.2) h29 _ _ _ hS (lv_sub hl [6, 5, 4, 2, 1, 0] rfl) hT
    · replace hT := (if_neg c39).symm.trans hT
      cases hT
      exact r_vret F hlk hr hS d_MO_partLine_133
  · replace hT := (if_neg c14).symm.trans hT
    cases hT
    exact r_vret F hlk hr hS d_MO_partLine_49
set_option maxHeartbeats 4000000 in
set_option maxRecDepth 100000 in
theorem c_MO_partLine (l : Launch) {b n : Nat} {C : CT} (hlo : 231 ≤ n) (M : Mem)   (res : Mem) (hT : t_MO_partLine M  = some res) : CM l b C n 8 y_MO_partLine b_MO_partLine 8 (none) [.ref (b + 191)] M (QV b C n res) := by
  refine CM.of (lo := 231) (ow := "WardFallsModel") (by decide) rfl (Nat.le_of_ble_eq_true rfl) hlo (fun p e s m below meth c F hlk hr hS ls hl => ?_)
  have hl : lv_has ls 8 [(0, .ref (b + 191))] := hl
  unfold t_MO_partLine at hT
  refine lv_aload_n F.hx F.hb d_MO_partLine_0 rfl (lv_at hl 0 rfl) ?_
  refine r_get (v := vI (M.1 191 22)) (N := 68) (T := T1) (j := 22) F hS (show 191 < 231 by decide) (show shK 191 = 5 from rfl) (show shN 191 = 68 from rfl) rfl (Nat.le_of_ble_eq_true rfl) ing1 mw_1411 (fv_int rfl) d_MO_partLine_1 ?_
  have i1 := hS.rng 191 22
  refine r_iconst F.hx F.hb d_MO_partLine_4 ?_
  refine r_icmp_eq (tgt := 16) F.hx F.hb i1 (inr_c rfl) d_MO_partLine_5 (by decide) (fun c2 => ?_) (fun c2 => ?_)
  · replace hT := (if_pos c2).symm.trans hT
    refine lv_aload_n F.hx F.hb d_MO_partLine_16 rfl (lv_at hl 0 rfl) ?_
    refine r_get (v := .ref (b + 194)) (N := 68) (T := T1) (j := 4) F hS (show 191 < 231 by decide) (show shK 191 = 5 from rfl) (show shN 191 = 68 from rfl) rfl (Nat.le_of_ble_eq_true rfl) ing1 mw_1393 (fv_sg rfl rfl rfl) d_MO_partLine_17 ?_
    refine r_iconst F.hx F.hb d_MO_partLine_20 ?_
    refine lv_aload_n F.hx F.hb d_MO_partLine_21 rfl (lv_at hl 0 rfl) ?_
    refine r_iconst F.hx F.hb d_MO_partLine_22 ?_
    obtain ⟨q3, hq3, hT⟩ := q_obind hT
    refine r_backI F hS (r_runV (k := 191) (N := 68) (T := T1) (As := [vI 2]) F hS (show 191 < 231 by decide) (show shK 191 = 5 from rfl) rfl (c_MO_fresher l F.2.2.1 M 2 (inr_c rfl) _ hq3) gs_MO_222 hd_MO_fresher ⟨Nat.le_of_ble_eq_true rfl, Nat.le_of_ble_eq_true rfl⟩ rfl hl.1 (Nat.le_of_ble_eq_true rfl) ⟨Nat.zero_le _, Nat.zero_le _⟩ rfl d_MO_partLine_23) (fun H locs hS h4 => ?_)
    refine lv_aload_n F.hx F.hb d_MO_partLine_26 rfl (lv_at hl 0 rfl) ?_
    refine r_get (v := vI (M.1 191 23)) (N := 68) (T := T1) (j := 23) F hS (show 191 < 231 by decide) (show shK 191 = 5 from rfl) (show shN 191 = 68 from rfl) rfl (Nat.le_of_ble_eq_true rfl) ing1 mw_1412 (fv_int rfl) d_MO_partLine_27 ?_
    have i5 := hS.rng 191 23
    obtain ⟨q6, hq6, hT⟩ := q_obind hT
    refine r_backI F hS (r_runS (As := [.ref (b + 194), vI 4, vI q3, vI (M.1 191 23)]) F hS (c_MO_found l F.2.2.1 M 194 8 4 q3 (M.1 191 23) (show arrP 0 194 8 231 from ⟨rfl, rfl, by decide⟩) (inr_c rfl) h4 i5 _ hq6) gs_MO_218 hd_MO_found ⟨Nat.le_of_ble_eq_true rfl, Nat.le_of_ble_eq_true rfl⟩ rfl hl.1 (Nat.le_of_ble_eq_true rfl) ⟨Nat.zero_le _, Nat.zero_le _⟩ rfl d_MO_partLine_30) (fun H locs hS h7 => ?_)
    refine r_iconst F.hx F.hb d_MO_partLine_33 ?_
    refine r_icmp_ne (tgt := 42) F.hx F.hb h7 (inr_c rfl) d_MO_partLine_34 (by decide) (fun c8 => ?_) (fun c8 => ?_)
    · replace hT := (if_neg c8).symm.trans hT
      exact k_MO_partLine_L42 l hlo F hlk hr M _ _ _ hS (lv_sub hl [0] rfl) hT
    · replace hT := (if_pos c8).symm.trans hT
      refine lv_aload_n F.hx F.hb d_MO_partLine_37 rfl (lv_at hl 0 rfl) ?_
      refine r_iconst F.hx F.hb d_MO_partLine_38 ?_
      obtain ⟨q9, hq9⟩ : ∃ q, q = (t_MO_wrong M 4) := ⟨_, rfl⟩
      replace hT := qlet_eq hT hq9
      refine r_backV F hS (r_runV (k := 191) (N := 68) (T := T1) (As := [vI 4]) F hS (show 191 < 231 by decide) (show shK 191 = 5 from rfl) rfl (c_MO_wrong l F.2.2.1 M 4 (inr_c rfl) _ hq9.symm) gs_MO_208 hd_MO_wrong ⟨Nat.le_of_ble_eq_true rfl, Nat.le_of_ble_eq_true rfl⟩ rfl hl.1 (Nat.le_of_ble_eq_true rfl) ⟨Nat.zero_le _, Nat.zero_le _⟩ rfl d_MO_partLine_39) (fun H locs hS => ?_)
      exact k_MO_partLine_L42 l hlo F hlk hr q9 _ _ _ hS (lv_sub hl [0] rfl) hT
  · replace hT := (if_neg c2).symm.trans hT
    refine lv_aload_n F.hx F.hb d_MO_partLine_8 rfl (lv_at hl 0 rfl) ?_
    refine r_iconst F.hx F.hb d_MO_partLine_9 ?_
    obtain ⟨q11, hq11⟩ : ∃ q, q = (t_MO_wrong M 1) := ⟨_, rfl⟩
    replace hT := qlet_eq hT hq11
    refine r_backV F hS (r_runV (k := 191) (N := 68) (T := T1) (As := [vI 1]) F hS (show 191 < 231 by decide) (show shK 191 = 5 from rfl) rfl (c_MO_wrong l F.2.2.1 M 1 (inr_c rfl) _ hq11.symm) gs_MO_208 hd_MO_wrong ⟨Nat.le_of_ble_eq_true rfl, Nat.le_of_ble_eq_true rfl⟩ rfl hl.1 (Nat.le_of_ble_eq_true rfl) ⟨Nat.zero_le _, Nat.zero_le _⟩ rfl d_MO_partLine_10) (fun H locs hS => ?_)
    refine lv_goto (tgt := 42) F.hx F.hb d_MO_partLine_13 (by decide) ?_
    exact k_MO_partLine_L42 l hlo F hlk hr q11 _ _ _ hS (lv_sub hl [0] rfl) hT
theorem d_MO_hasThing_0 : decode b_MO_hasThing 0 = .ok (.iconst 0, 1) := dc_3 (by decide +kernel)
theorem d_MO_hasThing_1 : decode b_MO_hasThing 1 = .ok (.istore_n 2, 1) := dc_61 (by decide +kernel)
theorem d_MO_hasThing_2 : decode b_MO_hasThing 2 = .ok (.iload_n 2, 1) := dc_28 (by decide +kernel)
theorem d_MO_hasThing_3 : decode b_MO_hasThing 3 = .ok (.aload_n 0, 1) := dc_42 (by decide +kernel)
theorem d_MO_hasThing_4 : decode b_MO_hasThing 4 = .ok (.bipush 6, 2) := dc_16 (by decide +kernel)
theorem d_MO_hasThing_6 : decode b_MO_hasThing 6 = .ok (.invokevirtual 222, 3) := dc_182 (by decide +kernel)
theorem d_MO_hasThing_9 : decode b_MO_hasThing 9 = .ok (.if_icmp .ge 24, 3) := dc_162 (by decide +kernel)
theorem d_MO_hasThing_12 : decode b_MO_hasThing 12 = .ok (.aload_n 0, 1) := dc_42 (by decide +kernel)
theorem d_MO_hasThing_13 : decode b_MO_hasThing 13 = .ok (.getfield 41, 3) := dc_180 (by decide +kernel)
theorem d_MO_hasThing_16 : decode b_MO_hasThing 16 = .ok (.bipush 8, 2) := dc_16 (by decide +kernel)
theorem d_MO_hasThing_18 : decode b_MO_hasThing 18 = .ok (.iload_n 2, 1) := dc_28 (by decide +kernel)
theorem d_MO_hasThing_19 : decode b_MO_hasThing 19 = .ok (.iadd, 1) := dc_96 (by decide +kernel)
theorem d_MO_hasThing_20 : decode b_MO_hasThing 20 = .ok (.iaload, 1) := dc_46 (by decide +kernel)
theorem d_MO_hasThing_21 : decode b_MO_hasThing 21 = .ok (.iload_n 1, 1) := dc_27 (by decide +kernel)
theorem d_MO_hasThing_22 : decode b_MO_hasThing 22 = .ok (.if_icmp .ne 5, 3) := dc_160 (by decide +kernel)
theorem d_MO_hasThing_25 : decode b_MO_hasThing 25 = .ok (.iconst 1, 1) := dc_4 (by decide +kernel)
theorem d_MO_hasThing_26 : decode b_MO_hasThing 26 = .ok (.ireturn, 1) := dc_172 (by decide +kernel)
theorem d_MO_hasThing_27 : decode b_MO_hasThing 27 = .ok (.iinc 2 1, 3) := dc_132 (by decide +kernel)
theorem d_MO_hasThing_30 : decode b_MO_hasThing 30 = .ok (.goto (-28), 3) := dc_167 (by decide +kernel)
theorem d_MO_hasThing_33 : decode b_MO_hasThing 33 = .ok (.iconst 0, 1) := dc_3 (by decide +kernel)
theorem d_MO_hasThing_34 : decode b_MO_hasThing 34 = .ok (.ireturn, 1) := dc_172 (by decide +kernel)
def t_MO_hasThing_L2 (x1 : Int)  : Nat → Mem → Int → Option (Int)
  | 0, _, _ => none
  | fu + 1, M, v2_ => (obind (t_MO_fresher M 6) fun q1 => (if q1 ≤ v2_ then (some 0) else (qguard (0 ≤ (w32 (8 + v2_)) ∧ (w32 (8 + v2_)) < 16) (if (M.1 202 (w32 (8 + v2_))) = x1 then (some 1) else (t_MO_hasThing_L2 x1 fu M (w32 (v2_ + 1)))))))
def t_MO_hasThing (M : Mem) (x1 : Int) : Option (Int) := (t_MO_hasThing_L2 x1 FU M 0)
set_option maxHeartbeats 4000000 in
set_option maxRecDepth 100000 in
theorem k_MO_hasThing_L2 (l : Launch) {p : Program} {e : Env} {s : State} {m : MethodId} {below : List Frame} {meth : Method} {c : Code} {b n : Nat} {C : CT} (hlo : 231 ≤ n) (x1 : Int) (hx1 : InR x1) (F : Cx b p m c b_MO_hasThing 3 s ([.ref (b + 191), vI x1] : List Value).toArray "WardFallsModel" C n 231) (hlk : meth.locks = false) (hr : meth.sig.returnType = some .boolean) {res : Int} : ∀ (fu : Nat) (M : Mem) (v2_ : Int) (hv2_ : InR v2_) (H : Heap) (locs : List Loc) (ls : Array Slot), St b C n M s H locs → lv_has ls 3 [(0, .ref (b + 191)), (1, vI x1), (2, vI v2_)] → t_MO_hasThing_L2 x1 fu M v2_ = some res → W p l e (headSpec (wsM y_MO_hasThing b_MO_hasThing 3 (some .boolean)) (rmD 1)).room s m ([.ref (b + 191), vI x1] : List Value).toArray below meth c H locs 0 0 (MQ below (QZ b C n M res) ([.ref (b + 191), vI x1] : List Value).toArray s 0 0 (frb b)) (F0 m 2 ls []) := by
  intro fu
  induction fu with
  | zero => intro M v2_ hv2_ H locs ls hS hl hT; exact absurd hT (by simp [t_MO_hasThing_L2])
  | succ fu ih =>
    intro M v2_ hv2_ H locs ls hS hl hT
    rw [t_MO_hasThing_L2] at hT
    refine lv_iload_n F.hx F.hb d_MO_hasThing_2 rfl (lv_at hl 2 rfl) ?_
    refine lv_aload_n F.hx F.hb d_MO_hasThing_3 rfl (lv_at hl 0 rfl) ?_
    refine r_bipush F.hx F.hb d_MO_hasThing_4 rfl ?_
    obtain ⟨q1, hq1, hT⟩ := q_obind hT
    refine r_backI F hS (r_runV (k := 191) (N := 68) (T := T1) (As := [vI 6]) F hS (show 191 < 231 by decide) (show shK 191 = 5 from rfl) rfl (c_MO_fresher l F.2.2.1 M 6 (inr_c rfl) _ hq1) gs_MO_222 hd_MO_fresher ⟨Nat.le_of_ble_eq_true rfl, Nat.le_of_ble_eq_true rfl⟩ rfl hl.1 (Nat.le_of_ble_eq_true rfl) ⟨Nat.zero_le _, Nat.zero_le _⟩ rfl d_MO_hasThing_6) (fun H locs hS h2 => ?_)
    refine r_icmp_ge (tgt := 33) F.hx F.hb hv2_ h2 d_MO_hasThing_9 (by decide) (fun c3 => ?_) (fun c3 => ?_)
    · replace hT := (if_pos c3).symm.trans hT
      refine r_iconst F.hx F.hb d_MO_hasThing_33 ?_
      cases hT
      exact r_zret F hlk hr hS (Or.inl rfl) d_MO_hasThing_34
    · replace hT := (if_neg c3).symm.trans hT
      refine lv_aload_n F.hx F.hb d_MO_hasThing_12 rfl (lv_at hl 0 rfl) ?_
      refine r_get (v := .ref (b + 202)) (N := 68) (T := T1) (j := 12) F hS (show 191 < 231 by decide) (show shK 191 = 5 from rfl) (show shN 191 = 68 from rfl) rfl (Nat.le_of_ble_eq_true rfl) ing1 mw_1401 (fv_sg rfl rfl rfl) d_MO_hasThing_13 ?_
      refine r_bipush F.hx F.hb d_MO_hasThing_16 rfl ?_
      refine lv_iload_n F.hx F.hb d_MO_hasThing_18 rfl (lv_at hl 2 rfl) ?_
      refine r_iadd F.hx F.hb d_MO_hasThing_19 ?_
      obtain ⟨⟨g4a, g4b⟩, hT⟩ := q_guard hT
      refine r_iald F hS (show 202 < 231 by decide) (show shK 202 = 0 from rfl) (show shN 202 = 16 from rfl) (inr_w32 _) g4a g4b d_MO_hasThing_20 ?_
      have i5 := hS.rng 202 (w32 (8 + v2_))
      refine lv_iload_n F.hx F.hb d_MO_hasThing_21 rfl (lv_at hl 1 rfl) ?_
      refine r_icmp_ne (tgt := 27) F.hx F.hb i5 hx1 d_MO_hasThing_22 (by decide) (fun c6 => ?_) (fun c6 => ?_)
      · replace hT := (if_neg c6).symm.trans hT
        refine lv_iinc (v := Int32.ofInt (w32 (v2_ + 1))) (lv' := [(2, vI (w32 (v2_ + 1))), (0, .ref (b + 191)), (1, vI x1)]) F.hx F.hb d_MO_hasThing_27 hl (k := 2) rfl (q_of_add _ _) (Nat.le_of_ble_eq_true rfl) rfl (fun ls hl => ?_)
        refine lv_goto (tgt := 2) F.hx F.hb d_MO_hasThing_30 (by decide) ?_
        exact ih M (w32 (v2_ + 1)) (inr_w32 _) _ _ _ hS (lv_sub hl [1, 2, 0] rfl) hT
      · replace hT := (if_pos c6).symm.trans hT
        refine r_iconst F.hx F.hb d_MO_hasThing_25 ?_
        cases hT
        exact r_zret F hlk hr hS (Or.inr rfl) d_MO_hasThing_26
set_option maxHeartbeats 4000000 in
set_option maxRecDepth 100000 in
theorem c_MO_hasThing (l : Launch) {b n : Nat} {C : CT} (hlo : 231 ≤ n) (M : Mem) (x1 : Int) (hx1 : InR x1) (res : Int) (hT : t_MO_hasThing M x1 = some res) : CM l b C n 1 y_MO_hasThing b_MO_hasThing 3 (some .boolean) [.ref (b + 191), vI x1] M (QZ b C n M res) := by
  refine CM.of (lo := 231) (ow := "WardFallsModel") (by decide) rfl (Nat.le_of_ble_eq_true rfl) hlo (fun p e s m below meth c F hlk hr hS ls hl => ?_)
  have hl : lv_has ls 3 [(0, .ref (b + 191)), (1, vI x1)] := hl
  unfold t_MO_hasThing at hT
  refine r_iconst F.hx F.hb d_MO_hasThing_0 ?_
  refine lv_istore_n (lv' := [(2, vI 0), (0, .ref (b + 191)), (1, vI x1)]) F.hx F.hb d_MO_hasThing_1 rfl hl (Nat.le_of_ble_eq_true rfl) rfl (fun ls hl => ?_)
  exact k_MO_hasThing_L2 l hlo x1 hx1 F hlk hr FU M 0 (inr_c rfl) _ _ _ hS (lv_sub hl [1, 2, 0] rfl) hT
end
section
theorem d_MO_wallLine_0 : decode b_MO_wallLine 0 = .ok (.aload_n 0, 1) := dc_42 (by decide +kernel)
theorem d_MO_wallLine_1 : decode b_MO_wallLine 1 = .ok (.invokevirtual 270, 3) := dc_182 (by decide +kernel)
theorem d_MO_wallLine_4 : decode b_MO_wallLine 4 = .ok (.istore_n 1, 1) := dc_60 (by decide +kernel)
theorem d_MO_wallLine_5 : decode b_MO_wallLine 5 = .ok (.aload_n 0, 1) := dc_42 (by decide +kernel)
theorem d_MO_wallLine_6 : decode b_MO_wallLine 6 = .ok (.getfield 199, 3) := dc_180 (by decide +kernel)
theorem d_MO_wallLine_9 : decode b_MO_wallLine 9 = .ok (.ifCond .ne 20, 3) := dc_154 (by decide +kernel)
theorem d_MO_wallLine_12 : decode b_MO_wallLine 12 = .ok (.aload_n 0, 1) := dc_42 (by decide +kernel)
theorem d_MO_wallLine_13 : decode b_MO_wallLine 13 = .ok (.getfield 28, 3) := dc_180 (by decide +kernel)
theorem d_MO_wallLine_16 : decode b_MO_wallLine 16 = .ok (.bipush 48, 2) := dc_16 (by decide +kernel)
theorem d_MO_wallLine_18 : decode b_MO_wallLine 18 = .ok (.iload_n 1, 1) := dc_27 (by decide +kernel)
theorem d_MO_wallLine_19 : decode b_MO_wallLine 19 = .ok (.iadd, 1) := dc_96 (by decide +kernel)
theorem d_MO_wallLine_20 : decode b_MO_wallLine 20 = .ok (.baload, 1) := dc_51 (by decide +kernel)
theorem d_MO_wallLine_21 : decode b_MO_wallLine 21 = .ok (.ifCond .eq 8, 3) := dc_153 (by decide +kernel)
theorem d_MO_wallLine_24 : decode b_MO_wallLine 24 = .ok (.aload_n 0, 1) := dc_42 (by decide +kernel)
theorem d_MO_wallLine_25 : decode b_MO_wallLine 25 = .ok (.iconst 3, 1) := dc_6 (by decide +kernel)
theorem d_MO_wallLine_26 : decode b_MO_wallLine 26 = .ok (.invokevirtual 208, 3) := dc_182 (by decide +kernel)
theorem d_MO_wallLine_29 : decode b_MO_wallLine 29 = .ok (.aload_n 0, 1) := dc_42 (by decide +kernel)
theorem d_MO_wallLine_30 : decode b_MO_wallLine 30 = .ok (.getfield 199, 3) := dc_180 (by decide +kernel)
theorem d_MO_wallLine_33 : decode b_MO_wallLine 33 = .ok (.ifCond .ne 28, 3) := dc_154 (by decide +kernel)
theorem d_MO_wallLine_36 : decode b_MO_wallLine 36 = .ok (.aload_n 0, 1) := dc_42 (by decide +kernel)
theorem d_MO_wallLine_37 : decode b_MO_wallLine 37 = .ok (.getfield 32, 3) := dc_180 (by decide +kernel)
theorem d_MO_wallLine_40 : decode b_MO_wallLine 40 = .ok (.bipush 48, 2) := dc_16 (by decide +kernel)
theorem d_MO_wallLine_42 : decode b_MO_wallLine 42 = .ok (.iload_n 1, 1) := dc_27 (by decide +kernel)
theorem d_MO_wallLine_43 : decode b_MO_wallLine 43 = .ok (.iadd, 1) := dc_96 (by decide +kernel)
theorem d_MO_wallLine_44 : decode b_MO_wallLine 44 = .ok (.baload, 1) := dc_51 (by decide +kernel)
theorem d_MO_wallLine_45 : decode b_MO_wallLine 45 = .ok (.ifCond .ne 11, 3) := dc_154 (by decide +kernel)
theorem d_MO_wallLine_48 : decode b_MO_wallLine 48 = .ok (.aload_n 0, 1) := dc_42 (by decide +kernel)
theorem d_MO_wallLine_49 : decode b_MO_wallLine 49 = .ok (.iload_n 1, 1) := dc_27 (by decide +kernel)
theorem d_MO_wallLine_50 : decode b_MO_wallLine 50 = .ok (.invokevirtual 273, 3) := dc_182 (by decide +kernel)
theorem d_MO_wallLine_53 : decode b_MO_wallLine 53 = .ok (.ifCond .eq 8, 3) := dc_153 (by decide +kernel)
theorem d_MO_wallLine_56 : decode b_MO_wallLine 56 = .ok (.aload_n 0, 1) := dc_42 (by decide +kernel)
theorem d_MO_wallLine_57 : decode b_MO_wallLine 57 = .ok (.iconst 5, 1) := dc_8 (by decide +kernel)
theorem d_MO_wallLine_58 : decode b_MO_wallLine 58 = .ok (.invokevirtual 208, 3) := dc_182 (by decide +kernel)
theorem d_MO_wallLine_61 : decode b_MO_wallLine 61 = .ok (.aload_n 0, 1) := dc_42 (by decide +kernel)
theorem d_MO_wallLine_62 : decode b_MO_wallLine 62 = .ok (.getfield 199, 3) := dc_180 (by decide +kernel)
theorem d_MO_wallLine_65 : decode b_MO_wallLine 65 = .ok (.ifCond .eq 4, 3) := dc_153 (by decide +kernel)
theorem d_MO_wallLine_68 : decode b_MO_wallLine 68 = .ok (.return_, 1) := dc_177 (by decide +kernel)
theorem d_MO_wallLine_69 : decode b_MO_wallLine 69 = .ok (.aload_n 0, 1) := dc_42 (by decide +kernel)
theorem d_MO_wallLine_70 : decode b_MO_wallLine 70 = .ok (.getfield 28, 3) := dc_180 (by decide +kernel)
theorem d_MO_wallLine_73 : decode b_MO_wallLine 73 = .ok (.bipush 48, 2) := dc_16 (by decide +kernel)
theorem d_MO_wallLine_75 : decode b_MO_wallLine 75 = .ok (.iload_n 1, 1) := dc_27 (by decide +kernel)
theorem d_MO_wallLine_76 : decode b_MO_wallLine 76 = .ok (.iadd, 1) := dc_96 (by decide +kernel)
theorem d_MO_wallLine_77 : decode b_MO_wallLine 77 = .ok (.iconst 1, 1) := dc_4 (by decide +kernel)
theorem d_MO_wallLine_78 : decode b_MO_wallLine 78 = .ok (.bastore, 1) := dc_84 (by decide +kernel)
theorem d_MO_wallLine_79 : decode b_MO_wallLine 79 = .ok (.aload_n 0, 1) := dc_42 (by decide +kernel)
theorem d_MO_wallLine_80 : decode b_MO_wallLine 80 = .ok (.iconst 4, 1) := dc_7 (by decide +kernel)
theorem d_MO_wallLine_81 : decode b_MO_wallLine 81 = .ok (.aload_n 0, 1) := dc_42 (by decide +kernel)
theorem d_MO_wallLine_82 : decode b_MO_wallLine 82 = .ok (.iconst 4, 1) := dc_7 (by decide +kernel)
theorem d_MO_wallLine_83 : decode b_MO_wallLine 83 = .ok (.invokevirtual 222, 3) := dc_182 (by decide +kernel)
theorem d_MO_wallLine_86 : decode b_MO_wallLine 86 = .ok (.iconst 1, 1) := dc_4 (by decide +kernel)
theorem d_MO_wallLine_87 : decode b_MO_wallLine 87 = .ok (.iadd, 1) := dc_96 (by decide +kernel)
theorem d_MO_wallLine_88 : decode b_MO_wallLine 88 = .ok (.invokevirtual 238, 3) := dc_182 (by decide +kernel)
theorem d_MO_wallLine_91 : decode b_MO_wallLine 91 = .ok (.aload_n 0, 1) := dc_42 (by decide +kernel)
theorem d_MO_wallLine_92 : decode b_MO_wallLine 92 = .ok (.invokevirtual 205, 3) := dc_182 (by decide +kernel)
theorem d_MO_wallLine_95 : decode b_MO_wallLine 95 = .ok (.return_, 1) := dc_177 (by decide +kernel)
def t_MO_wallLine_L61   (M : Mem) (v1_ : Int) : Option (Mem) := (if (M.1 191 24) = 0 then (qguard (0 ≤ (w32 (48 + v1_)) ∧ (w32 (48 + v1_)) < 96) (qlet (setI M 198 (w32 (48 + v1_)) 1) fun M21 => (obind (t_MO_fresher M21 4) fun q22 => (obind (t_MO_reads M21 4 (w32 (q22 + 1))) fun q24 => (obind (t_MO_token q24) fun q26 => (some q26)))))) else (some M))
def t_MO_wallLine_L56   (M : Mem) (v1_ : Int) : Option (Mem) := (qlet (t_MO_wrong M 5) fun q28 => (t_MO_wallLine_L61 q28 v1_))
def t_MO_wallLine_L29   (M : Mem) (v1_ : Int) : Option (Mem) := (if (M.1 191 24) = 0 then (qguard (0 ≤ (w32 (48 + v1_)) ∧ (w32 (48 + v1_)) < 96) (if (M.1 199 (w32 (48 + v1_))) = 0 then (obind (t_MO_hasThing M v1_) fun q15 => (if q15 = 0 then (t_MO_wallLine_L61 M v1_) else (t_MO_wallLine_L56 M v1_))) else (t_MO_wallLine_L56 M v1_))) else (t_MO_wallLine_L61 M v1_))
def t_MO_wallLine (M : Mem)  : Option (Mem) := (obind (t_MO_cellAtHand M) fun q1 => (if ((q1.1).1 191 24) = 0 then (qguard (0 ≤ (w32 (48 + (q1.2))) ∧ (w32 (48 + (q1.2))) < 96) (if ((q1.1).1 198 (w32 (48 + (q1.2)))) = 0 then (t_MO_wallLine_L29 (q1.1) (q1.2)) else (qlet (t_MO_wrong (q1.1) 3) fun q8 => (t_MO_wallLine_L29 q8 (q1.2))))) else (t_MO_wallLine_L29 (q1.1) (q1.2))))
set_option maxHeartbeats 4000000 in
set_option maxRecDepth 100000 in
theorem k_MO_wallLine_L61 (l : Launch) {p : Program} {e : Env} {s : State} {m : MethodId} {below : List Frame} {meth : Method} {c : Code} {b n : Nat} {C : CT} (hlo : 231 ≤ n)   (F : Cx b p m c b_MO_wallLine 2 s ([.ref (b + 191)] : List Value).toArray "WardFallsModel" C n 231) (hlk : meth.locks = false) (hr : meth.sig.returnType = none) {res : Mem} (M : Mem) (v1_ : Int) (hv1_ : InR v1_) (H : Heap) (locs : List Loc) (ls : Array Slot) (hS : St b C n M s H locs) (hl : lv_has ls 2 [(0, .ref (b + 191)), (1, vI v1_)]) (hT : t_MO_wallLine_L61 M v1_ = some res) : W p l e (headSpec (wsM y_MO_wallLine b_MO_wallLine 2 (none)) (rmD 9)).room s m ([.ref (b + 191)] : List Value).toArray below meth c H locs 0 0 (MQ below (QV b C n res) ([.ref (b + 191)] : List Value).toArray s 0 0 (frb b)) (F0 m 61 ls []) := by
  unfold t_MO_wallLine_L61 at hT
  refine lv_aload_n F.hx F.hb d_MO_wallLine_61 rfl (lv_at hl 0 rfl) ?_
  refine r_get (v := vI (M.1 191 24)) (N := 68) (T := T1) (j := 24) F hS (show 191 < 231 by decide) (show shK 191 = 5 from rfl) (show shN 191 = 68 from rfl) rfl (Nat.le_of_ble_eq_true rfl) ing1 mw_1413 (fv_int rfl) d_MO_wallLine_62 ?_
  have i18 := hS.rng 191 24
  refine r_if_eq (tgt := 69) F.hx F.hb i18 d_MO_wallLine_65 (by decide) (fun c19 => ?_) (fun c19 => ?_)
  · replace hT := (if_pos c19).symm.trans hT
    refine lv_aload_n F.hx F.hb d_MO_wallLine_69 rfl (lv_at hl 0 rfl) ?_
    refine r_get (v := .ref (b + 198)) (N := 68) (T := T1) (j := 8) F hS (show 191 < 231 by decide) (show shK 191 = 5 from rfl) (show shN 191 = 68 from rfl) rfl (Nat.le_of_ble_eq_true rfl) ing1 mw_1397 (fv_sg rfl rfl rfl) d_MO_wallLine_70 ?_
    refine r_bipush F.hx F.hb d_MO_wallLine_73 rfl ?_
    refine lv_iload_n F.hx F.hb d_MO_wallLine_75 rfl (lv_at hl 1 rfl) ?_
    refine r_iadd F.hx F.hb d_MO_wallLine_76 ?_
    refine r_iconst F.hx F.hb d_MO_wallLine_77 ?_
    obtain ⟨⟨g20a, g20b⟩, hT⟩ := q_guard hT
    refine r_zast F hS (show 198 < 231 by decide) (show shK 198 = 1 from rfl) (show shN 198 = 96 from rfl) (inr_w32 _) (Or.inr rfl) g20a g20b d_MO_wallLine_78 (fun H locs hS => ?_)
    obtain ⟨M21, eM21⟩ : ∃ q, q = (setI M 198 (w32 (48 + v1_)) 1) := ⟨_, rfl⟩
    replace hS : St b C n M21 s H locs := by rw [eM21]; exact hS
    replace hT := qlet_eq hT eM21
    refine lv_aload_n F.hx F.hb d_MO_wallLine_79 rfl (lv_at hl 0 rfl) ?_
    refine r_iconst F.hx F.hb d_MO_wallLine_80 ?_
    refine lv_aload_n F.hx F.hb d_MO_wallLine_81 rfl (lv_at hl 0 rfl) ?_
    refine r_iconst F.hx F.hb d_MO_wallLine_82 ?_
    obtain ⟨q22, hq22, hT⟩ := q_obind hT
    refine r_backI F hS (r_runV (k := 191) (N := 68) (T := T1) (As := [vI 4]) F hS (show 191 < 231 by decide) (show shK 191 = 5 from rfl) rfl (c_MO_fresher l F.2.2.1 M21 4 (inr_c rfl) _ hq22) gs_MO_222 hd_MO_fresher ⟨Nat.le_of_ble_eq_true rfl, Nat.le_of_ble_eq_true rfl⟩ rfl hl.1 (Nat.le_of_ble_eq_true rfl) ⟨Nat.zero_le _, Nat.zero_le _⟩ rfl d_MO_wallLine_83) (fun H locs hS h23 => ?_)
    refine r_iconst F.hx F.hb d_MO_wallLine_86 ?_
    refine r_iadd F.hx F.hb d_MO_wallLine_87 ?_
    obtain ⟨q24, hq24, hT⟩ := q_obind hT
    refine r_backV F hS (r_runV (k := 191) (N := 68) (T := T1) (As := [vI 4, vI (w32 (q22 + 1))]) F hS (show 191 < 231 by decide) (show shK 191 = 5 from rfl) rfl (c_MO_reads l F.2.2.1 M21 4 (w32 (q22 + 1)) (inr_c rfl) (inr_w32 _) _ hq24) gs_MO_238 hd_MO_reads ⟨Nat.le_of_ble_eq_true rfl, Nat.le_of_ble_eq_true rfl⟩ rfl hl.1 (Nat.le_of_ble_eq_true rfl) ⟨Nat.zero_le _, Nat.zero_le _⟩ rfl d_MO_wallLine_88) (fun H locs hS => ?_)
    refine lv_aload_n F.hx F.hb d_MO_wallLine_91 rfl (lv_at hl 0 rfl) ?_
    obtain ⟨q26, hq26, hT⟩ := q_obind hT
    refine r_backV F hS (r_runV (k := 191) (N := 68) (T := T1) (As := []) F hS (show 191 < 231 by decide) (show shK 191 = 5 from rfl) rfl (c_MO_token l F.2.2.1 q24 _ hq26) gs_MO_205 hd_MO_token ⟨Nat.le_of_ble_eq_true rfl, Nat.le_of_ble_eq_true rfl⟩ rfl hl.1 (Nat.le_of_ble_eq_true rfl) ⟨Nat.zero_le _, Nat.zero_le _⟩ rfl d_MO_wallLine_92) (fun H locs hS => ?_)
    cases hT
    exact r_vret F hlk hr hS d_MO_wallLine_95
  · replace hT := (if_neg c19).symm.trans hT
    cases hT
    exact r_vret F hlk hr hS d_MO_wallLine_68
set_option maxHeartbeats 4000000 in
set_option maxRecDepth 100000 in
theorem k_MO_wallLine_L56 (l : Launch) {p : Program} {e : Env} {s : State} {m : MethodId} {below : List Frame} {meth : Method} {c : Code} {b n : Nat} {C : CT} (hlo : 231 ≤ n)   (F : Cx b p m c b_MO_wallLine 2 s ([.ref (b + 191)] : List Value).toArray "WardFallsModel" C n 231) (hlk : meth.locks = false) (hr : meth.sig.returnType = none) {res : Mem} (M : Mem) (v1_ : Int) (hv1_ : InR v1_) (H : Heap) (locs : List Loc) (ls : Array Slot) (hS : St b C n M s H locs) (hl : lv_has ls 2 [(0, .ref (b + 191)), (1, vI v1_)]) (hT : t_MO_wallLine_L56 M v1_ = some res) : W p l e (headSpec (wsM y_MO_wallLine b_MO_wallLine 2 (none)) (rmD 9)).room s m ([.ref (b + 191)] : List Value).toArray below meth c H locs 0 0 (MQ below (QV b C n res) ([.ref (b + 191)] : List Value).toArray s 0 0 (frb b)) (F0 m 56 ls []) := by
  unfold t_MO_wallLine_L56 at hT
  refine lv_aload_n F.hx F.hb d_MO_wallLine_56 rfl (lv_at hl 0 rfl) ?_
  refine r_iconst F.hx F.hb d_MO_wallLine_57 ?_
  obtain ⟨q28, hq28⟩ : ∃ q, q = (t_MO_wrong M 5) := ⟨_, rfl⟩
  replace hT := qlet_eq hT hq28
  refine r_backV F hS (r_runV (k := 191) (N := 68) (T := T1) (As := [vI 5]) F hS (show 191 < 231 by decide) (show shK 191 = 5 from rfl) rfl (c_MO_wrong l F.2.2.1 M 5 (inr_c rfl) _ hq28.symm) gs_MO_208 hd_MO_wrong ⟨Nat.le_of_ble_eq_true rfl, Nat.le_of_ble_eq_true rfl⟩ rfl hl.1 (Nat.le_of_ble_eq_true rfl) ⟨Nat.zero_le _, Nat.zero_le _⟩ rfl d_MO_wallLine_58) (fun H locs hS => ?_)
  exact k_MO_wallLine_L61 l hlo F hlk hr q28 v1_ hv1_ _ _ _ hS (lv_sub hl [0, 1] rfl) hT
set_option maxHeartbeats 4000000 in
set_option maxRecDepth 100000 in
theorem k_MO_wallLine_L29 (l : Launch) {p : Program} {e : Env} {s : State} {m : MethodId} {below : List Frame} {meth : Method} {c : Code} {b n : Nat} {C : CT} (hlo : 231 ≤ n)   (F : Cx b p m c b_MO_wallLine 2 s ([.ref (b + 191)] : List Value).toArray "WardFallsModel" C n 231) (hlk : meth.locks = false) (hr : meth.sig.returnType = none) {res : Mem} (M : Mem) (v1_ : Int) (hv1_ : InR v1_) (H : Heap) (locs : List Loc) (ls : Array Slot) (hS : St b C n M s H locs) (hl : lv_has ls 2 [(0, .ref (b + 191)), (1, vI v1_)]) (hT : t_MO_wallLine_L29 M v1_ = some res) : W p l e (headSpec (wsM y_MO_wallLine b_MO_wallLine 2 (none)) (rmD 9)).room s m ([.ref (b + 191)] : List Value).toArray below meth c H locs 0 0 (MQ below (QV b C n res) ([.ref (b + 191)] : List Value).toArray s 0 0 (frb b)) (F0 m 29 ls []) := by
  unfold t_MO_wallLine_L29 at hT
  refine lv_aload_n F.hx F.hb d_MO_wallLine_29 rfl (lv_at hl 0 rfl) ?_
  refine r_get (v := vI (M.1 191 24)) (N := 68) (T := T1) (j := 24) F hS (show 191 < 231 by decide) (show shK 191 = 5 from rfl) (show shN 191 = 68 from rfl) rfl (Nat.le_of_ble_eq_true rfl) ing1 mw_1413 (fv_int rfl) d_MO_wallLine_30 ?_
  have i10 := hS.rng 191 24
  refine r_if_ne (tgt := 61) F.hx F.hb i10 d_MO_wallLine_33 (by decide) (fun c11 => ?_) (fun c11 => ?_)
  · replace hT := (if_neg c11).symm.trans hT
    exact k_MO_wallLine_L61 l hlo F hlk hr M v1_ hv1_ _ _ _ hS (lv_sub hl [0, 1] rfl) hT
  · replace hT := (if_pos c11).symm.trans hT
    refine lv_aload_n F.hx F.hb d_MO_wallLine_36 rfl (lv_at hl 0 rfl) ?_
    refine r_get (v := .ref (b + 199)) (N := 68) (T := T1) (j := 9) F hS (show 191 < 231 by decide) (show shK 191 = 5 from rfl) (show shN 191 = 68 from rfl) rfl (Nat.le_of_ble_eq_true rfl) ing1 mw_1398 (fv_sg rfl rfl rfl) d_MO_wallLine_37 ?_
    refine r_bipush F.hx F.hb d_MO_wallLine_40 rfl ?_
    refine lv_iload_n F.hx F.hb d_MO_wallLine_42 rfl (lv_at hl 1 rfl) ?_
    refine r_iadd F.hx F.hb d_MO_wallLine_43 ?_
    obtain ⟨⟨g12a, g12b⟩, hT⟩ := q_guard hT
    have z13 := hS.bool (show shK 199 = 1 from rfl) (w32 (48 + v1_))
    refine r_zald F hS (show 199 < 231 by decide) (show shK 199 = 1 from rfl) (show shN 199 = 96 from rfl) (inr_w32 _) g12a g12b d_MO_wallLine_44 ?_
    refine r_if_ne (tgt := 56) F.hx F.hb (inr_z z13) d_MO_wallLine_45 (by decide) (fun c14 => ?_) (fun c14 => ?_)
    · replace hT := (if_neg c14).symm.trans hT
      exact k_MO_wallLine_L56 l hlo F hlk hr M v1_ hv1_ _ _ _ hS (lv_sub hl [0, 1] rfl) hT
    · replace hT := (if_pos c14).symm.trans hT
      refine lv_aload_n F.hx F.hb d_MO_wallLine_48 rfl (lv_at hl 0 rfl) ?_
      refine lv_iload_n F.hx F.hb d_MO_wallLine_49 rfl (lv_at hl 1 rfl) ?_
      obtain ⟨q15, hq15, hT⟩ := q_obind hT
      refine r_backZ F hS (r_runV (k := 191) (N := 68) (T := T1) (As := [vI v1_]) F hS (show 191 < 231 by decide) (show shK 191 = 5 from rfl) rfl (c_MO_hasThing l F.2.2.1 M v1_ hv1_ _ hq15) gs_MO_273 hd_MO_hasThing ⟨Nat.le_of_ble_eq_true rfl, Nat.le_of_ble_eq_true rfl⟩ rfl hl.1 (Nat.le_of_ble_eq_true rfl) ⟨Nat.zero_le _, Nat.zero_le _⟩ rfl d_MO_wallLine_50) (fun H locs hS h16 => ?_)
      refine r_if_eq (tgt := 61) F.hx F.hb (inr_z h16) d_MO_wallLine_53 (by decide) (fun c17 => ?_) (fun c17 => ?_)
      · replace hT := (if_pos c17).symm.trans hT
        exact k_MO_wallLine_L61 l hlo F hlk hr M v1_ hv1_ _ _ _ hS (lv_sub hl [0, 1] rfl) hT
      · replace hT := (if_neg c17).symm.trans hT
        exact k_MO_wallLine_L56 l hlo F hlk hr M v1_ hv1_ _ _ _ hS (lv_sub hl [0, 1] rfl) hT
set_option maxHeartbeats 4000000 in
set_option maxRecDepth 100000 in
theorem c_MO_wallLine (l : Launch) {b n : Nat} {C : CT} (hlo : 231 ≤ n) (M : Mem)   (res : Mem) (hT : t_MO_wallLine M  = some res) : CM l b C n 9 y_MO_wallLine b_MO_wallLine 2 (none) [.ref (b + 191)] M (QV b C n res) := by
  refine CM.of (lo := 231) (ow := "WardFallsModel") (by decide) rfl (Nat.le_of_ble_eq_true rfl) hlo (fun p e s m below meth c F hlk hr hS ls hl => ?_)
  have hl : lv_has ls 2 [(0, .ref (b + 191))] := hl
  unfold t_MO_wallLine at hT
  refine lv_aload_n F.hx F.hb d_MO_wallLine_0 rfl (lv_at hl 0 rfl) ?_
  obtain ⟨q1, hq1, hT⟩ := q_obind hT
  refine r_backI F hS (r_runV (k := 191) (N := 68) (T := T1) (As := []) F hS (show 191 < 231 by decide) (show shK 191 = 5 from rfl) rfl (c_MO_cellAtHand l F.2.2.1 M _ hq1) gs_MO_270 hd_MO_cellAtHand ⟨Nat.le_of_ble_eq_true rfl, Nat.le_of_ble_eq_true rfl⟩ rfl hl.1 (Nat.le_of_ble_eq_true rfl) ⟨Nat.zero_le _, Nat.zero_le _⟩ rfl d_MO_wallLine_1) (fun H locs hS h2 => ?_)
  refine lv_istore_n (lv' := [(1, vI (q1.2)), (0, .ref (b + 191))]) F.hx F.hb d_MO_wallLine_4 rfl hl (Nat.le_of_ble_eq_true rfl) rfl (fun ls hl => ?_)
  refine lv_aload_n F.hx F.hb d_MO_wallLine_5 rfl (lv_at hl 1 rfl) ?_
  refine r_get (v := vI ((q1.1).1 191 24)) (N := 68) (T := T1) (j := 24) F hS (show 191 < 231 by decide) (show shK 191 = 5 from rfl) (show shN 191 = 68 from rfl) rfl (Nat.le_of_ble_eq_true rfl) ing1 mw_1413 (fv_int rfl) d_MO_wallLine_6 ?_
  have i3 := hS.rng 191 24
  refine r_if_ne (tgt := 29) F.hx F.hb i3 d_MO_wallLine_9 (by decide) (fun c4 => ?_) (fun c4 => ?_)
  · replace hT := (if_neg c4).symm.trans hT
    exact k_MO_wallLine_L29 l hlo F hlk hr (q1.1) (q1.2) h2 _ _ _ hS (lv_sub hl [1, 0] rfl) hT
  · replace hT := (if_pos c4).symm.trans hT
    refine lv_aload_n F.hx F.hb d_MO_wallLine_12 rfl (lv_at hl 1 rfl) ?_
    refine r_get (v := .ref (b + 198)) (N := 68) (T := T1) (j := 8) F hS (show 191 < 231 by decide) (show shK 191 = 5 from rfl) (show shN 191 = 68 from rfl) rfl (Nat.le_of_ble_eq_true rfl) ing1 mw_1397 (fv_sg rfl rfl rfl) d_MO_wallLine_13 ?_
    refine r_bipush F.hx F.hb d_MO_wallLine_16 rfl ?_
    refine lv_iload_n F.hx F.hb d_MO_wallLine_18 rfl (lv_at hl 0 rfl) ?_
    refine r_iadd F.hx F.hb d_MO_wallLine_19 ?_
    obtain ⟨⟨g5a, g5b⟩, hT⟩ := q_guard hT
    have z6 := hS.bool (show shK 198 = 1 from rfl) (w32 (48 + (q1.2)))
    refine r_zald F hS (show 198 < 231 by decide) (show shK 198 = 1 from rfl) (show shN 198 = 96 from rfl) (inr_w32 _) g5a g5b d_MO_wallLine_20 ?_
    refine r_if_eq (tgt := 29) F.hx F.hb (inr_z z6) d_MO_wallLine_21 (by decide) (fun c7 => ?_) (fun c7 => ?_)
    · replace hT := (if_pos c7).symm.trans hT
      exact k_MO_wallLine_L29 l hlo F hlk hr (q1.1) (q1.2) h2 _ _ _ hS (lv_sub hl [1, 0] rfl) hT
    · replace hT := (if_neg c7).symm.trans hT
      refine lv_aload_n F.hx F.hb d_MO_wallLine_24 rfl (lv_at hl 1 rfl) ?_
      refine r_iconst F.hx F.hb d_MO_wallLine_25 ?_
      obtain ⟨q8, hq8⟩ : ∃ q, q = (t_MO_wrong (q1.1) 3) := ⟨_, rfl⟩
      replace hT := qlet_eq hT hq8
      refine r_backV F hS (r_runV (k := 191) (N := 68) (T := T1) (As := [vI 3]) F hS (show 191 < 231 by decide) (show shK 191 = 5 from rfl) rfl (c_MO_wrong l F.2.2.1 (q1.1) 3 (inr_c rfl) _ hq8.symm) gs_MO_208 hd_MO_wrong ⟨Nat.le_of_ble_eq_true rfl, Nat.le_of_ble_eq_true rfl⟩ rfl hl.1 (Nat.le_of_ble_eq_true rfl) ⟨Nat.zero_le _, Nat.zero_le _⟩ rfl d_MO_wallLine_26) (fun H locs hS => ?_)
      exact k_MO_wallLine_L29 l hlo F hlk hr q8 (q1.2) h2 _ _ _ hS (lv_sub hl [1, 0] rfl) hT
theorem d_MO_stairLine_0 : decode b_MO_stairLine 0 = .ok (.aload_n 0, 1) := dc_42 (by decide +kernel)
theorem d_MO_stairLine_1 : decode b_MO_stairLine 1 = .ok (.invokevirtual 270, 3) := dc_182 (by decide +kernel)
theorem d_MO_stairLine_4 : decode b_MO_stairLine 4 = .ok (.istore_n 1, 1) := dc_60 (by decide +kernel)
theorem d_MO_stairLine_5 : decode b_MO_stairLine 5 = .ok (.aload_n 0, 1) := dc_42 (by decide +kernel)
theorem d_MO_stairLine_6 : decode b_MO_stairLine 6 = .ok (.getfield 199, 3) := dc_180 (by decide +kernel)
theorem d_MO_stairLine_9 : decode b_MO_stairLine 9 = .ok (.ifCond .ne 20, 3) := dc_154 (by decide +kernel)
theorem d_MO_stairLine_12 : decode b_MO_stairLine 12 = .ok (.aload_n 0, 1) := dc_42 (by decide +kernel)
theorem d_MO_stairLine_13 : decode b_MO_stairLine 13 = .ok (.getfield 32, 3) := dc_180 (by decide +kernel)
theorem d_MO_stairLine_16 : decode b_MO_stairLine 16 = .ok (.bipush 48, 2) := dc_16 (by decide +kernel)
theorem d_MO_stairLine_18 : decode b_MO_stairLine 18 = .ok (.iload_n 1, 1) := dc_27 (by decide +kernel)
theorem d_MO_stairLine_19 : decode b_MO_stairLine 19 = .ok (.iadd, 1) := dc_96 (by decide +kernel)
theorem d_MO_stairLine_20 : decode b_MO_stairLine 20 = .ok (.baload, 1) := dc_51 (by decide +kernel)
theorem d_MO_stairLine_21 : decode b_MO_stairLine 21 = .ok (.ifCond .eq 8, 3) := dc_153 (by decide +kernel)
theorem d_MO_stairLine_24 : decode b_MO_stairLine 24 = .ok (.aload_n 0, 1) := dc_42 (by decide +kernel)
theorem d_MO_stairLine_25 : decode b_MO_stairLine 25 = .ok (.iconst 3, 1) := dc_6 (by decide +kernel)
theorem d_MO_stairLine_26 : decode b_MO_stairLine 26 = .ok (.invokevirtual 208, 3) := dc_182 (by decide +kernel)
theorem d_MO_stairLine_29 : decode b_MO_stairLine 29 = .ok (.aload_n 0, 1) := dc_42 (by decide +kernel)
theorem d_MO_stairLine_30 : decode b_MO_stairLine 30 = .ok (.getfield 199, 3) := dc_180 (by decide +kernel)
theorem d_MO_stairLine_33 : decode b_MO_stairLine 33 = .ok (.ifCond .ne 20, 3) := dc_154 (by decide +kernel)
theorem d_MO_stairLine_36 : decode b_MO_stairLine 36 = .ok (.aload_n 0, 1) := dc_42 (by decide +kernel)
theorem d_MO_stairLine_37 : decode b_MO_stairLine 37 = .ok (.getfield 28, 3) := dc_180 (by decide +kernel)
theorem d_MO_stairLine_40 : decode b_MO_stairLine 40 = .ok (.bipush 48, 2) := dc_16 (by decide +kernel)
theorem d_MO_stairLine_42 : decode b_MO_stairLine 42 = .ok (.iload_n 1, 1) := dc_27 (by decide +kernel)
theorem d_MO_stairLine_43 : decode b_MO_stairLine 43 = .ok (.iadd, 1) := dc_96 (by decide +kernel)
theorem d_MO_stairLine_44 : decode b_MO_stairLine 44 = .ok (.baload, 1) := dc_51 (by decide +kernel)
theorem d_MO_stairLine_45 : decode b_MO_stairLine 45 = .ok (.ifCond .eq 8, 3) := dc_153 (by decide +kernel)
theorem d_MO_stairLine_48 : decode b_MO_stairLine 48 = .ok (.aload_n 0, 1) := dc_42 (by decide +kernel)
theorem d_MO_stairLine_49 : decode b_MO_stairLine 49 = .ok (.iconst 5, 1) := dc_8 (by decide +kernel)
theorem d_MO_stairLine_50 : decode b_MO_stairLine 50 = .ok (.invokevirtual 208, 3) := dc_182 (by decide +kernel)
theorem d_MO_stairLine_53 : decode b_MO_stairLine 53 = .ok (.aload_n 0, 1) := dc_42 (by decide +kernel)
theorem d_MO_stairLine_54 : decode b_MO_stairLine 54 = .ok (.getfield 199, 3) := dc_180 (by decide +kernel)
theorem d_MO_stairLine_57 : decode b_MO_stairLine 57 = .ok (.ifCond .eq 4, 3) := dc_153 (by decide +kernel)
theorem d_MO_stairLine_60 : decode b_MO_stairLine 60 = .ok (.return_, 1) := dc_177 (by decide +kernel)
theorem d_MO_stairLine_61 : decode b_MO_stairLine 61 = .ok (.aload_n 0, 1) := dc_42 (by decide +kernel)
theorem d_MO_stairLine_62 : decode b_MO_stairLine 62 = .ok (.getfield 32, 3) := dc_180 (by decide +kernel)
theorem d_MO_stairLine_65 : decode b_MO_stairLine 65 = .ok (.bipush 48, 2) := dc_16 (by decide +kernel)
theorem d_MO_stairLine_67 : decode b_MO_stairLine 67 = .ok (.iload_n 1, 1) := dc_27 (by decide +kernel)
theorem d_MO_stairLine_68 : decode b_MO_stairLine 68 = .ok (.iadd, 1) := dc_96 (by decide +kernel)
theorem d_MO_stairLine_69 : decode b_MO_stairLine 69 = .ok (.iconst 1, 1) := dc_4 (by decide +kernel)
theorem d_MO_stairLine_70 : decode b_MO_stairLine 70 = .ok (.bastore, 1) := dc_84 (by decide +kernel)
theorem d_MO_stairLine_71 : decode b_MO_stairLine 71 = .ok (.aload_n 0, 1) := dc_42 (by decide +kernel)
theorem d_MO_stairLine_72 : decode b_MO_stairLine 72 = .ok (.iconst 5, 1) := dc_8 (by decide +kernel)
theorem d_MO_stairLine_73 : decode b_MO_stairLine 73 = .ok (.aload_n 0, 1) := dc_42 (by decide +kernel)
theorem d_MO_stairLine_74 : decode b_MO_stairLine 74 = .ok (.iconst 5, 1) := dc_8 (by decide +kernel)
theorem d_MO_stairLine_75 : decode b_MO_stairLine 75 = .ok (.invokevirtual 222, 3) := dc_182 (by decide +kernel)
theorem d_MO_stairLine_78 : decode b_MO_stairLine 78 = .ok (.iconst 1, 1) := dc_4 (by decide +kernel)
theorem d_MO_stairLine_79 : decode b_MO_stairLine 79 = .ok (.iadd, 1) := dc_96 (by decide +kernel)
theorem d_MO_stairLine_80 : decode b_MO_stairLine 80 = .ok (.invokevirtual 238, 3) := dc_182 (by decide +kernel)
theorem d_MO_stairLine_83 : decode b_MO_stairLine 83 = .ok (.aload_n 0, 1) := dc_42 (by decide +kernel)
theorem d_MO_stairLine_84 : decode b_MO_stairLine 84 = .ok (.invokevirtual 205, 3) := dc_182 (by decide +kernel)
theorem d_MO_stairLine_87 : decode b_MO_stairLine 87 = .ok (.return_, 1) := dc_177 (by decide +kernel)
def t_MO_stairLine_L53   (M : Mem) (v1_ : Int) : Option (Mem) := (if (M.1 191 24) = 0 then (qguard (0 ≤ (w32 (48 + v1_)) ∧ (w32 (48 + v1_)) < 96) (qlet (setI M 199 (w32 (48 + v1_)) 1) fun M20 => (obind (t_MO_fresher M20 5) fun q21 => (obind (t_MO_reads M20 5 (w32 (q21 + 1))) fun q23 => (obind (t_MO_token q23) fun q25 => (some q25)))))) else (some M))
def t_MO_stairLine_L29   (M : Mem) (v1_ : Int) : Option (Mem) := (if (M.1 191 24) = 0 then (qguard (0 ≤ (w32 (48 + v1_)) ∧ (w32 (48 + v1_)) < 96) (if (M.1 198 (w32 (48 + v1_))) = 0 then (t_MO_stairLine_L53 M v1_) else (qlet (t_MO_wrong M 5) fun q15 => (t_MO_stairLine_L53 q15 v1_)))) else (t_MO_stairLine_L53 M v1_))
def t_MO_stairLine (M : Mem)  : Option (Mem) := (obind (t_MO_cellAtHand M) fun q1 => (if ((q1.1).1 191 24) = 0 then (qguard (0 ≤ (w32 (48 + (q1.2))) ∧ (w32 (48 + (q1.2))) < 96) (if ((q1.1).1 199 (w32 (48 + (q1.2)))) = 0 then (t_MO_stairLine_L29 (q1.1) (q1.2)) else (qlet (t_MO_wrong (q1.1) 3) fun q8 => (t_MO_stairLine_L29 q8 (q1.2))))) else (t_MO_stairLine_L29 (q1.1) (q1.2))))
set_option maxHeartbeats 4000000 in
set_option maxRecDepth 100000 in
theorem k_MO_stairLine_L53 (l : Launch) {p : Program} {e : Env} {s : State} {m : MethodId} {below : List Frame} {meth : Method} {c : Code} {b n : Nat} {C : CT} (hlo : 231 ≤ n)   (F : Cx b p m c b_MO_stairLine 2 s ([.ref (b + 191)] : List Value).toArray "WardFallsModel" C n 231) (hlk : meth.locks = false) (hr : meth.sig.returnType = none) {res : Mem} (M : Mem) (v1_ : Int) (hv1_ : InR v1_) (H : Heap) (locs : List Loc) (ls : Array Slot) (hS : St b C n M s H locs) (hl : lv_has ls 2 [(0, .ref (b + 191)), (1, vI v1_)]) (hT : t_MO_stairLine_L53 M v1_ = some res) : W p l e (headSpec (wsM y_MO_stairLine b_MO_stairLine 2 (none)) (rmD 9)).room s m ([.ref (b + 191)] : List Value).toArray below meth c H locs 0 0 (MQ below (QV b C n res) ([.ref (b + 191)] : List Value).toArray s 0 0 (frb b)) (F0 m 53 ls []) := by
  unfold t_MO_stairLine_L53 at hT
  refine lv_aload_n F.hx F.hb d_MO_stairLine_53 rfl (lv_at hl 0 rfl) ?_
  refine r_get (v := vI (M.1 191 24)) (N := 68) (T := T1) (j := 24) F hS (show 191 < 231 by decide) (show shK 191 = 5 from rfl) (show shN 191 = 68 from rfl) rfl (Nat.le_of_ble_eq_true rfl) ing1 mw_1413 (fv_int rfl) d_MO_stairLine_54 ?_
  have i17 := hS.rng 191 24
  refine r_if_eq (tgt := 61) F.hx F.hb i17 d_MO_stairLine_57 (by decide) (fun c18 => ?_) (fun c18 => ?_)
  · replace hT := (if_pos c18).symm.trans hT
    refine lv_aload_n F.hx F.hb d_MO_stairLine_61 rfl (lv_at hl 0 rfl) ?_
    refine r_get (v := .ref (b + 199)) (N := 68) (T := T1) (j := 9) F hS (show 191 < 231 by decide) (show shK 191 = 5 from rfl) (show shN 191 = 68 from rfl) rfl (Nat.le_of_ble_eq_true rfl) ing1 mw_1398 (fv_sg rfl rfl rfl) d_MO_stairLine_62 ?_
    refine r_bipush F.hx F.hb d_MO_stairLine_65 rfl ?_
    refine lv_iload_n F.hx F.hb d_MO_stairLine_67 rfl (lv_at hl 1 rfl) ?_
    refine r_iadd F.hx F.hb d_MO_stairLine_68 ?_
    refine r_iconst F.hx F.hb d_MO_stairLine_69 ?_
    obtain ⟨⟨g19a, g19b⟩, hT⟩ := q_guard hT
    refine r_zast F hS (show 199 < 231 by decide) (show shK 199 = 1 from rfl) (show shN 199 = 96 from rfl) (inr_w32 _) (Or.inr rfl) g19a g19b d_MO_stairLine_70 (fun H locs hS => ?_)
    obtain ⟨M20, eM20⟩ : ∃ q, q = (setI M 199 (w32 (48 + v1_)) 1) := ⟨_, rfl⟩
    replace hS : St b C n M20 s H locs := by rw [eM20]; exact hS
    replace hT := qlet_eq hT eM20
    refine lv_aload_n F.hx F.hb d_MO_stairLine_71 rfl (lv_at hl 0 rfl) ?_
    refine r_iconst F.hx F.hb d_MO_stairLine_72 ?_
    refine lv_aload_n F.hx F.hb d_MO_stairLine_73 rfl (lv_at hl 0 rfl) ?_
    refine r_iconst F.hx F.hb d_MO_stairLine_74 ?_
    obtain ⟨q21, hq21, hT⟩ := q_obind hT
    refine r_backI F hS (r_runV (k := 191) (N := 68) (T := T1) (As := [vI 5]) F hS (show 191 < 231 by decide) (show shK 191 = 5 from rfl) rfl (c_MO_fresher l F.2.2.1 M20 5 (inr_c rfl) _ hq21) gs_MO_222 hd_MO_fresher ⟨Nat.le_of_ble_eq_true rfl, Nat.le_of_ble_eq_true rfl⟩ rfl hl.1 (Nat.le_of_ble_eq_true rfl) ⟨Nat.zero_le _, Nat.zero_le _⟩ rfl d_MO_stairLine_75) (fun H locs hS h22 => ?_)
    refine r_iconst F.hx F.hb d_MO_stairLine_78 ?_
    refine r_iadd F.hx F.hb d_MO_stairLine_79 ?_
    obtain ⟨q23, hq23, hT⟩ := q_obind hT
    refine r_backV F hS (r_runV (k := 191) (N := 68) (T := T1) (As := [vI 5, vI (w32 (q21 + 1))]) F hS (show 191 < 231 by decide) (show shK 191 = 5 from rfl) rfl (c_MO_reads l F.2.2.1 M20 5 (w32 (q21 + 1)) (inr_c rfl) (inr_w32 _) _ hq23) gs_MO_238 hd_MO_reads ⟨Nat.le_of_ble_eq_true rfl, Nat.le_of_ble_eq_true rfl⟩ rfl hl.1 (Nat.le_of_ble_eq_true rfl) ⟨Nat.zero_le _, Nat.zero_le _⟩ rfl d_MO_stairLine_80) (fun H locs hS => ?_)
    refine lv_aload_n F.hx F.hb d_MO_stairLine_83 rfl (lv_at hl 0 rfl) ?_
    obtain ⟨q25, hq25, hT⟩ := q_obind hT
    refine r_backV F hS (r_runV (k := 191) (N := 68) (T := T1) (As := []) F hS (show 191 < 231 by decide) (show shK 191 = 5 from rfl) rfl (c_MO_token l F.2.2.1 q23 _ hq25) gs_MO_205 hd_MO_token ⟨Nat.le_of_ble_eq_true rfl, Nat.le_of_ble_eq_true rfl⟩ rfl hl.1 (Nat.le_of_ble_eq_true rfl) ⟨Nat.zero_le _, Nat.zero_le _⟩ rfl d_MO_stairLine_84) (fun H locs hS => ?_)
    cases hT
    exact r_vret F hlk hr hS d_MO_stairLine_87
  · replace hT := (if_neg c18).symm.trans hT
    cases hT
    exact r_vret F hlk hr hS d_MO_stairLine_60
set_option maxHeartbeats 4000000 in
set_option maxRecDepth 100000 in
theorem k_MO_stairLine_L29 (l : Launch) {p : Program} {e : Env} {s : State} {m : MethodId} {below : List Frame} {meth : Method} {c : Code} {b n : Nat} {C : CT} (hlo : 231 ≤ n)   (F : Cx b p m c b_MO_stairLine 2 s ([.ref (b + 191)] : List Value).toArray "WardFallsModel" C n 231) (hlk : meth.locks = false) (hr : meth.sig.returnType = none) {res : Mem} (M : Mem) (v1_ : Int) (hv1_ : InR v1_) (H : Heap) (locs : List Loc) (ls : Array Slot) (hS : St b C n M s H locs) (hl : lv_has ls 2 [(0, .ref (b + 191)), (1, vI v1_)]) (hT : t_MO_stairLine_L29 M v1_ = some res) : W p l e (headSpec (wsM y_MO_stairLine b_MO_stairLine 2 (none)) (rmD 9)).room s m ([.ref (b + 191)] : List Value).toArray below meth c H locs 0 0 (MQ below (QV b C n res) ([.ref (b + 191)] : List Value).toArray s 0 0 (frb b)) (F0 m 29 ls []) := by
  unfold t_MO_stairLine_L29 at hT
  refine lv_aload_n F.hx F.hb d_MO_stairLine_29 rfl (lv_at hl 0 rfl) ?_
  refine r_get (v := vI (M.1 191 24)) (N := 68) (T := T1) (j := 24) F hS (show 191 < 231 by decide) (show shK 191 = 5 from rfl) (show shN 191 = 68 from rfl) rfl (Nat.le_of_ble_eq_true rfl) ing1 mw_1413 (fv_int rfl) d_MO_stairLine_30 ?_
  have i10 := hS.rng 191 24
  refine r_if_ne (tgt := 53) F.hx F.hb i10 d_MO_stairLine_33 (by decide) (fun c11 => ?_) (fun c11 => ?_)
  · replace hT := (if_neg c11).symm.trans hT
    exact k_MO_stairLine_L53 l hlo F hlk hr M v1_ hv1_ _ _ _ hS (lv_sub hl [0, 1] rfl) hT
  · replace hT := (if_pos c11).symm.trans hT
    refine lv_aload_n F.hx F.hb d_MO_stairLine_36 rfl (lv_at hl 0 rfl) ?_
    refine r_get (v := .ref (b + 198)) (N := 68) (T := T1) (j := 8) F hS (show 191 < 231 by decide) (show shK 191 = 5 from rfl) (show shN 191 = 68 from rfl) rfl (Nat.le_of_ble_eq_true rfl) ing1 mw_1397 (fv_sg rfl rfl rfl) d_MO_stairLine_37 ?_
    refine r_bipush F.hx F.hb d_MO_stairLine_40 rfl ?_
    refine lv_iload_n F.hx F.hb d_MO_stairLine_42 rfl (lv_at hl 1 rfl) ?_
    refine r_iadd F.hx F.hb d_MO_stairLine_43 ?_
    obtain ⟨⟨g12a, g12b⟩, hT⟩ := q_guard hT
    have z13 := hS.bool (show shK 198 = 1 from rfl) (w32 (48 + v1_))
    refine r_zald F hS (show 198 < 231 by decide) (show shK 198 = 1 from rfl) (show shN 198 = 96 from rfl) (inr_w32 _) g12a g12b d_MO_stairLine_44 ?_
    refine r_if_eq (tgt := 53) F.hx F.hb (inr_z z13) d_MO_stairLine_45 (by decide) (fun c14 => ?_) (fun c14 => ?_)
    · replace hT := (if_pos c14).symm.trans hT
      exact k_MO_stairLine_L53 l hlo F hlk hr M v1_ hv1_ _ _ _ hS (lv_sub hl [0, 1] rfl) hT
    · replace hT := (if_neg c14).symm.trans hT
      refine lv_aload_n F.hx F.hb d_MO_stairLine_48 rfl (lv_at hl 0 rfl) ?_
      refine r_iconst F.hx F.hb d_MO_stairLine_49 ?_
      obtain ⟨q15, hq15⟩ : ∃ q, q = (t_MO_wrong M 5) := ⟨_, rfl⟩
      replace hT := qlet_eq hT hq15
      refine r_backV F hS (r_runV (k := 191) (N := 68) (T := T1) (As := [vI 5]) F hS (show 191 < 231 by decide) (show shK 191 = 5 from rfl) rfl (c_MO_wrong l F.2.2.1 M 5 (inr_c rfl) _ hq15.symm) gs_MO_208 hd_MO_wrong ⟨Nat.le_of_ble_eq_true rfl, Nat.le_of_ble_eq_true rfl⟩ rfl hl.1 (Nat.le_of_ble_eq_true rfl) ⟨Nat.zero_le _, Nat.zero_le _⟩ rfl d_MO_stairLine_50) (fun H locs hS => ?_)
      exact k_MO_stairLine_L53 l hlo F hlk hr q15 v1_ hv1_ _ _ _ hS (lv_sub hl [0, 1] rfl) hT
set_option maxHeartbeats 4000000 in
set_option maxRecDepth 100000 in
theorem c_MO_stairLine (l : Launch) {b n : Nat} {C : CT} (hlo : 231 ≤ n) (M : Mem)   (res : Mem) (hT : t_MO_stairLine M  = some res) : CM l b C n 9 y_MO_stairLine b_MO_stairLine 2 (none) [.ref (b + 191)] M (QV b C n res) := by
  refine CM.of (lo := 231) (ow := "WardFallsModel") (by decide) rfl (Nat.le_of_ble_eq_true rfl) hlo (fun p e s m below meth c F hlk hr hS ls hl => ?_)
  have hl : lv_has ls 2 [(0, .ref (b + 191))] := hl
  unfold t_MO_stairLine at hT
  refine lv_aload_n F.hx F.hb d_MO_stairLine_0 rfl (lv_at hl 0 rfl) ?_
  obtain ⟨q1, hq1, hT⟩ := q_obind hT
  refine r_backI F hS (r_runV (k := 191) (N := 68) (T := T1) (As := []) F hS (show 191 < 231 by decide) (show shK 191 = 5 from rfl) rfl (c_MO_cellAtHand l F.2.2.1 M _ hq1) gs_MO_270 hd_MO_cellAtHand ⟨Nat.le_of_ble_eq_true rfl, Nat.le_of_ble_eq_true rfl⟩ rfl hl.1 (Nat.le_of_ble_eq_true rfl) ⟨Nat.zero_le _, Nat.zero_le _⟩ rfl d_MO_stairLine_1) (fun H locs hS h2 => ?_)
  refine lv_istore_n (lv' := [(1, vI (q1.2)), (0, .ref (b + 191))]) F.hx F.hb d_MO_stairLine_4 rfl hl (Nat.le_of_ble_eq_true rfl) rfl (fun ls hl => ?_)
  refine lv_aload_n F.hx F.hb d_MO_stairLine_5 rfl (lv_at hl 1 rfl) ?_
  refine r_get (v := vI ((q1.1).1 191 24)) (N := 68) (T := T1) (j := 24) F hS (show 191 < 231 by decide) (show shK 191 = 5 from rfl) (show shN 191 = 68 from rfl) rfl (Nat.le_of_ble_eq_true rfl) ing1 mw_1413 (fv_int rfl) d_MO_stairLine_6 ?_
  have i3 := hS.rng 191 24
  refine r_if_ne (tgt := 29) F.hx F.hb i3 d_MO_stairLine_9 (by decide) (fun c4 => ?_) (fun c4 => ?_)
  · replace hT := (if_neg c4).symm.trans hT
    exact k_MO_stairLine_L29 l hlo F hlk hr (q1.1) (q1.2) h2 _ _ _ hS (lv_sub hl [1, 0] rfl) hT
  · replace hT := (if_pos c4).symm.trans hT
    refine lv_aload_n F.hx F.hb d_MO_stairLine_12 rfl (lv_at hl 1 rfl) ?_
    refine r_get (v := .ref (b + 199)) (N := 68) (T := T1) (j := 9) F hS (show 191 < 231 by decide) (show shK 191 = 5 from rfl) (show shN 191 = 68 from rfl) rfl (Nat.le_of_ble_eq_true rfl) ing1 mw_1398 (fv_sg rfl rfl rfl) d_MO_stairLine_13 ?_
    refine r_bipush F.hx F.hb d_MO_stairLine_16 rfl ?_
    refine lv_iload_n F.hx F.hb d_MO_stairLine_18 rfl (lv_at hl 0 rfl) ?_
    refine r_iadd F.hx F.hb d_MO_stairLine_19 ?_
    obtain ⟨⟨g5a, g5b⟩, hT⟩ := q_guard hT
    have z6 := hS.bool (show shK 199 = 1 from rfl) (w32 (48 + (q1.2)))
    refine r_zald F hS (show 199 < 231 by decide) (show shK 199 = 1 from rfl) (show shN 199 = 96 from rfl) (inr_w32 _) g5a g5b d_MO_stairLine_20 ?_
    refine r_if_eq (tgt := 29) F.hx F.hb (inr_z z6) d_MO_stairLine_21 (by decide) (fun c7 => ?_) (fun c7 => ?_)
    · replace hT := (if_pos c7).symm.trans hT
      exact k_MO_stairLine_L29 l hlo F hlk hr (q1.1) (q1.2) h2 _ _ _ hS (lv_sub hl [1, 0] rfl) hT
    · replace hT := (if_neg c7).symm.trans hT
      refine lv_aload_n F.hx F.hb d_MO_stairLine_24 rfl (lv_at hl 1 rfl) ?_
      refine r_iconst F.hx F.hb d_MO_stairLine_25 ?_
      obtain ⟨q8, hq8⟩ : ∃ q, q = (t_MO_wrong (q1.1) 3) := ⟨_, rfl⟩
      replace hT := qlet_eq hT hq8
      refine r_backV F hS (r_runV (k := 191) (N := 68) (T := T1) (As := [vI 3]) F hS (show 191 < 231 by decide) (show shK 191 = 5 from rfl) rfl (c_MO_wrong l F.2.2.1 (q1.1) 3 (inr_c rfl) _ hq8.symm) gs_MO_208 hd_MO_wrong ⟨Nat.le_of_ble_eq_true rfl, Nat.le_of_ble_eq_true rfl⟩ rfl hl.1 (Nat.le_of_ble_eq_true rfl) ⟨Nat.zero_le _, Nat.zero_le _⟩ rfl d_MO_stairLine_26) (fun H locs hS => ?_)
      exact k_MO_stairLine_L29 l hlo F hlk hr q8 (q1.2) h2 _ _ _ hS (lv_sub hl [1, 0] rfl) hT
theorem d_MO_thingLine_0 : decode b_MO_thingLine 0 = .ok (.aload_n 0, 1) := dc_42 (by decide +kernel)
theorem d_MO_thingLine_1 : decode b_MO_thingLine 1 = .ok (.getfield 35, 3) := dc_180 (by decide +kernel)
theorem d_MO_thingLine_4 : decode b_MO_thingLine 4 = .ok (.iload_n 1, 1) := dc_27 (by decide +kernel)
theorem d_MO_thingLine_5 : decode b_MO_thingLine 5 = .ok (.aload_n 0, 1) := dc_42 (by decide +kernel)
theorem d_MO_thingLine_6 : decode b_MO_thingLine 6 = .ok (.aload_n 0, 1) := dc_42 (by decide +kernel)
theorem d_MO_thingLine_7 : decode b_MO_thingLine 7 = .ok (.getfield 35, 3) := dc_180 (by decide +kernel)
theorem d_MO_thingLine_10 : decode b_MO_thingLine 10 = .ok (.bipush 8, 2) := dc_16 (by decide +kernel)
theorem d_MO_thingLine_12 : decode b_MO_thingLine 12 = .ok (.aload_n 0, 1) := dc_42 (by decide +kernel)
theorem d_MO_thingLine_13 : decode b_MO_thingLine 13 = .ok (.bipush 6, 2) := dc_16 (by decide +kernel)
theorem d_MO_thingLine_15 : decode b_MO_thingLine 15 = .ok (.invokevirtual 222, 3) := dc_182 (by decide +kernel)
theorem d_MO_thingLine_18 : decode b_MO_thingLine 18 = .ok (.invokevirtual 266, 3) := dc_182 (by decide +kernel)
theorem d_MO_thingLine_21 : decode b_MO_thingLine 21 = .ok (.iastore, 1) := dc_79 (by decide +kernel)
theorem d_MO_thingLine_22 : decode b_MO_thingLine 22 = .ok (.aload_n 0, 1) := dc_42 (by decide +kernel)
theorem d_MO_thingLine_23 : decode b_MO_thingLine 23 = .ok (.getfield 38, 3) := dc_180 (by decide +kernel)
theorem d_MO_thingLine_26 : decode b_MO_thingLine 26 = .ok (.iload_n 1, 1) := dc_27 (by decide +kernel)
theorem d_MO_thingLine_27 : decode b_MO_thingLine 27 = .ok (.aload_n 0, 1) := dc_42 (by decide +kernel)
theorem d_MO_thingLine_28 : decode b_MO_thingLine 28 = .ok (.iconst 0, 1) := dc_3 (by decide +kernel)
theorem d_MO_thingLine_29 : decode b_MO_thingLine 29 = .ok (.bipush 99, 2) := dc_16 (by decide +kernel)
theorem d_MO_thingLine_31 : decode b_MO_thingLine 31 = .ok (.invokevirtual 226, 3) := dc_182 (by decide +kernel)
theorem d_MO_thingLine_34 : decode b_MO_thingLine 34 = .ok (.iastore, 1) := dc_79 (by decide +kernel)
theorem d_MO_thingLine_35 : decode b_MO_thingLine 35 = .ok (.aload_n 0, 1) := dc_42 (by decide +kernel)
theorem d_MO_thingLine_36 : decode b_MO_thingLine 36 = .ok (.invokevirtual 270, 3) := dc_182 (by decide +kernel)
theorem d_MO_thingLine_39 : decode b_MO_thingLine 39 = .ok (.istore_n 2, 1) := dc_61 (by decide +kernel)
theorem d_MO_thingLine_40 : decode b_MO_thingLine 40 = .ok (.aload_n 0, 1) := dc_42 (by decide +kernel)
theorem d_MO_thingLine_41 : decode b_MO_thingLine 41 = .ok (.getfield 199, 3) := dc_180 (by decide +kernel)
theorem d_MO_thingLine_44 : decode b_MO_thingLine 44 = .ok (.ifCond .ne 28, 3) := dc_154 (by decide +kernel)
theorem d_MO_thingLine_47 : decode b_MO_thingLine 47 = .ok (.aload_n 0, 1) := dc_42 (by decide +kernel)
theorem d_MO_thingLine_48 : decode b_MO_thingLine 48 = .ok (.getfield 28, 3) := dc_180 (by decide +kernel)
theorem d_MO_thingLine_51 : decode b_MO_thingLine 51 = .ok (.bipush 48, 2) := dc_16 (by decide +kernel)
theorem d_MO_thingLine_53 : decode b_MO_thingLine 53 = .ok (.iload_n 2, 1) := dc_28 (by decide +kernel)
theorem d_MO_thingLine_54 : decode b_MO_thingLine 54 = .ok (.iadd, 1) := dc_96 (by decide +kernel)
theorem d_MO_thingLine_55 : decode b_MO_thingLine 55 = .ok (.baload, 1) := dc_51 (by decide +kernel)
theorem d_MO_thingLine_56 : decode b_MO_thingLine 56 = .ok (.ifCond .ne 11, 3) := dc_154 (by decide +kernel)
theorem d_MO_thingLine_59 : decode b_MO_thingLine 59 = .ok (.aload_n 0, 1) := dc_42 (by decide +kernel)
theorem d_MO_thingLine_60 : decode b_MO_thingLine 60 = .ok (.iload_n 2, 1) := dc_28 (by decide +kernel)
theorem d_MO_thingLine_61 : decode b_MO_thingLine 61 = .ok (.invokevirtual 273, 3) := dc_182 (by decide +kernel)
theorem d_MO_thingLine_64 : decode b_MO_thingLine 64 = .ok (.ifCond .eq 8, 3) := dc_153 (by decide +kernel)
theorem d_MO_thingLine_67 : decode b_MO_thingLine 67 = .ok (.aload_n 0, 1) := dc_42 (by decide +kernel)
theorem d_MO_thingLine_68 : decode b_MO_thingLine 68 = .ok (.iconst 5, 1) := dc_8 (by decide +kernel)
theorem d_MO_thingLine_69 : decode b_MO_thingLine 69 = .ok (.invokevirtual 208, 3) := dc_182 (by decide +kernel)
theorem d_MO_thingLine_72 : decode b_MO_thingLine 72 = .ok (.aload_n 0, 1) := dc_42 (by decide +kernel)
theorem d_MO_thingLine_73 : decode b_MO_thingLine 73 = .ok (.getfield 199, 3) := dc_180 (by decide +kernel)
theorem d_MO_thingLine_76 : decode b_MO_thingLine 76 = .ok (.ifCond .eq 4, 3) := dc_153 (by decide +kernel)
theorem d_MO_thingLine_79 : decode b_MO_thingLine 79 = .ok (.return_, 1) := dc_177 (by decide +kernel)
theorem d_MO_thingLine_80 : decode b_MO_thingLine 80 = .ok (.aload_n 0, 1) := dc_42 (by decide +kernel)
theorem d_MO_thingLine_81 : decode b_MO_thingLine 81 = .ok (.getfield 41, 3) := dc_180 (by decide +kernel)
theorem d_MO_thingLine_84 : decode b_MO_thingLine 84 = .ok (.iload_n 1, 1) := dc_27 (by decide +kernel)
theorem d_MO_thingLine_85 : decode b_MO_thingLine 85 = .ok (.iload_n 2, 1) := dc_28 (by decide +kernel)
theorem d_MO_thingLine_86 : decode b_MO_thingLine 86 = .ok (.iastore, 1) := dc_79 (by decide +kernel)
theorem d_MO_thingLine_87 : decode b_MO_thingLine 87 = .ok (.aload_n 0, 1) := dc_42 (by decide +kernel)
theorem d_MO_thingLine_88 : decode b_MO_thingLine 88 = .ok (.bipush 6, 2) := dc_16 (by decide +kernel)
theorem d_MO_thingLine_90 : decode b_MO_thingLine 90 = .ok (.aload_n 0, 1) := dc_42 (by decide +kernel)
theorem d_MO_thingLine_91 : decode b_MO_thingLine 91 = .ok (.bipush 6, 2) := dc_16 (by decide +kernel)
theorem d_MO_thingLine_93 : decode b_MO_thingLine 93 = .ok (.invokevirtual 222, 3) := dc_182 (by decide +kernel)
theorem d_MO_thingLine_96 : decode b_MO_thingLine 96 = .ok (.iconst 1, 1) := dc_4 (by decide +kernel)
theorem d_MO_thingLine_97 : decode b_MO_thingLine 97 = .ok (.iadd, 1) := dc_96 (by decide +kernel)
theorem d_MO_thingLine_98 : decode b_MO_thingLine 98 = .ok (.invokevirtual 238, 3) := dc_182 (by decide +kernel)
theorem d_MO_thingLine_101 : decode b_MO_thingLine 101 = .ok (.aload_n 0, 1) := dc_42 (by decide +kernel)
theorem d_MO_thingLine_102 : decode b_MO_thingLine 102 = .ok (.invokevirtual 205, 3) := dc_182 (by decide +kernel)
theorem d_MO_thingLine_105 : decode b_MO_thingLine 105 = .ok (.return_, 1) := dc_177 (by decide +kernel)
def t_MO_thingLine_L72 (x1 : Int)  (M : Mem) (v2_ : Int) : Option (Mem) := (if (M.1 191 24) = 0 then (qguard (0 ≤ x1 ∧ x1 < 16) (qlet (setI M 202 x1 v2_) fun M24 => (obind (t_MO_fresher M24 6) fun q25 => (obind (t_MO_reads M24 6 (w32 (q25 + 1))) fun q27 => (obind (t_MO_token q27) fun q29 => (some q29)))))) else (some M))
def t_MO_thingLine_L67 (x1 : Int)  (M : Mem) (v2_ : Int) : Option (Mem) := (qlet (t_MO_wrong M 5) fun q31 => (t_MO_thingLine_L72 x1 q31 v2_))
def t_MO_thingLine (M : Mem) (x1 : Int) : Option (Mem) := (obind (t_MO_fresher M 6) fun q1 => (obind (t_MO_fresh M 200 16 8 q1) fun q3 => (qguard (0 ≤ x1 ∧ x1 < 16) (qlet (setI (q3.1) 200 x1 (q3.2)) fun M6 => (obind (t_MO_numeral M6 0 99) fun q7 => (qguard (0 ≤ x1 ∧ x1 < 16) (qlet (setI (q7.1) 201 x1 (q7.2)) fun M10 => (obind (t_MO_cellAtHand M10) fun q11 => (if ((q11.1).1 191 24) = 0 then (qguard (0 ≤ (w32 (48 + (q11.2))) ∧ (w32 (48 + (q11.2))) < 96) (if ((q11.1).1 198 (w32 (48 + (q11.2)))) = 0 then (obind (t_MO_hasThing (q11.1) (q11.2)) fun q18 => (if q18 = 0 then (t_MO_thingLine_L72 x1 (q11.1) (q11.2)) else (t_MO_thingLine_L67 x1 (q11.1) (q11.2)))) else (t_MO_thingLine_L67 x1 (q11.1) (q11.2)))) else (t_MO_thingLine_L72 x1 (q11.1) (q11.2)))))))))))
set_option maxHeartbeats 4000000 in
set_option maxRecDepth 100000 in
theorem k_MO_thingLine_L72 (l : Launch) {p : Program} {e : Env} {s : State} {m : MethodId} {below : List Frame} {meth : Method} {c : Code} {b n : Nat} {C : CT} (hlo : 231 ≤ n) (x1 : Int) (hx1 : InR x1) (F : Cx b p m c b_MO_thingLine 3 s ([.ref (b + 191), vI x1] : List Value).toArray "WardFallsModel" C n 231) (hlk : meth.locks = false) (hr : meth.sig.returnType = none) {res : Mem} (M : Mem) (v2_ : Int) (hv2_ : InR v2_) (H : Heap) (locs : List Loc) (ls : Array Slot) (hS : St b C n M s H locs) (hl : lv_has ls 3 [(0, .ref (b + 191)), (1, vI x1), (2, vI v2_)]) (hT : t_MO_thingLine_L72 x1 M v2_ = some res) : W p l e (headSpec (wsM y_MO_thingLine b_MO_thingLine 3 (none)) (rmD 9)).room s m ([.ref (b + 191), vI x1] : List Value).toArray below meth c H locs 0 0 (MQ below (QV b C n res) ([.ref (b + 191), vI x1] : List Value).toArray s 0 0 (frb b)) (F0 m 72 ls []) := by
  unfold t_MO_thingLine_L72 at hT
  refine lv_aload_n F.hx F.hb d_MO_thingLine_72 rfl (lv_at hl 0 rfl) ?_
  refine r_get (v := vI (M.1 191 24)) (N := 68) (T := T1) (j := 24) F hS (show 191 < 231 by decide) (show shK 191 = 5 from rfl) (show shN 191 = 68 from rfl) rfl (Nat.le_of_ble_eq_true rfl) ing1 mw_1413 (fv_int rfl) d_MO_thingLine_73 ?_
  have i21 := hS.rng 191 24
  refine r_if_eq (tgt := 80) F.hx F.hb i21 d_MO_thingLine_76 (by decide) (fun c22 => ?_) (fun c22 => ?_)
  · replace hT := (if_pos c22).symm.trans hT
    refine lv_aload_n F.hx F.hb d_MO_thingLine_80 rfl (lv_at hl 0 rfl) ?_
    refine r_get (v := .ref (b + 202)) (N := 68) (T := T1) (j := 12) F hS (show 191 < 231 by decide) (show shK 191 = 5 from rfl) (show shN 191 = 68 from rfl) rfl (Nat.le_of_ble_eq_true rfl) ing1 mw_1401 (fv_sg rfl rfl rfl) d_MO_thingLine_81 ?_
    refine lv_iload_n F.hx F.hb d_MO_thingLine_84 rfl (lv_at hl 1 rfl) ?_
    refine lv_iload_n F.hx F.hb d_MO_thingLine_85 rfl (lv_at hl 2 rfl) ?_
    obtain ⟨⟨g23a, g23b⟩, hT⟩ := q_guard hT
    refine r_iast F hS (show 202 < 231 by decide) (show shK 202 = 0 from rfl) (show shN 202 = 16 from rfl) hx1 hv2_ g23a g23b d_MO_thingLine_86 (fun H locs hS => ?_)
    obtain ⟨M24, eM24⟩ : ∃ q, q = (setI M 202 x1 v2_) := ⟨_, rfl⟩
    replace hS : St b C n M24 s H locs := by rw [eM24]; exact hS
    replace hT := qlet_eq hT eM24
    refine lv_aload_n F.hx F.hb d_MO_thingLine_87 rfl (lv_at hl 0 rfl) ?_
    refine r_bipush F.hx F.hb d_MO_thingLine_88 rfl ?_
    refine lv_aload_n F.hx F.hb d_MO_thingLine_90 rfl (lv_at hl 0 rfl) ?_
    refine r_bipush F.hx F.hb d_MO_thingLine_91 rfl ?_
    obtain ⟨q25, hq25, hT⟩ := q_obind hT
    refine r_backI F hS (r_runV (k := 191) (N := 68) (T := T1) (As := [vI 6]) F hS (show 191 < 231 by decide) (show shK 191 = 5 from rfl) rfl (c_MO_fresher l F.2.2.1 M24 6 (inr_c rfl) _ hq25) gs_MO_222 hd_MO_fresher ⟨Nat.le_of_ble_eq_true rfl, Nat.le_of_ble_eq_true rfl⟩ rfl hl.1 (Nat.le_of_ble_eq_true rfl) ⟨Nat.zero_le _, Nat.zero_le _⟩ rfl d_MO_thingLine_93) (fun H locs hS h26 => ?_)
    refine r_iconst F.hx F.hb d_MO_thingLine_96 ?_
    refine r_iadd F.hx F.hb d_MO_thingLine_97 ?_
    obtain ⟨q27, hq27, hT⟩ := q_obind hT
    refine r_backV F hS (r_runV (k := 191) (N := 68) (T := T1) (As := [vI 6, vI (w32 (q25 + 1))]) F hS (show 191 < 231 by decide) (show shK 191 = 5 from rfl) rfl (c_MO_reads l F.2.2.1 M24 6 (w32 (q25 + 1)) (inr_c rfl) (inr_w32 _) _ hq27) gs_MO_238 hd_MO_reads ⟨Nat.le_of_ble_eq_true rfl, Nat.le_of_ble_eq_true rfl⟩ rfl hl.1 (Nat.le_of_ble_eq_true rfl) ⟨Nat.zero_le _, Nat.zero_le _⟩ rfl d_MO_thingLine_98) (fun H locs hS => ?_)
    refine lv_aload_n F.hx F.hb d_MO_thingLine_101 rfl (lv_at hl 0 rfl) ?_
    obtain ⟨q29, hq29, hT⟩ := q_obind hT
    refine r_backV F hS (r_runV (k := 191) (N := 68) (T := T1) (As := []) F hS (show 191 < 231 by decide) (show shK 191 = 5 from rfl) rfl (c_MO_token l F.2.2.1 q27 _ hq29) gs_MO_205 hd_MO_token ⟨Nat.le_of_ble_eq_true rfl, Nat.le_of_ble_eq_true rfl⟩ rfl hl.1 (Nat.le_of_ble_eq_true rfl) ⟨Nat.zero_le _, Nat.zero_le _⟩ rfl d_MO_thingLine_102) (fun H locs hS => ?_)
    cases hT
    exact r_vret F hlk hr hS d_MO_thingLine_105
  · replace hT := (if_neg c22).symm.trans hT
    cases hT
    exact r_vret F hlk hr hS d_MO_thingLine_79
set_option maxHeartbeats 4000000 in
set_option maxRecDepth 100000 in
theorem k_MO_thingLine_L67 (l : Launch) {p : Program} {e : Env} {s : State} {m : MethodId} {below : List Frame} {meth : Method} {c : Code} {b n : Nat} {C : CT} (hlo : 231 ≤ n) (x1 : Int) (hx1 : InR x1) (F : Cx b p m c b_MO_thingLine 3 s ([.ref (b + 191), vI x1] : List Value).toArray "WardFallsModel" C n 231) (hlk : meth.locks = false) (hr : meth.sig.returnType = none) {res : Mem} (M : Mem) (v2_ : Int) (hv2_ : InR v2_) (H : Heap) (locs : List Loc) (ls : Array Slot) (hS : St b C n M s H locs) (hl : lv_has ls 3 [(0, .ref (b + 191)), (1, vI x1), (2, vI v2_)]) (hT : t_MO_thingLine_L67 x1 M v2_ = some res) : W p l e (headSpec (wsM y_MO_thingLine b_MO_thingLine 3 (none)) (rmD 9)).room s m ([.ref (b + 191), vI x1] : List Value).toArray below meth c H locs 0 0 (MQ below (QV b C n res) ([.ref (b + 191), vI x1] : List Value).toArray s 0 0 (frb b)) (F0 m 67 ls []) := by
  unfold t_MO_thingLine_L67 at hT
  refine lv_aload_n F.hx F.hb d_MO_thingLine_67 rfl (lv_at hl 0 rfl) ?_
  refine r_iconst F.hx F.hb d_MO_thingLine_68 ?_
  obtain ⟨q31, hq31⟩ : ∃ q, q = (t_MO_wrong M 5) := ⟨_, rfl⟩
  replace hT := qlet_eq hT hq31
  refine r_backV F hS (r_runV (k := 191) (N := 68) (T := T1) (As := [vI 5]) F hS (show 191 < 231 by decide) (show shK 191 = 5 from rfl) rfl (c_MO_wrong l F.2.2.1 M 5 (inr_c rfl) _ hq31.symm) gs_MO_208 hd_MO_wrong ⟨Nat.le_of_ble_eq_true rfl, Nat.le_of_ble_eq_true rfl⟩ rfl hl.1 (Nat.le_of_ble_eq_true rfl) ⟨Nat.zero_le _, Nat.zero_le _⟩ rfl d_MO_thingLine_69) (fun H locs hS => ?_)
  exact k_MO_thingLine_L72 l hlo x1 hx1 F hlk hr q31 v2_ hv2_ _ _ _ hS (lv_sub hl [0, 1, 2] rfl) hT
set_option maxHeartbeats 4000000 in
set_option maxRecDepth 100000 in
theorem c_MO_thingLine (l : Launch) {b n : Nat} {C : CT} (hlo : 231 ≤ n) (M : Mem) (x1 : Int) (hx1 : InR x1) (res : Mem) (hT : t_MO_thingLine M x1 = some res) : CM l b C n 9 y_MO_thingLine b_MO_thingLine 3 (none) [.ref (b + 191), vI x1] M (QV b C n res) := by
  refine CM.of (lo := 231) (ow := "WardFallsModel") (by decide) rfl (Nat.le_of_ble_eq_true rfl) hlo (fun p e s m below meth c F hlk hr hS ls hl => ?_)
  have hl : lv_has ls 3 [(0, .ref (b + 191)), (1, vI x1)] := hl
  unfold t_MO_thingLine at hT
  refine lv_aload_n F.hx F.hb d_MO_thingLine_0 rfl (lv_at hl 0 rfl) ?_
  refine r_get (v := .ref (b + 200)) (N := 68) (T := T1) (j := 10) F hS (show 191 < 231 by decide) (show shK 191 = 5 from rfl) (show shN 191 = 68 from rfl) rfl (Nat.le_of_ble_eq_true rfl) ing1 mw_1399 (fv_sg rfl rfl rfl) d_MO_thingLine_1 ?_
  refine lv_iload_n F.hx F.hb d_MO_thingLine_4 rfl (lv_at hl 1 rfl) ?_
  refine lv_aload_n F.hx F.hb d_MO_thingLine_5 rfl (lv_at hl 0 rfl) ?_
  refine lv_aload_n F.hx F.hb d_MO_thingLine_6 rfl (lv_at hl 0 rfl) ?_
  refine r_get (v := .ref (b + 200)) (N := 68) (T := T1) (j := 10) F hS (show 191 < 231 by decide) (show shK 191 = 5 from rfl) (show shN 191 = 68 from rfl) rfl (Nat.le_of_ble_eq_true rfl) ing1 mw_1399 (fv_sg rfl rfl rfl) d_MO_thingLine_7 ?_
  refine r_bipush F.hx F.hb d_MO_thingLine_10 rfl ?_
  refine lv_aload_n F.hx F.hb d_MO_thingLine_12 rfl (lv_at hl 0 rfl) ?_
  refine r_bipush F.hx F.hb d_MO_thingLine_13 rfl ?_
  obtain ⟨q1, hq1, hT⟩ := q_obind hT
  refine r_backI F hS (r_runV (k := 191) (N := 68) (T := T1) (As := [vI 6]) F hS (show 191 < 231 by decide) (show shK 191 = 5 from rfl) rfl (c_MO_fresher l F.2.2.1 M 6 (inr_c rfl) _ hq1) gs_MO_222 hd_MO_fresher ⟨Nat.le_of_ble_eq_true rfl, Nat.le_of_ble_eq_true rfl⟩ rfl hl.1 (Nat.le_of_ble_eq_true rfl) ⟨Nat.zero_le _, Nat.zero_le _⟩ rfl d_MO_thingLine_15) (fun H locs hS h2 => ?_)
  obtain ⟨q3, hq3, hT⟩ := q_obind hT
  refine r_backI F hS (r_runV (k := 191) (N := 68) (T := T1) (As := [.ref (b + 200), vI 8, vI q1]) F hS (show 191 < 231 by decide) (show shK 191 = 5 from rfl) rfl (c_MO_fresh l F.2.2.1 M 200 16 8 q1 (show arrP 0 200 16 231 from ⟨rfl, rfl, by decide⟩) (inr_c rfl) h2 _ hq3) gs_MO_266 hd_MO_fresh ⟨Nat.le_of_ble_eq_true rfl, Nat.le_of_ble_eq_true rfl⟩ rfl hl.1 (Nat.le_of_ble_eq_true rfl) ⟨Nat.zero_le _, Nat.zero_le _⟩ rfl d_MO_thingLine_18) (fun H locs hS h4 => ?_)
  obtain ⟨⟨g5a, g5b⟩, hT⟩ := q_guard hT
  refine r_iast F hS (show 200 < 231 by decide) (show shK 200 = 0 from rfl) (show shN 200 = 16 from rfl) hx1 h4 g5a g5b d_MO_thingLine_21 (fun H locs hS => ?_)
  obtain ⟨M6, eM6⟩ : ∃ q, q = (setI (q3.1) 200 x1 (q3.2)) := ⟨_, rfl⟩
  replace hS : St b C n M6 s H locs := by rw [eM6]; exact hS
  replace hT := qlet_eq hT eM6
  refine lv_aload_n F.hx F.hb d_MO_thingLine_22 rfl (lv_at hl 0 rfl) ?_
  refine r_get (v := .ref (b + 201)) (N := 68) (T := T1) (j := 11) F hS (show 191 < 231 by decide) (show shK 191 = 5 from rfl) (show shN 191 = 68 from rfl) rfl (Nat.le_of_ble_eq_true rfl) ing1 mw_1400 (fv_sg rfl rfl rfl) d_MO_thingLine_23 ?_
  refine lv_iload_n F.hx F.hb d_MO_thingLine_26 rfl (lv_at hl 1 rfl) ?_
  refine lv_aload_n F.hx F.hb d_MO_thingLine_27 rfl (lv_at hl 0 rfl) ?_
  refine r_iconst F.hx F.hb d_MO_thingLine_28 ?_
  refine r_bipush F.hx F.hb d_MO_thingLine_29 rfl ?_
  obtain ⟨q7, hq7, hT⟩ := q_obind hT
  refine r_backI F hS (r_runV (k := 191) (N := 68) (T := T1) (As := [vI 0, vI 99]) F hS (show 191 < 231 by decide) (show shK 191 = 5 from rfl) rfl (c_MO_numeral l F.2.2.1 M6 0 99 (inr_c rfl) (inr_c rfl) _ hq7) gs_MO_226 hd_MO_numeral ⟨Nat.le_of_ble_eq_true rfl, Nat.le_of_ble_eq_true rfl⟩ rfl hl.1 (Nat.le_of_ble_eq_true rfl) ⟨Nat.zero_le _, Nat.zero_le _⟩ rfl d_MO_thingLine_31) (fun H locs hS h8 => ?_)
  obtain ⟨⟨g9a, g9b⟩, hT⟩ := q_guard hT
  refine r_iast F hS (show 201 < 231 by decide) (show shK 201 = 0 from rfl) (show shN 201 = 16 from rfl) hx1 h8 g9a g9b d_MO_thingLine_34 (fun H locs hS => ?_)
  obtain ⟨M10, eM10⟩ : ∃ q, q = (setI (q7.1) 201 x1 (q7.2)) := ⟨_, rfl⟩
  replace hS : St b C n M10 s H locs := by rw [eM10]; exact hS
  replace hT := qlet_eq hT eM10
  refine lv_aload_n F.hx F.hb d_MO_thingLine_35 rfl (lv_at hl 0 rfl) ?_
  obtain ⟨q11, hq11, hT⟩ := q_obind hT
  refine r_backI F hS (r_runV (k := 191) (N := 68) (T := T1) (As := []) F hS (show 191 < 231 by decide) (show shK 191 = 5 from rfl) rfl (c_MO_cellAtHand l F.2.2.1 M10 _ hq11) gs_MO_270 hd_MO_cellAtHand ⟨Nat.le_of_ble_eq_true rfl, Nat.le_of_ble_eq_true rfl⟩ rfl hl.1 (Nat.le_of_ble_eq_true rfl) ⟨Nat.zero_le _, Nat.zero_le _⟩ rfl d_MO_thingLine_36) (fun H locs hS h12 => ?_)
  refine lv_istore_n (lv' := [(2, vI (q11.2)), (0, .ref (b + 191)), (1, vI x1)]) F.hx F.hb d_MO_thingLine_39 rfl hl (Nat.le_of_ble_eq_true rfl) rfl (fun ls hl => ?_)
  refine lv_aload_n F.hx F.hb d_MO_thingLine_40 rfl (lv_at hl 1 rfl) ?_
  refine r_get (v := vI ((q11.1).1 191 24)) (N := 68) (T := T1) (j := 24) F hS (show 191 < 231 by decide) (show shK 191 = 5 from rfl) (show shN 191 = 68 from rfl) rfl (Nat.le_of_ble_eq_true rfl) ing1 mw_1413 (fv_int rfl) d_MO_thingLine_41 ?_
  have i13 := hS.rng 191 24
  refine r_if_ne (tgt := 72) F.hx F.hb i13 d_MO_thingLine_44 (by decide) (fun c14 => ?_) (fun c14 => ?_)
  · replace hT := (if_neg c14).symm.trans hT
    exact k_MO_thingLine_L72 l hlo x1 hx1 F hlk hr (q11.1) (q11.2) h12 _ _ _ hS (lv_sub hl [1, 2, 0] rfl) hT
  · replace hT := (if_pos c14).symm.trans hT
    refine lv_aload_n F.hx F.hb d_MO_thingLine_47 rfl (lv_at hl 1 rfl) ?_
    refine r_get (v := .ref (b + 198)) (N := 68) (T := T1) (j := 8) F hS (show 191 < 231 by decide) (show shK 191 = 5 from rfl) (show shN 191 = 68 from rfl) rfl (Nat.le_of_ble_eq_true rfl) ing1 mw_1397 (fv_sg rfl rfl rfl) d_MO_thingLine_48 ?_
    refine r_bipush F.hx F.hb d_MO_thingLine_51 rfl ?_
    refine lv_iload_n F.hx F.hb d_MO_thingLine_53 rfl (lv_at hl 0 rfl) ?_
    refine r_iadd F.hx F.hb d_MO_thingLine_54 ?_
    obtain ⟨⟨g15a, g15b⟩, hT⟩ := q_guard hT
    have z16 := hS.bool (show shK 198 = 1 from rfl) (w32 (48 + (q11.2)))
    refine r_zald F hS (show 198 < 231 by decide) (show shK 198 = 1 from rfl) (show shN 198 = 96 from rfl) (inr_w32 _) g15a g15b d_MO_thingLine_55 ?_
    refine r_if_ne (tgt := 67) F.hx F.hb (inr_z z16) d_MO_thingLine_56 (by decide) (fun c17 => ?_) (fun c17 => ?_)
    · replace hT := (if_neg c17).symm.trans hT
      exact k_MO_thingLine_L67 l hlo x1 hx1 F hlk hr (q11.1) (q11.2) h12 _ _ _ hS (lv_sub hl [1, 2, 0] rfl) hT
    · replace hT := (if_pos c17).symm.trans hT
      refine lv_aload_n F.hx F.hb d_MO_thingLine_59 rfl (lv_at hl 1 rfl) ?_
      refine lv_iload_n F.hx F.hb d_MO_thingLine_60 rfl (lv_at hl 0 rfl) ?_
      obtain ⟨q18, hq18, hT⟩ := q_obind hT
      refine r_backZ F hS (r_runV (k := 191) (N := 68) (T := T1) (As := [vI (q11.2)]) F hS (show 191 < 231 by decide) (show shK 191 = 5 from rfl) rfl (c_MO_hasThing l F.2.2.1 (q11.1) (q11.2) h12 _ hq18) gs_MO_273 hd_MO_hasThing ⟨Nat.le_of_ble_eq_true rfl, Nat.le_of_ble_eq_true rfl⟩ rfl hl.1 (Nat.le_of_ble_eq_true rfl) ⟨Nat.zero_le _, Nat.zero_le _⟩ rfl d_MO_thingLine_61) (fun H locs hS h19 => ?_)
      refine r_if_eq (tgt := 72) F.hx F.hb (inr_z h19) d_MO_thingLine_64 (by decide) (fun c20 => ?_) (fun c20 => ?_)
      · replace hT := (if_pos c20).symm.trans hT
        exact k_MO_thingLine_L72 l hlo x1 hx1 F hlk hr (q11.1) (q11.2) h12 _ _ _ hS (lv_sub hl [1, 2, 0] rfl) hT
      · replace hT := (if_neg c20).symm.trans hT
        exact k_MO_thingLine_L67 l hlo x1 hx1 F hlk hr (q11.1) (q11.2) h12 _ _ _ hS (lv_sub hl [1, 2, 0] rfl) hT
theorem d_MO_knot_0 : decode b_MO_knot 0 = .ok (.aload_n 0, 1) := dc_42 (by decide +kernel)
theorem d_MO_knot_1 : decode b_MO_knot 1 = .ok (.getfield 199, 3) := dc_180 (by decide +kernel)
theorem d_MO_knot_4 : decode b_MO_knot 4 = .ok (.ifCond .eq 4, 3) := dc_153 (by decide +kernel)
theorem d_MO_knot_7 : decode b_MO_knot 7 = .ok (.return_, 1) := dc_177 (by decide +kernel)
theorem d_MO_knot_8 : decode b_MO_knot 8 = .ok (.aload_n 0, 1) := dc_42 (by decide +kernel)
theorem d_MO_knot_9 : decode b_MO_knot 9 = .ok (.getfield 279, 3) := dc_180 (by decide +kernel)
theorem d_MO_knot_12 : decode b_MO_knot 12 = .ok (.bipush 64, 2) := dc_16 (by decide +kernel)
theorem d_MO_knot_14 : decode b_MO_knot 14 = .ok (.if_icmp .ne 11, 3) := dc_160 (by decide +kernel)
theorem d_MO_knot_17 : decode b_MO_knot 17 = .ok (.aload_n 0, 1) := dc_42 (by decide +kernel)
theorem d_MO_knot_18 : decode b_MO_knot 18 = .ok (.iconst 2, 1) := dc_5 (by decide +kernel)
theorem d_MO_knot_19 : decode b_MO_knot 19 = .ok (.invokevirtual 208, 3) := dc_182 (by decide +kernel)
theorem d_MO_knot_22 : decode b_MO_knot 22 = .ok (.goto 13, 3) := dc_167 (by decide +kernel)
theorem d_MO_knot_25 : decode b_MO_knot 25 = .ok (.aload_n 0, 1) := dc_42 (by decide +kernel)
theorem d_MO_knot_26 : decode b_MO_knot 26 = .ok (.dup, 1) := dc_89 (by decide +kernel)
theorem d_MO_knot_27 : decode b_MO_knot 27 = .ok (.getfield 279, 3) := dc_180 (by decide +kernel)
theorem d_MO_knot_30 : decode b_MO_knot 30 = .ok (.iconst 1, 1) := dc_4 (by decide +kernel)
theorem d_MO_knot_31 : decode b_MO_knot 31 = .ok (.iadd, 1) := dc_96 (by decide +kernel)
theorem d_MO_knot_32 : decode b_MO_knot 32 = .ok (.putfield 279, 3) := dc_181 (by decide +kernel)
theorem d_MO_knot_35 : decode b_MO_knot 35 = .ok (.return_, 1) := dc_177 (by decide +kernel)
def t_MO_knot (M : Mem)  : Mem := (if (M.1 191 24) = 0 then (if (M.1 191 29) = 64 then (qlet (t_MO_wrong M 2) fun q7 => q7) else (qlet (setI M 191 29 (w32 ((M.1 191 29) + 1))) fun M6 => M6)) else M)
set_option maxHeartbeats 4000000 in
set_option maxRecDepth 100000 in
theorem c_MO_knot (l : Launch) {b n : Nat} {C : CT} (hlo : 231 ≤ n) (M : Mem)   (res : Mem) (hT : t_MO_knot M  = res) : CM l b C n 1 y_MO_knot b_MO_knot 1 (none) [.ref (b + 191)] M (QV b C n res) := by
  refine CM.of (lo := 231) (ow := "WardFallsModel") (by decide) rfl (Nat.le_of_ble_eq_true rfl) hlo (fun p e s m below meth c F hlk hr hS ls hl => ?_)
  have hl : lv_has ls 1 [(0, .ref (b + 191))] := hl
  unfold t_MO_knot at hT
  refine lv_aload_n F.hx F.hb d_MO_knot_0 rfl (lv_at hl 0 rfl) ?_
  refine r_get (v := vI (M.1 191 24)) (N := 68) (T := T1) (j := 24) F hS (show 191 < 231 by decide) (show shK 191 = 5 from rfl) (show shN 191 = 68 from rfl) rfl (Nat.le_of_ble_eq_true rfl) ing1 mw_1413 (fv_int rfl) d_MO_knot_1 ?_
  have i1 := hS.rng 191 24
  refine r_if_eq (tgt := 8) F.hx F.hb i1 d_MO_knot_4 (by decide) (fun c2 => ?_) (fun c2 => ?_)
  · replace hT := (if_pos c2).symm.trans hT
    refine lv_aload_n F.hx F.hb d_MO_knot_8 rfl (lv_at hl 0 rfl) ?_
    refine r_get (v := vI (M.1 191 29)) (N := 68) (T := T1) (j := 29) F hS (show 191 < 231 by decide) (show shK 191 = 5 from rfl) (show shN 191 = 68 from rfl) rfl (Nat.le_of_ble_eq_true rfl) ing1 mw_1418 (fv_int rfl) d_MO_knot_9 ?_
    have i3 := hS.rng 191 29
    refine r_bipush F.hx F.hb d_MO_knot_12 rfl ?_
    refine r_icmp_ne (tgt := 25) F.hx F.hb i3 (inr_c rfl) d_MO_knot_14 (by decide) (fun c4 => ?_) (fun c4 => ?_)
    · replace hT := (if_neg c4).symm.trans hT
      refine lv_aload_n F.hx F.hb d_MO_knot_25 rfl (lv_at hl 0 rfl) ?_
      refine lv_dup F.hx F.hb d_MO_knot_26 rfl ?_
      refine r_get (v := vI (M.1 191 29)) (N := 68) (T := T1) (j := 29) F hS (show 191 < 231 by decide) (show shK 191 = 5 from rfl) (show shN 191 = 68 from rfl) rfl (Nat.le_of_ble_eq_true rfl) ing1 mw_1418 (fv_int rfl) d_MO_knot_27 ?_
      have i5 := hS.rng 191 29
      refine r_iconst F.hx F.hb d_MO_knot_30 ?_
      refine r_iadd F.hx F.hb d_MO_knot_31 ?_
      refine r_putI (N := 68) (T := T1) (j := 29) F hS (show 191 < 231 by decide) (show shK 191 = 5 from rfl) (show shN 191 = 68 from rfl) rfl (Nat.le_of_ble_eq_true rfl) ing1 tyok1 nm1 rfl rfl rfl rfl rfl rfl mw_1418 (inr_w32 _) d_MO_knot_32 (fun H locs hS => ?_)
      obtain ⟨M6, eM6⟩ : ∃ q, q = (setI M 191 29 (w32 ((M.1 191 29) + 1))) := ⟨_, rfl⟩
      replace hS : St b C n M6 s H locs := by rw [eM6]; exact hS
      replace hT := qlet_eq hT eM6
      subst hT
      exact r_vret F hlk hr hS d_MO_knot_35
    · replace hT := (if_pos c4).symm.trans hT
      refine lv_aload_n F.hx F.hb d_MO_knot_17 rfl (lv_at hl 0 rfl) ?_
      refine r_iconst F.hx F.hb d_MO_knot_18 ?_
      obtain ⟨q7, hq7⟩ : ∃ q, q = (t_MO_wrong M 2) := ⟨_, rfl⟩
      replace hT := qlet_eq hT hq7
      refine r_backV F hS (r_runV (k := 191) (N := 68) (T := T1) (As := [vI 2]) F hS (show 191 < 231 by decide) (show shK 191 = 5 from rfl) rfl (c_MO_wrong l F.2.2.1 M 2 (inr_c rfl) _ hq7.symm) gs_MO_208 hd_MO_wrong ⟨Nat.le_of_ble_eq_true rfl, Nat.le_of_ble_eq_true rfl⟩ rfl hl.1 (Nat.le_of_ble_eq_true rfl) ⟨Nat.zero_le _, Nat.zero_le _⟩ rfl d_MO_knot_19) (fun H locs hS => ?_)
      refine lv_goto (tgt := 35) F.hx F.hb d_MO_knot_22 (by decide) ?_
      subst hT
      exact r_vret F hlk hr hS d_MO_knot_35
  · replace hT := (if_neg c2).symm.trans hT
    subst hT
    exact r_vret F hlk hr hS d_MO_knot_7
theorem d_MO_puts_0 : decode b_MO_puts 0 = .ok (.aload_n 0, 1) := dc_42 (by decide +kernel)
theorem d_MO_puts_1 : decode b_MO_puts 1 = .ok (.getfield 199, 3) := dc_180 (by decide +kernel)
theorem d_MO_puts_4 : decode b_MO_puts 4 = .ok (.ifCond .eq 4, 3) := dc_153 (by decide +kernel)
theorem d_MO_puts_7 : decode b_MO_puts 7 = .ok (.return_, 1) := dc_177 (by decide +kernel)
theorem d_MO_puts_8 : decode b_MO_puts 8 = .ok (.aload_n 0, 1) := dc_42 (by decide +kernel)
theorem d_MO_puts_9 : decode b_MO_puts 9 = .ok (.getfield 50, 3) := dc_180 (by decide +kernel)
theorem d_MO_puts_12 : decode b_MO_puts 12 = .ok (.bipush 64, 2) := dc_16 (by decide +kernel)
theorem d_MO_puts_14 : decode b_MO_puts 14 = .ok (.aload_n 0, 1) := dc_42 (by decide +kernel)
theorem d_MO_puts_15 : decode b_MO_puts 15 = .ok (.bipush 8, 2) := dc_16 (by decide +kernel)
theorem d_MO_puts_17 : decode b_MO_puts 17 = .ok (.invokevirtual 222, 3) := dc_182 (by decide +kernel)
theorem d_MO_puts_20 : decode b_MO_puts 20 = .ok (.iadd, 1) := dc_96 (by decide +kernel)
theorem d_MO_puts_21 : decode b_MO_puts 21 = .ok (.iload_n 1, 1) := dc_27 (by decide +kernel)
theorem d_MO_puts_22 : decode b_MO_puts 22 = .ok (.iastore, 1) := dc_79 (by decide +kernel)
theorem d_MO_puts_23 : decode b_MO_puts 23 = .ok (.aload_n 0, 1) := dc_42 (by decide +kernel)
theorem d_MO_puts_24 : decode b_MO_puts 24 = .ok (.getfield 53, 3) := dc_180 (by decide +kernel)
theorem d_MO_puts_27 : decode b_MO_puts 27 = .ok (.bipush 64, 2) := dc_16 (by decide +kernel)
theorem d_MO_puts_29 : decode b_MO_puts 29 = .ok (.aload_n 0, 1) := dc_42 (by decide +kernel)
theorem d_MO_puts_30 : decode b_MO_puts 30 = .ok (.bipush 8, 2) := dc_16 (by decide +kernel)
theorem d_MO_puts_32 : decode b_MO_puts 32 = .ok (.invokevirtual 222, 3) := dc_182 (by decide +kernel)
theorem d_MO_puts_35 : decode b_MO_puts 35 = .ok (.iadd, 1) := dc_96 (by decide +kernel)
theorem d_MO_puts_36 : decode b_MO_puts 36 = .ok (.iload_n 2, 1) := dc_28 (by decide +kernel)
theorem d_MO_puts_37 : decode b_MO_puts 37 = .ok (.iastore, 1) := dc_79 (by decide +kernel)
theorem d_MO_puts_38 : decode b_MO_puts 38 = .ok (.aload_n 0, 1) := dc_42 (by decide +kernel)
theorem d_MO_puts_39 : decode b_MO_puts 39 = .ok (.bipush 8, 2) := dc_16 (by decide +kernel)
theorem d_MO_puts_41 : decode b_MO_puts 41 = .ok (.aload_n 0, 1) := dc_42 (by decide +kernel)
theorem d_MO_puts_42 : decode b_MO_puts 42 = .ok (.bipush 8, 2) := dc_16 (by decide +kernel)
theorem d_MO_puts_44 : decode b_MO_puts 44 = .ok (.invokevirtual 222, 3) := dc_182 (by decide +kernel)
theorem d_MO_puts_47 : decode b_MO_puts 47 = .ok (.iconst 1, 1) := dc_4 (by decide +kernel)
theorem d_MO_puts_48 : decode b_MO_puts 48 = .ok (.iadd, 1) := dc_96 (by decide +kernel)
theorem d_MO_puts_49 : decode b_MO_puts 49 = .ok (.invokevirtual 238, 3) := dc_182 (by decide +kernel)
theorem d_MO_puts_52 : decode b_MO_puts 52 = .ok (.return_, 1) := dc_177 (by decide +kernel)
def t_MO_puts (M : Mem) (x1 : Int) (x2 : Int) : Option (Mem) := (if (M.1 191 24) = 0 then (obind (t_MO_fresher M 8) fun q3 => (qguard (0 ≤ (w32 (64 + q3)) ∧ (w32 (64 + q3)) < 128) (qlet (setI M 205 (w32 (64 + q3)) x1) fun M6 => (obind (t_MO_fresher M6 8) fun q7 => (qguard (0 ≤ (w32 (64 + q7)) ∧ (w32 (64 + q7)) < 128) (qlet (setI M6 206 (w32 (64 + q7)) x2) fun M10 => (obind (t_MO_fresher M10 8) fun q11 => (obind (t_MO_reads M10 8 (w32 (q11 + 1))) fun q13 => (some q13))))))))) else (some M))
set_option maxHeartbeats 4000000 in
set_option maxRecDepth 100000 in
theorem c_MO_puts (l : Launch) {b n : Nat} {C : CT} (hlo : 231 ≤ n) (M : Mem) (x1 : Int) (x2 : Int) (hx1 : InR x1) (hx2 : InR x2) (res : Mem) (hT : t_MO_puts M x1 x2 = some res) : CM l b C n 1 y_MO_puts b_MO_puts 3 (none) [.ref (b + 191), vI x1, vI x2] M (QV b C n res) := by
  refine CM.of (lo := 231) (ow := "WardFallsModel") (by decide) rfl (Nat.le_of_ble_eq_true rfl) hlo (fun p e s m below meth c F hlk hr hS ls hl => ?_)
  have hl : lv_has ls 3 [(0, .ref (b + 191)), (1, vI x1), (2, vI x2)] := hl
  unfold t_MO_puts at hT
  refine lv_aload_n F.hx F.hb d_MO_puts_0 rfl (lv_at hl 0 rfl) ?_
  refine r_get (v := vI (M.1 191 24)) (N := 68) (T := T1) (j := 24) F hS (show 191 < 231 by decide) (show shK 191 = 5 from rfl) (show shN 191 = 68 from rfl) rfl (Nat.le_of_ble_eq_true rfl) ing1 mw_1413 (fv_int rfl) d_MO_puts_1 ?_
  have i1 := hS.rng 191 24
  refine r_if_eq (tgt := 8) F.hx F.hb i1 d_MO_puts_4 (by decide) (fun c2 => ?_) (fun c2 => ?_)
  · replace hT := (if_pos c2).symm.trans hT
    refine lv_aload_n F.hx F.hb d_MO_puts_8 rfl (lv_at hl 0 rfl) ?_
    refine r_get (v := .ref (b + 205)) (N := 68) (T := T1) (j := 15) F hS (show 191 < 231 by decide) (show shK 191 = 5 from rfl) (show shN 191 = 68 from rfl) rfl (Nat.le_of_ble_eq_true rfl) ing1 mw_1404 (fv_sg rfl rfl rfl) d_MO_puts_9 ?_
    refine r_bipush F.hx F.hb d_MO_puts_12 rfl ?_
    refine lv_aload_n F.hx F.hb d_MO_puts_14 rfl (lv_at hl 0 rfl) ?_
    refine r_bipush F.hx F.hb d_MO_puts_15 rfl ?_
    obtain ⟨q3, hq3, hT⟩ := q_obind hT
    refine r_backI F hS (r_runV (k := 191) (N := 68) (T := T1) (As := [vI 8]) F hS (show 191 < 231 by decide) (show shK 191 = 5 from rfl) rfl (c_MO_fresher l F.2.2.1 M 8 (inr_c rfl) _ hq3) gs_MO_222 hd_MO_fresher ⟨Nat.le_of_ble_eq_true rfl, Nat.le_of_ble_eq_true rfl⟩ rfl hl.1 (Nat.le_of_ble_eq_true rfl) ⟨Nat.zero_le _, Nat.zero_le _⟩ rfl d_MO_puts_17) (fun H locs hS h4 => ?_)
    refine r_iadd F.hx F.hb d_MO_puts_20 ?_
    refine lv_iload_n F.hx F.hb d_MO_puts_21 rfl (lv_at hl 1 rfl) ?_
    obtain ⟨⟨g5a, g5b⟩, hT⟩ := q_guard hT
    refine r_iast F hS (show 205 < 231 by decide) (show shK 205 = 0 from rfl) (show shN 205 = 128 from rfl) (inr_w32 _) hx1 g5a g5b d_MO_puts_22 (fun H locs hS => ?_)
    obtain ⟨M6, eM6⟩ : ∃ q, q = (setI M 205 (w32 (64 + q3)) x1) := ⟨_, rfl⟩
    replace hS : St b C n M6 s H locs := by rw [eM6]; exact hS
    replace hT := qlet_eq hT eM6
    refine lv_aload_n F.hx F.hb d_MO_puts_23 rfl (lv_at hl 0 rfl) ?_
    refine r_get (v := .ref (b + 206)) (N := 68) (T := T1) (j := 16) F hS (show 191 < 231 by decide) (show shK 191 = 5 from rfl) (show shN 191 = 68 from rfl) rfl (Nat.le_of_ble_eq_true rfl) ing1 mw_1405 (fv_sg rfl rfl rfl) d_MO_puts_24 ?_
    refine r_bipush F.hx F.hb d_MO_puts_27 rfl ?_
    refine lv_aload_n F.hx F.hb d_MO_puts_29 rfl (lv_at hl 0 rfl) ?_
    refine r_bipush F.hx F.hb d_MO_puts_30 rfl ?_
    obtain ⟨q7, hq7, hT⟩ := q_obind hT
    refine r_backI F hS (r_runV (k := 191) (N := 68) (T := T1) (As := [vI 8]) F hS (show 191 < 231 by decide) (show shK 191 = 5 from rfl) rfl (c_MO_fresher l F.2.2.1 M6 8 (inr_c rfl) _ hq7) gs_MO_222 hd_MO_fresher ⟨Nat.le_of_ble_eq_true rfl, Nat.le_of_ble_eq_true rfl⟩ rfl hl.1 (Nat.le_of_ble_eq_true rfl) ⟨Nat.zero_le _, Nat.zero_le _⟩ rfl d_MO_puts_32) (fun H locs hS h8 => ?_)
    refine r_iadd F.hx F.hb d_MO_puts_35 ?_
    refine lv_iload_n F.hx F.hb d_MO_puts_36 rfl (lv_at hl 2 rfl) ?_
    obtain ⟨⟨g9a, g9b⟩, hT⟩ := q_guard hT
    refine r_iast F hS (show 206 < 231 by decide) (show shK 206 = 0 from rfl) (show shN 206 = 128 from rfl) (inr_w32 _) hx2 g9a g9b d_MO_puts_37 (fun H locs hS => ?_)
    obtain ⟨M10, eM10⟩ : ∃ q, q = (setI M6 206 (w32 (64 + q7)) x2) := ⟨_, rfl⟩
    replace hS : St b C n M10 s H locs := by rw [eM10]; exact hS
    replace hT := qlet_eq hT eM10
    refine lv_aload_n F.hx F.hb d_MO_puts_38 rfl (lv_at hl 0 rfl) ?_
    refine r_bipush F.hx F.hb d_MO_puts_39 rfl ?_
    refine lv_aload_n F.hx F.hb d_MO_puts_41 rfl (lv_at hl 0 rfl) ?_
    refine r_bipush F.hx F.hb d_MO_puts_42 rfl ?_
    obtain ⟨q11, hq11, hT⟩ := q_obind hT
    refine r_backI F hS (r_runV (k := 191) (N := 68) (T := T1) (As := [vI 8]) F hS (show 191 < 231 by decide) (show shK 191 = 5 from rfl) rfl (c_MO_fresher l F.2.2.1 M10 8 (inr_c rfl) _ hq11) gs_MO_222 hd_MO_fresher ⟨Nat.le_of_ble_eq_true rfl, Nat.le_of_ble_eq_true rfl⟩ rfl hl.1 (Nat.le_of_ble_eq_true rfl) ⟨Nat.zero_le _, Nat.zero_le _⟩ rfl d_MO_puts_44) (fun H locs hS h12 => ?_)
    refine r_iconst F.hx F.hb d_MO_puts_47 ?_
    refine r_iadd F.hx F.hb d_MO_puts_48 ?_
    obtain ⟨q13, hq13, hT⟩ := q_obind hT
    refine r_backV F hS (r_runV (k := 191) (N := 68) (T := T1) (As := [vI 8, vI (w32 (q11 + 1))]) F hS (show 191 < 231 by decide) (show shK 191 = 5 from rfl) rfl (c_MO_reads l F.2.2.1 M10 8 (w32 (q11 + 1)) (inr_c rfl) (inr_w32 _) _ hq13) gs_MO_238 hd_MO_reads ⟨Nat.le_of_ble_eq_true rfl, Nat.le_of_ble_eq_true rfl⟩ rfl hl.1 (Nat.le_of_ble_eq_true rfl) ⟨Nat.zero_le _, Nat.zero_le _⟩ rfl d_MO_puts_49) (fun H locs hS => ?_)
    cases hT
    exact r_vret F hlk hr hS d_MO_puts_52
  · replace hT := (if_neg c2).symm.trans hT
    cases hT
    exact r_vret F hlk hr hS d_MO_puts_7
theorem wn_MO_primary_0 : ∀ i, i < 96 → bA b_MO_primary (0 + i) = wB [42, 180, 0, 199, 153, 0, 4, 177, 42, 16, 40, 182, 1, 4, 153, 0, 87, 42, 180, 1, 50, 16, 8, 160, 0, 8, 42, 5, 182, 0, 208, 42, 180, 0, 199, 153, 0, 4, 177, 42, 89, 180, 1, 50, 4, 96, 181, 1, 50, 42, 182, 0, 205, 42, 182, 1, 20, 42, 180, 0, 199, 154, 0, 17, 42, 16, 41, 182, 1, 4, 154, 0, 8, 42, 4, 182, 0, 208, 42, 180, 0, 199, 153, 0, 4, 177, 42, 89, 180, 1, 50, 4, 100, 181, 1, 50] i := wB_of (by decide +kernel)
theorem d_MO_primary_0 : decode b_MO_primary 0 = .ok (.aload_n 0, 1) := dc_42 (q0_win (r := 0) wn_MO_primary_0 (by decide +kernel))
theorem d_MO_primary_1 : decode b_MO_primary 1 = .ok (.getfield 199, 3) := dc_180 (qU2_win (r := 1) wn_MO_primary_0 (by decide +kernel))
theorem d_MO_primary_4 : decode b_MO_primary 4 = .ok (.ifCond .eq 4, 3) := dc_153 (qS2_win (r := 4) wn_MO_primary_0 (by decide +kernel))
theorem d_MO_primary_7 : decode b_MO_primary 7 = .ok (.return_, 1) := dc_177 (q0_win (r := 7) wn_MO_primary_0 (by decide +kernel))
theorem d_MO_primary_8 : decode b_MO_primary 8 = .ok (.aload_n 0, 1) := dc_42 (q0_win (r := 8) wn_MO_primary_0 (by decide +kernel))
theorem d_MO_primary_9 : decode b_MO_primary 9 = .ok (.bipush 40, 2) := dc_16 (qS1_win (r := 9) wn_MO_primary_0 (by decide +kernel))
theorem d_MO_primary_11 : decode b_MO_primary 11 = .ok (.invokevirtual 260, 3) := dc_182 (qU2_win (r := 11) wn_MO_primary_0 (by decide +kernel))
theorem d_MO_primary_14 : decode b_MO_primary 14 = .ok (.ifCond .eq 87, 3) := dc_153 (qS2_win (r := 14) wn_MO_primary_0 (by decide +kernel))
theorem d_MO_primary_17 : decode b_MO_primary 17 = .ok (.aload_n 0, 1) := dc_42 (q0_win (r := 17) wn_MO_primary_0 (by decide +kernel))
theorem d_MO_primary_18 : decode b_MO_primary 18 = .ok (.getfield 306, 3) := dc_180 (qU2_win (r := 18) wn_MO_primary_0 (by decide +kernel))
theorem d_MO_primary_21 : decode b_MO_primary 21 = .ok (.bipush 8, 2) := dc_16 (qS1_win (r := 21) wn_MO_primary_0 (by decide +kernel))
theorem d_MO_primary_23 : decode b_MO_primary 23 = .ok (.if_icmp .ne 8, 3) := dc_160 (qS2_win (r := 23) wn_MO_primary_0 (by decide +kernel))
theorem d_MO_primary_26 : decode b_MO_primary 26 = .ok (.aload_n 0, 1) := dc_42 (q0_win (r := 26) wn_MO_primary_0 (by decide +kernel))
theorem d_MO_primary_27 : decode b_MO_primary 27 = .ok (.iconst 2, 1) := dc_5 (q0_win (r := 27) wn_MO_primary_0 (by decide +kernel))
theorem d_MO_primary_28 : decode b_MO_primary 28 = .ok (.invokevirtual 208, 3) := dc_182 (qU2_win (r := 28) wn_MO_primary_0 (by decide +kernel))
theorem d_MO_primary_31 : decode b_MO_primary 31 = .ok (.aload_n 0, 1) := dc_42 (q0_win (r := 31) wn_MO_primary_0 (by decide +kernel))
theorem d_MO_primary_32 : decode b_MO_primary 32 = .ok (.getfield 199, 3) := dc_180 (qU2_win (r := 32) wn_MO_primary_0 (by decide +kernel))
theorem d_MO_primary_35 : decode b_MO_primary 35 = .ok (.ifCond .eq 4, 3) := dc_153 (qS2_win (r := 35) wn_MO_primary_0 (by decide +kernel))
theorem d_MO_primary_38 : decode b_MO_primary 38 = .ok (.return_, 1) := dc_177 (q0_win (r := 38) wn_MO_primary_0 (by decide +kernel))
theorem d_MO_primary_39 : decode b_MO_primary 39 = .ok (.aload_n 0, 1) := dc_42 (q0_win (r := 39) wn_MO_primary_0 (by decide +kernel))
theorem d_MO_primary_40 : decode b_MO_primary 40 = .ok (.dup, 1) := dc_89 (q0_win (r := 40) wn_MO_primary_0 (by decide +kernel))
theorem d_MO_primary_41 : decode b_MO_primary 41 = .ok (.getfield 306, 3) := dc_180 (qU2_win (r := 41) wn_MO_primary_0 (by decide +kernel))
theorem d_MO_primary_44 : decode b_MO_primary 44 = .ok (.iconst 1, 1) := dc_4 (q0_win (r := 44) wn_MO_primary_0 (by decide +kernel))
theorem d_MO_primary_45 : decode b_MO_primary 45 = .ok (.iadd, 1) := dc_96 (q0_win (r := 45) wn_MO_primary_0 (by decide +kernel))
theorem d_MO_primary_46 : decode b_MO_primary 46 = .ok (.putfield 306, 3) := dc_181 (qU2_win (r := 46) wn_MO_primary_0 (by decide +kernel))
theorem d_MO_primary_49 : decode b_MO_primary 49 = .ok (.aload_n 0, 1) := dc_42 (q0_win (r := 49) wn_MO_primary_0 (by decide +kernel))
theorem d_MO_primary_50 : decode b_MO_primary 50 = .ok (.invokevirtual 205, 3) := dc_182 (qU2_win (r := 50) wn_MO_primary_0 (by decide +kernel))
theorem d_MO_primary_53 : decode b_MO_primary 53 = .ok (.aload_n 0, 1) := dc_42 (q0_win (r := 53) wn_MO_primary_0 (by decide +kernel))
theorem d_MO_primary_54 : decode b_MO_primary 54 = .ok (.invokevirtual 276, 3) := dc_182 (qU2_win (r := 54) wn_MO_primary_0 (by decide +kernel))
theorem d_MO_primary_57 : decode b_MO_primary 57 = .ok (.aload_n 0, 1) := dc_42 (q0_win (r := 57) wn_MO_primary_0 (by decide +kernel))
theorem d_MO_primary_58 : decode b_MO_primary 58 = .ok (.getfield 199, 3) := dc_180 (qU2_win (r := 58) wn_MO_primary_0 (by decide +kernel))
theorem d_MO_primary_61 : decode b_MO_primary 61 = .ok (.ifCond .ne 17, 3) := dc_154 (qS2_win (r := 61) wn_MO_primary_0 (by decide +kernel))
theorem d_MO_primary_64 : decode b_MO_primary 64 = .ok (.aload_n 0, 1) := dc_42 (q0_win (r := 64) wn_MO_primary_0 (by decide +kernel))
theorem d_MO_primary_65 : decode b_MO_primary 65 = .ok (.bipush 41, 2) := dc_16 (qS1_win (r := 65) wn_MO_primary_0 (by decide +kernel))
theorem d_MO_primary_67 : decode b_MO_primary 67 = .ok (.invokevirtual 260, 3) := dc_182 (qU2_win (r := 67) wn_MO_primary_0 (by decide +kernel))
theorem d_MO_primary_70 : decode b_MO_primary 70 = .ok (.ifCond .ne 8, 3) := dc_154 (qS2_win (r := 70) wn_MO_primary_0 (by decide +kernel))
theorem d_MO_primary_73 : decode b_MO_primary 73 = .ok (.aload_n 0, 1) := dc_42 (q0_win (r := 73) wn_MO_primary_0 (by decide +kernel))
theorem d_MO_primary_74 : decode b_MO_primary 74 = .ok (.iconst 1, 1) := dc_4 (q0_win (r := 74) wn_MO_primary_0 (by decide +kernel))
theorem d_MO_primary_75 : decode b_MO_primary 75 = .ok (.invokevirtual 208, 3) := dc_182 (qU2_win (r := 75) wn_MO_primary_0 (by decide +kernel))
theorem d_MO_primary_78 : decode b_MO_primary 78 = .ok (.aload_n 0, 1) := dc_42 (q0_win (r := 78) wn_MO_primary_0 (by decide +kernel))
theorem d_MO_primary_79 : decode b_MO_primary 79 = .ok (.getfield 199, 3) := dc_180 (qU2_win (r := 79) wn_MO_primary_0 (by decide +kernel))
theorem d_MO_primary_82 : decode b_MO_primary 82 = .ok (.ifCond .eq 4, 3) := dc_153 (qS2_win (r := 82) wn_MO_primary_0 (by decide +kernel))
theorem d_MO_primary_85 : decode b_MO_primary 85 = .ok (.return_, 1) := dc_177 (q0_win (r := 85) wn_MO_primary_0 (by decide +kernel))
theorem d_MO_primary_86 : decode b_MO_primary 86 = .ok (.aload_n 0, 1) := dc_42 (q0_win (r := 86) wn_MO_primary_0 (by decide +kernel))
theorem d_MO_primary_87 : decode b_MO_primary 87 = .ok (.dup, 1) := dc_89 (q0_win (r := 87) wn_MO_primary_0 (by decide +kernel))
theorem d_MO_primary_88 : decode b_MO_primary 88 = .ok (.getfield 306, 3) := dc_180 (qU2_win (r := 88) wn_MO_primary_0 (by decide +kernel))
theorem d_MO_primary_91 : decode b_MO_primary 91 = .ok (.iconst 1, 1) := dc_4 (q0_win (r := 91) wn_MO_primary_0 (by decide +kernel))
theorem d_MO_primary_92 : decode b_MO_primary 92 = .ok (.isub, 1) := dc_100 (q0_win (r := 92) wn_MO_primary_0 (by decide +kernel))
theorem d_MO_primary_93 : decode b_MO_primary 93 = .ok (.putfield 306, 3) := dc_181 (qU2_win (r := 93) wn_MO_primary_0 (by decide +kernel))
theorem wn_MO_primary_96 : ∀ i, i < 95 → bA b_MO_primary (96 + i) = wB [42, 182, 0, 205, 177, 42, 180, 0, 164, 5, 160, 0, 7, 4, 167, 0, 4, 3, 60, 27, 153, 0, 21, 42, 180, 0, 174, 17, 39, 15, 164, 0, 11, 42, 5, 182, 0, 208, 167, 0, 28, 27, 154, 0, 24, 42, 180, 0, 164, 154, 0, 12, 42, 180, 0, 174, 16, 18, 162, 0, 8, 42, 4, 182, 0, 208, 42, 182, 1, 32, 42, 27, 153, 0, 7, 3, 167, 0, 4, 4, 27, 153, 0, 10, 42, 180, 0, 174, 167, 0, 10, 42, 180, 0, 174] i := wB_of (by decide +kernel)
theorem d_MO_primary_96 : decode b_MO_primary 96 = .ok (.aload_n 0, 1) := dc_42 (q0_win (r := 0) wn_MO_primary_96 (by decide +kernel))
theorem d_MO_primary_97 : decode b_MO_primary 97 = .ok (.invokevirtual 205, 3) := dc_182 (qU2_win (r := 1) wn_MO_primary_96 (by decide +kernel))
theorem d_MO_primary_100 : decode b_MO_primary 100 = .ok (.return_, 1) := dc_177 (q0_win (r := 4) wn_MO_primary_96 (by decide +kernel))
theorem d_MO_primary_101 : decode b_MO_primary 101 = .ok (.aload_n 0, 1) := dc_42 (q0_win (r := 5) wn_MO_primary_96 (by decide +kernel))
theorem d_MO_primary_102 : decode b_MO_primary 102 = .ok (.getfield 164, 3) := dc_180 (qU2_win (r := 6) wn_MO_primary_96 (by decide +kernel))
theorem d_MO_primary_105 : decode b_MO_primary 105 = .ok (.iconst 2, 1) := dc_5 (q0_win (r := 9) wn_MO_primary_96 (by decide +kernel))
theorem d_MO_primary_106 : decode b_MO_primary 106 = .ok (.if_icmp .ne 7, 3) := dc_160 (qS2_win (r := 10) wn_MO_primary_96 (by decide +kernel))
theorem d_MO_primary_109 : decode b_MO_primary 109 = .ok (.iconst 1, 1) := dc_4 (q0_win (r := 13) wn_MO_primary_96 (by decide +kernel))
theorem d_MO_primary_110 : decode b_MO_primary 110 = .ok (.goto 4, 3) := dc_167 (qS2_win (r := 14) wn_MO_primary_96 (by decide +kernel))
theorem d_MO_primary_113 : decode b_MO_primary 113 = .ok (.iconst 0, 1) := dc_3 (q0_win (r := 17) wn_MO_primary_96 (by decide +kernel))
theorem d_MO_primary_114 : decode b_MO_primary 114 = .ok (.istore_n 1, 1) := dc_60 (q0_win (r := 18) wn_MO_primary_96 (by decide +kernel))
theorem d_MO_primary_115 : decode b_MO_primary 115 = .ok (.iload_n 1, 1) := dc_27 (q0_win (r := 19) wn_MO_primary_96 (by decide +kernel))
theorem d_MO_primary_116 : decode b_MO_primary 116 = .ok (.ifCond .eq 21, 3) := dc_153 (qS2_win (r := 20) wn_MO_primary_96 (by decide +kernel))
theorem d_MO_primary_119 : decode b_MO_primary 119 = .ok (.aload_n 0, 1) := dc_42 (q0_win (r := 23) wn_MO_primary_96 (by decide +kernel))
theorem d_MO_primary_120 : decode b_MO_primary 120 = .ok (.getfield 174, 3) := dc_180 (qU2_win (r := 24) wn_MO_primary_96 (by decide +kernel))
theorem d_MO_primary_123 : decode b_MO_primary 123 = .ok (.sipush 9999, 3) := dc_17 (qS2_win (r := 27) wn_MO_primary_96 (by decide +kernel))
theorem d_MO_primary_126 : decode b_MO_primary 126 = .ok (.if_icmp .le 11, 3) := dc_164 (qS2_win (r := 30) wn_MO_primary_96 (by decide +kernel))
theorem d_MO_primary_129 : decode b_MO_primary 129 = .ok (.aload_n 0, 1) := dc_42 (q0_win (r := 33) wn_MO_primary_96 (by decide +kernel))
theorem d_MO_primary_130 : decode b_MO_primary 130 = .ok (.iconst 2, 1) := dc_5 (q0_win (r := 34) wn_MO_primary_96 (by decide +kernel))
theorem d_MO_primary_131 : decode b_MO_primary 131 = .ok (.invokevirtual 208, 3) := dc_182 (qU2_win (r := 35) wn_MO_primary_96 (by decide +kernel))
theorem d_MO_primary_134 : decode b_MO_primary 134 = .ok (.goto 28, 3) := dc_167 (qS2_win (r := 38) wn_MO_primary_96 (by decide +kernel))
theorem d_MO_primary_137 : decode b_MO_primary 137 = .ok (.iload_n 1, 1) := dc_27 (q0_win (r := 41) wn_MO_primary_96 (by decide +kernel))
theorem d_MO_primary_138 : decode b_MO_primary 138 = .ok (.ifCond .ne 24, 3) := dc_154 (qS2_win (r := 42) wn_MO_primary_96 (by decide +kernel))
theorem d_MO_primary_141 : decode b_MO_primary 141 = .ok (.aload_n 0, 1) := dc_42 (q0_win (r := 45) wn_MO_primary_96 (by decide +kernel))
theorem d_MO_primary_142 : decode b_MO_primary 142 = .ok (.getfield 164, 3) := dc_180 (qU2_win (r := 46) wn_MO_primary_96 (by decide +kernel))
theorem d_MO_primary_145 : decode b_MO_primary 145 = .ok (.ifCond .ne 12, 3) := dc_154 (qS2_win (r := 49) wn_MO_primary_96 (by decide +kernel))
theorem d_MO_primary_148 : decode b_MO_primary 148 = .ok (.aload_n 0, 1) := dc_42 (q0_win (r := 52) wn_MO_primary_96 (by decide +kernel))
theorem d_MO_primary_149 : decode b_MO_primary 149 = .ok (.getfield 174, 3) := dc_180 (qU2_win (r := 53) wn_MO_primary_96 (by decide +kernel))
theorem d_MO_primary_152 : decode b_MO_primary 152 = .ok (.bipush 18, 2) := dc_16 (qS1_win (r := 56) wn_MO_primary_96 (by decide +kernel))
theorem d_MO_primary_154 : decode b_MO_primary 154 = .ok (.if_icmp .ge 8, 3) := dc_162 (qS2_win (r := 58) wn_MO_primary_96 (by decide +kernel))
theorem d_MO_primary_157 : decode b_MO_primary 157 = .ok (.aload_n 0, 1) := dc_42 (q0_win (r := 61) wn_MO_primary_96 (by decide +kernel))
theorem d_MO_primary_158 : decode b_MO_primary 158 = .ok (.iconst 1, 1) := dc_4 (q0_win (r := 62) wn_MO_primary_96 (by decide +kernel))
theorem d_MO_primary_159 : decode b_MO_primary 159 = .ok (.invokevirtual 208, 3) := dc_182 (qU2_win (r := 63) wn_MO_primary_96 (by decide +kernel))
theorem d_MO_primary_162 : decode b_MO_primary 162 = .ok (.aload_n 0, 1) := dc_42 (q0_win (r := 66) wn_MO_primary_96 (by decide +kernel))
theorem d_MO_primary_163 : decode b_MO_primary 163 = .ok (.invokevirtual 288, 3) := dc_182 (qU2_win (r := 67) wn_MO_primary_96 (by decide +kernel))
theorem d_MO_primary_166 : decode b_MO_primary 166 = .ok (.aload_n 0, 1) := dc_42 (q0_win (r := 70) wn_MO_primary_96 (by decide +kernel))
theorem d_MO_primary_167 : decode b_MO_primary 167 = .ok (.iload_n 1, 1) := dc_27 (q0_win (r := 71) wn_MO_primary_96 (by decide +kernel))
theorem d_MO_primary_168 : decode b_MO_primary 168 = .ok (.ifCond .eq 7, 3) := dc_153 (qS2_win (r := 72) wn_MO_primary_96 (by decide +kernel))
theorem d_MO_primary_171 : decode b_MO_primary 171 = .ok (.iconst 0, 1) := dc_3 (q0_win (r := 75) wn_MO_primary_96 (by decide +kernel))
theorem d_MO_primary_172 : decode b_MO_primary 172 = .ok (.goto 4, 3) := dc_167 (qS2_win (r := 76) wn_MO_primary_96 (by decide +kernel))
theorem d_MO_primary_175 : decode b_MO_primary 175 = .ok (.iconst 1, 1) := dc_4 (q0_win (r := 79) wn_MO_primary_96 (by decide +kernel))
theorem d_MO_primary_176 : decode b_MO_primary 176 = .ok (.iload_n 1, 1) := dc_27 (q0_win (r := 80) wn_MO_primary_96 (by decide +kernel))
theorem d_MO_primary_177 : decode b_MO_primary 177 = .ok (.ifCond .eq 10, 3) := dc_153 (qS2_win (r := 81) wn_MO_primary_96 (by decide +kernel))
theorem d_MO_primary_180 : decode b_MO_primary 180 = .ok (.aload_n 0, 1) := dc_42 (q0_win (r := 84) wn_MO_primary_96 (by decide +kernel))
theorem d_MO_primary_181 : decode b_MO_primary 181 = .ok (.getfield 174, 3) := dc_180 (qU2_win (r := 85) wn_MO_primary_96 (by decide +kernel))
theorem d_MO_primary_184 : decode b_MO_primary 184 = .ok (.goto 10, 3) := dc_167 (qS2_win (r := 88) wn_MO_primary_96 (by decide +kernel))
theorem d_MO_primary_187 : decode b_MO_primary 187 = .ok (.aload_n 0, 1) := dc_42 (q0_win (r := 91) wn_MO_primary_96 (by decide +kernel))
theorem d_MO_primary_188 : decode b_MO_primary 188 = .ok (.getfield 174, 3) := dc_180 (qU2_win (r := 92) wn_MO_primary_96 (by decide +kernel))
theorem wn_MO_primary_191 : ∀ i, i < 11 → bA b_MO_primary (191 + i) = wB [16, 18, 100, 182, 1, 35, 42, 182, 0, 215, 177] i := wB_of (by decide +kernel)
theorem d_MO_primary_191 : decode b_MO_primary 191 = .ok (.bipush 18, 2) := dc_16 (qS1_win (r := 0) wn_MO_primary_191 (by decide +kernel))
theorem d_MO_primary_193 : decode b_MO_primary 193 = .ok (.isub, 1) := dc_100 (q0_win (r := 2) wn_MO_primary_191 (by decide +kernel))
theorem d_MO_primary_194 : decode b_MO_primary 194 = .ok (.invokevirtual 291, 3) := dc_182 (qU2_win (r := 3) wn_MO_primary_191 (by decide +kernel))
theorem d_MO_primary_197 : decode b_MO_primary 197 = .ok (.aload_n 0, 1) := dc_42 (q0_win (r := 6) wn_MO_primary_191 (by decide +kernel))
theorem d_MO_primary_198 : decode b_MO_primary 198 = .ok (.invokevirtual 215, 3) := dc_182 (qU2_win (r := 7) wn_MO_primary_191 (by decide +kernel))
theorem d_MO_primary_201 : decode b_MO_primary 201 = .ok (.return_, 1) := dc_177 (q0_win (r := 10) wn_MO_primary_191 (by decide +kernel))
def t_MO_primary_L78 (rc : Nat → Mem → Option Mem)  (M : Mem)  : Option (Mem) := (if (M.1 191 24) = 0 then (qlet (setI M 191 28 (w32 ((M.1 191 28) - 1))) fun M43 => (obind (t_MO_token M43) fun q44 => (some q44))) else (some M))
def t_MO_primary_L31 (rc : Nat → Mem → Option Mem)  (M : Mem)  : Option (Mem) := (if (M.1 191 24) = 0 then (qlet (setI M 191 28 (w32 ((M.1 191 28) + 1))) fun M20 => (obind (t_MO_token M20) fun q21 => (obind (rc 0 q21) fun q23 => (if (q23.1 191 24) = 0 then (qlet (t_MO_isSign q23 41) fun q27 => (if q27 = 0 then (qlet (t_MO_wrong q23 1) fun q30 => (t_MO_primary_L78 rc q30)) else (t_MO_primary_L78 rc q23))) else (t_MO_primary_L78 rc q23))))) else (some M))
def t_MO_primary_L194 (rc : Nat → Mem → Option Mem)  (M : Mem) (v2_ : Int) (v3_ : Int) : Option (Mem) := (obind (t_MO_puts M v2_ v3_) fun q51 => (obind (t_MO_goOn q51) fun q53 => (some q53)))
def t_MO_primary_L176 (rc : Nat → Mem → Option Mem)  (M : Mem) (v1_ : Int) (v3_ : Int) : Option (Mem) := (if v1_ = 0 then (t_MO_primary_L194 rc M v3_ (w32 ((M.1 191 23) - 18))) else (t_MO_primary_L194 rc M v3_ (M.1 191 23)))
def t_MO_primary_L162 (rc : Nat → Mem → Option Mem)  (M : Mem) (v1_ : Int) : Option (Mem) := (qlet (t_MO_knot M) fun q37 => (if v1_ = 0 then (t_MO_primary_L176 rc q37 v1_ 1) else (t_MO_primary_L176 rc q37 v1_ 0)))
def t_MO_primary_L157 (rc : Nat → Mem → Option Mem)  (M : Mem) (v1_ : Int) : Option (Mem) := (qlet (t_MO_wrong M 1) fun q46 => (t_MO_primary_L162 rc q46 v1_))
def t_MO_primary_L137 (rc : Nat → Mem → Option Mem)  (M : Mem) (v1_ : Int) : Option (Mem) := (if v1_ = 0 then (if (M.1 191 22) = 0 then (if 18 ≤ (M.1 191 23) then (t_MO_primary_L162 rc M v1_) else (t_MO_primary_L157 rc M v1_)) else (t_MO_primary_L157 rc M v1_)) else (t_MO_primary_L162 rc M v1_))
def t_MO_primary_L114 (rc : Nat → Mem → Option Mem)  (M : Mem) (v1_ : Int) : Option (Mem) := (if v1_ = 0 then (t_MO_primary_L137 rc M v1_) else (if (M.1 191 23) ≤ 9999 then (t_MO_primary_L137 rc M v1_) else (qlet (t_MO_wrong M 2) fun q15 => (t_MO_primary_L162 rc q15 v1_))))
def t_MO_primary_B (M : Mem) (rc : Nat → Mem → Option Mem) : Option (Mem) := (if (M.1 191 24) = 0 then (qlet (t_MO_isSign M 40) fun q3 => (if q3 = 0 then (if (M.1 191 22) = 2 then (t_MO_primary_L114 rc M 1) else (t_MO_primary_L114 rc M 0)) else (if (M.1 191 28) = 8 then (qlet (t_MO_wrong M 2) fun q10 => (t_MO_primary_L31 rc q10)) else (t_MO_primary_L31 rc M)))) else (some M))
set_option maxHeartbeats 4000000 in
set_option maxRecDepth 100000 in
theorem k_MO_primary_L78 (l : Launch) {d : Nat} {p : Program} {e : Env} {s : State} {m : MethodId} {below : List Frame} {meth : Method} {c : Code} {b n : Nat} {C : CT} (hlo : 231 ≤ n) (rc : Nat → Mem → Option Mem) (hrc0 : ∀ (M res : Mem), rc 0 M = some res → CM l b C n (d + 40) y_MO_expression b_MO_expression 1 (none) [.ref (b + 191)] M (QV b C n res)) (hrc1 : ∀ (M res : Mem), rc 1 M = some res → CM l b C n (d + 40) y_MO_conjunction b_MO_conjunction 1 (none) [.ref (b + 191)] M (QV b C n res)) (hrc2 : ∀ (M res : Mem), rc 2 M = some res → CM l b C n (d + 40) y_MO_negation b_MO_negation 2 (none) [.ref (b + 191)] M (QV b C n res)) (hrc3 : ∀ (M res : Mem), rc 3 M = some res → CM l b C n (d + 40) y_MO_sum b_MO_sum 2 (none) [.ref (b + 191)] M (QV b C n res)) (hrc4 : ∀ (M res : Mem), rc 4 M = some res → CM l b C n (d + 40) y_MO_product b_MO_product 2 (none) [.ref (b + 191)] M (QV b C n res)) (hrc5 : ∀ (M res : Mem), rc 5 M = some res → CM l b C n (d + 40) y_MO_primary b_MO_primary 2 (none) [.ref (b + 191)] M (QV b C n res)) (F : Cx b p m c b_MO_primary 2 s ([.ref (b + 191)] : List Value).toArray "WardFallsModel" C n 231) (hlk : meth.locks = false) (hr : meth.sig.returnType = none) {res : Mem} (M : Mem)  (H : Heap) (locs : List Loc) (ls : Array Slot) (hS : St b C n M s H locs) (hl : lv_has ls 2 [(0, .ref (b + 191))]) (hT : t_MO_primary_L78 rc M = some res) : W p l e (headSpec (wsM y_MO_primary b_MO_primary 2 (none)) (rmD (d + 1 + 40))).room s m ([.ref (b + 191)] : List Value).toArray below meth c H locs 0 0 (MQ below (QV b C n res) ([.ref (b + 191)] : List Value).toArray s 0 0 (frb b)) (F0 m 78 ls []) := by
  unfold t_MO_primary_L78 at hT
  refine lv_aload_n F.hx F.hb d_MO_primary_78 rfl (lv_at hl 0 rfl) ?_
  refine r_get (v := vI (M.1 191 24)) (N := 68) (T := T1) (j := 24) F hS (show 191 < 231 by decide) (show shK 191 = 5 from rfl) (show shN 191 = 68 from rfl) rfl (Nat.le_of_ble_eq_true rfl) ing1 mw_1413 (fv_int rfl) d_MO_primary_79 ?_
  have i40 := hS.rng 191 24
  refine r_if_eq (tgt := 86) F.hx F.hb i40 d_MO_primary_82 (by decide) (fun c41 => ?_) (fun c41 => ?_)
  · replace hT := (if_pos c41).symm.trans hT
    refine lv_aload_n F.hx F.hb d_MO_primary_86 rfl (lv_at hl 0 rfl) ?_
    refine lv_dup F.hx F.hb d_MO_primary_87 rfl ?_
    refine r_get (v := vI (M.1 191 28)) (N := 68) (T := T1) (j := 28) F hS (show 191 < 231 by decide) (show shK 191 = 5 from rfl) (show shN 191 = 68 from rfl) rfl (Nat.le_of_ble_eq_true rfl) ing1 mw_1417 (fv_int rfl) d_MO_primary_88 ?_
    have i42 := hS.rng 191 28
    refine r_iconst F.hx F.hb d_MO_primary_91 ?_
    refine r_isub F.hx F.hb d_MO_primary_92 ?_
    refine r_putI (N := 68) (T := T1) (j := 28) F hS (show 191 < 231 by decide) (show shK 191 = 5 from rfl) (show shN 191 = 68 from rfl) rfl (Nat.le_of_ble_eq_true rfl) ing1 tyok1 nm1 rfl rfl rfl rfl rfl rfl mw_1417 (inr_w32 _) d_MO_primary_93 (fun H locs hS => ?_)
    obtain ⟨M43, eM43⟩ : ∃ q, q = (setI M 191 28 (w32 ((M.1 191 28) - 1))) := ⟨_, rfl⟩
    replace hS : St b C n M43 s H locs := by rw [eM43]; exact hS
    replace hT := qlet_eq hT eM43
    refine lv_aload_n F.hx F.hb d_MO_primary_96 rfl (lv_at hl 0 rfl) ?_
    obtain ⟨q44, hq44, hT⟩ := q_obind hT
    refine r_backV F hS (r_runV (k := 191) (N := 68) (T := T1) (As := []) F hS (show 191 < 231 by decide) (show shK 191 = 5 from rfl) rfl (c_MO_token l F.2.2.1 M43 _ hq44) gs_MO_205 hd_MO_token ⟨(by show 5 + 1 ≤ d + 1 + 40; omega), (by show 8 + (2 + 11) + 48 * 5 ≤ 48 * (d + 1 + 40); omega)⟩ rfl hl.1 (Nat.le_of_ble_eq_true rfl) ⟨Nat.zero_le _, Nat.zero_le _⟩ rfl d_MO_primary_97) (fun H locs hS => ?_)
    cases hT
    exact r_vret F hlk hr hS d_MO_primary_100
  · replace hT := (if_neg c41).symm.trans hT
    cases hT
    exact r_vret F hlk hr hS d_MO_primary_85
set_option maxHeartbeats 4000000 in
set_option maxRecDepth 100000 in
theorem k_MO_primary_L31 (l : Launch) {d : Nat} {p : Program} {e : Env} {s : State} {m : MethodId} {below : List Frame} {meth : Method} {c : Code} {b n : Nat} {C : CT} (hlo : 231 ≤ n) (rc : Nat → Mem → Option Mem) (hrc0 : ∀ (M res : Mem), rc 0 M = some res → CM l b C n (d + 40) y_MO_expression b_MO_expression 1 (none) [.ref (b + 191)] M (QV b C n res)) (hrc1 : ∀ (M res : Mem), rc 1 M = some res → CM l b C n (d + 40) y_MO_conjunction b_MO_conjunction 1 (none) [.ref (b + 191)] M (QV b C n res)) (hrc2 : ∀ (M res : Mem), rc 2 M = some res → CM l b C n (d + 40) y_MO_negation b_MO_negation 2 (none) [.ref (b + 191)] M (QV b C n res)) (hrc3 : ∀ (M res : Mem), rc 3 M = some res → CM l b C n (d + 40) y_MO_sum b_MO_sum 2 (none) [.ref (b + 191)] M (QV b C n res)) (hrc4 : ∀ (M res : Mem), rc 4 M = some res → CM l b C n (d + 40) y_MO_product b_MO_product 2 (none) [.ref (b + 191)] M (QV b C n res)) (hrc5 : ∀ (M res : Mem), rc 5 M = some res → CM l b C n (d + 40) y_MO_primary b_MO_primary 2 (none) [.ref (b + 191)] M (QV b C n res)) (F : Cx b p m c b_MO_primary 2 s ([.ref (b + 191)] : List Value).toArray "WardFallsModel" C n 231) (hlk : meth.locks = false) (hr : meth.sig.returnType = none) {res : Mem} (M : Mem)  (H : Heap) (locs : List Loc) (ls : Array Slot) (hS : St b C n M s H locs) (hl : lv_has ls 2 [(0, .ref (b + 191))]) (hT : t_MO_primary_L31 rc M = some res) : W p l e (headSpec (wsM y_MO_primary b_MO_primary 2 (none)) (rmD (d + 1 + 40))).room s m ([.ref (b + 191)] : List Value).toArray below meth c H locs 0 0 (MQ below (QV b C n res) ([.ref (b + 191)] : List Value).toArray s 0 0 (frb b)) (F0 m 31 ls []) := by
  unfold t_MO_primary_L31 at hT
  refine lv_aload_n F.hx F.hb d_MO_primary_31 rfl (lv_at hl 0 rfl) ?_
  refine r_get (v := vI (M.1 191 24)) (N := 68) (T := T1) (j := 24) F hS (show 191 < 231 by decide) (show shK 191 = 5 from rfl) (show shN 191 = 68 from rfl) rfl (Nat.le_of_ble_eq_true rfl) ing1 mw_1413 (fv_int rfl) d_MO_primary_32 ?_
  have i17 := hS.rng 191 24
  refine r_if_eq (tgt := 39) F.hx F.hb i17 d_MO_primary_35 (by decide) (fun c18 => ?_) (fun c18 => ?_)
  · replace hT := (if_pos c18).symm.trans hT
    refine lv_aload_n F.hx F.hb d_MO_primary_39 rfl (lv_at hl 0 rfl) ?_
    refine lv_dup F.hx F.hb d_MO_primary_40 rfl ?_
    refine r_get (v := vI (M.1 191 28)) (N := 68) (T := T1) (j := 28) F hS (show 191 < 231 by decide) (show shK 191 = 5 from rfl) (show shN 191 = 68 from rfl) rfl (Nat.le_of_ble_eq_true rfl) ing1 mw_1417 (fv_int rfl) d_MO_primary_41 ?_
    have i19 := hS.rng 191 28
    refine r_iconst F.hx F.hb d_MO_primary_44 ?_
    refine r_iadd F.hx F.hb d_MO_primary_45 ?_
    refine r_putI (N := 68) (T := T1) (j := 28) F hS (show 191 < 231 by decide) (show shK 191 = 5 from rfl) (show shN 191 = 68 from rfl) rfl (Nat.le_of_ble_eq_true rfl) ing1 tyok1 nm1 rfl rfl rfl rfl rfl rfl mw_1417 (inr_w32 _) d_MO_primary_46 (fun H locs hS => ?_)
    obtain ⟨M20, eM20⟩ : ∃ q, q = (setI M 191 28 (w32 ((M.1 191 28) + 1))) := ⟨_, rfl⟩
    replace hS : St b C n M20 s H locs := by rw [eM20]; exact hS
    replace hT := qlet_eq hT eM20
    refine lv_aload_n F.hx F.hb d_MO_primary_49 rfl (lv_at hl 0 rfl) ?_
    obtain ⟨q21, hq21, hT⟩ := q_obind hT
    refine r_backV F hS (r_runV (k := 191) (N := 68) (T := T1) (As := []) F hS (show 191 < 231 by decide) (show shK 191 = 5 from rfl) rfl (c_MO_token l F.2.2.1 M20 _ hq21) gs_MO_205 hd_MO_token ⟨(by show 5 + 1 ≤ d + 1 + 40; omega), (by show 8 + (2 + 11) + 48 * 5 ≤ 48 * (d + 1 + 40); omega)⟩ rfl hl.1 (Nat.le_of_ble_eq_true rfl) ⟨Nat.zero_le _, Nat.zero_le _⟩ rfl d_MO_primary_50) (fun H locs hS => ?_)
    refine lv_aload_n F.hx F.hb d_MO_primary_53 rfl (lv_at hl 0 rfl) ?_
    obtain ⟨q23, hq23, hT⟩ := q_obind hT
    refine r_backV F hS (r_runV (k := 191) (N := 68) (T := T1) (As := []) F hS (show 191 < 231 by decide) (show shK 191 = 5 from rfl) rfl (hrc0 _ _ hq23) gs_MO_276 hd_MO_expression ⟨(by show (d + 40) + 1 ≤ d + 1 + 40; omega), (by show 8 + (1 + 11) + 48 * (d + 40) ≤ 48 * (d + 1 + 40); omega)⟩ rfl hl.1 (Nat.le_of_ble_eq_true rfl) ⟨Nat.zero_le _, Nat.zero_le _⟩ rfl d_MO_primary_54) (fun H locs hS => ?_)
    refine lv_aload_n F.hx F.hb d_MO_primary_57 rfl (lv_at hl 0 rfl) ?_
    refine r_get (v := vI (q23.1 191 24)) (N := 68) (T := T1) (j := 24) F hS (show 191 < 231 by decide) (show shK 191 = 5 from rfl) (show shN 191 = 68 from rfl) rfl (Nat.le_of_ble_eq_true rfl) ing1 mw_1413 (fv_int rfl) d_MO_primary_58 ?_
    have i25 := hS.rng 191 24
    refine r_if_ne (tgt := 78) F.hx F.hb i25 d_MO_primary_61 (by decide) (fun c26 => ?_) (fun c26 => ?_)
    · replace hT := (if_neg c26).symm.trans hT
      exact k_MO_primary_L78 l hlo rc hrc0 hrc1 hrc2 hrc3 hrc4 hrc5 F hlk hr q23 _ _ _ hS (lv_sub hl [0] rfl) hT
    · replace hT := (if_pos c26).symm.trans hT
      refine lv_aload_n F.hx F.hb d_MO_primary_64 rfl (lv_at hl 0 rfl) ?_
      refine r_bipush F.hx F.hb d_MO_primary_65 rfl ?_
      obtain ⟨q27, hq27⟩ : ∃ q, q = (t_MO_isSign q23 41) := ⟨_, rfl⟩
      replace hT := qlet_eq hT hq27
      refine r_backZ F hS (r_runV (k := 191) (N := 68) (T := T1) (As := [vI 41]) F hS (show 191 < 231 by decide) (show shK 191 = 5 from rfl) rfl (c_MO_isSign l F.2.2.1 q23 41 (inr_c rfl) _ hq27.symm) gs_MO_260 hd_MO_isSign ⟨(by show 0 + 1 ≤ d + 1 + 40; omega), (by show 8 + (2 + 11) + 48 * 0 ≤ 48 * (d + 1 + 40); omega)⟩ rfl hl.1 (Nat.le_of_ble_eq_true rfl) ⟨Nat.zero_le _, Nat.zero_le _⟩ rfl d_MO_primary_67) (fun H locs hS h28 => ?_)
      refine r_if_ne (tgt := 78) F.hx F.hb (inr_z h28) d_MO_primary_70 (by decide) (fun c29 => ?_) (fun c29 => ?_)
      · replace hT := (if_neg c29).symm.trans hT
        exact k_MO_primary_L78 l hlo rc hrc0 hrc1 hrc2 hrc3 hrc4 hrc5 F hlk hr q23 _ _ _ hS (lv_sub hl [0] rfl) hT
      · replace hT := (if_pos c29).symm.trans hT
        refine lv_aload_n F.hx F.hb d_MO_primary_73 rfl (lv_at hl 0 rfl) ?_
        refine r_iconst F.hx F.hb d_MO_primary_74 ?_
        obtain ⟨q30, hq30⟩ : ∃ q, q = (t_MO_wrong q23 1) := ⟨_, rfl⟩
        replace hT := qlet_eq hT hq30
        refine r_backV F hS (r_runV (k := 191) (N := 68) (T := T1) (As := [vI 1]) F hS (show 191 < 231 by decide) (show shK 191 = 5 from rfl) rfl (c_MO_wrong l F.2.2.1 q23 1 (inr_c rfl) _ hq30.symm) gs_MO_208 hd_MO_wrong ⟨(by show 0 + 1 ≤ d + 1 + 40; omega), (by show 8 + (2 + 11) + 48 * 0 ≤ 48 * (d + 1 + 40); omega)⟩ rfl hl.1 (Nat.le_of_ble_eq_true rfl) ⟨Nat.zero_le _, Nat.zero_le _⟩ rfl d_MO_primary_75) (fun H locs hS => ?_)
        exact k_MO_primary_L78 l hlo rc hrc0 hrc1 hrc2 hrc3 hrc4 hrc5 F hlk hr q30 _ _ _ hS (lv_sub hl [0] rfl) hT
  · replace hT := (if_neg c18).symm.trans hT
    cases hT
    exact r_vret F hlk hr hS d_MO_primary_38
set_option maxHeartbeats 4000000 in
set_option maxRecDepth 100000 in
theorem k_MO_primary_L194 (l : Launch) {d : Nat} {p : Program} {e : Env} {s : State} {m : MethodId} {below : List Frame} {meth : Method} {c : Code} {b n : Nat} {C : CT} (hlo : 231 ≤ n) (rc : Nat → Mem → Option Mem) (hrc0 : ∀ (M res : Mem), rc 0 M = some res → CM l b C n (d + 40) y_MO_expression b_MO_expression 1 (none) [.ref (b + 191)] M (QV b C n res)) (hrc1 : ∀ (M res : Mem), rc 1 M = some res → CM l b C n (d + 40) y_MO_conjunction b_MO_conjunction 1 (none) [.ref (b + 191)] M (QV b C n res)) (hrc2 : ∀ (M res : Mem), rc 2 M = some res → CM l b C n (d + 40) y_MO_negation b_MO_negation 2 (none) [.ref (b + 191)] M (QV b C n res)) (hrc3 : ∀ (M res : Mem), rc 3 M = some res → CM l b C n (d + 40) y_MO_sum b_MO_sum 2 (none) [.ref (b + 191)] M (QV b C n res)) (hrc4 : ∀ (M res : Mem), rc 4 M = some res → CM l b C n (d + 40) y_MO_product b_MO_product 2 (none) [.ref (b + 191)] M (QV b C n res)) (hrc5 : ∀ (M res : Mem), rc 5 M = some res → CM l b C n (d + 40) y_MO_primary b_MO_primary 2 (none) [.ref (b + 191)] M (QV b C n res)) (F : Cx b p m c b_MO_primary 2 s ([.ref (b + 191)] : List Value).toArray "WardFallsModel" C n 231) (hlk : meth.locks = false) (hr : meth.sig.returnType = none) {res : Mem} (M : Mem) (v2_ : Int) (hv2_ : v2_ = 0 ∨ v2_ = 1) (v3_ : Int) (hv3_ : InR v3_) (H : Heap) (locs : List Loc) (ls : Array Slot) (hS : St b C n M s H locs) (hl : lv_has ls 2 [(0, .ref (b + 191))]) (hT : t_MO_primary_L194 rc M v2_ v3_ = some res) : W p l e (headSpec (wsM y_MO_primary b_MO_primary 2 (none)) (rmD (d + 1 + 40))).room s m ([.ref (b + 191)] : List Value).toArray below meth c H locs 0 0 (MQ below (QV b C n res) ([.ref (b + 191)] : List Value).toArray s 0 0 (frb b)) (F0 m 194 ls [vI v3_, vI v2_, .ref (b + 191)]) := by
  unfold t_MO_primary_L194 at hT
  obtain ⟨q51, hq51, hT⟩ := q_obind hT
  refine r_backV F hS (r_runV (k := 191) (N := 68) (T := T1) (As := [vI v2_, vI v3_]) F hS (show 191 < 231 by decide) (show shK 191 = 5 from rfl) rfl (c_MO_puts l F.2.2.1 M v2_ v3_ (inr_z hv2_) hv3_ _ hq51) gs_MO_291 hd_MO_puts ⟨(by show 1 + 1 ≤ d + 1 + 40; omega), (by show 8 + (3 + 11) + 48 * 1 ≤ 48 * (d + 1 + 40); omega)⟩ rfl hl.1 (Nat.le_of_ble_eq_true rfl) ⟨Nat.zero_le _, Nat.zero_le _⟩ rfl d_MO_primary_194) (fun H locs hS => ?_)
  refine lv_aload_n F.hx F.hb d_MO_primary_197 rfl (lv_at hl 0 rfl) ?_
  obtain ⟨q53, hq53, hT⟩ := q_obind hT
  refine r_backV F hS (r_runV (k := 191) (N := 68) (T := T1) (As := []) F hS (show 191 < 231 by decide) (show shK 191 = 5 from rfl) rfl (c_MO_goOn l F.2.2.1 q51 _ hq53) gs_MO_215 hd_MO_goOn ⟨(by show 6 + 1 ≤ d + 1 + 40; omega), (by show 8 + (1 + 11) + 48 * 6 ≤ 48 * (d + 1 + 40); omega)⟩ rfl hl.1 (Nat.le_of_ble_eq_true rfl) ⟨Nat.zero_le _, Nat.zero_le _⟩ rfl d_MO_primary_198) (fun H locs hS => ?_)
  cases hT
  exact r_vret F hlk hr hS d_MO_primary_201
set_option maxHeartbeats 4000000 in
set_option maxRecDepth 100000 in
theorem k_MO_primary_L176 (l : Launch) {d : Nat} {p : Program} {e : Env} {s : State} {m : MethodId} {below : List Frame} {meth : Method} {c : Code} {b n : Nat} {C : CT} (hlo : 231 ≤ n) (rc : Nat → Mem → Option Mem) (hrc0 : ∀ (M res : Mem), rc 0 M = some res → CM l b C n (d + 40) y_MO_expression b_MO_expression 1 (none) [.ref (b + 191)] M (QV b C n res)) (hrc1 : ∀ (M res : Mem), rc 1 M = some res → CM l b C n (d + 40) y_MO_conjunction b_MO_conjunction 1 (none) [.ref (b + 191)] M (QV b C n res)) (hrc2 : ∀ (M res : Mem), rc 2 M = some res → CM l b C n (d + 40) y_MO_negation b_MO_negation 2 (none) [.ref (b + 191)] M (QV b C n res)) (hrc3 : ∀ (M res : Mem), rc 3 M = some res → CM l b C n (d + 40) y_MO_sum b_MO_sum 2 (none) [.ref (b + 191)] M (QV b C n res)) (hrc4 : ∀ (M res : Mem), rc 4 M = some res → CM l b C n (d + 40) y_MO_product b_MO_product 2 (none) [.ref (b + 191)] M (QV b C n res)) (hrc5 : ∀ (M res : Mem), rc 5 M = some res → CM l b C n (d + 40) y_MO_primary b_MO_primary 2 (none) [.ref (b + 191)] M (QV b C n res)) (F : Cx b p m c b_MO_primary 2 s ([.ref (b + 191)] : List Value).toArray "WardFallsModel" C n 231) (hlk : meth.locks = false) (hr : meth.sig.returnType = none) {res : Mem} (M : Mem) (v1_ : Int) (hv1_ : v1_ = 0 ∨ v1_ = 1) (v3_ : Int) (hv3_ : v3_ = 0 ∨ v3_ = 1) (H : Heap) (locs : List Loc) (ls : Array Slot) (hS : St b C n M s H locs) (hl : lv_has ls 2 [(0, .ref (b + 191)), (1, vI v1_)]) (hT : t_MO_primary_L176 rc M v1_ v3_ = some res) : W p l e (headSpec (wsM y_MO_primary b_MO_primary 2 (none)) (rmD (d + 1 + 40))).room s m ([.ref (b + 191)] : List Value).toArray below meth c H locs 0 0 (MQ below (QV b C n res) ([.ref (b + 191)] : List Value).toArray s 0 0 (frb b)) (F0 m 176 ls [vI v3_, .ref (b + 191)]) := by
  unfold t_MO_primary_L176 at hT
  refine lv_iload_n F.hx F.hb d_MO_primary_176 rfl (lv_at hl 1 rfl) ?_
  refine r_if_eq (tgt := 187) F.hx F.hb (inr_z hv1_) d_MO_primary_177 (by decide) (fun c48 => ?_) (fun c48 => ?_)
  · replace hT := (if_pos c48).symm.trans hT
    refine lv_aload_n F.hx F.hb d_MO_primary_187 rfl (lv_at hl 0 rfl) ?_
    refine r_get (v := vI (M.1 191 23)) (N := 68) (T := T1) (j := 23) F hS (show 191 < 231 by decide) (show shK 191 = 5 from rfl) (show shN 191 = 68 from rfl) rfl (Nat.le_of_ble_eq_true rfl) ing1 mw_1412 (fv_int rfl) d_MO_primary_188 ?_
    have i49 := hS.rng 191 23
    refine r_bipush F.hx F.hb d_MO_primary_191 rfl ?_
    refine r_isub F.hx F.hb d_MO_primary_193 ?_
    exact k_MO_primary_L194 l hlo rc hrc0 hrc1 hrc2 hrc3 hrc4 hrc5 F hlk hr M v3_ hv3_ (w32 ((M.1 191 23) - 18)) (inr_w32 _) _ _ _ hS (lv_sub hl [0] rfl) hT
  · replace hT := (if_neg c48).symm.trans hT
    refine lv_aload_n F.hx F.hb d_MO_primary_180 rfl (lv_at hl 0 rfl) ?_
    refine r_get (v := vI (M.1 191 23)) (N := 68) (T := T1) (j := 23) F hS (show 191 < 231 by decide) (show shK 191 = 5 from rfl) (show shN 191 = 68 from rfl) rfl (Nat.le_of_ble_eq_true rfl) ing1 mw_1412 (fv_int rfl) d_MO_primary_181 ?_
    have i50 := hS.rng 191 23
    refine lv_goto (tgt := 194) F.hx F.hb d_MO_primary_184 (by decide) ?_
    exact k_MO_primary_L194 l hlo rc hrc0 hrc1 hrc2 hrc3 hrc4 hrc5 F hlk hr M v3_ hv3_ (M.1 191 23) i50 _ _ _ hS (lv_sub hl [0] rfl) hT
set_option maxHeartbeats 4000000 in
set_option maxRecDepth 100000 in
theorem k_MO_primary_L162 (l : Launch) {d : Nat} {p : Program} {e : Env} {s : State} {m : MethodId} {below : List Frame} {meth : Method} {c : Code} {b n : Nat} {C : CT} (hlo : 231 ≤ n) (rc : Nat → Mem → Option Mem) (hrc0 : ∀ (M res : Mem), rc 0 M = some res → CM l b C n (d + 40) y_MO_expression b_MO_expression 1 (none) [.ref (b + 191)] M (QV b C n res)) (hrc1 : ∀ (M res : Mem), rc 1 M = some res → CM l b C n (d + 40) y_MO_conjunction b_MO_conjunction 1 (none) [.ref (b + 191)] M (QV b C n res)) (hrc2 : ∀ (M res : Mem), rc 2 M = some res → CM l b C n (d + 40) y_MO_negation b_MO_negation 2 (none) [.ref (b + 191)] M (QV b C n res)) (hrc3 : ∀ (M res : Mem), rc 3 M = some res → CM l b C n (d + 40) y_MO_sum b_MO_sum 2 (none) [.ref (b + 191)] M (QV b C n res)) (hrc4 : ∀ (M res : Mem), rc 4 M = some res → CM l b C n (d + 40) y_MO_product b_MO_product 2 (none) [.ref (b + 191)] M (QV b C n res)) (hrc5 : ∀ (M res : Mem), rc 5 M = some res → CM l b C n (d + 40) y_MO_primary b_MO_primary 2 (none) [.ref (b + 191)] M (QV b C n res)) (F : Cx b p m c b_MO_primary 2 s ([.ref (b + 191)] : List Value).toArray "WardFallsModel" C n 231) (hlk : meth.locks = false) (hr : meth.sig.returnType = none) {res : Mem} (M : Mem) (v1_ : Int) (hv1_ : v1_ = 0 ∨ v1_ = 1) (H : Heap) (locs : List Loc) (ls : Array Slot) (hS : St b C n M s H locs) (hl : lv_has ls 2 [(0, .ref (b + 191)), (1, vI v1_)]) (hT : t_MO_primary_L162 rc M v1_ = some res) : W p l e (headSpec (wsM y_MO_primary b_MO_primary 2 (none)) (rmD (d + 1 + 40))).room s m ([.ref (b + 191)] : List Value).toArray below meth c H locs 0 0 (MQ below (QV b C n res) ([.ref (b + 191)] : List Value).toArray s 0 0 (frb b)) (F0 m 162 ls []) := by
  unfold t_MO_primary_L162 at hT
  refine lv_aload_n F.hx F.hb d_MO_primary_162 rfl (lv_at hl 0 rfl) ?_
  obtain ⟨q37, hq37⟩ : ∃ q, q = (t_MO_knot M) := ⟨_, rfl⟩
  replace hT := qlet_eq hT hq37
  refine r_backV F hS (r_runV (k := 191) (N := 68) (T := T1) (As := []) F hS (show 191 < 231 by decide) (show shK 191 = 5 from rfl) rfl (c_MO_knot l F.2.2.1 M _ hq37.symm) gs_MO_288 hd_MO_knot ⟨(by show 1 + 1 ≤ d + 1 + 40; omega), (by show 8 + (1 + 11) + 48 * 1 ≤ 48 * (d + 1 + 40); omega)⟩ rfl hl.1 (Nat.le_of_ble_eq_true rfl) ⟨Nat.zero_le _, Nat.zero_le _⟩ rfl d_MO_primary_163) (fun H locs hS => ?_)
  refine lv_aload_n F.hx F.hb d_MO_primary_166 rfl (lv_at hl 0 rfl) ?_
  refine lv_iload_n F.hx F.hb d_MO_primary_167 rfl (lv_at hl 1 rfl) ?_
  refine r_if_eq (tgt := 175) F.hx F.hb (inr_z hv1_) d_MO_primary_168 (by decide) (fun c39 => ?_) (fun c39 => ?_)
  · replace hT := (if_pos c39).symm.trans hT
    refine r_iconst F.hx F.hb d_MO_primary_175 ?_
    exact k_MO_primary_L176 l hlo rc hrc0 hrc1 hrc2 hrc3 hrc4 hrc5 F hlk hr q37 v1_ hv1_ 1 (Or.inr rfl) _ _ _ hS (lv_sub hl [0, 1] rfl) hT
  · replace hT := (if_neg c39).symm.trans hT
    refine r_iconst F.hx F.hb d_MO_primary_171 ?_
    refine lv_goto (tgt := 176) F.hx F.hb d_MO_primary_172 (by decide) ?_
    exact k_MO_primary_L176 l hlo rc hrc0 hrc1 hrc2 hrc3 hrc4 hrc5 F hlk hr q37 v1_ hv1_ 0 (Or.inl rfl) _ _ _ hS (lv_sub hl [0, 1] rfl) hT
set_option maxHeartbeats 4000000 in
set_option maxRecDepth 100000 in
theorem k_MO_primary_L157 (l : Launch) {d : Nat} {p : Program} {e : Env} {s : State} {m : MethodId} {below : List Frame} {meth : Method} {c : Code} {b n : Nat} {C : CT} (hlo : 231 ≤ n) (rc : Nat → Mem → Option Mem) (hrc0 : ∀ (M res : Mem), rc 0 M = some res → CM l b C n (d + 40) y_MO_expression b_MO_expression 1 (none) [.ref (b + 191)] M (QV b C n res)) (hrc1 : ∀ (M res : Mem), rc 1 M = some res → CM l b C n (d + 40) y_MO_conjunction b_MO_conjunction 1 (none) [.ref (b + 191)] M (QV b C n res)) (hrc2 : ∀ (M res : Mem), rc 2 M = some res → CM l b C n (d + 40) y_MO_negation b_MO_negation 2 (none) [.ref (b + 191)] M (QV b C n res)) (hrc3 : ∀ (M res : Mem), rc 3 M = some res → CM l b C n (d + 40) y_MO_sum b_MO_sum 2 (none) [.ref (b + 191)] M (QV b C n res)) (hrc4 : ∀ (M res : Mem), rc 4 M = some res → CM l b C n (d + 40) y_MO_product b_MO_product 2 (none) [.ref (b + 191)] M (QV b C n res)) (hrc5 : ∀ (M res : Mem), rc 5 M = some res → CM l b C n (d + 40) y_MO_primary b_MO_primary 2 (none) [.ref (b + 191)] M (QV b C n res)) (F : Cx b p m c b_MO_primary 2 s ([.ref (b + 191)] : List Value).toArray "WardFallsModel" C n 231) (hlk : meth.locks = false) (hr : meth.sig.returnType = none) {res : Mem} (M : Mem) (v1_ : Int) (hv1_ : v1_ = 0 ∨ v1_ = 1) (H : Heap) (locs : List Loc) (ls : Array Slot) (hS : St b C n M s H locs) (hl : lv_has ls 2 [(0, .ref (b + 191)), (1, vI v1_)]) (hT : t_MO_primary_L157 rc M v1_ = some res) : W p l e (headSpec (wsM y_MO_primary b_MO_primary 2 (none)) (rmD (d + 1 + 40))).room s m ([.ref (b + 191)] : List Value).toArray below meth c H locs 0 0 (MQ below (QV b C n res) ([.ref (b + 191)] : List Value).toArray s 0 0 (frb b)) (F0 m 157 ls []) := by
  unfold t_MO_primary_L157 at hT
  refine lv_aload_n F.hx F.hb d_MO_primary_157 rfl (lv_at hl 0 rfl) ?_
  refine r_iconst F.hx F.hb d_MO_primary_158 ?_
  obtain ⟨q46, hq46⟩ : ∃ q, q = (t_MO_wrong M 1) := ⟨_, rfl⟩
  replace hT := qlet_eq hT hq46
  refine r_backV F hS (r_runV (k := 191) (N := 68) (T := T1) (As := [vI 1]) F hS (show 191 < 231 by decide) (show shK 191 = 5 from rfl) rfl (c_MO_wrong l F.2.2.1 M 1 (inr_c rfl) _ hq46.symm) gs_MO_208 hd_MO_wrong ⟨(by show 0 + 1 ≤ d + 1 + 40; omega), (by show 8 + (2 + 11) + 48 * 0 ≤ 48 * (d + 1 + 40); omega)⟩ rfl hl.1 (Nat.le_of_ble_eq_true rfl) ⟨Nat.zero_le _, Nat.zero_le _⟩ rfl d_MO_primary_159) (fun H locs hS => ?_)
  exact k_MO_primary_L162 l hlo rc hrc0 hrc1 hrc2 hrc3 hrc4 hrc5 F hlk hr q46 v1_ hv1_ _ _ _ hS (lv_sub hl [0, 1] rfl) hT
set_option maxHeartbeats 4000000 in
set_option maxRecDepth 100000 in
theorem k_MO_primary_L137 (l : Launch) {d : Nat} {p : Program} {e : Env} {s : State} {m : MethodId} {below : List Frame} {meth : Method} {c : Code} {b n : Nat} {C : CT} (hlo : 231 ≤ n) (rc : Nat → Mem → Option Mem) (hrc0 : ∀ (M res : Mem), rc 0 M = some res → CM l b C n (d + 40) y_MO_expression b_MO_expression 1 (none) [.ref (b + 191)] M (QV b C n res)) (hrc1 : ∀ (M res : Mem), rc 1 M = some res → CM l b C n (d + 40) y_MO_conjunction b_MO_conjunction 1 (none) [.ref (b + 191)] M (QV b C n res)) (hrc2 : ∀ (M res : Mem), rc 2 M = some res → CM l b C n (d + 40) y_MO_negation b_MO_negation 2 (none) [.ref (b + 191)] M (QV b C n res)) (hrc3 : ∀ (M res : Mem), rc 3 M = some res → CM l b C n (d + 40) y_MO_sum b_MO_sum 2 (none) [.ref (b + 191)] M (QV b C n res)) (hrc4 : ∀ (M res : Mem), rc 4 M = some res → CM l b C n (d + 40) y_MO_product b_MO_product 2 (none) [.ref (b + 191)] M (QV b C n res)) (hrc5 : ∀ (M res : Mem), rc 5 M = some res → CM l b C n (d + 40) y_MO_primary b_MO_primary 2 (none) [.ref (b + 191)] M (QV b C n res)) (F : Cx b p m c b_MO_primary 2 s ([.ref (b + 191)] : List Value).toArray "WardFallsModel" C n 231) (hlk : meth.locks = false) (hr : meth.sig.returnType = none) {res : Mem} (M : Mem) (v1_ : Int) (hv1_ : v1_ = 0 ∨ v1_ = 1) (H : Heap) (locs : List Loc) (ls : Array Slot) (hS : St b C n M s H locs) (hl : lv_has ls 2 [(0, .ref (b + 191)), (1, vI v1_)]) (hT : t_MO_primary_L137 rc M v1_ = some res) : W p l e (headSpec (wsM y_MO_primary b_MO_primary 2 (none)) (rmD (d + 1 + 40))).room s m ([.ref (b + 191)] : List Value).toArray below meth c H locs 0 0 (MQ below (QV b C n res) ([.ref (b + 191)] : List Value).toArray s 0 0 (frb b)) (F0 m 137 ls []) := by
  unfold t_MO_primary_L137 at hT
  refine lv_iload_n F.hx F.hb d_MO_primary_137 rfl (lv_at hl 1 rfl) ?_
  refine r_if_ne (tgt := 162) F.hx F.hb (inr_z hv1_) d_MO_primary_138 (by decide) (fun c32 => ?_) (fun c32 => ?_)
  · replace hT := (if_neg c32).symm.trans hT
    exact k_MO_primary_L162 l hlo rc hrc0 hrc1 hrc2 hrc3 hrc4 hrc5 F hlk hr M v1_ hv1_ _ _ _ hS (lv_sub hl [0, 1] rfl) hT
  · replace hT := (if_pos c32).symm.trans hT
    refine lv_aload_n F.hx F.hb d_MO_primary_141 rfl (lv_at hl 0 rfl) ?_
    refine r_get (v := vI (M.1 191 22)) (N := 68) (T := T1) (j := 22) F hS (show 191 < 231 by decide) (show shK 191 = 5 from rfl) (show shN 191 = 68 from rfl) rfl (Nat.le_of_ble_eq_true rfl) ing1 mw_1411 (fv_int rfl) d_MO_primary_142 ?_
    have i33 := hS.rng 191 22
    refine r_if_ne (tgt := 157) F.hx F.hb i33 d_MO_primary_145 (by decide) (fun c34 => ?_) (fun c34 => ?_)
    · replace hT := (if_neg c34).symm.trans hT
      exact k_MO_primary_L157 l hlo rc hrc0 hrc1 hrc2 hrc3 hrc4 hrc5 F hlk hr M v1_ hv1_ _ _ _ hS (lv_sub hl [0, 1] rfl) hT
    · replace hT := (if_pos c34).symm.trans hT
      refine lv_aload_n F.hx F.hb d_MO_primary_148 rfl (lv_at hl 0 rfl) ?_
      refine r_get (v := vI (M.1 191 23)) (N := 68) (T := T1) (j := 23) F hS (show 191 < 231 by decide) (show shK 191 = 5 from rfl) (show shN 191 = 68 from rfl) rfl (Nat.le_of_ble_eq_true rfl) ing1 mw_1412 (fv_int rfl) d_MO_primary_149 ?_
      have i35 := hS.rng 191 23
      refine r_bipush F.hx F.hb d_MO_primary_152 rfl ?_
      refine r_icmp_ge (tgt := 162) F.hx F.hb i35 (inr_c rfl) d_MO_primary_154 (by decide) (fun c36 => ?_) (fun c36 => ?_)
      · replace hT := (if_pos c36).symm.trans hT
        exact k_MO_primary_L162 l hlo rc hrc0 hrc1 hrc2 hrc3 hrc4 hrc5 F hlk hr M v1_ hv1_ _ _ _ hS (lv_sub hl [0, 1] rfl) hT
      · replace hT := (if_neg c36).symm.trans hT
        exact k_MO_primary_L157 l hlo rc hrc0 hrc1 hrc2 hrc3 hrc4 hrc5 F hlk hr M v1_ hv1_ _ _ _ hS (lv_sub hl [0, 1] rfl) hT
set_option maxHeartbeats 4000000 in
set_option maxRecDepth 100000 in
theorem k_MO_primary_L114 (l : Launch) {d : Nat} {p : Program} {e : Env} {s : State} {m : MethodId} {below : List Frame} {meth : Method} {c : Code} {b n : Nat} {C : CT} (hlo : 231 ≤ n) (rc : Nat → Mem → Option Mem) (hrc0 : ∀ (M res : Mem), rc 0 M = some res → CM l b C n (d + 40) y_MO_expression b_MO_expression 1 (none) [.ref (b + 191)] M (QV b C n res)) (hrc1 : ∀ (M res : Mem), rc 1 M = some res → CM l b C n (d + 40) y_MO_conjunction b_MO_conjunction 1 (none) [.ref (b + 191)] M (QV b C n res)) (hrc2 : ∀ (M res : Mem), rc 2 M = some res → CM l b C n (d + 40) y_MO_negation b_MO_negation 2 (none) [.ref (b + 191)] M (QV b C n res)) (hrc3 : ∀ (M res : Mem), rc 3 M = some res → CM l b C n (d + 40) y_MO_sum b_MO_sum 2 (none) [.ref (b + 191)] M (QV b C n res)) (hrc4 : ∀ (M res : Mem), rc 4 M = some res → CM l b C n (d + 40) y_MO_product b_MO_product 2 (none) [.ref (b + 191)] M (QV b C n res)) (hrc5 : ∀ (M res : Mem), rc 5 M = some res → CM l b C n (d + 40) y_MO_primary b_MO_primary 2 (none) [.ref (b + 191)] M (QV b C n res)) (F : Cx b p m c b_MO_primary 2 s ([.ref (b + 191)] : List Value).toArray "WardFallsModel" C n 231) (hlk : meth.locks = false) (hr : meth.sig.returnType = none) {res : Mem} (M : Mem) (v1_ : Int) (hv1_ : v1_ = 0 ∨ v1_ = 1) (H : Heap) (locs : List Loc) (ls : Array Slot) (hS : St b C n M s H locs) (hl : lv_has ls 2 [(0, .ref (b + 191))]) (hT : t_MO_primary_L114 rc M v1_ = some res) : W p l e (headSpec (wsM y_MO_primary b_MO_primary 2 (none)) (rmD (d + 1 + 40))).room s m ([.ref (b + 191)] : List Value).toArray below meth c H locs 0 0 (MQ below (QV b C n res) ([.ref (b + 191)] : List Value).toArray s 0 0 (frb b)) (F0 m 114 ls [vI v1_]) := by
  unfold t_MO_primary_L114 at hT
  refine lv_istore_n (lv' := [(1, vI v1_), (0, .ref (b + 191))]) F.hx F.hb d_MO_primary_114 rfl hl (Nat.le_of_ble_eq_true rfl) rfl (fun ls hl => ?_)
  refine lv_iload_n F.hx F.hb d_MO_primary_115 rfl (lv_at hl 0 rfl) ?_
  refine r_if_eq (tgt := 137) F.hx F.hb (inr_z hv1_) d_MO_primary_116 (by decide) (fun c12 => ?_) (fun c12 => ?_)
  · replace hT := (if_pos c12).symm.trans hT
    exact k_MO_primary_L137 l hlo rc hrc0 hrc1 hrc2 hrc3 hrc4 hrc5 F hlk hr M v1_ hv1_ _ _ _ hS (lv_sub hl [1, 0] rfl) hT
  · replace hT := (if_neg c12).symm.trans hT
    refine lv_aload_n F.hx F.hb d_MO_primary_119 rfl (lv_at hl 1 rfl) ?_
    refine r_get (v := vI (M.1 191 23)) (N := 68) (T := T1) (j := 23) F hS (show 191 < 231 by decide) (show shK 191 = 5 from rfl) (show shN 191 = 68 from rfl) rfl (Nat.le_of_ble_eq_true rfl) ing1 mw_1412 (fv_int rfl) d_MO_primary_120 ?_
    have i13 := hS.rng 191 23
    refine r_sipush F.hx F.hb d_MO_primary_123 rfl ?_
    refine r_icmp_le (tgt := 137) F.hx F.hb i13 (inr_c rfl) d_MO_primary_126 (by decide) (fun c14 => ?_) (fun c14 => ?_)
    · replace hT := (if_pos c14).symm.trans hT
      exact k_MO_primary_L137 l hlo rc hrc0 hrc1 hrc2 hrc3 hrc4 hrc5 F hlk hr M v1_ hv1_ _ _ _ hS (lv_sub hl [1, 0] rfl) hT
    · replace hT := (if_neg c14).symm.trans hT
      refine lv_aload_n F.hx F.hb d_MO_primary_129 rfl (lv_at hl 1 rfl) ?_
      refine r_iconst F.hx F.hb d_MO_primary_130 ?_
      obtain ⟨q15, hq15⟩ : ∃ q, q = (t_MO_wrong M 2) := ⟨_, rfl⟩
      replace hT := qlet_eq hT hq15
      refine r_backV F hS (r_runV (k := 191) (N := 68) (T := T1) (As := [vI 2]) F hS (show 191 < 231 by decide) (show shK 191 = 5 from rfl) rfl (c_MO_wrong l F.2.2.1 M 2 (inr_c rfl) _ hq15.symm) gs_MO_208 hd_MO_wrong ⟨(by show 0 + 1 ≤ d + 1 + 40; omega), (by show 8 + (2 + 11) + 48 * 0 ≤ 48 * (d + 1 + 40); omega)⟩ rfl hl.1 (Nat.le_of_ble_eq_true rfl) ⟨Nat.zero_le _, Nat.zero_le _⟩ rfl d_MO_primary_131) (fun H locs hS => ?_)
      refine lv_goto (tgt := 162) F.hx F.hb d_MO_primary_134 (by decide) ?_
      exact k_MO_primary_L162 l hlo rc hrc0 hrc1 hrc2 hrc3 hrc4 hrc5 F hlk hr q15 v1_ hv1_ _ _ _ hS (lv_sub hl [1, 0] rfl) hT
set_option maxHeartbeats 4000000 in
set_option maxRecDepth 100000 in
theorem c_MO_primary_B (l : Launch) {d : Nat} {b n : Nat} {C : CT} (hlo : 231 ≤ n) (M : Mem) (rc : Nat → Mem → Option Mem) (hrc0 : ∀ (M res : Mem), rc 0 M = some res → CM l b C n (d + 40) y_MO_expression b_MO_expression 1 (none) [.ref (b + 191)] M (QV b C n res)) (hrc1 : ∀ (M res : Mem), rc 1 M = some res → CM l b C n (d + 40) y_MO_conjunction b_MO_conjunction 1 (none) [.ref (b + 191)] M (QV b C n res)) (hrc2 : ∀ (M res : Mem), rc 2 M = some res → CM l b C n (d + 40) y_MO_negation b_MO_negation 2 (none) [.ref (b + 191)] M (QV b C n res)) (hrc3 : ∀ (M res : Mem), rc 3 M = some res → CM l b C n (d + 40) y_MO_sum b_MO_sum 2 (none) [.ref (b + 191)] M (QV b C n res)) (hrc4 : ∀ (M res : Mem), rc 4 M = some res → CM l b C n (d + 40) y_MO_product b_MO_product 2 (none) [.ref (b + 191)] M (QV b C n res)) (hrc5 : ∀ (M res : Mem), rc 5 M = some res → CM l b C n (d + 40) y_MO_primary b_MO_primary 2 (none) [.ref (b + 191)] M (QV b C n res)) (res : Mem) (hT : t_MO_primary_B M rc = some res) : CM l b C n (d + 1 + 40) y_MO_primary b_MO_primary 2 (none) [.ref (b + 191)] M (QV b C n res) := by
  refine CM.of (lo := 231) (ow := "WardFallsModel") (by decide) rfl (Nat.le_of_ble_eq_true rfl) hlo (fun p e s m below meth c F hlk hr hS ls hl => ?_)
  have hl : lv_has ls 2 [(0, .ref (b + 191))] := hl
  unfold t_MO_primary_B at hT
  refine lv_aload_n F.hx F.hb d_MO_primary_0 rfl (lv_at hl 0 rfl) ?_
  refine r_get (v := vI (M.1 191 24)) (N := 68) (T := T1) (j := 24) F hS (show 191 < 231 by decide) (show shK 191 = 5 from rfl) (show shN 191 = 68 from rfl) rfl (Nat.le_of_ble_eq_true rfl) ing1 mw_1413 (fv_int rfl) d_MO_primary_1 ?_
  have i1 := hS.rng 191 24
  refine r_if_eq (tgt := 8) F.hx F.hb i1 d_MO_primary_4 (by decide) (fun c2 => ?_) (fun c2 => ?_)
  · replace hT := (if_pos c2).symm.trans hT
    refine lv_aload_n F.hx F.hb d_MO_primary_8 rfl (lv_at hl 0 rfl) ?_
    refine r_bipush F.hx F.hb d_MO_primary_9 rfl ?_
    obtain ⟨q3, hq3⟩ : ∃ q, q = (t_MO_isSign M 40) := ⟨_, rfl⟩
    replace hT := qlet_eq hT hq3
    refine r_backZ F hS (r_runV (k := 191) (N := 68) (T := T1) (As := [vI 40]) F hS (show 191 < 231 by decide) (show shK 191 = 5 from rfl) rfl (c_MO_isSign l F.2.2.1 M 40 (inr_c rfl) _ hq3.symm) gs_MO_260 hd_MO_isSign ⟨(by show 0 + 1 ≤ d + 1 + 40; omega), (by show 8 + (2 + 11) + 48 * 0 ≤ 48 * (d + 1 + 40); omega)⟩ rfl hl.1 (Nat.le_of_ble_eq_true rfl) ⟨Nat.zero_le _, Nat.zero_le _⟩ rfl d_MO_primary_11) (fun H locs hS h4 => ?_)
    refine r_if_eq (tgt := 101) F.hx F.hb (inr_z h4) d_MO_primary_14 (by decide) (fun c5 => ?_) (fun c5 => ?_)
    · replace hT := (if_pos c5).symm.trans hT
      refine lv_aload_n F.hx F.hb d_MO_primary_101 rfl (lv_at hl 0 rfl) ?_
      refine r_get (v := vI (M.1 191 22)) (N := 68) (T := T1) (j := 22) F hS (show 191 < 231 by decide) (show shK 191 = 5 from rfl) (show shN 191 = 68 from rfl) rfl (Nat.le_of_ble_eq_true rfl) ing1 mw_1411 (fv_int rfl) d_MO_primary_102 ?_
      have i6 := hS.rng 191 22
      refine r_iconst F.hx F.hb d_MO_primary_105 ?_
      refine r_icmp_ne (tgt := 113) F.hx F.hb i6 (inr_c rfl) d_MO_primary_106 (by decide) (fun c7 => ?_) (fun c7 => ?_)
      · replace hT := (if_neg c7).symm.trans hT
        refine r_iconst F.hx F.hb d_MO_primary_113 ?_
        exact k_MO_primary_L114 l hlo rc hrc0 hrc1 hrc2 hrc3 hrc4 hrc5 F hlk hr M 0 (Or.inl rfl) _ _ _ hS (lv_sub hl [0] rfl) hT
      · replace hT := (if_pos c7).symm.trans hT
        refine r_iconst F.hx F.hb d_MO_primary_109 ?_
        refine lv_goto (tgt := 114) F.hx F.hb d_MO_primary_110 (by decide) ?_
        exact k_MO_primary_L114 l hlo rc hrc0 hrc1 hrc2 hrc3 hrc4 hrc5 F hlk hr M 1 (Or.inr rfl) _ _ _ hS (lv_sub hl [0] rfl) hT
    · replace hT := (if_neg c5).symm.trans hT
      refine lv_aload_n F.hx F.hb d_MO_primary_17 rfl (lv_at hl 0 rfl) ?_
      refine r_get (v := vI (M.1 191 28)) (N := 68) (T := T1) (j := 28) F hS (show 191 < 231 by decide) (show shK 191 = 5 from rfl) (show shN 191 = 68 from rfl) rfl (Nat.le_of_ble_eq_true rfl) ing1 mw_1417 (fv_int rfl) d_MO_primary_18 ?_
      have i8 := hS.rng 191 28
      refine r_bipush F.hx F.hb d_MO_primary_21 rfl ?_
      refine r_icmp_ne (tgt := 31) F.hx F.hb i8 (inr_c rfl) d_MO_primary_23 (by decide) (fun c9 => ?_) (fun c9 => ?_)
      · replace hT := (if_neg c9).symm.trans hT
        exact k_MO_primary_L31 l hlo rc hrc0 hrc1 hrc2 hrc3 hrc4 hrc5 F hlk hr M _ _ _ hS (lv_sub hl [0] rfl) hT
      · replace hT := (if_pos c9).symm.trans hT
        refine lv_aload_n F.hx F.hb d_MO_primary_26 rfl (lv_at hl 0 rfl) ?_
        refine r_iconst F.hx F.hb d_MO_primary_27 ?_
        obtain ⟨q10, hq10⟩ : ∃ q, q = (t_MO_wrong M 2) := ⟨_, rfl⟩
        replace hT := qlet_eq hT hq10
        refine r_backV F hS (r_runV (k := 191) (N := 68) (T := T1) (As := [vI 2]) F hS (show 191 < 231 by decide) (show shK 191 = 5 from rfl) rfl (c_MO_wrong l F.2.2.1 M 2 (inr_c rfl) _ hq10.symm) gs_MO_208 hd_MO_wrong ⟨(by show 0 + 1 ≤ d + 1 + 40; omega), (by show 8 + (2 + 11) + 48 * 0 ≤ 48 * (d + 1 + 40); omega)⟩ rfl hl.1 (Nat.le_of_ble_eq_true rfl) ⟨Nat.zero_le _, Nat.zero_le _⟩ rfl d_MO_primary_28) (fun H locs hS => ?_)
        exact k_MO_primary_L31 l hlo rc hrc0 hrc1 hrc2 hrc3 hrc4 hrc5 F hlk hr q10 _ _ _ hS (lv_sub hl [0] rfl) hT
  · replace hT := (if_neg c2).symm.trans hT
    cases hT
    exact r_vret F hlk hr hS d_MO_primary_7
theorem d_MO_product_0 : decode b_MO_product 0 = .ok (.aload_n 0, 1) := dc_42 (by decide +kernel)
theorem d_MO_product_1 : decode b_MO_product 1 = .ok (.invokevirtual 303, 3) := dc_182 (by decide +kernel)
theorem d_MO_product_4 : decode b_MO_product 4 = .ok (.aload_n 0, 1) := dc_42 (by decide +kernel)
theorem d_MO_product_5 : decode b_MO_product 5 = .ok (.bipush 42, 2) := dc_16 (by decide +kernel)
theorem d_MO_product_7 : decode b_MO_product 7 = .ok (.invokevirtual 260, 3) := dc_182 (by decide +kernel)
theorem d_MO_product_10 : decode b_MO_product 10 = .ok (.ifCond .ne 12, 3) := dc_154 (by decide +kernel)
theorem d_MO_product_13 : decode b_MO_product 13 = .ok (.aload_n 0, 1) := dc_42 (by decide +kernel)
theorem d_MO_product_14 : decode b_MO_product 14 = .ok (.bipush 47, 2) := dc_16 (by decide +kernel)
theorem d_MO_product_16 : decode b_MO_product 16 = .ok (.invokevirtual 260, 3) := dc_182 (by decide +kernel)
theorem d_MO_product_19 : decode b_MO_product 19 = .ok (.ifCond .eq 29, 3) := dc_153 (by decide +kernel)
theorem d_MO_product_22 : decode b_MO_product 22 = .ok (.aload_n 0, 1) := dc_42 (by decide +kernel)
theorem d_MO_product_23 : decode b_MO_product 23 = .ok (.getfield 174, 3) := dc_180 (by decide +kernel)
theorem d_MO_product_26 : decode b_MO_product 26 = .ok (.istore_n 1, 1) := dc_60 (by decide +kernel)
theorem d_MO_product_27 : decode b_MO_product 27 = .ok (.aload_n 0, 1) := dc_42 (by decide +kernel)
theorem d_MO_product_28 : decode b_MO_product 28 = .ok (.invokevirtual 288, 3) := dc_182 (by decide +kernel)
theorem d_MO_product_31 : decode b_MO_product 31 = .ok (.aload_n 0, 1) := dc_42 (by decide +kernel)
theorem d_MO_product_32 : decode b_MO_product 32 = .ok (.invokevirtual 215, 3) := dc_182 (by decide +kernel)
theorem d_MO_product_35 : decode b_MO_product 35 = .ok (.aload_n 0, 1) := dc_42 (by decide +kernel)
theorem d_MO_product_36 : decode b_MO_product 36 = .ok (.invokevirtual 303, 3) := dc_182 (by decide +kernel)
theorem d_MO_product_39 : decode b_MO_product 39 = .ok (.aload_n 0, 1) := dc_42 (by decide +kernel)
theorem d_MO_product_40 : decode b_MO_product 40 = .ok (.iconst 2, 1) := dc_5 (by decide +kernel)
theorem d_MO_product_41 : decode b_MO_product 41 = .ok (.iload_n 1, 1) := dc_27 (by decide +kernel)
theorem d_MO_product_42 : decode b_MO_product 42 = .ok (.invokevirtual 291, 3) := dc_182 (by decide +kernel)
theorem d_MO_product_45 : decode b_MO_product 45 = .ok (.goto (-41), 3) := dc_167 (by decide +kernel)
theorem d_MO_product_48 : decode b_MO_product 48 = .ok (.return_, 1) := dc_177 (by decide +kernel)
def t_MO_product_L22 (rc : Nat → Mem → Option Mem) (bk4 : Mem → Option (Mem)) (M : Mem)  : Option (Mem) := (qlet (t_MO_knot M) fun q10 => (obind (t_MO_goOn q10) fun q12 => (obind (rc 5 q12) fun q14 => (obind (t_MO_puts q14 2 (M.1 191 23)) fun q16 => (bk4 q16)))))
def t_MO_product_L4 (rc : Nat → Mem → Option Mem)  : Nat → Mem → Option (Mem)
  | 0, _ => none
  | fu + 1, M => (qlet (t_MO_isSign M 42) fun q3 => (if q3 = 0 then (qlet (t_MO_isSign M 47) fun q6 => (if q6 = 0 then (some M) else (t_MO_product_L22 rc (fun a0_ => t_MO_product_L4 rc fu a0_) M))) else (t_MO_product_L22 rc (fun a0_ => t_MO_product_L4 rc fu a0_) M)))
def t_MO_product_B (M : Mem) (rc : Nat → Mem → Option Mem) : Option (Mem) := (obind (rc 5 M) fun q1 => (t_MO_product_L4 rc FU q1))
set_option maxHeartbeats 4000000 in
set_option maxRecDepth 100000 in
theorem k_MO_product_L22 (l : Launch) {d : Nat} {p : Program} {e : Env} {s : State} {m : MethodId} {below : List Frame} {meth : Method} {c : Code} {b n : Nat} {C : CT} (hlo : 231 ≤ n) (rc : Nat → Mem → Option Mem) (hrc0 : ∀ (M res : Mem), rc 0 M = some res → CM l b C n (d + 40) y_MO_expression b_MO_expression 1 (none) [.ref (b + 191)] M (QV b C n res)) (hrc1 : ∀ (M res : Mem), rc 1 M = some res → CM l b C n (d + 40) y_MO_conjunction b_MO_conjunction 1 (none) [.ref (b + 191)] M (QV b C n res)) (hrc2 : ∀ (M res : Mem), rc 2 M = some res → CM l b C n (d + 40) y_MO_negation b_MO_negation 2 (none) [.ref (b + 191)] M (QV b C n res)) (hrc3 : ∀ (M res : Mem), rc 3 M = some res → CM l b C n (d + 40) y_MO_sum b_MO_sum 2 (none) [.ref (b + 191)] M (QV b C n res)) (hrc4 : ∀ (M res : Mem), rc 4 M = some res → CM l b C n (d + 40) y_MO_product b_MO_product 2 (none) [.ref (b + 191)] M (QV b C n res)) (hrc5 : ∀ (M res : Mem), rc 5 M = some res → CM l b C n (d + 40) y_MO_primary b_MO_primary 2 (none) [.ref (b + 191)] M (QV b C n res)) (F : Cx b p m c b_MO_product 2 s ([.ref (b + 191)] : List Value).toArray "WardFallsModel" C n 231) (hlk : meth.locks = false) (hr : meth.sig.returnType = none) {res : Mem} (bk4 : Mem → Option (Mem)) (hbk4 : ∀ (M : Mem)  (H : Heap) (locs : List Loc) (ls : Array Slot), St b C n M s H locs → lv_has ls 2 [(0, .ref (b + 191))] → bk4 M  = some res → W p l e (headSpec (wsM y_MO_product b_MO_product 2 (none)) (rmD (d + 1 + 40))).room s m ([.ref (b + 191)] : List Value).toArray below meth c H locs 0 0 (MQ below (QV b C n res) ([.ref (b + 191)] : List Value).toArray s 0 0 (frb b)) (F0 m 4 ls [])) (M : Mem)  (H : Heap) (locs : List Loc) (ls : Array Slot) (hS : St b C n M s H locs) (hl : lv_has ls 2 [(0, .ref (b + 191))]) (hT : t_MO_product_L22 rc bk4 M = some res) : W p l e (headSpec (wsM y_MO_product b_MO_product 2 (none)) (rmD (d + 1 + 40))).room s m ([.ref (b + 191)] : List Value).toArray below meth c H locs 0 0 (MQ below (QV b C n res) ([.ref (b + 191)] : List Value).toArray s 0 0 (frb b)) (F0 m 22 ls []) := by
  unfold t_MO_product_L22 at hT
  refine lv_aload_n F.hx F.hb d_MO_product_22 rfl (lv_at hl 0 rfl) ?_
  refine r_get (v := vI (M.1 191 23)) (N := 68) (T := T1) (j := 23) F hS (show 191 < 231 by decide) (show shK 191 = 5 from rfl) (show shN 191 = 68 from rfl) rfl (Nat.le_of_ble_eq_true rfl) ing1 mw_1412 (fv_int rfl) d_MO_product_23 ?_
  have i9 := hS.rng 191 23
  refine lv_istore_n (lv' := [(1, vI (M.1 191 23)), (0, .ref (b + 191))]) F.hx F.hb d_MO_product_26 rfl hl (Nat.le_of_ble_eq_true rfl) rfl (fun ls hl => ?_)
  refine lv_aload_n F.hx F.hb d_MO_product_27 rfl (lv_at hl 1 rfl) ?_
  obtain ⟨q10, hq10⟩ : ∃ q, q = (t_MO_knot M) := ⟨_, rfl⟩
  replace hT := qlet_eq hT hq10
  refine r_backV F hS (r_runV (k := 191) (N := 68) (T := T1) (As := []) F hS (show 191 < 231 by decide) (show shK 191 = 5 from rfl) rfl (c_MO_knot l F.2.2.1 M _ hq10.symm) gs_MO_288 hd_MO_knot ⟨(by show 1 + 1 ≤ d + 1 + 40; omega), (by show 8 + (1 + 11) + 48 * 1 ≤ 48 * (d + 1 + 40); omega)⟩ rfl hl.1 (Nat.le_of_ble_eq_true rfl) ⟨Nat.zero_le _, Nat.zero_le _⟩ rfl d_MO_product_28) (fun H locs hS => ?_)
  refine lv_aload_n F.hx F.hb d_MO_product_31 rfl (lv_at hl 1 rfl) ?_
  obtain ⟨q12, hq12, hT⟩ := q_obind hT
  refine r_backV F hS (r_runV (k := 191) (N := 68) (T := T1) (As := []) F hS (show 191 < 231 by decide) (show shK 191 = 5 from rfl) rfl (c_MO_goOn l F.2.2.1 q10 _ hq12) gs_MO_215 hd_MO_goOn ⟨(by show 6 + 1 ≤ d + 1 + 40; omega), (by show 8 + (1 + 11) + 48 * 6 ≤ 48 * (d + 1 + 40); omega)⟩ rfl hl.1 (Nat.le_of_ble_eq_true rfl) ⟨Nat.zero_le _, Nat.zero_le _⟩ rfl d_MO_product_32) (fun H locs hS => ?_)
  refine lv_aload_n F.hx F.hb d_MO_product_35 rfl (lv_at hl 1 rfl) ?_
  obtain ⟨q14, hq14, hT⟩ := q_obind hT
  refine r_backV F hS (r_runV (k := 191) (N := 68) (T := T1) (As := []) F hS (show 191 < 231 by decide) (show shK 191 = 5 from rfl) rfl (hrc5 _ _ hq14) gs_MO_303 hd_MO_primary ⟨(by show (d + 40) + 1 ≤ d + 1 + 40; omega), (by show 8 + (2 + 11) + 48 * (d + 40) ≤ 48 * (d + 1 + 40); omega)⟩ rfl hl.1 (Nat.le_of_ble_eq_true rfl) ⟨Nat.zero_le _, Nat.zero_le _⟩ rfl d_MO_product_36) (fun H locs hS => ?_)
  refine lv_aload_n F.hx F.hb d_MO_product_39 rfl (lv_at hl 1 rfl) ?_
  refine r_iconst F.hx F.hb d_MO_product_40 ?_
  refine lv_iload_n F.hx F.hb d_MO_product_41 rfl (lv_at hl 0 rfl) ?_
  obtain ⟨q16, hq16, hT⟩ := q_obind hT
  refine r_backV F hS (r_runV (k := 191) (N := 68) (T := T1) (As := [vI 2, vI (M.1 191 23)]) F hS (show 191 < 231 by decide) (show shK 191 = 5 from rfl) rfl (c_MO_puts l F.2.2.1 q14 2 (M.1 191 23) (inr_c rfl) i9 _ hq16) gs_MO_291 hd_MO_puts ⟨(by show 1 + 1 ≤ d + 1 + 40; omega), (by show 8 + (3 + 11) + 48 * 1 ≤ 48 * (d + 1 + 40); omega)⟩ rfl hl.1 (Nat.le_of_ble_eq_true rfl) ⟨Nat.zero_le _, Nat.zero_le _⟩ rfl d_MO_product_42) (fun H locs hS => ?_)
  refine lv_goto (tgt := 4) F.hx F.hb d_MO_product_45 (by decide) ?_
  exact hbk4 q16 _ _ _ hS (lv_sub hl [1] rfl) hT
set_option maxHeartbeats 4000000 in
set_option maxRecDepth 100000 in
theorem k_MO_product_L4 (l : Launch) {d : Nat} {p : Program} {e : Env} {s : State} {m : MethodId} {below : List Frame} {meth : Method} {c : Code} {b n : Nat} {C : CT} (hlo : 231 ≤ n) (rc : Nat → Mem → Option Mem) (hrc0 : ∀ (M res : Mem), rc 0 M = some res → CM l b C n (d + 40) y_MO_expression b_MO_expression 1 (none) [.ref (b + 191)] M (QV b C n res)) (hrc1 : ∀ (M res : Mem), rc 1 M = some res → CM l b C n (d + 40) y_MO_conjunction b_MO_conjunction 1 (none) [.ref (b + 191)] M (QV b C n res)) (hrc2 : ∀ (M res : Mem), rc 2 M = some res → CM l b C n (d + 40) y_MO_negation b_MO_negation 2 (none) [.ref (b + 191)] M (QV b C n res)) (hrc3 : ∀ (M res : Mem), rc 3 M = some res → CM l b C n (d + 40) y_MO_sum b_MO_sum 2 (none) [.ref (b + 191)] M (QV b C n res)) (hrc4 : ∀ (M res : Mem), rc 4 M = some res → CM l b C n (d + 40) y_MO_product b_MO_product 2 (none) [.ref (b + 191)] M (QV b C n res)) (hrc5 : ∀ (M res : Mem), rc 5 M = some res → CM l b C n (d + 40) y_MO_primary b_MO_primary 2 (none) [.ref (b + 191)] M (QV b C n res)) (F : Cx b p m c b_MO_product 2 s ([.ref (b + 191)] : List Value).toArray "WardFallsModel" C n 231) (hlk : meth.locks = false) (hr : meth.sig.returnType = none) {res : Mem} : ∀ (fu : Nat) (M : Mem)  (H : Heap) (locs : List Loc) (ls : Array Slot), St b C n M s H locs → lv_has ls 2 [(0, .ref (b + 191))] → t_MO_product_L4 rc fu M = some res → W p l e (headSpec (wsM y_MO_product b_MO_product 2 (none)) (rmD (d + 1 + 40))).room s m ([.ref (b + 191)] : List Value).toArray below meth c H locs 0 0 (MQ below (QV b C n res) ([.ref (b + 191)] : List Value).toArray s 0 0 (frb b)) (F0 m 4 ls []) := by
  intro fu
  induction fu with
  | zero => intro M  H locs ls hS hl hT; exact absurd hT (by simp [t_MO_product_L4])
  | succ fu ih =>
    intro M  H locs ls hS hl hT
    rw [t_MO_product_L4] at hT
    refine lv_aload_n F.hx F.hb d_MO_product_4 rfl (lv_at hl 0 rfl) ?_
    refine r_bipush F.hx F.hb d_MO_product_5 rfl ?_
    obtain ⟨q3, hq3⟩ : ∃ q, q = (t_MO_isSign M 42) := ⟨_, rfl⟩
    replace hT := qlet_eq hT hq3
    refine r_backZ F hS (r_runV (k := 191) (N := 68) (T := T1) (As := [vI 42]) F hS (show 191 < 231 by decide) (show shK 191 = 5 from rfl) rfl (c_MO_isSign l F.2.2.1 M 42 (inr_c rfl) _ hq3.symm) gs_MO_260 hd_MO_isSign ⟨(by show 0 + 1 ≤ d + 1 + 40; omega), (by show 8 + (2 + 11) + 48 * 0 ≤ 48 * (d + 1 + 40); omega)⟩ rfl hl.1 (Nat.le_of_ble_eq_true rfl) ⟨Nat.zero_le _, Nat.zero_le _⟩ rfl d_MO_product_7) (fun H locs hS h4 => ?_)
    refine r_if_ne (tgt := 22) F.hx F.hb (inr_z h4) d_MO_product_10 (by decide) (fun c5 => ?_) (fun c5 => ?_)
    · replace hT := (if_neg c5).symm.trans hT
      exact k_MO_product_L22 l hlo rc hrc0 hrc1 hrc2 hrc3 hrc4 hrc5 F hlk hr (fun a0_ => t_MO_product_L4 rc fu a0_) ih M _ _ _ hS (lv_sub hl [0] rfl) hT
    · replace hT := (if_pos c5).symm.trans hT
      refine lv_aload_n F.hx F.hb d_MO_product_13 rfl (lv_at hl 0 rfl) ?_
      refine r_bipush F.hx F.hb d_MO_product_14 rfl ?_
      obtain ⟨q6, hq6⟩ : ∃ q, q = (t_MO_isSign M 47) := ⟨_, rfl⟩
      replace hT := qlet_eq hT hq6
      refine r_backZ F hS (r_runV (k := 191) (N := 68) (T := T1) (As := [vI 47]) F hS (show 191 < 231 by decide) (show shK 191 = 5 from rfl) rfl (c_MO_isSign l F.2.2.1 M 47 (inr_c rfl) _ hq6.symm) gs_MO_260 hd_MO_isSign ⟨(by show 0 + 1 ≤ d + 1 + 40; omega), (by show 8 + (2 + 11) + 48 * 0 ≤ 48 * (d + 1 + 40); omega)⟩ rfl hl.1 (Nat.le_of_ble_eq_true rfl) ⟨Nat.zero_le _, Nat.zero_le _⟩ rfl d_MO_product_16) (fun H locs hS h7 => ?_)
      refine r_if_eq (tgt := 48) F.hx F.hb (inr_z h7) d_MO_product_19 (by decide) (fun c8 => ?_) (fun c8 => ?_)
      · replace hT := (if_pos c8).symm.trans hT
        cases hT
        exact r_vret F hlk hr hS d_MO_product_48
      · replace hT := (if_neg c8).symm.trans hT
        exact k_MO_product_L22 l hlo rc hrc0 hrc1 hrc2 hrc3 hrc4 hrc5 F hlk hr (fun a0_ => t_MO_product_L4 rc fu a0_) ih M _ _ _ hS (lv_sub hl [0] rfl) hT
set_option maxHeartbeats 4000000 in
set_option maxRecDepth 100000 in
theorem c_MO_product_B (l : Launch) {d : Nat} {b n : Nat} {C : CT} (hlo : 231 ≤ n) (M : Mem) (rc : Nat → Mem → Option Mem) (hrc0 : ∀ (M res : Mem), rc 0 M = some res → CM l b C n (d + 40) y_MO_expression b_MO_expression 1 (none) [.ref (b + 191)] M (QV b C n res)) (hrc1 : ∀ (M res : Mem), rc 1 M = some res → CM l b C n (d + 40) y_MO_conjunction b_MO_conjunction 1 (none) [.ref (b + 191)] M (QV b C n res)) (hrc2 : ∀ (M res : Mem), rc 2 M = some res → CM l b C n (d + 40) y_MO_negation b_MO_negation 2 (none) [.ref (b + 191)] M (QV b C n res)) (hrc3 : ∀ (M res : Mem), rc 3 M = some res → CM l b C n (d + 40) y_MO_sum b_MO_sum 2 (none) [.ref (b + 191)] M (QV b C n res)) (hrc4 : ∀ (M res : Mem), rc 4 M = some res → CM l b C n (d + 40) y_MO_product b_MO_product 2 (none) [.ref (b + 191)] M (QV b C n res)) (hrc5 : ∀ (M res : Mem), rc 5 M = some res → CM l b C n (d + 40) y_MO_primary b_MO_primary 2 (none) [.ref (b + 191)] M (QV b C n res)) (res : Mem) (hT : t_MO_product_B M rc = some res) : CM l b C n (d + 1 + 40) y_MO_product b_MO_product 2 (none) [.ref (b + 191)] M (QV b C n res) := by
  refine CM.of (lo := 231) (ow := "WardFallsModel") (by decide) rfl (Nat.le_of_ble_eq_true rfl) hlo (fun p e s m below meth c F hlk hr hS ls hl => ?_)
  have hl : lv_has ls 2 [(0, .ref (b + 191))] := hl
  unfold t_MO_product_B at hT
  refine lv_aload_n F.hx F.hb d_MO_product_0 rfl (lv_at hl 0 rfl) ?_
  obtain ⟨q1, hq1, hT⟩ := q_obind hT
  refine r_backV F hS (r_runV (k := 191) (N := 68) (T := T1) (As := []) F hS (show 191 < 231 by decide) (show shK 191 = 5 from rfl) rfl (hrc5 _ _ hq1) gs_MO_303 hd_MO_primary ⟨(by show (d + 40) + 1 ≤ d + 1 + 40; omega), (by show 8 + (2 + 11) + 48 * (d + 40) ≤ 48 * (d + 1 + 40); omega)⟩ rfl hl.1 (Nat.le_of_ble_eq_true rfl) ⟨Nat.zero_le _, Nat.zero_le _⟩ rfl d_MO_product_1) (fun H locs hS => ?_)
  exact k_MO_product_L4 l hlo rc hrc0 hrc1 hrc2 hrc3 hrc4 hrc5 F hlk hr FU q1 _ _ _ hS (lv_sub hl [0] rfl) hT
theorem d_MO_sum_0 : decode b_MO_sum 0 = .ok (.aload_n 0, 1) := dc_42 (by decide +kernel)
theorem d_MO_sum_1 : decode b_MO_sum 1 = .ok (.invokevirtual 300, 3) := dc_182 (by decide +kernel)
theorem d_MO_sum_4 : decode b_MO_sum 4 = .ok (.aload_n 0, 1) := dc_42 (by decide +kernel)
theorem d_MO_sum_5 : decode b_MO_sum 5 = .ok (.bipush 43, 2) := dc_16 (by decide +kernel)
theorem d_MO_sum_7 : decode b_MO_sum 7 = .ok (.invokevirtual 260, 3) := dc_182 (by decide +kernel)
theorem d_MO_sum_10 : decode b_MO_sum 10 = .ok (.ifCond .ne 12, 3) := dc_154 (by decide +kernel)
theorem d_MO_sum_13 : decode b_MO_sum 13 = .ok (.aload_n 0, 1) := dc_42 (by decide +kernel)
theorem d_MO_sum_14 : decode b_MO_sum 14 = .ok (.bipush 45, 2) := dc_16 (by decide +kernel)
theorem d_MO_sum_16 : decode b_MO_sum 16 = .ok (.invokevirtual 260, 3) := dc_182 (by decide +kernel)
theorem d_MO_sum_19 : decode b_MO_sum 19 = .ok (.ifCond .eq 29, 3) := dc_153 (by decide +kernel)
theorem d_MO_sum_22 : decode b_MO_sum 22 = .ok (.aload_n 0, 1) := dc_42 (by decide +kernel)
theorem d_MO_sum_23 : decode b_MO_sum 23 = .ok (.getfield 174, 3) := dc_180 (by decide +kernel)
theorem d_MO_sum_26 : decode b_MO_sum 26 = .ok (.istore_n 1, 1) := dc_60 (by decide +kernel)
theorem d_MO_sum_27 : decode b_MO_sum 27 = .ok (.aload_n 0, 1) := dc_42 (by decide +kernel)
theorem d_MO_sum_28 : decode b_MO_sum 28 = .ok (.invokevirtual 288, 3) := dc_182 (by decide +kernel)
theorem d_MO_sum_31 : decode b_MO_sum 31 = .ok (.aload_n 0, 1) := dc_42 (by decide +kernel)
theorem d_MO_sum_32 : decode b_MO_sum 32 = .ok (.invokevirtual 215, 3) := dc_182 (by decide +kernel)
theorem d_MO_sum_35 : decode b_MO_sum 35 = .ok (.aload_n 0, 1) := dc_42 (by decide +kernel)
theorem d_MO_sum_36 : decode b_MO_sum 36 = .ok (.invokevirtual 300, 3) := dc_182 (by decide +kernel)
theorem d_MO_sum_39 : decode b_MO_sum 39 = .ok (.aload_n 0, 1) := dc_42 (by decide +kernel)
theorem d_MO_sum_40 : decode b_MO_sum 40 = .ok (.iconst 2, 1) := dc_5 (by decide +kernel)
theorem d_MO_sum_41 : decode b_MO_sum 41 = .ok (.iload_n 1, 1) := dc_27 (by decide +kernel)
theorem d_MO_sum_42 : decode b_MO_sum 42 = .ok (.invokevirtual 291, 3) := dc_182 (by decide +kernel)
theorem d_MO_sum_45 : decode b_MO_sum 45 = .ok (.goto (-41), 3) := dc_167 (by decide +kernel)
theorem d_MO_sum_48 : decode b_MO_sum 48 = .ok (.return_, 1) := dc_177 (by decide +kernel)
def t_MO_sum_L22 (rc : Nat → Mem → Option Mem) (bk4 : Mem → Option (Mem)) (M : Mem)  : Option (Mem) := (qlet (t_MO_knot M) fun q10 => (obind (t_MO_goOn q10) fun q12 => (obind (rc 4 q12) fun q14 => (obind (t_MO_puts q14 2 (M.1 191 23)) fun q16 => (bk4 q16)))))
def t_MO_sum_L4 (rc : Nat → Mem → Option Mem)  : Nat → Mem → Option (Mem)
  | 0, _ => none
  | fu + 1, M => (qlet (t_MO_isSign M 43) fun q3 => (if q3 = 0 then (qlet (t_MO_isSign M 45) fun q6 => (if q6 = 0 then (some M) else (t_MO_sum_L22 rc (fun a0_ => t_MO_sum_L4 rc fu a0_) M))) else (t_MO_sum_L22 rc (fun a0_ => t_MO_sum_L4 rc fu a0_) M)))
def t_MO_sum_B (M : Mem) (rc : Nat → Mem → Option Mem) : Option (Mem) := (obind (rc 4 M) fun q1 => (t_MO_sum_L4 rc FU q1))
set_option maxHeartbeats 4000000 in
set_option maxRecDepth 100000 in
theorem k_MO_sum_L22 (l : Launch) {d : Nat} {p : Program} {e : Env} {s : State} {m : MethodId} {below : List Frame} {meth : Method} {c : Code} {b n : Nat} {C : CT} (hlo : 231 ≤ n) (rc : Nat → Mem → Option Mem) (hrc0 : ∀ (M res : Mem), rc 0 M = some res → CM l b C n (d + 40) y_MO_expression b_MO_expression 1 (none) [.ref (b + 191)] M (QV b C n res)) (hrc1 : ∀ (M res : Mem), rc 1 M = some res → CM l b C n (d + 40) y_MO_conjunction b_MO_conjunction 1 (none) [.ref (b + 191)] M (QV b C n res)) (hrc2 : ∀ (M res : Mem), rc 2 M = some res → CM l b C n (d + 40) y_MO_negation b_MO_negation 2 (none) [.ref (b + 191)] M (QV b C n res)) (hrc3 : ∀ (M res : Mem), rc 3 M = some res → CM l b C n (d + 40) y_MO_sum b_MO_sum 2 (none) [.ref (b + 191)] M (QV b C n res)) (hrc4 : ∀ (M res : Mem), rc 4 M = some res → CM l b C n (d + 40) y_MO_product b_MO_product 2 (none) [.ref (b + 191)] M (QV b C n res)) (hrc5 : ∀ (M res : Mem), rc 5 M = some res → CM l b C n (d + 40) y_MO_primary b_MO_primary 2 (none) [.ref (b + 191)] M (QV b C n res)) (F : Cx b p m c b_MO_sum 2 s ([.ref (b + 191)] : List Value).toArray "WardFallsModel" C n 231) (hlk : meth.locks = false) (hr : meth.sig.returnType = none) {res : Mem} (bk4 : Mem → Option (Mem)) (hbk4 : ∀ (M : Mem)  (H : Heap) (locs : List Loc) (ls : Array Slot), St b C n M s H locs → lv_has ls 2 [(0, .ref (b + 191))] → bk4 M  = some res → W p l e (headSpec (wsM y_MO_sum b_MO_sum 2 (none)) (rmD (d + 1 + 40))).room s m ([.ref (b + 191)] : List Value).toArray below meth c H locs 0 0 (MQ below (QV b C n res) ([.ref (b + 191)] : List Value).toArray s 0 0 (frb b)) (F0 m 4 ls [])) (M : Mem)  (H : Heap) (locs : List Loc) (ls : Array Slot) (hS : St b C n M s H locs) (hl : lv_has ls 2 [(0, .ref (b + 191))]) (hT : t_MO_sum_L22 rc bk4 M = some res) : W p l e (headSpec (wsM y_MO_sum b_MO_sum 2 (none)) (rmD (d + 1 + 40))).room s m ([.ref (b + 191)] : List Value).toArray below meth c H locs 0 0 (MQ below (QV b C n res) ([.ref (b + 191)] : List Value).toArray s 0 0 (frb b)) (F0 m 22 ls []) := by
  unfold t_MO_sum_L22 at hT
  refine lv_aload_n F.hx F.hb d_MO_sum_22 rfl (lv_at hl 0 rfl) ?_
  refine r_get (v := vI (M.1 191 23)) (N := 68) (T := T1) (j := 23) F hS (show 191 < 231 by decide) (show shK 191 = 5 from rfl) (show shN 191 = 68 from rfl) rfl (Nat.le_of_ble_eq_true rfl) ing1 mw_1412 (fv_int rfl) d_MO_sum_23 ?_
  have i9 := hS.rng 191 23
  refine lv_istore_n (lv' := [(1, vI (M.1 191 23)), (0, .ref (b + 191))]) F.hx F.hb d_MO_sum_26 rfl hl (Nat.le_of_ble_eq_true rfl) rfl (fun ls hl => ?_)
  refine lv_aload_n F.hx F.hb d_MO_sum_27 rfl (lv_at hl 1 rfl) ?_
  obtain ⟨q10, hq10⟩ : ∃ q, q = (t_MO_knot M) := ⟨_, rfl⟩
  replace hT := qlet_eq hT hq10
  refine r_backV F hS (r_runV (k := 191) (N := 68) (T := T1) (As := []) F hS (show 191 < 231 by decide) (show shK 191 = 5 from rfl) rfl (c_MO_knot l F.2.2.1 M _ hq10.symm) gs_MO_288 hd_MO_knot ⟨(by show 1 + 1 ≤ d + 1 + 40; omega), (by show 8 + (1 + 11) + 48 * 1 ≤ 48 * (d + 1 + 40); omega)⟩ rfl hl.1 (Nat.le_of_ble_eq_true rfl) ⟨Nat.zero_le _, Nat.zero_le _⟩ rfl d_MO_sum_28) (fun H locs hS => ?_)
  refine lv_aload_n F.hx F.hb d_MO_sum_31 rfl (lv_at hl 1 rfl) ?_
  obtain ⟨q12, hq12, hT⟩ := q_obind hT
  refine r_backV F hS (r_runV (k := 191) (N := 68) (T := T1) (As := []) F hS (show 191 < 231 by decide) (show shK 191 = 5 from rfl) rfl (c_MO_goOn l F.2.2.1 q10 _ hq12) gs_MO_215 hd_MO_goOn ⟨(by show 6 + 1 ≤ d + 1 + 40; omega), (by show 8 + (1 + 11) + 48 * 6 ≤ 48 * (d + 1 + 40); omega)⟩ rfl hl.1 (Nat.le_of_ble_eq_true rfl) ⟨Nat.zero_le _, Nat.zero_le _⟩ rfl d_MO_sum_32) (fun H locs hS => ?_)
  refine lv_aload_n F.hx F.hb d_MO_sum_35 rfl (lv_at hl 1 rfl) ?_
  obtain ⟨q14, hq14, hT⟩ := q_obind hT
  refine r_backV F hS (r_runV (k := 191) (N := 68) (T := T1) (As := []) F hS (show 191 < 231 by decide) (show shK 191 = 5 from rfl) rfl (hrc4 _ _ hq14) gs_MO_300 hd_MO_product ⟨(by show (d + 40) + 1 ≤ d + 1 + 40; omega), (by show 8 + (2 + 11) + 48 * (d + 40) ≤ 48 * (d + 1 + 40); omega)⟩ rfl hl.1 (Nat.le_of_ble_eq_true rfl) ⟨Nat.zero_le _, Nat.zero_le _⟩ rfl d_MO_sum_36) (fun H locs hS => ?_)
  refine lv_aload_n F.hx F.hb d_MO_sum_39 rfl (lv_at hl 1 rfl) ?_
  refine r_iconst F.hx F.hb d_MO_sum_40 ?_
  refine lv_iload_n F.hx F.hb d_MO_sum_41 rfl (lv_at hl 0 rfl) ?_
  obtain ⟨q16, hq16, hT⟩ := q_obind hT
  refine r_backV F hS (r_runV (k := 191) (N := 68) (T := T1) (As := [vI 2, vI (M.1 191 23)]) F hS (show 191 < 231 by decide) (show shK 191 = 5 from rfl) rfl (c_MO_puts l F.2.2.1 q14 2 (M.1 191 23) (inr_c rfl) i9 _ hq16) gs_MO_291 hd_MO_puts ⟨(by show 1 + 1 ≤ d + 1 + 40; omega), (by show 8 + (3 + 11) + 48 * 1 ≤ 48 * (d + 1 + 40); omega)⟩ rfl hl.1 (Nat.le_of_ble_eq_true rfl) ⟨Nat.zero_le _, Nat.zero_le _⟩ rfl d_MO_sum_42) (fun H locs hS => ?_)
  refine lv_goto (tgt := 4) F.hx F.hb d_MO_sum_45 (by decide) ?_
  exact hbk4 q16 _ _ _ hS (lv_sub hl [1] rfl) hT
set_option maxHeartbeats 4000000 in
set_option maxRecDepth 100000 in
theorem k_MO_sum_L4 (l : Launch) {d : Nat} {p : Program} {e : Env} {s : State} {m : MethodId} {below : List Frame} {meth : Method} {c : Code} {b n : Nat} {C : CT} (hlo : 231 ≤ n) (rc : Nat → Mem → Option Mem) (hrc0 : ∀ (M res : Mem), rc 0 M = some res → CM l b C n (d + 40) y_MO_expression b_MO_expression 1 (none) [.ref (b + 191)] M (QV b C n res)) (hrc1 : ∀ (M res : Mem), rc 1 M = some res → CM l b C n (d + 40) y_MO_conjunction b_MO_conjunction 1 (none) [.ref (b + 191)] M (QV b C n res)) (hrc2 : ∀ (M res : Mem), rc 2 M = some res → CM l b C n (d + 40) y_MO_negation b_MO_negation 2 (none) [.ref (b + 191)] M (QV b C n res)) (hrc3 : ∀ (M res : Mem), rc 3 M = some res → CM l b C n (d + 40) y_MO_sum b_MO_sum 2 (none) [.ref (b + 191)] M (QV b C n res)) (hrc4 : ∀ (M res : Mem), rc 4 M = some res → CM l b C n (d + 40) y_MO_product b_MO_product 2 (none) [.ref (b + 191)] M (QV b C n res)) (hrc5 : ∀ (M res : Mem), rc 5 M = some res → CM l b C n (d + 40) y_MO_primary b_MO_primary 2 (none) [.ref (b + 191)] M (QV b C n res)) (F : Cx b p m c b_MO_sum 2 s ([.ref (b + 191)] : List Value).toArray "WardFallsModel" C n 231) (hlk : meth.locks = false) (hr : meth.sig.returnType = none) {res : Mem} : ∀ (fu : Nat) (M : Mem)  (H : Heap) (locs : List Loc) (ls : Array Slot), St b C n M s H locs → lv_has ls 2 [(0, .ref (b + 191))] → t_MO_sum_L4 rc fu M = some res → W p l e (headSpec (wsM y_MO_sum b_MO_sum 2 (none)) (rmD (d + 1 + 40))).room s m ([.ref (b + 191)] : List Value).toArray below meth c H locs 0 0 (MQ below (QV b C n res) ([.ref (b + 191)] : List Value).toArray s 0 0 (frb b)) (F0 m 4 ls []) := by
  intro fu
  induction fu with
  | zero => intro M  H locs ls hS hl hT; exact absurd hT (by simp [t_MO_sum_L4])
  | succ fu ih =>
    intro M  H locs ls hS hl hT
    rw [t_MO_sum_L4] at hT
    refine lv_aload_n F.hx F.hb d_MO_sum_4 rfl (lv_at hl 0 rfl) ?_
    refine r_bipush F.hx F.hb d_MO_sum_5 rfl ?_
    obtain ⟨q3, hq3⟩ : ∃ q, q = (t_MO_isSign M 43) := ⟨_, rfl⟩
    replace hT := qlet_eq hT hq3
    refine r_backZ F hS (r_runV (k := 191) (N := 68) (T := T1) (As := [vI 43]) F hS (show 191 < 231 by decide) (show shK 191 = 5 from rfl) rfl (c_MO_isSign l F.2.2.1 M 43 (inr_c rfl) _ hq3.symm) gs_MO_260 hd_MO_isSign ⟨(by show 0 + 1 ≤ d + 1 + 40; omega), (by show 8 + (2 + 11) + 48 * 0 ≤ 48 * (d + 1 + 40); omega)⟩ rfl hl.1 (Nat.le_of_ble_eq_true rfl) ⟨Nat.zero_le _, Nat.zero_le _⟩ rfl d_MO_sum_7) (fun H locs hS h4 => ?_)
    refine r_if_ne (tgt := 22) F.hx F.hb (inr_z h4) d_MO_sum_10 (by decide) (fun c5 => ?_) (fun c5 => ?_)
    · replace hT := (if_neg c5).symm.trans hT
      exact k_MO_sum_L22 l hlo rc hrc0 hrc1 hrc2 hrc3 hrc4 hrc5 F hlk hr (fun a0_ => t_MO_sum_L4 rc fu a0_) ih M _ _ _ hS (lv_sub hl [0] rfl) hT
    · replace hT := (if_pos c5).symm.trans hT
      refine lv_aload_n F.hx F.hb d_MO_sum_13 rfl (lv_at hl 0 rfl) ?_
      refine r_bipush F.hx F.hb d_MO_sum_14 rfl ?_
      obtain ⟨q6, hq6⟩ : ∃ q, q = (t_MO_isSign M 45) := ⟨_, rfl⟩
      replace hT := qlet_eq hT hq6
      refine r_backZ F hS (r_runV (k := 191) (N := 68) (T := T1) (As := [vI 45]) F hS (show 191 < 231 by decide) (show shK 191 = 5 from rfl) rfl (c_MO_isSign l F.2.2.1 M 45 (inr_c rfl) _ hq6.symm) gs_MO_260 hd_MO_isSign ⟨(by show 0 + 1 ≤ d + 1 + 40; omega), (by show 8 + (2 + 11) + 48 * 0 ≤ 48 * (d + 1 + 40); omega)⟩ rfl hl.1 (Nat.le_of_ble_eq_true rfl) ⟨Nat.zero_le _, Nat.zero_le _⟩ rfl d_MO_sum_16) (fun H locs hS h7 => ?_)
      refine r_if_eq (tgt := 48) F.hx F.hb (inr_z h7) d_MO_sum_19 (by decide) (fun c8 => ?_) (fun c8 => ?_)
      · replace hT := (if_pos c8).symm.trans hT
        cases hT
        exact r_vret F hlk hr hS d_MO_sum_48
      · replace hT := (if_neg c8).symm.trans hT
        exact k_MO_sum_L22 l hlo rc hrc0 hrc1 hrc2 hrc3 hrc4 hrc5 F hlk hr (fun a0_ => t_MO_sum_L4 rc fu a0_) ih M _ _ _ hS (lv_sub hl [0] rfl) hT
set_option maxHeartbeats 4000000 in
set_option maxRecDepth 100000 in
theorem c_MO_sum_B (l : Launch) {d : Nat} {b n : Nat} {C : CT} (hlo : 231 ≤ n) (M : Mem) (rc : Nat → Mem → Option Mem) (hrc0 : ∀ (M res : Mem), rc 0 M = some res → CM l b C n (d + 40) y_MO_expression b_MO_expression 1 (none) [.ref (b + 191)] M (QV b C n res)) (hrc1 : ∀ (M res : Mem), rc 1 M = some res → CM l b C n (d + 40) y_MO_conjunction b_MO_conjunction 1 (none) [.ref (b + 191)] M (QV b C n res)) (hrc2 : ∀ (M res : Mem), rc 2 M = some res → CM l b C n (d + 40) y_MO_negation b_MO_negation 2 (none) [.ref (b + 191)] M (QV b C n res)) (hrc3 : ∀ (M res : Mem), rc 3 M = some res → CM l b C n (d + 40) y_MO_sum b_MO_sum 2 (none) [.ref (b + 191)] M (QV b C n res)) (hrc4 : ∀ (M res : Mem), rc 4 M = some res → CM l b C n (d + 40) y_MO_product b_MO_product 2 (none) [.ref (b + 191)] M (QV b C n res)) (hrc5 : ∀ (M res : Mem), rc 5 M = some res → CM l b C n (d + 40) y_MO_primary b_MO_primary 2 (none) [.ref (b + 191)] M (QV b C n res)) (res : Mem) (hT : t_MO_sum_B M rc = some res) : CM l b C n (d + 1 + 40) y_MO_sum b_MO_sum 2 (none) [.ref (b + 191)] M (QV b C n res) := by
  refine CM.of (lo := 231) (ow := "WardFallsModel") (by decide) rfl (Nat.le_of_ble_eq_true rfl) hlo (fun p e s m below meth c F hlk hr hS ls hl => ?_)
  have hl : lv_has ls 2 [(0, .ref (b + 191))] := hl
  unfold t_MO_sum_B at hT
  refine lv_aload_n F.hx F.hb d_MO_sum_0 rfl (lv_at hl 0 rfl) ?_
  obtain ⟨q1, hq1, hT⟩ := q_obind hT
  refine r_backV F hS (r_runV (k := 191) (N := 68) (T := T1) (As := []) F hS (show 191 < 231 by decide) (show shK 191 = 5 from rfl) rfl (hrc4 _ _ hq1) gs_MO_300 hd_MO_product ⟨(by show (d + 40) + 1 ≤ d + 1 + 40; omega), (by show 8 + (2 + 11) + 48 * (d + 40) ≤ 48 * (d + 1 + 40); omega)⟩ rfl hl.1 (Nat.le_of_ble_eq_true rfl) ⟨Nat.zero_le _, Nat.zero_le _⟩ rfl d_MO_sum_1) (fun H locs hS => ?_)
  exact k_MO_sum_L4 l hlo rc hrc0 hrc1 hrc2 hrc3 hrc4 hrc5 F hlk hr FU q1 _ _ _ hS (lv_sub hl [0] rfl) hT
end
