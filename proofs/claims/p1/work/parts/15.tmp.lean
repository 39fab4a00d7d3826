theorem d_MO_begins_0 : decode b_MO_begins 0 = .ok (.aload_n 0, 1) := by decide +kernel
theorem d_MO_begins_1 : decode b_MO_begins 1 = .ok (.getfield 60, 3) := by decide +kernel
theorem d_MO_begins_4 : decode b_MO_begins 4 = .ok (.iconst 0, 1) := by decide +kernel
theorem d_MO_begins_5 : decode b_MO_begins 5 = .ok (.iconst 0, 1) := by decide +kernel
theorem d_MO_begins_6 : decode b_MO_begins 6 = .ok (.iastore, 1) := by decide +kernel
theorem d_MO_begins_7 : decode b_MO_begins 7 = .ok (.aload_n 0, 1) := by decide +kernel
theorem d_MO_begins_8 : decode b_MO_begins 8 = .ok (.getfield 63, 3) := by decide +kernel
theorem d_MO_begins_11 : decode b_MO_begins 11 = .ok (.iconst 0, 1) := by decide +kernel
theorem d_MO_begins_12 : decode b_MO_begins 12 = .ok (.iconst 0, 1) := by decide +kernel
theorem d_MO_begins_13 : decode b_MO_begins 13 = .ok (.iastore, 1) := by decide +kernel
theorem d_MO_begins_14 : decode b_MO_begins 14 = .ok (.aload_n 0, 1) := by decide +kernel
theorem d_MO_begins_15 : decode b_MO_begins 15 = .ok (.getfield 66, 3) := by decide +kernel
theorem d_MO_begins_18 : decode b_MO_begins 18 = .ok (.iconst 0, 1) := by decide +kernel
theorem d_MO_begins_19 : decode b_MO_begins 19 = .ok (.aload_n 0, 1) := by decide +kernel
theorem d_MO_begins_20 : decode b_MO_begins 20 = .ok (.getfield 13, 3) := by decide +kernel
theorem d_MO_begins_23 : decode b_MO_begins 23 = .ok (.bipush 7, 2) := by decide +kernel
theorem d_MO_begins_25 : decode b_MO_begins 25 = .ok (.iaload, 1) := by decide +kernel
theorem d_MO_begins_26 : decode b_MO_begins 26 = .ok (.iastore, 1) := by decide +kernel
theorem d_MO_begins_27 : decode b_MO_begins 27 = .ok (.aload_n 0, 1) := by decide +kernel
theorem d_MO_begins_28 : decode b_MO_begins 28 = .ok (.getfield 69, 3) := by decide +kernel
theorem d_MO_begins_31 : decode b_MO_begins 31 = .ok (.iconst 0, 1) := by decide +kernel
theorem d_MO_begins_32 : decode b_MO_begins 32 = .ok (.lconst 0, 1) := by decide +kernel
theorem d_MO_begins_33 : decode b_MO_begins 33 = .ok (.lastore, 1) := by decide +kernel
theorem d_MO_begins_34 : decode b_MO_begins 34 = .ok (.aload_n 0, 1) := by decide +kernel
theorem d_MO_begins_35 : decode b_MO_begins 35 = .ok (.getfield 73, 3) := by decide +kernel
theorem d_MO_begins_38 : decode b_MO_begins 38 = .ok (.iconst 0, 1) := by decide +kernel
theorem d_MO_begins_39 : decode b_MO_begins 39 = .ok (.lconst 0, 1) := by decide +kernel
theorem d_MO_begins_40 : decode b_MO_begins 40 = .ok (.lastore, 1) := by decide +kernel
theorem d_MO_begins_41 : decode b_MO_begins 41 = .ok (.iconst 0, 1) := by decide +kernel
theorem d_MO_begins_42 : decode b_MO_begins 42 = .ok (.istore_n 1, 1) := by decide +kernel
theorem d_MO_begins_43 : decode b_MO_begins 43 = .ok (.iload_n 1, 1) := by decide +kernel
theorem d_MO_begins_44 : decode b_MO_begins 44 = .ok (.iconst 4, 1) := by decide +kernel
theorem d_MO_begins_45 : decode b_MO_begins 45 = .ok (.if_icmp .ge 35, 3) := by decide +kernel
theorem d_MO_begins_48 : decode b_MO_begins 48 = .ok (.aload_n 0, 1) := by decide +kernel
theorem d_MO_begins_49 : decode b_MO_begins 49 = .ok (.getfield 76, 3) := by decide +kernel
theorem d_MO_begins_52 : decode b_MO_begins 52 = .ok (.iload_n 1, 1) := by decide +kernel
theorem d_MO_begins_53 : decode b_MO_begins 53 = .ok (.iload_n 1, 1) := by decide +kernel
theorem d_MO_begins_54 : decode b_MO_begins 54 = .ok (.aload_n 0, 1) := by decide +kernel
theorem d_MO_begins_55 : decode b_MO_begins 55 = .ok (.getfield 13, 3) := by decide +kernel
theorem d_MO_begins_58 : decode b_MO_begins 58 = .ok (.iconst 2, 1) := by decide +kernel
theorem d_MO_begins_59 : decode b_MO_begins 59 = .ok (.iaload, 1) := by decide +kernel
theorem d_MO_begins_60 : decode b_MO_begins 60 = .ok (.if_icmp .ge 12, 3) := by decide +kernel
theorem d_MO_begins_63 : decode b_MO_begins 63 = .ok (.aload_n 0, 1) := by decide +kernel
theorem d_MO_begins_64 : decode b_MO_begins 64 = .ok (.getfield 19, 3) := by decide +kernel
theorem d_MO_begins_67 : decode b_MO_begins 67 = .ok (.iload_n 1, 1) := by decide +kernel
theorem d_MO_begins_68 : decode b_MO_begins 68 = .ok (.iaload, 1) := by decide +kernel
theorem d_MO_begins_69 : decode b_MO_begins 69 = .ok (.goto 4, 3) := by decide +kernel
theorem d_MO_begins_72 : decode b_MO_begins 72 = .ok (.iconst 4, 1) := by decide +kernel
theorem d_MO_begins_73 : decode b_MO_begins 73 = .ok (.iastore, 1) := by decide +kernel
theorem d_MO_begins_74 : decode b_MO_begins 74 = .ok (.iinc 1 1, 3) := by decide +kernel
theorem d_MO_begins_77 : decode b_MO_begins 77 = .ok (.goto (-34), 3) := by decide +kernel
theorem d_MO_begins_80 : decode b_MO_begins 80 = .ok (.iconst 0, 1) := by decide +kernel
theorem d_MO_begins_81 : decode b_MO_begins 81 = .ok (.istore_n 1, 1) := by decide +kernel
theorem d_MO_begins_82 : decode b_MO_begins 82 = .ok (.iload_n 1, 1) := by decide +kernel
theorem d_MO_begins_83 : decode b_MO_begins 83 = .ok (.bipush 8, 2) := by decide +kernel
theorem d_MO_begins_85 : decode b_MO_begins 85 = .ok (.if_icmp .ge 50, 3) := by decide +kernel
theorem d_MO_begins_88 : decode b_MO_begins 88 = .ok (.aload_n 0, 1) := by decide +kernel
theorem d_MO_begins_89 : decode b_MO_begins 89 = .ok (.getfield 79, 3) := by decide +kernel
theorem d_MO_begins_92 : decode b_MO_begins 92 = .ok (.iload_n 1, 1) := by decide +kernel
theorem d_MO_begins_93 : decode b_MO_begins 93 = .ok (.iload_n 1, 1) := by decide +kernel
theorem d_MO_begins_94 : decode b_MO_begins 94 = .ok (.aload_n 0, 1) := by decide +kernel
theorem d_MO_begins_95 : decode b_MO_begins 95 = .ok (.getfield 13, 3) := by decide +kernel
theorem d_MO_begins_98 : decode b_MO_begins 98 = .ok (.bipush 6, 2) := by decide +kernel
theorem d_MO_begins_100 : decode b_MO_begins 100 = .ok (.iaload, 1) := by decide +kernel
theorem d_MO_begins_101 : decode b_MO_begins 101 = .ok (.if_icmp .ge 12, 3) := by decide +kernel
theorem d_MO_begins_104 : decode b_MO_begins 104 = .ok (.aload_n 0, 1) := by decide +kernel
theorem d_MO_begins_105 : decode b_MO_begins 105 = .ok (.getfield 41, 3) := by decide +kernel
theorem d_MO_begins_108 : decode b_MO_begins 108 = .ok (.iload_n 1, 1) := by decide +kernel
theorem d_MO_begins_109 : decode b_MO_begins 109 = .ok (.iaload, 1) := by decide +kernel
theorem d_MO_begins_110 : decode b_MO_begins 110 = .ok (.goto 4, 3) := by decide +kernel
theorem d_MO_begins_113 : decode b_MO_begins 113 = .ok (.iconst (-1), 1) := by decide +kernel
theorem d_MO_begins_114 : decode b_MO_begins 114 = .ok (.iastore, 1) := by decide +kernel
theorem d_MO_begins_115 : decode b_MO_begins 115 = .ok (.aload_n 0, 1) := by decide +kernel
theorem d_MO_begins_116 : decode b_MO_begins 116 = .ok (.getfield 82, 3) := by decide +kernel
theorem d_MO_begins_119 : decode b_MO_begins 119 = .ok (.iload_n 1, 1) := by decide +kernel
theorem d_MO_begins_120 : decode b_MO_begins 120 = .ok (.iconst 0, 1) := by decide +kernel
theorem d_MO_begins_121 : decode b_MO_begins 121 = .ok (.iastore, 1) := by decide +kernel
theorem d_MO_begins_122 : decode b_MO_begins 122 = .ok (.aload_n 0, 1) := by decide +kernel
theorem d_MO_begins_123 : decode b_MO_begins 123 = .ok (.getfield 85, 3) := by decide +kernel
theorem d_MO_begins_126 : decode b_MO_begins 126 = .ok (.iload_n 1, 1) := by decide +kernel
theorem d_MO_begins_127 : decode b_MO_begins 127 = .ok (.iconst 0, 1) := by decide +kernel
theorem d_MO_begins_128 : decode b_MO_begins 128 = .ok (.iastore, 1) := by decide +kernel
theorem d_MO_begins_129 : decode b_MO_begins 129 = .ok (.iinc 1 1, 3) := by decide +kernel
theorem d_MO_begins_132 : decode b_MO_begins 132 = .ok (.goto (-50), 3) := by decide +kernel
theorem d_MO_begins_135 : decode b_MO_begins 135 = .ok (.return_, 1) := by decide +kernel
def t_MO_begins_L73  (bk43 : Mem → Int → Option (Mem)) (M : Mem) (v1_ : Int) (v3_ : Int) (v4_ : Int) : Option (Mem) := (qguard (0 ≤ v3_ ∧ v3_ < 92) (qlet (setI M 212 v3_ v4_) fun M18 => (bk43 M18 (w32 (v1_ + 1)))))
def t_MO_begins_L114  (bk82 : Mem → Int → Option (Mem)) (M : Mem) (v1_ : Int) (v3_ : Int) (v4_ : Int) : Option (Mem) := (qguard (0 ≤ v3_ ∧ v3_ < 184) (qlet (setI M 213 v3_ v4_) fun M20 => (qguard (0 ≤ v1_ ∧ v1_ < 184) (qlet (setI M20 214 v1_ 0) fun M22 => (qguard (0 ≤ v1_ ∧ v1_ < 184) (qlet (setI M22 215 v1_ 0) fun M24 => (bk82 M24 (w32 (v1_ + 1)))))))))
def t_MO_begins_L82   : Nat → Mem → Int → Option (Mem)
  | 0, _, _ => none
  | fu + 1, M, v1_ => (if 8 ≤ v1_ then (some M) else (if (M.1 193 6) ≤ v1_ then (t_MO_begins_L114 (fun a0_ a1_ => t_MO_begins_L82 fu a0_ a1_) M v1_ v1_ (-1)) else (qguard (0 ≤ v1_ ∧ v1_ < 16) (t_MO_begins_L114 (fun a0_ a1_ => t_MO_begins_L82 fu a0_ a1_) M v1_ v1_ (M.1 202 v1_)))))
def t_MO_begins_L43   : Nat → Mem → Int → Option (Mem)
  | 0, _, _ => none
  | fu + 1, M, v1_ => (if 4 ≤ v1_ then (t_MO_begins_L82 FU M 0) else (if (M.1 193 2) ≤ v1_ then (t_MO_begins_L73 (fun a0_ a1_ => t_MO_begins_L43 fu a0_ a1_) M v1_ v1_ 4) else (qguard (0 ≤ v1_ ∧ v1_ < 8) (t_MO_begins_L73 (fun a0_ a1_ => t_MO_begins_L43 fu a0_ a1_) M v1_ v1_ (M.1 195 v1_)))))
def t_MO_begins (M : Mem)  : Option (Mem) := (qlet (setI M 207 0 0) fun M1 => (qlet (setI M1 208 0 0) fun M2 => (qlet (setI M2 209 0 (M2.1 193 7)) fun M4 => (qlet (setL M4 210 0 0) fun M5 => (qlet (setL M5 211 0 0) fun M6 => (t_MO_begins_L43 FU M6 0))))))
set_option maxHeartbeats 4000000 in
set_option maxRecDepth 100000 in
theorem k_MO_begins_L73 (l : Launch) {p : Program} {e : Env} {s : State} {m : MethodId} {below : List Frame} {meth : Method} {c : Code} {b n : Nat} {C : CT} (hlo : 231 ≤ n)   (F : Cx p m c b_MO_begins 2 s ([.ref (b + 191)] : List Value).toArray "WardFallsModel" C n 231) (hlk : meth.locks = false) (hr : meth.sig.returnType = none) {res : Mem} (bk43 : Mem → Int → Option (Mem)) (hbk43 : ∀ (M : Mem) (v1_ : Int) (hv1_ : InR v1_) (H : Heap) (locs : List Loc) (ls : Array Slot), St b C n M s H locs → lv_has ls 2 [(0, .ref (b + 191)), (1, vI v1_)] → bk43 M v1_ = some res → W p l e (headSpec (wsM y_MO_begins b_MO_begins 2 (none)) (rmD 0)).room s m ([.ref (b + 191)] : List Value).toArray below meth c H locs 0 0 (MQ below (QV b C n res) ([.ref (b + 191)] : List Value).toArray s 0 0 (frb b)) (F0 m 43 ls [])) (M : Mem) (v1_ : Int) (hv1_ : InR v1_) (v3_ : Int) (hv3_ : InR v3_) (v4_ : Int) (hv4_ : InR v4_) (H : Heap) (locs : List Loc) (ls : Array Slot) (hS : St b C n M s H locs) (hl : lv_has ls 2 [(0, .ref (b + 191)), (1, vI v1_)]) (hT : t_MO_begins_L73 bk43 M v1_ v3_ v4_ = some res) : W p l e (headSpec (wsM y_MO_begins b_MO_begins 2 (none)) (rmD 0)).room s m ([.ref (b + 191)] : List Value).toArray below meth c H locs 0 0 (MQ below (QV b C n res) ([.ref (b + 191)] : List Value).toArray s 0 0 (frb b)) (F0 m 73 ls [vI v4_, vI v3_, .ref (b + 212)]) := by
  unfold t_MO_begins_L73 at hT
  obtain ⟨⟨g17a, g17b⟩, hT⟩ := q_guard hT
  refine r_iast F hS (show 212 < 231 by decide) (show shK 212 = 0 from rfl) (show shN 212 = 92 from rfl) hv3_ hv4_ g17a g17b d_MO_begins_73 (fun H locs hS => ?_)
  obtain ⟨M18, eM18⟩ : ∃ q, q = (setI M 212 v3_ v4_) := ⟨_, rfl⟩
  replace hS : St b C n M18 s H locs := by rw [eM18]; exact hS
  replace hT := qlet_eq hT eM18
  refine lv_iinc (v := Int32.ofInt (w32 (v1_ + 1))) (lv' := [(1, vI (w32 (v1_ + 1))), (0, .ref (b + 191))]) F.hx F.hb d_MO_begins_74 hl (k := 1) rfl (q_of_add _ _) (Nat.le_of_ble_eq_true rfl) rfl (fun ls hl => ?_)
  refine lv_goto (tgt := 43) F.hx F.hb d_MO_begins_77 (by decide) ?_
  exact hbk43 M18 (w32 (v1_ + 1)) (inr_w32 _) _ _ _ hS (lv_sub hl [1, 0] rfl) hT
set_option maxHeartbeats 4000000 in
set_option maxRecDepth 100000 in
theorem k_MO_begins_L114 (l : Launch) {p : Program} {e : Env} {s : State} {m : MethodId} {below : List Frame} {meth : Method} {c : Code} {b n : Nat} {C : CT} (hlo : 231 ≤ n)   (F : Cx p m c b_MO_begins 2 s ([.ref (b + 191)] : List Value).toArray "WardFallsModel" C n 231) (hlk : meth.locks = false) (hr : meth.sig.returnType = none) {res : Mem} (bk82 : Mem → Int → Option (Mem)) (hbk82 : ∀ (M : Mem) (v1_ : Int) (hv1_ : InR v1_) (H : Heap) (locs : List Loc) (ls : Array Slot), St b C n M s H locs → lv_has ls 2 [(0, .ref (b + 191)), (1, vI v1_)] → bk82 M v1_ = some res → W p l e (headSpec (wsM y_MO_begins b_MO_begins 2 (none)) (rmD 0)).room s m ([.ref (b + 191)] : List Value).toArray below meth c H locs 0 0 (MQ below (QV b C n res) ([.ref (b + 191)] : List Value).toArray s 0 0 (frb b)) (F0 m 82 ls [])) (M : Mem) (v1_ : Int) (hv1_ : InR v1_) (v3_ : Int) (hv3_ : InR v3_) (v4_ : Int) (hv4_ : InR v4_) (H : Heap) (locs : List Loc) (ls : Array Slot) (hS : St b C n M s H locs) (hl : lv_has ls 2 [(0, .ref (b + 191)), (1, vI v1_)]) (hT : t_MO_begins_L114 bk82 M v1_ v3_ v4_ = some res) : W p l e (headSpec (wsM y_MO_begins b_MO_begins 2 (none)) (rmD 0)).room s m ([.ref (b + 191)] : List Value).toArray below meth c H locs 0 0 (MQ below (QV b C n res) ([.ref (b + 191)] : List Value).toArray s 0 0 (frb b)) (F0 m 114 ls [vI v4_, vI v3_, .ref (b + 213)]) := by
  unfold t_MO_begins_L114 at hT
  obtain ⟨⟨g19a, g19b⟩, hT⟩ := q_guard hT
  refine r_iast F hS (show 213 < 231 by decide) (show shK 213 = 0 from rfl) (show shN 213 = 184 from rfl) hv3_ hv4_ g19a g19b d_MO_begins_114 (fun H locs hS => ?_)
  obtain ⟨M20, eM20⟩ : ∃ q, q = (setI M 213 v3_ v4_) := ⟨_, rfl⟩
  replace hS : St b C n M20 s H locs := by rw [eM20]; exact hS
  replace hT := qlet_eq hT eM20
  refine lv_aload_n F.hx F.hb d_MO_begins_115 rfl (lv_at hl 0 rfl) ?_
  refine r_get (v := .ref (b + 214)) (N := 68) (T := T1) (j := 37) F hS (show 191 < 231 by decide) (show shK 191 = 5 from rfl) (show shN 191 = 68 from rfl) rfl (Nat.le_of_ble_eq_true rfl) ing1 mw_1426 (fv_sg rfl rfl rfl) d_MO_begins_116 ?_
  refine lv_iload_n F.hx F.hb d_MO_begins_119 rfl (lv_at hl 1 rfl) ?_
  refine r_iconst F.hx F.hb d_MO_begins_120 ?_
  obtain ⟨⟨g21a, g21b⟩, hT⟩ := q_guard hT
  refine r_iast F hS (show 214 < 231 by decide) (show shK 214 = 0 from rfl) (show shN 214 = 184 from rfl) hv1_ (inr_c rfl) g21a g21b d_MO_begins_121 (fun H locs hS => ?_)
  obtain ⟨M22, eM22⟩ : ∃ q, q = (setI M20 214 v1_ 0) := ⟨_, rfl⟩
  replace hS : St b C n M22 s H locs := by rw [eM22]; exact hS
  replace hT := qlet_eq hT eM22
  refine lv_aload_n F.hx F.hb d_MO_begins_122 rfl (lv_at hl 0 rfl) ?_
  refine r_get (v := .ref (b + 215)) (N := 68) (T := T1) (j := 38) F hS (show 191 < 231 by decide) (show shK 191 = 5 from rfl) (show shN 191 = 68 from rfl) rfl (Nat.le_of_ble_eq_true rfl) ing1 mw_1427 (fv_sg rfl rfl rfl) d_MO_begins_123 ?_
  refine lv_iload_n F.hx F.hb d_MO_begins_126 rfl (lv_at hl 1 rfl) ?_
  refine r_iconst F.hx F.hb d_MO_begins_127 ?_
  obtain ⟨⟨g23a, g23b⟩, hT⟩ := q_guard hT
  refine r_iast F hS (show 215 < 231 by decide) (show shK 215 = 0 from rfl) (show shN 215 = 184 from rfl) hv1_ (inr_c rfl) g23a g23b d_MO_begins_128 (fun H locs hS => ?_)
  obtain ⟨M24, eM24⟩ : ∃ q, q = (setI M22 215 v1_ 0) := ⟨_, rfl⟩
  replace hS : St b C n M24 s H locs := by rw [eM24]; exact hS
  replace hT := qlet_eq hT eM24
  refine lv_iinc (v := Int32.ofInt (w32 (v1_ + 1))) (lv' := [(1, vI (w32 (v1_ + 1))), (0, .ref (b + 191))]) F.hx F.hb d_MO_begins_129 hl (k := 1) rfl (q_of_add _ _) (Nat.le_of_ble_eq_true rfl) rfl (fun ls hl => ?_)
  refine lv_goto (tgt := 82) F.hx F.hb d_MO_begins_132 (by decide) ?_
  exact hbk82 M24 (w32 (v1_ + 1)) (inr_w32 _) _ _ _ hS (lv_sub hl [1, 0] rfl) hT
set_option maxHeartbeats 4000000 in
set_option maxRecDepth 100000 in
theorem k_MO_begins_L82 (l : Launch) {p : Program} {e : Env} {s : State} {m : MethodId} {below : List Frame} {meth : Method} {c : Code} {b n : Nat} {C : CT} (hlo : 231 ≤ n)   (F : Cx p m c b_MO_begins 2 s ([.ref (b + 191)] : List Value).toArray "WardFallsModel" C n 231) (hlk : meth.locks = false) (hr : meth.sig.returnType = none) {res : Mem} : ∀ (fu : Nat) (M : Mem) (v1_ : Int) (hv1_ : InR v1_) (H : Heap) (locs : List Loc) (ls : Array Slot), St b C n M s H locs → lv_has ls 2 [(0, .ref (b + 191)), (1, vI v1_)] → t_MO_begins_L82 fu M v1_ = some res → W p l e (headSpec (wsM y_MO_begins b_MO_begins 2 (none)) (rmD 0)).room s m ([.ref (b + 191)] : List Value).toArray below meth c H locs 0 0 (MQ below (QV b C n res) ([.ref (b + 191)] : List Value).toArray s 0 0 (frb b)) (F0 m 82 ls []) := by
  intro fu
  induction fu with
  | zero => intro M v1_ hv1_ H locs ls hS hl hT; exact absurd hT (by simp [t_MO_begins_L82])
  | succ fu ih =>
    intro M v1_ hv1_ H locs ls hS hl hT
    rw [t_MO_begins_L82] at hT
    refine lv_iload_n F.hx F.hb d_MO_begins_82 rfl (lv_at hl 1 rfl) ?_
    refine r_bipush F.hx F.hb d_MO_begins_83 rfl ?_
    refine r_icmp_ge (tgt := 135) F.hx F.hb hv1_ (inr_c rfl) d_MO_begins_85 (by decide) (fun c12 => ?_) (fun c12 => ?_)
    · replace hT := (if_pos c12).symm.trans hT
      cases hT
      exact r_vret F hlk hr hS d_MO_begins_135
    · replace hT := (if_neg c12).symm.trans hT
      refine lv_aload_n F.hx F.hb d_MO_begins_88 rfl (lv_at hl 0 rfl) ?_
      refine r_get (v := .ref (b + 213)) (N := 68) (T := T1) (j := 36) F hS (show 191 < 231 by decide) (show shK 191 = 5 from rfl) (show shN 191 = 68 from rfl) rfl (Nat.le_of_ble_eq_true rfl) ing1 mw_1425 (fv_sg rfl rfl rfl) d_MO_begins_89 ?_
      refine lv_iload_n F.hx F.hb d_MO_begins_92 rfl (lv_at hl 1 rfl) ?_
      refine lv_iload_n F.hx F.hb d_MO_begins_93 rfl (lv_at hl 1 rfl) ?_
      refine lv_aload_n F.hx F.hb d_MO_begins_94 rfl (lv_at hl 0 rfl) ?_
      refine r_get (v := .ref (b + 193)) (N := 68) (T := T1) (j := 3) F hS (show 191 < 231 by decide) (show shK 191 = 5 from rfl) (show shN 191 = 68 from rfl) rfl (Nat.le_of_ble_eq_true rfl) ing1 mw_1392 (fv_sg rfl rfl rfl) d_MO_begins_95 ?_
      refine r_bipush F.hx F.hb d_MO_begins_98 rfl ?_
      refine r_iald F hS (show 193 < 231 by decide) (show shK 193 = 0 from rfl) (show shN 193 = 18 from rfl) (inr_c rfl) (by omega) (by omega) d_MO_begins_100 ?_
      have i13 := hS.rng 193 6
      refine r_icmp_ge (tgt := 113) F.hx F.hb hv1_ i13 d_MO_begins_101 (by decide) (fun c14 => ?_) (fun c14 => ?_)
      · replace hT := (if_pos c14).symm.trans hT
        refine r_iconst F.hx F.hb d_MO_begins_113 ?_
        exact k_MO_begins_L114 l hlo F hlk hr (fun a0_ a1_ => t_MO_begins_L82 fu a0_ a1_) ih M v1_ hv1_ v1_ hv1_ (-1) (inr_c rfl) _ _ _ hS (lv_sub hl [0, 1] rfl) hT
      · replace hT := (if_neg c14).symm.trans hT
        refine lv_aload_n F.hx F.hb d_MO_begins_104 rfl (lv_at hl 0 rfl) ?_
        refine r_get (v := .ref (b + 202)) (N := 68) (T := T1) (j := 12) F hS (show 191 < 231 by decide) (show shK 191 = 5 from rfl) (show shN 191 = 68 from rfl) rfl (Nat.le_of_ble_eq_true rfl) ing1 mw_1401 (fv_sg rfl rfl rfl) d_MO_begins_105 ?_
        refine lv_iload_n F.hx F.hb d_MO_begins_108 rfl (lv_at hl 1 rfl) ?_
        obtain ⟨⟨g15a, g15b⟩, hT⟩ := q_guard hT
        refine r_iald F hS (show 202 < 231 by decide) (show shK 202 = 0 from rfl) (show shN 202 = 16 from rfl) hv1_ g15a g15b d_MO_begins_109 ?_
        have i16 := hS.rng 202 v1_
        refine lv_goto (tgt := 114) F.hx F.hb d_MO_begins_110 (by decide) ?_
        exact k_MO_begins_L114 l hlo F hlk hr (fun a0_ a1_ => t_MO_begins_L82 fu a0_ a1_) ih M v1_ hv1_ v1_ hv1_ (M.1 202 v1_) i16 _ _ _ hS (lv_sub hl [0, 1] rfl) hT
set_option maxHeartbeats 4000000 in
set_option maxRecDepth 100000 in
theorem k_MO_begins_L43 (l : Launch) {p : Program} {e : Env} {s : State} {m : MethodId} {below : List Frame} {meth : Method} {c : Code} {b n : Nat} {C : CT} (hlo : 231 ≤ n)   (F : Cx p m c b_MO_begins 2 s ([.ref (b + 191)] : List Value).toArray "WardFallsModel" C n 231) (hlk : meth.locks = false) (hr : meth.sig.returnType = none) {res : Mem} : ∀ (fu : Nat) (M : Mem) (v1_ : Int) (hv1_ : InR v1_) (H : Heap) (locs : List Loc) (ls : Array Slot), St b C n M s H locs → lv_has ls 2 [(0, .ref (b + 191)), (1, vI v1_)] → t_MO_begins_L43 fu M v1_ = some res → W p l e (headSpec (wsM y_MO_begins b_MO_begins 2 (none)) (rmD 0)).room s m ([.ref (b + 191)] : List Value).toArray below meth c H locs 0 0 (MQ below (QV b C n res) ([.ref (b + 191)] : List Value).toArray s 0 0 (frb b)) (F0 m 43 ls []) := by
  intro fu
  induction fu with
  | zero => intro M v1_ hv1_ H locs ls hS hl hT; exact absurd hT (by simp [t_MO_begins_L43])
  | succ fu ih =>
    intro M v1_ hv1_ H locs ls hS hl hT
    rw [t_MO_begins_L43] at hT
    refine lv_iload_n F.hx F.hb d_MO_begins_43 rfl (lv_at hl 1 rfl) ?_
    refine r_iconst F.hx F.hb d_MO_begins_44 ?_
    refine r_icmp_ge (tgt := 80) F.hx F.hb hv1_ (inr_c rfl) d_MO_begins_45 (by decide) (fun c7 => ?_) (fun c7 => ?_)
    · replace hT := (if_pos c7).symm.trans hT
      refine r_iconst F.hx F.hb d_MO_begins_80 ?_
      refine lv_istore_n (lv' := [(1, vI 0), (0, .ref (b + 191))]) F.hx F.hb d_MO_begins_81 rfl hl (Nat.le_of_ble_eq_true rfl) rfl (fun ls hl => ?_)
      exact k_MO_begins_L82 l hlo F hlk hr FU M 0 (inr_c rfl) _ _ _ hS (lv_sub hl [1, 0] rfl) hT
    · replace hT := (if_neg c7).symm.trans hT
      refine lv_aload_n F.hx F.hb d_MO_begins_48 rfl (lv_at hl 0 rfl) ?_
      refine r_get (v := .ref (b + 212)) (N := 68) (T := T1) (j := 35) F hS (show 191 < 231 by decide) (show shK 191 = 5 from rfl) (show shN 191 = 68 from rfl) rfl (Nat.le_of_ble_eq_true rfl) ing1 mw_1424 (fv_sg rfl rfl rfl) d_MO_begins_49 ?_
      refine lv_iload_n F.hx F.hb d_MO_begins_52 rfl (lv_at hl 1 rfl) ?_
      refine lv_iload_n F.hx F.hb d_MO_begins_53 rfl (lv_at hl 1 rfl) ?_
      refine lv_aload_n F.hx F.hb d_MO_begins_54 rfl (lv_at hl 0 rfl) ?_
      refine r_get (v := .ref (b + 193)) (N := 68) (T := T1) (j := 3) F hS (show 191 < 231 by decide) (show shK 191 = 5 from rfl) (show shN 191 = 68 from rfl) rfl (Nat.le_of_ble_eq_true rfl) ing1 mw_1392 (fv_sg rfl rfl rfl) d_MO_begins_55 ?_
      refine r_iconst F.hx F.hb d_MO_begins_58 ?_
      refine r_iald F hS (show 193 < 231 by decide) (show shK 193 = 0 from rfl) (show shN 193 = 18 from rfl) (inr_c rfl) (by omega) (by omega) d_MO_begins_59 ?_
      have i8 := hS.rng 193 2
      refine r_icmp_ge (tgt := 72) F.hx F.hb hv1_ i8 d_MO_begins_60 (by decide) (fun c9 => ?_) (fun c9 => ?_)
      · replace hT := (if_pos c9).symm.trans hT
        refine r_iconst F.hx F.hb d_MO_begins_72 ?_
        exact k_MO_begins_L73 l hlo F hlk hr (fun a0_ a1_ => t_MO_begins_L43 fu a0_ a1_) ih M v1_ hv1_ v1_ hv1_ 4 (inr_c rfl) _ _ _ hS (lv_sub hl [0, 1] rfl) hT
      · replace hT := (if_neg c9).symm.trans hT
        refine lv_aload_n F.hx F.hb d_MO_begins_63 rfl (lv_at hl 0 rfl) ?_
        refine r_get (v := .ref (b + 195)) (N := 68) (T := T1) (j := 5) F hS (show 191 < 231 by decide) (show shK 191 = 5 from rfl) (show shN 191 = 68 from rfl) rfl (Nat.le_of_ble_eq_true rfl) ing1 mw_1394 (fv_sg rfl rfl rfl) d_MO_begins_64 ?_
        refine lv_iload_n F.hx F.hb d_MO_begins_67 rfl (lv_at hl 1 rfl) ?_
        obtain ⟨⟨g10a, g10b⟩, hT⟩ := q_guard hT
        refine r_iald F hS (show 195 < 231 by decide) (show shK 195 = 0 from rfl) (show shN 195 = 8 from rfl) hv1_ g10a g10b d_MO_begins_68 ?_
        have i11 := hS.rng 195 v1_
        refine lv_goto (tgt := 73) F.hx F.hb d_MO_begins_69 (by decide) ?_
        exact k_MO_begins_L73 l hlo F hlk hr (fun a0_ a1_ => t_MO_begins_L43 fu a0_ a1_) ih M v1_ hv1_ v1_ hv1_ (M.1 195 v1_) i11 _ _ _ hS (lv_sub hl [0, 1] rfl) hT
set_option maxHeartbeats 4000000 in
set_option maxRecDepth 100000 in
theorem c_MO_begins (l : Launch) {b n : Nat} {C : CT} (hlo : 231 ≤ n) (M : Mem)   (res : Mem) (hT : t_MO_begins M  = some res) : CM l b C n 0 y_MO_begins b_MO_begins 2 (none) [.ref (b + 191)] M (QV b C n res) := by
  refine CM.of (lo := 231) (ow := "WardFallsModel") (by decide) rfl (Nat.le_of_ble_eq_true rfl) hlo (fun p e s m below meth c F hlk hr hS ls hl => ?_)
  have hl : lv_has ls 2 [(0, .ref (b + 191))] := hl
  unfold t_MO_begins at hT
  refine lv_aload_n F.hx F.hb d_MO_begins_0 rfl (lv_at hl 0 rfl) ?_
  refine r_get (v := .ref (b + 207)) (N := 68) (T := T1) (j := 30) F hS (show 191 < 231 by decide) (show shK 191 = 5 from rfl) (show shN 191 = 68 from rfl) rfl (Nat.le_of_ble_eq_true rfl) ing1 mw_1419 (fv_sg rfl rfl rfl) d_MO_begins_1 ?_
  refine r_iconst F.hx F.hb d_MO_begins_4 ?_
  refine r_iconst F.hx F.hb d_MO_begins_5 ?_
  refine r_iast F hS (show 207 < 231 by decide) (show shK 207 = 0 from rfl) (show shN 207 = 23 from rfl) (inr_c rfl) (inr_c rfl) (by omega) (by omega) d_MO_begins_6 (fun H locs hS => ?_)
  obtain ⟨M1, eM1⟩ : ∃ q, q = (setI M 207 0 0) := ⟨_, rfl⟩
  replace hS : St b C n M1 s H locs := by rw [eM1]; exact hS
  replace hT := qlet_eq hT eM1
  refine lv_aload_n F.hx F.hb d_MO_begins_7 rfl (lv_at hl 0 rfl) ?_
  refine r_get (v := .ref (b + 208)) (N := 68) (T := T1) (j := 31) F hS (show 191 < 231 by decide) (show shK 191 = 5 from rfl) (show shN 191 = 68 from rfl) rfl (Nat.le_of_ble_eq_true rfl) ing1 mw_1420 (fv_sg rfl rfl rfl) d_MO_begins_8 ?_
  refine r_iconst F.hx F.hb d_MO_begins_11 ?_
  refine r_iconst F.hx F.hb d_MO_begins_12 ?_
  refine r_iast F hS (show 208 < 231 by decide) (show shK 208 = 0 from rfl) (show shN 208 = 23 from rfl) (inr_c rfl) (inr_c rfl) (by omega) (by omega) d_MO_begins_13 (fun H locs hS => ?_)
  obtain ⟨M2, eM2⟩ : ∃ q, q = (setI M1 208 0 0) := ⟨_, rfl⟩
  replace hS : St b C n M2 s H locs := by rw [eM2]; exact hS
  replace hT := qlet_eq hT eM2
  refine lv_aload_n F.hx F.hb d_MO_begins_14 rfl (lv_at hl 0 rfl) ?_
  refine r_get (v := .ref (b + 209)) (N := 68) (T := T1) (j := 32) F hS (show 191 < 231 by decide) (show shK 191 = 5 from rfl) (show shN 191 = 68 from rfl) rfl (Nat.le_of_ble_eq_true rfl) ing1 mw_1421 (fv_sg rfl rfl rfl) d_MO_begins_15 ?_
  refine r_iconst F.hx F.hb d_MO_begins_18 ?_
  refine lv_aload_n F.hx F.hb d_MO_begins_19 rfl (lv_at hl 0 rfl) ?_
  refine r_get (v := .ref (b + 193)) (N := 68) (T := T1) (j := 3) F hS (show 191 < 231 by decide) (show shK 191 = 5 from rfl) (show shN 191 = 68 from rfl) rfl (Nat.le_of_ble_eq_true rfl) ing1 mw_1392 (fv_sg rfl rfl rfl) d_MO_begins_20 ?_
  refine r_bipush F.hx F.hb d_MO_begins_23 rfl ?_
  refine r_iald F hS (show 193 < 231 by decide) (show shK 193 = 0 from rfl) (show shN 193 = 18 from rfl) (inr_c rfl) (by omega) (by omega) d_MO_begins_25 ?_
  have i3 := hS.rng 193 7
  refine r_iast F hS (show 209 < 231 by decide) (show shK 209 = 0 from rfl) (show shN 209 = 23 from rfl) (inr_c rfl) i3 (by omega) (by omega) d_MO_begins_26 (fun H locs hS => ?_)
  obtain ⟨M4, eM4⟩ : ∃ q, q = (setI M2 209 0 (M2.1 193 7)) := ⟨_, rfl⟩
  replace hS : St b C n M4 s H locs := by rw [eM4]; exact hS
  replace hT := qlet_eq hT eM4
  refine lv_aload_n F.hx F.hb d_MO_begins_27 rfl (lv_at hl 0 rfl) ?_
  refine r_get (v := .ref (b + 210)) (N := 68) (T := T1) (j := 33) F hS (show 191 < 231 by decide) (show shK 191 = 5 from rfl) (show shN 191 = 68 from rfl) rfl (Nat.le_of_ble_eq_true rfl) ing1 mw_1422 (fv_sg rfl rfl rfl) d_MO_begins_28 ?_
  refine r_iconst F.hx F.hb d_MO_begins_31 ?_
  refine lv_lconst (v := 0) F.hx F.hb d_MO_begins_32 rfl ?_
  refine r_last F hS (show 210 < 231 by decide) (show shK 210 = 2 from rfl) (show shN 210 = 23 from rfl) (inr_c rfl) (by omega) (by omega) d_MO_begins_33 (fun H locs hS => ?_)
  obtain ⟨M5, eM5⟩ : ∃ q, q = (setL M4 210 0 0) := ⟨_, rfl⟩
  replace hS : St b C n M5 s H locs := by rw [eM5]; exact hS
  replace hT := qlet_eq hT eM5
  refine lv_aload_n F.hx F.hb d_MO_begins_34 rfl (lv_at hl 0 rfl) ?_
  refine r_get (v := .ref (b + 211)) (N := 68) (T := T1) (j := 34) F hS (show 191 < 231 by decide) (show shK 191 = 5 from rfl) (show shN 191 = 68 from rfl) rfl (Nat.le_of_ble_eq_true rfl) ing1 mw_1423 (fv_sg rfl rfl rfl) d_MO_begins_35 ?_
  refine r_iconst F.hx F.hb d_MO_begins_38 ?_
  refine lv_lconst (v := 0) F.hx F.hb d_MO_begins_39 rfl ?_
  refine r_last F hS (show 211 < 231 by decide) (show shK 211 = 2 from rfl) (show shN 211 = 23 from rfl) (inr_c rfl) (by omega) (by omega) d_MO_begins_40 (fun H locs hS => ?_)
  obtain ⟨M6, eM6⟩ : ∃ q, q = (setL M5 211 0 0) := ⟨_, rfl⟩
  replace hS : St b C n M6 s H locs := by rw [eM6]; exact hS
  replace hT := qlet_eq hT eM6
  refine r_iconst F.hx F.hb d_MO_begins_41 ?_
  refine lv_istore_n (lv' := [(1, vI 0), (0, .ref (b + 191))]) F.hx F.hb d_MO_begins_42 rfl hl (Nat.le_of_ble_eq_true rfl) rfl (fun ls hl => ?_)
  exact k_MO_begins_L43 l hlo F hlk hr FU M6 0 (inr_c rfl) _ _ _ hS (lv_sub hl [1, 0] rfl) hT
