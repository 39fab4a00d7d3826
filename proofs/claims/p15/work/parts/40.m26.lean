theorem d_MO_isStay_0 : decode b_MO_isStay 0 = .ok (.iconst 0, 1) := dc_3 (by decide +kernel)
theorem d_MO_isStay_1 : decode b_MO_isStay 1 = .ok (.istore_n 2, 1) := dc_61 (by decide +kernel)
theorem d_MO_isStay_2 : decode b_MO_isStay 2 = .ok (.iload_n 2, 1) := dc_28 (by decide +kernel)
theorem d_MO_isStay_3 : decode b_MO_isStay 3 = .ok (.aload_n 0, 1) := dc_42 (by decide +kernel)
theorem d_MO_isStay_4 : decode b_MO_isStay 4 = .ok (.getfield 13, 3) := dc_180 (by decide +kernel)
theorem d_MO_isStay_7 : decode b_MO_isStay 7 = .ok (.iconst 2, 1) := dc_5 (by decide +kernel)
theorem d_MO_isStay_8 : decode b_MO_isStay 8 = .ok (.iaload, 1) := dc_46 (by decide +kernel)
theorem d_MO_isStay_9 : decode b_MO_isStay 9 = .ok (.if_icmp .ge 52, 3) := dc_162 (by decide +kernel)
theorem d_MO_isStay_12 : decode b_MO_isStay 12 = .ok (.iconst 0, 1) := dc_3 (by decide +kernel)
theorem d_MO_isStay_13 : decode b_MO_isStay 13 = .ok (.istore_n 3, 1) := dc_62 (by decide +kernel)
theorem d_MO_isStay_14 : decode b_MO_isStay 14 = .ok (.iload_n 3, 1) := dc_29 (by decide +kernel)
theorem d_MO_isStay_15 : decode b_MO_isStay 15 = .ok (.iconst 4, 1) := dc_7 (by decide +kernel)
theorem d_MO_isStay_16 : decode b_MO_isStay 16 = .ok (.if_icmp .ge 39, 3) := dc_162 (by decide +kernel)
theorem d_MO_isStay_19 : decode b_MO_isStay 19 = .ok (.aload_n 0, 1) := dc_42 (by decide +kernel)
theorem d_MO_isStay_20 : decode b_MO_isStay 20 = .ok (.getfield 118, 3) := dc_180 (by decide +kernel)
theorem d_MO_isStay_23 : decode b_MO_isStay 23 = .ok (.iconst 4, 1) := dc_7 (by decide +kernel)
theorem d_MO_isStay_24 : decode b_MO_isStay 24 = .ok (.iload_n 1, 1) := dc_27 (by decide +kernel)
theorem d_MO_isStay_25 : decode b_MO_isStay 25 = .ok (.iload_n 2, 1) := dc_28 (by decide +kernel)
theorem d_MO_isStay_26 : decode b_MO_isStay 26 = .ok (.iload_n 3, 1) := dc_29 (by decide +kernel)
theorem d_MO_isStay_27 : decode b_MO_isStay 27 = .ok (.invokestatic 486, 3) := dc_184 (by decide +kernel)
theorem d_MO_isStay_30 : decode b_MO_isStay 30 = .ok (.imul, 1) := dc_104 (by decide +kernel)
theorem d_MO_isStay_31 : decode b_MO_isStay 31 = .ok (.iload_n 2, 1) := dc_28 (by decide +kernel)
theorem d_MO_isStay_32 : decode b_MO_isStay 32 = .ok (.iadd, 1) := dc_96 (by decide +kernel)
theorem d_MO_isStay_33 : decode b_MO_isStay 33 = .ok (.iaload, 1) := dc_46 (by decide +kernel)
theorem d_MO_isStay_34 : decode b_MO_isStay 34 = .ok (.aload_n 0, 1) := dc_42 (by decide +kernel)
theorem d_MO_isStay_35 : decode b_MO_isStay 35 = .ok (.getfield 118, 3) := dc_180 (by decide +kernel)
theorem d_MO_isStay_38 : decode b_MO_isStay 38 = .ok (.iconst 4, 1) := dc_7 (by decide +kernel)
theorem d_MO_isStay_39 : decode b_MO_isStay 39 = .ok (.iload_n 1, 1) := dc_27 (by decide +kernel)
theorem d_MO_isStay_40 : decode b_MO_isStay 40 = .ok (.imul, 1) := dc_104 (by decide +kernel)
theorem d_MO_isStay_41 : decode b_MO_isStay 41 = .ok (.iload_n 2, 1) := dc_28 (by decide +kernel)
theorem d_MO_isStay_42 : decode b_MO_isStay 42 = .ok (.iadd, 1) := dc_96 (by decide +kernel)
theorem d_MO_isStay_43 : decode b_MO_isStay 43 = .ok (.iaload, 1) := dc_46 (by decide +kernel)
theorem d_MO_isStay_44 : decode b_MO_isStay 44 = .ok (.if_icmp .le 5, 3) := dc_164 (by decide +kernel)
theorem d_MO_isStay_47 : decode b_MO_isStay 47 = .ok (.iconst 0, 1) := dc_3 (by decide +kernel)
theorem d_MO_isStay_48 : decode b_MO_isStay 48 = .ok (.ireturn, 1) := dc_172 (by decide +kernel)
theorem d_MO_isStay_49 : decode b_MO_isStay 49 = .ok (.iinc 3 1, 3) := dc_132 (by decide +kernel)
theorem d_MO_isStay_52 : decode b_MO_isStay 52 = .ok (.goto (-38), 3) := dc_167 (by decide +kernel)
theorem d_MO_isStay_55 : decode b_MO_isStay 55 = .ok (.iinc 2 1, 3) := dc_132 (by decide +kernel)
theorem d_MO_isStay_58 : decode b_MO_isStay 58 = .ok (.goto (-56), 3) := dc_167 (by decide +kernel)
theorem d_MO_isStay_61 : decode b_MO_isStay 61 = .ok (.iconst 1, 1) := dc_4 (by decide +kernel)
theorem d_MO_isStay_62 : decode b_MO_isStay 62 = .ok (.ireturn, 1) := dc_172 (by decide +kernel)
def t_MO_isStay_L14 (x1 : Int) (bk2 : Mem → Int → Option (Int)) : Nat → Mem → Int → Int → Option (Int)
  | 0, _, _, _ => none
  | fu + 1, M, v2_, v3_ => (if 4 ≤ v3_ then (bk2 M (w32 (v2_ + 1))) else (qlet (t_MO_with M x1 v2_ v3_) fun q4 => (qguard (0 ≤ (w32 ((w32 (4 * q4)) + v2_)) ∧ (w32 ((w32 (4 * q4)) + v2_)) < 1024) (qguard (0 ≤ (w32 ((w32 (4 * x1)) + v2_)) ∧ (w32 ((w32 (4 * x1)) + v2_)) < 1024) (if (M.1 224 (w32 ((w32 (4 * q4)) + v2_))) ≤ (M.1 224 (w32 ((w32 (4 * x1)) + v2_))) then (t_MO_isStay_L14 x1 bk2 fu M v2_ (w32 (v3_ + 1))) else (some 0))))))
def t_MO_isStay_L2 (x1 : Int)  : Nat → Mem → Int → Option (Int)
  | 0, _, _ => none
  | fu + 1, M, v2_ => (if (M.1 193 2) ≤ v2_ then (some 1) else (t_MO_isStay_L14 x1 (fun a0_ a1_ => t_MO_isStay_L2 x1 fu a0_ a1_) FU M v2_ 0))
def t_MO_isStay (M : Mem) (x1 : Int) : Option (Int) := (t_MO_isStay_L2 x1 FU M 0)
set_option maxHeartbeats 4000000 in
set_option maxRecDepth 100000 in
theorem k_MO_isStay_L14 (l : Launch) {p : Program} {e : Env} {s : State} {m : MethodId} {below : List Frame} {meth : Method} {c : Code} {b n : Nat} {C : CT} (hlo : 231 ≤ n) (x1 : Int) (hx1 : InR x1) (F : Cx b p m c b_MO_isStay 4 s ([.ref (b + 191), vI x1] : List Value).toArray "WardFallsModel" C n 231) (hlk : meth.locks = false) (hr : meth.sig.returnType = some .boolean) {res : Int} (bk2 : Mem → Int → Option (Int)) (hbk2 : ∀ (M : Mem) (v2_ : Int) (hv2_ : InR v2_) (H : Heap) (locs : List Loc) (ls : Array Slot), St b C n M s H locs → lv_has ls 4 [(0, .ref (b + 191)), (1, vI x1), (2, vI v2_)] → bk2 M v2_ = some res → W p l e (headSpec (wsM y_MO_isStay b_MO_isStay 4 (some .boolean)) (rmD 1)).room s m ([.ref (b + 191), vI x1] : List Value).toArray below meth c H locs 0 0 (MQ below (QZ b C n M res) ([.ref (b + 191), vI x1] : List Value).toArray s 0 0 (frb b)) (F0 m 2 ls [])) : ∀ (fu : Nat) (M : Mem) (v2_ : Int) (hv2_ : InR v2_) (v3_ : Int) (hv3_ : InR v3_) (H : Heap) (locs : List Loc) (ls : Array Slot), St b C n M s H locs → lv_has ls 4 [(0, .ref (b + 191)), (1, vI x1), (2, vI v2_), (3, vI v3_)] → t_MO_isStay_L14 x1 bk2 fu M v2_ v3_ = some res → W p l e (headSpec (wsM y_MO_isStay b_MO_isStay 4 (some .boolean)) (rmD 1)).room s m ([.ref (b + 191), vI x1] : List Value).toArray below meth c H locs 0 0 (MQ below (QZ b C n M res) ([.ref (b + 191), vI x1] : List Value).toArray s 0 0 (frb b)) (F0 m 14 ls []) := by
  intro fu
  induction fu with
  | zero => intro M v2_ hv2_ v3_ hv3_ H locs ls hS hl hT; exact absurd hT (by simp [t_MO_isStay_L14])
  | succ fu ih =>
    intro M v2_ hv2_ v3_ hv3_ H locs ls hS hl hT
    rw [t_MO_isStay_L14] at hT
    refine lv_iload_n F.hx F.hb d_MO_isStay_14 rfl (lv_at hl 3 rfl) ?_
    refine r_iconst F.hx F.hb d_MO_isStay_15 ?_
    refine r_icmp_ge (tgt := 55) F.hx F.hb hv3_ (inr_c rfl) d_MO_isStay_16 (by decide) (fun c3 => ?_) (fun c3 => ?_)
    · replace hT := (if_pos c3).symm.trans hT
      refine lv_iinc (v := Int32.ofInt (w32 (v2_ + 1))) (lv' := [(2, vI (w32 (v2_ + 1))), (0, .ref (b + 191)), (1, vI x1), (3, vI v3_)]) F.hx F.hb d_MO_isStay_55 hl (k := 2) rfl (q_of_add _ _) (Nat.le_of_ble_eq_true rfl) rfl (fun ls hl => ?_)
      refine lv_goto (tgt := 2) F.hx F.hb d_MO_isStay_58 (by decide) ?_
      exact hbk2 M (w32 (v2_ + 1)) (inr_w32 _) _ _ _ hS (lv_sub hl [1, 2, 0] rfl) hT
    · replace hT := (if_neg c3).symm.trans hT
      refine lv_aload_n F.hx F.hb d_MO_isStay_19 rfl (lv_at hl 0 rfl) ?_
      refine r_get (v := .ref (b + 224)) (N := 68) (T := T1) (j := 58) F hS (show 191 < 231 by decide) (show shK 191 = 5 from rfl) (show shN 191 = 68 from rfl) rfl (Nat.le_of_ble_eq_true rfl) ing1 mw_1447 (fv_sg rfl rfl rfl) d_MO_isStay_20 ?_
      refine r_iconst F.hx F.hb d_MO_isStay_23 ?_
      refine lv_iload_n F.hx F.hb d_MO_isStay_24 rfl (lv_at hl 1 rfl) ?_
      refine lv_iload_n F.hx F.hb d_MO_isStay_25 rfl (lv_at hl 2 rfl) ?_
      refine lv_iload_n F.hx F.hb d_MO_isStay_26 rfl (lv_at hl 3 rfl) ?_
      obtain ⟨q4, hq4⟩ : ∃ q, q = (t_MO_with M x1 v2_ v3_) := ⟨_, rfl⟩
      replace hT := qlet_eq hT hq4
      refine r_backI F hS (r_runS (As := [vI x1, vI v2_, vI v3_]) F hS (c_MO_with l F.2.2.1 M x1 v2_ v3_ hx1 hv2_ hv3_ _ hq4.symm) gs_MO_486 hd_MO_with ⟨Nat.le_of_ble_eq_true rfl, Nat.le_of_ble_eq_true rfl⟩ rfl hl.1 (Nat.le_of_ble_eq_true rfl) ⟨Nat.zero_le _, Nat.zero_le _⟩ rfl d_MO_isStay_27) (fun H locs hS h5 => ?_)
      refine r_imul F.hx F.hb d_MO_isStay_30 ?_
      refine lv_iload_n F.hx F.hb d_MO_isStay_31 rfl (lv_at hl 2 rfl) ?_
      refine r_iadd F.hx F.hb d_MO_isStay_32 ?_
      obtain ⟨⟨g6a, g6b⟩, hT⟩ := q_guard hT
      refine r_iald F hS (show 224 < 231 by decide) (show shK 224 = 0 from rfl) (show shN 224 = 1024 from rfl) (inr_w32 _) g6a g6b d_MO_isStay_33 ?_
      have i7 := hS.rng 224 (w32 ((w32 (4 * q4)) + v2_))
      refine lv_aload_n F.hx F.hb d_MO_isStay_34 rfl (lv_at hl 0 rfl) ?_
      refine r_get (v := .ref (b + 224)) (N := 68) (T := T1) (j := 58) F hS (show 191 < 231 by decide) (show shK 191 = 5 from rfl) (show shN 191 = 68 from rfl) rfl (Nat.le_of_ble_eq_true rfl) ing1 mw_1447 (fv_sg rfl rfl rfl) d_MO_isStay_35 ?_
      refine r_iconst F.hx F.hb d_MO_isStay_38 ?_
      refine lv_iload_n F.hx F.hb d_MO_isStay_39 rfl (lv_at hl 1 rfl) ?_
      refine r_imul F.hx F.hb d_MO_isStay_40 ?_
      refine lv_iload_n F.hx F.hb d_MO_isStay_41 rfl (lv_at hl 2 rfl) ?_
      refine r_iadd F.hx F.hb d_MO_isStay_42 ?_
      obtain ⟨⟨g8a, g8b⟩, hT⟩ := q_guard hT
      refine r_iald F hS (show 224 < 231 by decide) (show shK 224 = 0 from rfl) (show shN 224 = 1024 from rfl) (inr_w32 _) g8a g8b d_MO_isStay_43 ?_
      have i9 := hS.rng 224 (w32 ((w32 (4 * x1)) + v2_))
      refine r_icmp_le (tgt := 49) F.hx F.hb i7 i9 d_MO_isStay_44 (by decide) (fun c10 => ?_) (fun c10 => ?_)
      · replace hT := (if_pos c10).symm.trans hT
        refine lv_iinc (v := Int32.ofInt (w32 (v3_ + 1))) (lv' := [(3, vI (w32 (v3_ + 1))), (0, .ref (b + 191)), (1, vI x1), (2, vI v2_)]) F.hx F.hb d_MO_isStay_49 hl (k := 3) rfl (q_of_add _ _) (Nat.le_of_ble_eq_true rfl) rfl (fun ls hl => ?_)
        refine lv_goto (tgt := 14) F.hx F.hb d_MO_isStay_52 (by decide) ?_
        exact ih M v2_ hv2_ (w32 (v3_ + 1)) (inr_w32 _) _ _ _ hS (lv_sub hl [1, 2, 3, 0] rfl) hT
      · replace hT := (if_neg c10).symm.trans hT
        refine r_iconst F.hx F.hb d_MO_isStay_47 ?_
        cases hT
        exact r_zret F hlk hr hS (Or.inl rfl) d_MO_isStay_48
set_option maxHeartbeats 4000000 in
set_option maxRecDepth 100000 in
theorem k_MO_isStay_L2 (l : Launch) {p : Program} {e : Env} {s : State} {m : MethodId} {below : List Frame} {meth : Method} {c : Code} {b n : Nat} {C : CT} (hlo : 231 ≤ n) (x1 : Int) (hx1 : InR x1) (F : Cx b p m c b_MO_isStay 4 s ([.ref (b + 191), vI x1] : List Value).toArray "WardFallsModel" C n 231) (hlk : meth.locks = false) (hr : meth.sig.returnType = some .boolean) {res : Int} : ∀ (fu : Nat) (M : Mem) (v2_ : Int) (hv2_ : InR v2_) (H : Heap) (locs : List Loc) (ls : Array Slot), St b C n M s H locs → lv_has ls 4 [(0, .ref (b + 191)), (1, vI x1), (2, vI v2_)] → t_MO_isStay_L2 x1 fu M v2_ = some res → W p l e (headSpec (wsM y_MO_isStay b_MO_isStay 4 (some .boolean)) (rmD 1)).room s m ([.ref (b + 191), vI x1] : List Value).toArray below meth c H locs 0 0 (MQ below (QZ b C n M res) ([.ref (b + 191), vI x1] : List Value).toArray s 0 0 (frb b)) (F0 m 2 ls []) := by
  intro fu
  induction fu with
  | zero => intro M v2_ hv2_ H locs ls hS hl hT; exact absurd hT (by simp [t_MO_isStay_L2])
  | succ fu ih =>
    intro M v2_ hv2_ H locs ls hS hl hT
    rw [t_MO_isStay_L2] at hT
    refine lv_iload_n F.hx F.hb d_MO_isStay_2 rfl (lv_at hl 2 rfl) ?_
    refine lv_aload_n F.hx F.hb d_MO_isStay_3 rfl (lv_at hl 0 rfl) ?_
    refine r_get (v := .ref (b + 193)) (N := 68) (T := T1) (j := 3) F hS (show 191 < 231 by decide) (show shK 191 = 5 from rfl) (show shN 191 = 68 from rfl) rfl (Nat.le_of_ble_eq_true rfl) ing1 mw_1392 (fv_sg rfl rfl rfl) d_MO_isStay_4 ?_
    refine r_iconst F.hx F.hb d_MO_isStay_7 ?_
    refine r_iald F hS (show 193 < 231 by decide) (show shK 193 = 0 from rfl) (show shN 193 = 18 from rfl) (inr_c rfl) (by omega) (by omega) d_MO_isStay_8 ?_
    have i1 := hS.rng 193 2
    refine r_icmp_ge (tgt := 61) F.hx F.hb hv2_ i1 d_MO_isStay_9 (by decide) (fun c2 => ?_) (fun c2 => ?_)
    · replace hT := (if_pos c2).symm.trans hT
      refine r_iconst F.hx F.hb d_MO_isStay_61 ?_
      cases hT
      exact r_zret F hlk hr hS (Or.inr rfl) d_MO_isStay_62
    · replace hT := (if_neg c2).symm.trans hT
      refine r_iconst F.hx F.hb d_MO_isStay_12 ?_
      refine lv_istore_n (lv' := [(3, vI 0), (0, .ref (b + 191)), (1, vI x1), (2, vI v2_)]) F.hx F.hb d_MO_isStay_13 rfl hl (Nat.le_of_ble_eq_true rfl) rfl (fun ls hl => ?_)
      exact k_MO_isStay_L14 l hlo x1 hx1 F hlk hr (fun a0_ a1_ => t_MO_isStay_L2 x1 fu a0_ a1_) ih FU M v2_ hv2_ 0 (inr_c rfl) _ _ _ hS (lv_sub hl [1, 2, 3, 0] rfl) hT
set_option maxHeartbeats 4000000 in
set_option maxRecDepth 100000 in
theorem c_MO_isStay (l : Launch) {b n : Nat} {C : CT} (hlo : 231 ≤ n) (M : Mem) (x1 : Int) (hx1 : InR x1) (res : Int) (hT : t_MO_isStay M x1 = some res) : CM l b C n 1 y_MO_isStay b_MO_isStay 4 (some .boolean) [.ref (b + 191), vI x1] M (QZ b C n M res) := by
  refine CM.of (lo := 231) (ow := "WardFallsModel") (by decide) rfl (Nat.le_of_ble_eq_true rfl) hlo (fun p e s m below meth c F hlk hr hS ls hl => ?_)
  have hl : lv_has ls 4 [(0, .ref (b + 191)), (1, vI x1)] := hl
  unfold t_MO_isStay at hT
  refine r_iconst F.hx F.hb d_MO_isStay_0 ?_
  refine lv_istore_n (lv' := [(2, vI 0), (0, .ref (b + 191)), (1, vI x1)]) F.hx F.hb d_MO_isStay_1 rfl hl (Nat.le_of_ble_eq_true rfl) rfl (fun ls hl => ?_)
  exact k_MO_isStay_L2 l hlo x1 hx1 F hlk hr FU M 0 (inr_c rfl) _ _ _ hS (lv_sub hl [1, 2, 0] rfl) hT
theorem d_MO_stayOf_0 : decode b_MO_stayOf 0 = .ok (.aload_n 0, 1) := dc_42 (by decide +kernel)
theorem d_MO_stayOf_1 : decode b_MO_stayOf 1 = .ok (.invokevirtual 489, 3) := dc_182 (by decide +kernel)
theorem d_MO_stayOf_4 : decode b_MO_stayOf 4 = .ok (.iconst 0, 1) := dc_3 (by decide +kernel)
theorem d_MO_stayOf_5 : decode b_MO_stayOf 5 = .ok (.istore_n 2, 1) := dc_61 (by decide +kernel)
theorem d_MO_stayOf_6 : decode b_MO_stayOf 6 = .ok (.iconst 0, 1) := dc_3 (by decide +kernel)
theorem d_MO_stayOf_7 : decode b_MO_stayOf 7 = .ok (.istore_n 3, 1) := dc_62 (by decide +kernel)
theorem d_MO_stayOf_8 : decode b_MO_stayOf 8 = .ok (.iload_n 3, 1) := dc_29 (by decide +kernel)
theorem d_MO_stayOf_9 : decode b_MO_stayOf 9 = .ok (.aload_n 0, 1) := dc_42 (by decide +kernel)
theorem d_MO_stayOf_10 : decode b_MO_stayOf 10 = .ok (.invokevirtual 483, 3) := dc_182 (by decide +kernel)
theorem d_MO_stayOf_13 : decode b_MO_stayOf 13 = .ok (.if_icmp .ge 30, 3) := dc_162 (by decide +kernel)
theorem d_MO_stayOf_16 : decode b_MO_stayOf 16 = .ok (.aload_n 0, 1) := dc_42 (by decide +kernel)
theorem d_MO_stayOf_17 : decode b_MO_stayOf 17 = .ok (.iload_n 3, 1) := dc_29 (by decide +kernel)
theorem d_MO_stayOf_18 : decode b_MO_stayOf 18 = .ok (.invokevirtual 492, 3) := dc_182 (by decide +kernel)
theorem d_MO_stayOf_21 : decode b_MO_stayOf 21 = .ok (.ifCond .ne 6, 3) := dc_154 (by decide +kernel)
theorem d_MO_stayOf_24 : decode b_MO_stayOf 24 = .ok (.goto 13, 3) := dc_167 (by decide +kernel)
theorem d_MO_stayOf_27 : decode b_MO_stayOf 27 = .ok (.iload_n 2, 1) := dc_28 (by decide +kernel)
theorem d_MO_stayOf_28 : decode b_MO_stayOf 28 = .ok (.iload_n 1, 1) := dc_27 (by decide +kernel)
theorem d_MO_stayOf_29 : decode b_MO_stayOf 29 = .ok (.if_icmp .ne 5, 3) := dc_160 (by decide +kernel)
theorem d_MO_stayOf_32 : decode b_MO_stayOf 32 = .ok (.iload_n 3, 1) := dc_29 (by decide +kernel)
theorem d_MO_stayOf_33 : decode b_MO_stayOf 33 = .ok (.ireturn, 1) := dc_172 (by decide +kernel)
theorem d_MO_stayOf_34 : decode b_MO_stayOf 34 = .ok (.iinc 2 1, 3) := dc_132 (by decide +kernel)
theorem d_MO_stayOf_37 : decode b_MO_stayOf 37 = .ok (.iinc 3 1, 3) := dc_132 (by decide +kernel)
theorem d_MO_stayOf_40 : decode b_MO_stayOf 40 = .ok (.goto (-32), 3) := dc_167 (by decide +kernel)
theorem d_MO_stayOf_43 : decode b_MO_stayOf 43 = .ok (.iload_n 1, 1) := dc_27 (by decide +kernel)
theorem d_MO_stayOf_44 : decode b_MO_stayOf 44 = .ok (.iconst (-1), 1) := dc_2 (by decide +kernel)
theorem d_MO_stayOf_45 : decode b_MO_stayOf 45 = .ok (.if_icmp .ne 7, 3) := dc_160 (by decide +kernel)
theorem d_MO_stayOf_48 : decode b_MO_stayOf 48 = .ok (.iload_n 2, 1) := dc_28 (by decide +kernel)
theorem d_MO_stayOf_49 : decode b_MO_stayOf 49 = .ok (.goto 5, 3) := dc_167 (by decide +kernel)
theorem d_MO_stayOf_52 : decode b_MO_stayOf 52 = .ok (.bipush (-2), 2) := dc_16 (by decide +kernel)
theorem d_MO_stayOf_54 : decode b_MO_stayOf 54 = .ok (.ireturn, 1) := dc_172 (by decide +kernel)
def t_MO_stayOf_L37 (x1 : Int) (bk8 : Mem → Int → Int → Option (Mem × Int)) (M : Mem) (v2_ : Int) (v3_ : Int) : Option (Mem × Int) := (bk8 M v2_ (w32 (v3_ + 1)))
def t_MO_stayOf_L8 (x1 : Int)  : Nat → Mem → Int → Int → Option (Mem × Int)
  | 0, _, _, _ => none
  | fu + 1, M, v2_, v3_ => (qlet (t_MO_votes M) fun q3 => (if q3 ≤ v3_ then (if x1 = (-1) then (some (M, v2_)) else (some (M, (-2)))) else (obind (t_MO_isStay M v3_) fun q7 => (if q7 = 0 then (t_MO_stayOf_L37 x1 (fun a0_ a1_ a2_ => t_MO_stayOf_L8 x1 fu a0_ a1_ a2_) M v2_ v3_) else (if v2_ = x1 then (some (M, v3_)) else (t_MO_stayOf_L37 x1 (fun a0_ a1_ a2_ => t_MO_stayOf_L8 x1 fu a0_ a1_ a2_) M (w32 (v2_ + 1)) v3_))))))
def t_MO_stayOf (M : Mem) (x1 : Int) : Option (Mem × Int) := (obind (t_MO_layJoys M) fun q1 => (t_MO_stayOf_L8 x1 FU q1 0 0))
set_option maxHeartbeats 4000000 in
set_option maxRecDepth 100000 in
theorem k_MO_stayOf_L37 (l : Launch) {p : Program} {e : Env} {s : State} {m : MethodId} {below : List Frame} {meth : Method} {c : Code} {b n : Nat} {C : CT} (hlo : 231 ≤ n) (x1 : Int) (hx1 : InR x1) (F : Cx b p m c b_MO_stayOf 4 s ([.ref (b + 191), vI x1] : List Value).toArray "WardFallsModel" C n 231) (hlk : meth.locks = false) (hr : meth.sig.returnType = some .int) {res : Mem × Int} (bk8 : Mem → Int → Int → Option (Mem × Int)) (hbk8 : ∀ (M : Mem) (v2_ : Int) (hv2_ : InR v2_) (v3_ : Int) (hv3_ : InR v3_) (H : Heap) (locs : List Loc) (ls : Array Slot), St b C n M s H locs → lv_has ls 4 [(0, .ref (b + 191)), (1, vI x1), (2, vI v2_), (3, vI v3_)] → bk8 M v2_ v3_ = some res → W p l e (headSpec (wsM y_MO_stayOf b_MO_stayOf 4 (some .int)) (rmD 6)).room s m ([.ref (b + 191), vI x1] : List Value).toArray below meth c H locs 0 0 (MQ below (QI b C n res.1 res.2) ([.ref (b + 191), vI x1] : List Value).toArray s 0 0 (frb b)) (F0 m 8 ls [])) (M : Mem) (v2_ : Int) (hv2_ : InR v2_) (v3_ : Int) (hv3_ : InR v3_) (H : Heap) (locs : List Loc) (ls : Array Slot) (hS : St b C n M s H locs) (hl : lv_has ls 4 [(0, .ref (b + 191)), (1, vI x1), (2, vI v2_), (3, vI v3_)]) (hT : t_MO_stayOf_L37 x1 bk8 M v2_ v3_ = some res) : W p l e (headSpec (wsM y_MO_stayOf b_MO_stayOf 4 (some .int)) (rmD 6)).room s m ([.ref (b + 191), vI x1] : List Value).toArray below meth c H locs 0 0 (MQ below (QI b C n res.1 res.2) ([.ref (b + 191), vI x1] : List Value).toArray s 0 0 (frb b)) (F0 m 37 ls []) := by
  unfold t_MO_stayOf_L37 at hT
  refine lv_iinc (v := Int32.ofInt (w32 (v3_ + 1))) (lv' := [(3, vI (w32 (v3_ + 1))), (0, .ref (b + 191)), (1, vI x1), (2, vI v2_)]) F.hx F.hb d_MO_stayOf_37 hl (k := 3) rfl (q_of_add _ _) (Nat.le_of_ble_eq_true rfl) rfl (fun ls hl => ?_)
  refine lv_goto (tgt := 8) F.hx F.hb d_MO_stayOf_40 (by decide) ?_
  exact hbk8 M v2_ hv2_ (w32 (v3_ + 1)) (inr_w32 _) _ _ _ hS (lv_sub hl [1, 2, 3, 0] rfl) hT
set_option maxHeartbeats 4000000 in
set_option maxRecDepth 100000 in
theorem k_MO_stayOf_L8 (l : Launch) {p : Program} {e : Env} {s : State} {m : MethodId} {below : List Frame} {meth : Method} {c : Code} {b n : Nat} {C : CT} (hlo : 231 ≤ n) (x1 : Int) (hx1 : InR x1) (F : Cx b p m c b_MO_stayOf 4 s ([.ref (b + 191), vI x1] : List Value).toArray "WardFallsModel" C n 231) (hlk : meth.locks = false) (hr : meth.sig.returnType = some .int) {res : Mem × Int} : ∀ (fu : Nat) (M : Mem) (v2_ : Int) (hv2_ : InR v2_) (v3_ : Int) (hv3_ : InR v3_) (H : Heap) (locs : List Loc) (ls : Array Slot), St b C n M s H locs → lv_has ls 4 [(0, .ref (b + 191)), (1, vI x1), (2, vI v2_), (3, vI v3_)] → t_MO_stayOf_L8 x1 fu M v2_ v3_ = some res → W p l e (headSpec (wsM y_MO_stayOf b_MO_stayOf 4 (some .int)) (rmD 6)).room s m ([.ref (b + 191), vI x1] : List Value).toArray below meth c H locs 0 0 (MQ below (QI b C n res.1 res.2) ([.ref (b + 191), vI x1] : List Value).toArray s 0 0 (frb b)) (F0 m 8 ls []) := by
  intro fu
  induction fu with
  | zero => intro M v2_ hv2_ v3_ hv3_ H locs ls hS hl hT; exact absurd hT (by simp [t_MO_stayOf_L8])
  | succ fu ih =>
    intro M v2_ hv2_ v3_ hv3_ H locs ls hS hl hT
    rw [t_MO_stayOf_L8] at hT
    refine lv_iload_n F.hx F.hb d_MO_stayOf_8 rfl (lv_at hl 3 rfl) ?_
    refine lv_aload_n F.hx F.hb d_MO_stayOf_9 rfl (lv_at hl 0 rfl) ?_
    obtain ⟨q3, hq3⟩ : ∃ q, q = (t_MO_votes M) := ⟨_, rfl⟩
    replace hT := qlet_eq hT hq3
    refine r_backI F hS (r_runV (k := 191) (N := 68) (T := T1) (As := []) F hS (show 191 < 231 by decide) (show shK 191 = 5 from rfl) rfl (c_MO_votes l F.2.2.1 M _ hq3.symm) gs_MO_483 hd_MO_votes ⟨Nat.le_of_ble_eq_true rfl, Nat.le_of_ble_eq_true rfl⟩ rfl hl.1 (Nat.le_of_ble_eq_true rfl) ⟨Nat.zero_le _, Nat.zero_le _⟩ rfl d_MO_stayOf_10) (fun H locs hS h4 => ?_)
    refine r_icmp_ge (tgt := 43) F.hx F.hb hv3_ h4 d_MO_stayOf_13 (by decide) (fun c5 => ?_) (fun c5 => ?_)
    · replace hT := (if_pos c5).symm.trans hT
      refine lv_iload_n F.hx F.hb d_MO_stayOf_43 rfl (lv_at hl 1 rfl) ?_
      refine r_iconst F.hx F.hb d_MO_stayOf_44 ?_
      refine r_icmp_ne (tgt := 52) F.hx F.hb hx1 (inr_c rfl) d_MO_stayOf_45 (by decide) (fun c6 => ?_) (fun c6 => ?_)
      · replace hT := (if_neg c6).symm.trans hT
        refine r_bipush F.hx F.hb d_MO_stayOf_52 rfl ?_
        cases hT
        exact r_iret F hlk hr rfl hS (inr_c rfl) d_MO_stayOf_54
      · replace hT := (if_pos c6).symm.trans hT
        refine lv_iload_n F.hx F.hb d_MO_stayOf_48 rfl (lv_at hl 2 rfl) ?_
        refine lv_goto (tgt := 54) F.hx F.hb d_MO_stayOf_49 (by decide) ?_
        cases hT
        exact r_iret F hlk hr rfl hS hv2_ d_MO_stayOf_54
    · replace hT := (if_neg c5).symm.trans hT
      refine lv_aload_n F.hx F.hb d_MO_stayOf_16 rfl (lv_at hl 0 rfl) ?_
      refine lv_iload_n F.hx F.hb d_MO_stayOf_17 rfl (lv_at hl 3 rfl) ?_
      obtain ⟨q7, hq7, hT⟩ := q_obind hT
      refine r_backZ F hS (r_runV (k := 191) (N := 68) (T := T1) (As := [vI v3_]) F hS (show 191 < 231 by decide) (show shK 191 = 5 from rfl) rfl (c_MO_isStay l F.2.2.1 M v3_ hv3_ _ hq7) gs_MO_492 hd_MO_isStay ⟨Nat.le_of_ble_eq_true rfl, Nat.le_of_ble_eq_true rfl⟩ rfl hl.1 (Nat.le_of_ble_eq_true rfl) ⟨Nat.zero_le _, Nat.zero_le _⟩ rfl d_MO_stayOf_18) (fun H locs hS h8 => ?_)
      refine r_if_ne (tgt := 27) F.hx F.hb (inr_z h8) d_MO_stayOf_21 (by decide) (fun c9 => ?_) (fun c9 => ?_)
      · replace hT := (if_neg c9).symm.trans hT
        refine lv_iload_n F.hx F.hb d_MO_stayOf_27 rfl (lv_at hl 2 rfl) ?_
        refine lv_iload_n F.hx F.hb d_MO_stayOf_28 rfl (lv_at hl 1 rfl) ?_
        refine r_icmp_ne (tgt := 34) F.hx F.hb hv2_ hx1 d_MO_stayOf_29 (by decide) (fun c10 => ?_) (fun c10 => ?_)
        · replace hT := (if_neg c10).symm.trans hT
          refine lv_iinc (v := Int32.ofInt (w32 (v2_ + 1))) (lv' := [(2, vI (w32 (v2_ + 1))), (0, .ref (b + 191)), (1, vI x1), (3, vI v3_)]) F.hx F.hb d_MO_stayOf_34 hl (k := 2) rfl (q_of_add _ _) (Nat.le_of_ble_eq_true rfl) rfl (fun ls hl => ?_)
          exact k_MO_stayOf_L37 l hlo x1 hx1 F hlk hr (fun a0_ a1_ a2_ => t_MO_stayOf_L8 x1 fu a0_ a1_ a2_) ih M (w32 (v2_ + 1)) (inr_w32 _) v3_ hv3_ _ _ _ hS (lv_sub hl [1, 2, 0, 3] rfl) hT
        · replace hT := (if_pos c10).symm.trans hT
          refine lv_iload_n F.hx F.hb d_MO_stayOf_32 rfl (lv_at hl 3 rfl) ?_
          cases hT
          exact r_iret F hlk hr rfl hS hv3_ d_MO_stayOf_33
      · replace hT := (if_pos c9).symm.trans hT
        refine lv_goto (tgt := 37) F.hx F.hb d_MO_stayOf_24 (by decide) ?_
        exact k_MO_stayOf_L37 l hlo x1 hx1 F hlk hr (fun a0_ a1_ a2_ => t_MO_stayOf_L8 x1 fu a0_ a1_ a2_) ih M v2_ hv2_ v3_ hv3_ _ _ _ hS (lv_sub hl [0, 1, 2, 3] rfl) hT
set_option maxHeartbeats 4000000 in
set_option maxRecDepth 100000 in
theorem c_MO_stayOf (l : Launch) {b n : Nat} {C : CT} (hlo : 231 ≤ n) (M : Mem) (x1 : Int) (hx1 : InR x1) (res : Mem × Int) (hT : t_MO_stayOf M x1 = some res) : CM l b C n 6 y_MO_stayOf b_MO_stayOf 4 (some .int) [.ref (b + 191), vI x1] M (QI b C n res.1 res.2) := by
  refine CM.of (lo := 231) (ow := "WardFallsModel") (by decide) rfl (Nat.le_of_ble_eq_true rfl) hlo (fun p e s m below meth c F hlk hr hS ls hl => ?_)
  have hl : lv_has ls 4 [(0, .ref (b + 191)), (1, vI x1)] := hl
  unfold t_MO_stayOf at hT
  refine lv_aload_n F.hx F.hb d_MO_stayOf_0 rfl (lv_at hl 0 rfl) ?_
  obtain ⟨q1, hq1, hT⟩ := q_obind hT
  refine r_backV F hS (r_runV (k := 191) (N := 68) (T := T1) (As := []) F hS (show 191 < 231 by decide) (show shK 191 = 5 from rfl) rfl (c_MO_layJoys l F.2.2.1 M _ hq1) gs_MO_489 hd_MO_layJoys ⟨Nat.le_of_ble_eq_true rfl, Nat.le_of_ble_eq_true rfl⟩ rfl hl.1 (Nat.le_of_ble_eq_true rfl) ⟨Nat.zero_le _, Nat.zero_le _⟩ rfl d_MO_stayOf_1) (fun H locs hS => ?_)
  refine r_iconst F.hx F.hb d_MO_stayOf_4 ?_
  refine lv_istore_n (lv' := [(2, vI 0), (0, .ref (b + 191)), (1, vI x1)]) F.hx F.hb d_MO_stayOf_5 rfl hl (Nat.le_of_ble_eq_true rfl) rfl (fun ls hl => ?_)
  refine r_iconst F.hx F.hb d_MO_stayOf_6 ?_
  refine lv_istore_n (lv' := [(3, vI 0), (2, vI 0), (0, .ref (b + 191)), (1, vI x1)]) F.hx F.hb d_MO_stayOf_7 rfl hl (Nat.le_of_ble_eq_true rfl) rfl (fun ls hl => ?_)
  exact k_MO_stayOf_L8 l hlo x1 hx1 F hlk hr FU q1 0 (inr_c rfl) 0 (inr_c rfl) _ _ _ hS (lv_sub hl [2, 3, 1, 0] rfl) hT
theorem d_MO_stays_0 : decode b_MO_stays 0 = .ok (.aload_n 0, 1) := dc_42 (by decide +kernel)
theorem d_MO_stays_1 : decode b_MO_stays 1 = .ok (.iconst 0, 1) := dc_3 (by decide +kernel)
theorem d_MO_stays_2 : decode b_MO_stays 2 = .ok (.putfield 145, 3) := dc_181 (by decide +kernel)
theorem d_MO_stays_5 : decode b_MO_stays 5 = .ok (.aload_n 0, 1) := dc_42 (by decide +kernel)
theorem d_MO_stays_6 : decode b_MO_stays 6 = .ok (.iconst (-1), 1) := dc_2 (by decide +kernel)
theorem d_MO_stays_7 : decode b_MO_stays 7 = .ok (.invokevirtual 495, 3) := dc_182 (by decide +kernel)
theorem d_MO_stays_10 : decode b_MO_stays 10 = .ok (.ireturn, 1) := dc_172 (by decide +kernel)
def t_MO_stays (M : Mem)  : Option (Mem × Int) := (qlet (setI M 191 0 0) fun M1 => (obind (t_MO_stayOf M1 (-1)) fun q2 => (some ((q2.1), (q2.2)))))
set_option maxHeartbeats 4000000 in
set_option maxRecDepth 100000 in
theorem c_MO_stays (l : Launch) {b n : Nat} {C : CT} (hlo : 231 ≤ n) (M : Mem)   (res : Mem × Int) (hT : t_MO_stays M  = some res) : CM l b C n 7 y_MO_stays b_MO_stays 1 (some .int) [.ref (b + 191)] M (QI b C n res.1 res.2) := by
  refine CM.of (lo := 231) (ow := "WardFallsModel") (by decide) rfl (Nat.le_of_ble_eq_true rfl) hlo (fun p e s m below meth c F hlk hr hS ls hl => ?_)
  have hl : lv_has ls 1 [(0, .ref (b + 191))] := hl
  unfold t_MO_stays at hT
  refine lv_aload_n F.hx F.hb d_MO_stays_0 rfl (lv_at hl 0 rfl) ?_
  refine r_iconst F.hx F.hb d_MO_stays_1 ?_
  refine r_putI (N := 68) (T := T1) (j := 0) F hS (show 191 < 231 by decide) (show shK 191 = 5 from rfl) (show shN 191 = 68 from rfl) rfl (Nat.le_of_ble_eq_true rfl) ing1 tyok1 nm1 rfl rfl rfl rfl rfl rfl mw_1389 (inr_c rfl) d_MO_stays_2 (fun H locs hS => ?_)
  obtain ⟨M1, eM1⟩ : ∃ q, q = (setI M 191 0 0) := ⟨_, rfl⟩
  replace hS : St b C n M1 s H locs := by rw [eM1]; exact hS
  replace hT := qlet_eq hT eM1
  refine lv_aload_n F.hx F.hb d_MO_stays_5 rfl (lv_at hl 0 rfl) ?_
  refine r_iconst F.hx F.hb d_MO_stays_6 ?_
  obtain ⟨q2, hq2, hT⟩ := q_obind hT
  refine r_backI F hS (r_runV (k := 191) (N := 68) (T := T1) (As := [vI (-1)]) F hS (show 191 < 231 by decide) (show shK 191 = 5 from rfl) rfl (c_MO_stayOf l F.2.2.1 M1 (-1) (inr_c rfl) _ hq2) gs_MO_495 hd_MO_stayOf ⟨Nat.le_of_ble_eq_true rfl, Nat.le_of_ble_eq_true rfl⟩ rfl hl.1 (Nat.le_of_ble_eq_true rfl) ⟨Nat.zero_le _, Nat.zero_le _⟩ rfl d_MO_stays_7) (fun H locs hS h3 => ?_)
  cases hT
  exact r_iret F hlk hr rfl hS h3 d_MO_stays_10
theorem d_MO_stay_0 : decode b_MO_stay 0 = .ok (.aload_n 0, 1) := dc_42 (by decide +kernel)
theorem d_MO_stay_1 : decode b_MO_stay 1 = .ok (.iconst 0, 1) := dc_3 (by decide +kernel)
theorem d_MO_stay_2 : decode b_MO_stay 2 = .ok (.putfield 145, 3) := dc_181 (by decide +kernel)
theorem d_MO_stay_5 : decode b_MO_stay 5 = .ok (.iload_n 1, 1) := dc_27 (by decide +kernel)
theorem d_MO_stay_6 : decode b_MO_stay 6 = .ok (.ifCond .ge 7, 3) := dc_156 (by decide +kernel)
theorem d_MO_stay_9 : decode b_MO_stay 9 = .ok (.iconst (-1), 1) := dc_2 (by decide +kernel)
theorem d_MO_stay_10 : decode b_MO_stay 10 = .ok (.goto 8, 3) := dc_167 (by decide +kernel)
theorem d_MO_stay_13 : decode b_MO_stay 13 = .ok (.aload_n 0, 1) := dc_42 (by decide +kernel)
theorem d_MO_stay_14 : decode b_MO_stay 14 = .ok (.iload_n 1, 1) := dc_27 (by decide +kernel)
theorem d_MO_stay_15 : decode b_MO_stay 15 = .ok (.invokevirtual 495, 3) := dc_182 (by decide +kernel)
theorem d_MO_stay_18 : decode b_MO_stay 18 = .ok (.ireturn, 1) := dc_172 (by decide +kernel)
def t_MO_stay (M : Mem) (x1 : Int) : Option (Mem × Int) := (qlet (setI M 191 0 0) fun M1 => (if 0 ≤ x1 then (obind (t_MO_stayOf M1 x1) fun q3 => (some ((q3.1), (q3.2)))) else (some (M1, (-1)))))
set_option maxHeartbeats 4000000 in
set_option maxRecDepth 100000 in
theorem c_MO_stay (l : Launch) {b n : Nat} {C : CT} (hlo : 231 ≤ n) (M : Mem) (x1 : Int) (hx1 : InR x1) (res : Mem × Int) (hT : t_MO_stay M x1 = some res) : CM l b C n 7 y_MO_stay b_MO_stay 2 (some .int) [.ref (b + 191), vI x1] M (QI b C n res.1 res.2) := by
  refine CM.of (lo := 231) (ow := "WardFallsModel") (by decide) rfl (Nat.le_of_ble_eq_true rfl) hlo (fun p e s m below meth c F hlk hr hS ls hl => ?_)
  have hl : lv_has ls 2 [(0, .ref (b + 191)), (1, vI x1)] := hl
  unfold t_MO_stay at hT
  refine lv_aload_n F.hx F.hb d_MO_stay_0 rfl (lv_at hl 0 rfl) ?_
  refine r_iconst F.hx F.hb d_MO_stay_1 ?_
  refine r_putI (N := 68) (T := T1) (j := 0) F hS (show 191 < 231 by decide) (show shK 191 = 5 from rfl) (show shN 191 = 68 from rfl) rfl (Nat.le_of_ble_eq_true rfl) ing1 tyok1 nm1 rfl rfl rfl rfl rfl rfl mw_1389 (inr_c rfl) d_MO_stay_2 (fun H locs hS => ?_)
  obtain ⟨M1, eM1⟩ : ∃ q, q = (setI M 191 0 0) := ⟨_, rfl⟩
  replace hS : St b C n M1 s H locs := by rw [eM1]; exact hS
  replace hT := qlet_eq hT eM1
  refine lv_iload_n F.hx F.hb d_MO_stay_5 rfl (lv_at hl 1 rfl) ?_
  refine r_if_ge (tgt := 13) F.hx F.hb hx1 d_MO_stay_6 (by decide) (fun c2 => ?_) (fun c2 => ?_)
  · replace hT := (if_pos c2).symm.trans hT
    refine lv_aload_n F.hx F.hb d_MO_stay_13 rfl (lv_at hl 0 rfl) ?_
    refine lv_iload_n F.hx F.hb d_MO_stay_14 rfl (lv_at hl 1 rfl) ?_
    obtain ⟨q3, hq3, hT⟩ := q_obind hT
    refine r_backI F hS (r_runV (k := 191) (N := 68) (T := T1) (As := [vI x1]) F hS (show 191 < 231 by decide) (show shK 191 = 5 from rfl) rfl (c_MO_stayOf l F.2.2.1 M1 x1 hx1 _ hq3) gs_MO_495 hd_MO_stayOf ⟨Nat.le_of_ble_eq_true rfl, Nat.le_of_ble_eq_true rfl⟩ rfl hl.1 (Nat.le_of_ble_eq_true rfl) ⟨Nat.zero_le _, Nat.zero_le _⟩ rfl d_MO_stay_15) (fun H locs hS h4 => ?_)
    cases hT
    exact r_iret F hlk hr rfl hS h4 d_MO_stay_18
  · replace hT := (if_neg c2).symm.trans hT
    refine r_iconst F.hx F.hb d_MO_stay_9 ?_
    refine lv_goto (tgt := 18) F.hx F.hb d_MO_stay_10 (by decide) ?_
    cases hT
    exact r_iret F hlk hr rfl hS (inr_c rfl) d_MO_stay_18
theorem wn_MO_treaty_0 : ∀ i, i < 94 → bA b_MO_treaty (0 + i) = wB [42, 3, 181, 0, 145, 27, 155, 0, 8, 27, 4, 164, 0, 5, 2, 172, 3, 61, 28, 42, 180, 0, 13, 5, 46, 162, 0, 21, 42, 180, 0, 121, 28, 42, 3, 28, 182, 1, 119, 79, 132, 2, 1, 167, 255, 231, 42, 182, 1, 233, 2, 61, 3, 62, 3, 54, 4, 21, 4, 42, 182, 1, 227, 162, 0, 114, 42, 21, 4, 182, 1, 236, 54, 5, 3, 54, 6, 3, 54, 7, 21, 7, 42, 180, 0, 13, 5, 46, 162, 0, 58, 21, 5, 42] i := wB_of (by decide +kernel)
theorem d_MO_treaty_0 : decode b_MO_treaty 0 = .ok (.aload_n 0, 1) := dc_42 (q0_win (r := 0) wn_MO_treaty_0 (by decide +kernel))
theorem d_MO_treaty_1 : decode b_MO_treaty 1 = .ok (.iconst 0, 1) := dc_3 (q0_win (r := 1) wn_MO_treaty_0 (by decide +kernel))
theorem d_MO_treaty_2 : decode b_MO_treaty 2 = .ok (.putfield 145, 3) := dc_181 (qU2_win (r := 2) wn_MO_treaty_0 (by decide +kernel))
theorem d_MO_treaty_5 : decode b_MO_treaty 5 = .ok (.iload_n 1, 1) := dc_27 (q0_win (r := 5) wn_MO_treaty_0 (by decide +kernel))
theorem d_MO_treaty_6 : decode b_MO_treaty 6 = .ok (.ifCond .lt 8, 3) := dc_155 (qS2_win (r := 6) wn_MO_treaty_0 (by decide +kernel))
theorem d_MO_treaty_9 : decode b_MO_treaty 9 = .ok (.iload_n 1, 1) := dc_27 (q0_win (r := 9) wn_MO_treaty_0 (by decide +kernel))
theorem d_MO_treaty_10 : decode b_MO_treaty 10 = .ok (.iconst 1, 1) := dc_4 (q0_win (r := 10) wn_MO_treaty_0 (by decide +kernel))
theorem d_MO_treaty_11 : decode b_MO_treaty 11 = .ok (.if_icmp .le 5, 3) := dc_164 (qS2_win (r := 11) wn_MO_treaty_0 (by decide +kernel))
theorem d_MO_treaty_14 : decode b_MO_treaty 14 = .ok (.iconst (-1), 1) := dc_2 (q0_win (r := 14) wn_MO_treaty_0 (by decide +kernel))
theorem d_MO_treaty_15 : decode b_MO_treaty 15 = .ok (.ireturn, 1) := dc_172 (q0_win (r := 15) wn_MO_treaty_0 (by decide +kernel))
theorem d_MO_treaty_16 : decode b_MO_treaty 16 = .ok (.iconst 0, 1) := dc_3 (q0_win (r := 16) wn_MO_treaty_0 (by decide +kernel))
theorem d_MO_treaty_17 : decode b_MO_treaty 17 = .ok (.istore_n 2, 1) := dc_61 (q0_win (r := 17) wn_MO_treaty_0 (by decide +kernel))
theorem d_MO_treaty_18 : decode b_MO_treaty 18 = .ok (.iload_n 2, 1) := dc_28 (q0_win (r := 18) wn_MO_treaty_0 (by decide +kernel))
theorem d_MO_treaty_19 : decode b_MO_treaty 19 = .ok (.aload_n 0, 1) := dc_42 (q0_win (r := 19) wn_MO_treaty_0 (by decide +kernel))
theorem d_MO_treaty_20 : decode b_MO_treaty 20 = .ok (.getfield 13, 3) := dc_180 (qU2_win (r := 20) wn_MO_treaty_0 (by decide +kernel))
theorem d_MO_treaty_23 : decode b_MO_treaty 23 = .ok (.iconst 2, 1) := dc_5 (q0_win (r := 23) wn_MO_treaty_0 (by decide +kernel))
theorem d_MO_treaty_24 : decode b_MO_treaty 24 = .ok (.iaload, 1) := dc_46 (q0_win (r := 24) wn_MO_treaty_0 (by decide +kernel))
theorem d_MO_treaty_25 : decode b_MO_treaty 25 = .ok (.if_icmp .ge 21, 3) := dc_162 (qS2_win (r := 25) wn_MO_treaty_0 (by decide +kernel))
theorem d_MO_treaty_28 : decode b_MO_treaty 28 = .ok (.aload_n 0, 1) := dc_42 (q0_win (r := 28) wn_MO_treaty_0 (by decide +kernel))
theorem d_MO_treaty_29 : decode b_MO_treaty 29 = .ok (.getfield 121, 3) := dc_180 (qU2_win (r := 29) wn_MO_treaty_0 (by decide +kernel))
theorem d_MO_treaty_32 : decode b_MO_treaty 32 = .ok (.iload_n 2, 1) := dc_28 (q0_win (r := 32) wn_MO_treaty_0 (by decide +kernel))
theorem d_MO_treaty_33 : decode b_MO_treaty 33 = .ok (.aload_n 0, 1) := dc_42 (q0_win (r := 33) wn_MO_treaty_0 (by decide +kernel))
theorem d_MO_treaty_34 : decode b_MO_treaty 34 = .ok (.iconst 0, 1) := dc_3 (q0_win (r := 34) wn_MO_treaty_0 (by decide +kernel))
theorem d_MO_treaty_35 : decode b_MO_treaty 35 = .ok (.iload_n 2, 1) := dc_28 (q0_win (r := 35) wn_MO_treaty_0 (by decide +kernel))
theorem d_MO_treaty_36 : decode b_MO_treaty 36 = .ok (.invokevirtual 375, 3) := dc_182 (qU2_win (r := 36) wn_MO_treaty_0 (by decide +kernel))
theorem d_MO_treaty_39 : decode b_MO_treaty 39 = .ok (.iastore, 1) := dc_79 (q0_win (r := 39) wn_MO_treaty_0 (by decide +kernel))
theorem d_MO_treaty_40 : decode b_MO_treaty 40 = .ok (.iinc 2 1, 3) := dc_132 (qI_win (r := 40) wn_MO_treaty_0 (by decide +kernel))
theorem d_MO_treaty_43 : decode b_MO_treaty 43 = .ok (.goto (-25), 3) := dc_167 (qS2_win (r := 43) wn_MO_treaty_0 (by decide +kernel))
theorem d_MO_treaty_46 : decode b_MO_treaty 46 = .ok (.aload_n 0, 1) := dc_42 (q0_win (r := 46) wn_MO_treaty_0 (by decide +kernel))
theorem d_MO_treaty_47 : decode b_MO_treaty 47 = .ok (.invokevirtual 489, 3) := dc_182 (qU2_win (r := 47) wn_MO_treaty_0 (by decide +kernel))
theorem d_MO_treaty_50 : decode b_MO_treaty 50 = .ok (.iconst (-1), 1) := dc_2 (q0_win (r := 50) wn_MO_treaty_0 (by decide +kernel))
theorem d_MO_treaty_51 : decode b_MO_treaty 51 = .ok (.istore_n 2, 1) := dc_61 (q0_win (r := 51) wn_MO_treaty_0 (by decide +kernel))
theorem d_MO_treaty_52 : decode b_MO_treaty 52 = .ok (.iconst 0, 1) := dc_3 (q0_win (r := 52) wn_MO_treaty_0 (by decide +kernel))
theorem d_MO_treaty_53 : decode b_MO_treaty 53 = .ok (.istore_n 3, 1) := dc_62 (q0_win (r := 53) wn_MO_treaty_0 (by decide +kernel))
theorem d_MO_treaty_54 : decode b_MO_treaty 54 = .ok (.iconst 0, 1) := dc_3 (q0_win (r := 54) wn_MO_treaty_0 (by decide +kernel))
theorem d_MO_treaty_55 : decode b_MO_treaty 55 = .ok (.istore 4, 2) := dc_54 (qU1_win (r := 55) wn_MO_treaty_0 (by decide +kernel))
theorem d_MO_treaty_57 : decode b_MO_treaty 57 = .ok (.iload 4, 2) := dc_21 (qU1_win (r := 57) wn_MO_treaty_0 (by decide +kernel))
theorem d_MO_treaty_59 : decode b_MO_treaty 59 = .ok (.aload_n 0, 1) := dc_42 (q0_win (r := 59) wn_MO_treaty_0 (by decide +kernel))
theorem d_MO_treaty_60 : decode b_MO_treaty 60 = .ok (.invokevirtual 483, 3) := dc_182 (qU2_win (r := 60) wn_MO_treaty_0 (by decide +kernel))
theorem d_MO_treaty_63 : decode b_MO_treaty 63 = .ok (.if_icmp .ge 114, 3) := dc_162 (qS2_win (r := 63) wn_MO_treaty_0 (by decide +kernel))
theorem d_MO_treaty_66 : decode b_MO_treaty 66 = .ok (.aload_n 0, 1) := dc_42 (q0_win (r := 66) wn_MO_treaty_0 (by decide +kernel))
theorem d_MO_treaty_67 : decode b_MO_treaty 67 = .ok (.iload 4, 2) := dc_21 (qU1_win (r := 67) wn_MO_treaty_0 (by decide +kernel))
theorem d_MO_treaty_69 : decode b_MO_treaty 69 = .ok (.invokevirtual 492, 3) := dc_182 (qU2_win (r := 69) wn_MO_treaty_0 (by decide +kernel))
theorem d_MO_treaty_72 : decode b_MO_treaty 72 = .ok (.istore 5, 2) := dc_54 (qU1_win (r := 72) wn_MO_treaty_0 (by decide +kernel))
theorem d_MO_treaty_74 : decode b_MO_treaty 74 = .ok (.iconst 0, 1) := dc_3 (q0_win (r := 74) wn_MO_treaty_0 (by decide +kernel))
theorem d_MO_treaty_75 : decode b_MO_treaty 75 = .ok (.istore 6, 2) := dc_54 (qU1_win (r := 75) wn_MO_treaty_0 (by decide +kernel))
theorem d_MO_treaty_77 : decode b_MO_treaty 77 = .ok (.iconst 0, 1) := dc_3 (q0_win (r := 77) wn_MO_treaty_0 (by decide +kernel))
theorem d_MO_treaty_78 : decode b_MO_treaty 78 = .ok (.istore 7, 2) := dc_54 (qU1_win (r := 78) wn_MO_treaty_0 (by decide +kernel))
theorem d_MO_treaty_80 : decode b_MO_treaty 80 = .ok (.iload 7, 2) := dc_21 (qU1_win (r := 80) wn_MO_treaty_0 (by decide +kernel))
theorem d_MO_treaty_82 : decode b_MO_treaty 82 = .ok (.aload_n 0, 1) := dc_42 (q0_win (r := 82) wn_MO_treaty_0 (by decide +kernel))
theorem d_MO_treaty_83 : decode b_MO_treaty 83 = .ok (.getfield 13, 3) := dc_180 (qU2_win (r := 83) wn_MO_treaty_0 (by decide +kernel))
theorem d_MO_treaty_86 : decode b_MO_treaty 86 = .ok (.iconst 2, 1) := dc_5 (q0_win (r := 86) wn_MO_treaty_0 (by decide +kernel))
theorem d_MO_treaty_87 : decode b_MO_treaty 87 = .ok (.iaload, 1) := dc_46 (q0_win (r := 87) wn_MO_treaty_0 (by decide +kernel))
theorem d_MO_treaty_88 : decode b_MO_treaty 88 = .ok (.if_icmp .ge 58, 3) := dc_162 (qS2_win (r := 88) wn_MO_treaty_0 (by decide +kernel))
theorem d_MO_treaty_91 : decode b_MO_treaty 91 = .ok (.iload 5, 2) := dc_21 (qU1_win (r := 91) wn_MO_treaty_0 (by decide +kernel))
theorem d_MO_treaty_93 : decode b_MO_treaty 93 = .ok (.aload_n 0, 1) := dc_42 (q0_win (r := 93) wn_MO_treaty_0 (by decide +kernel))
theorem wn_MO_treaty_94 : ∀ i, i < 94 → bA b_MO_treaty (94 + i) = wB [180, 0, 118, 7, 21, 4, 104, 21, 7, 96, 46, 42, 180, 0, 121, 21, 7, 46, 161, 0, 7, 4, 167, 0, 4, 3, 126, 54, 5, 21, 6, 42, 180, 0, 118, 7, 21, 4, 104, 21, 7, 96, 46, 96, 54, 6, 132, 7, 1, 167, 255, 193, 21, 5, 153, 0, 23, 28, 2, 159, 0, 12, 21, 6, 29, 163, 0, 6, 167, 0, 9, 21, 4, 61, 21, 6, 62, 132, 4, 1, 167, 255, 139, 28, 2, 160, 0, 8, 16, 254, 167, 0, 12, 27] i := wB_of (by decide +kernel)
theorem d_MO_treaty_94 : decode b_MO_treaty 94 = .ok (.getfield 118, 3) := dc_180 (qU2_win (r := 0) wn_MO_treaty_94 (by decide +kernel))
theorem d_MO_treaty_97 : decode b_MO_treaty 97 = .ok (.iconst 4, 1) := dc_7 (q0_win (r := 3) wn_MO_treaty_94 (by decide +kernel))
theorem d_MO_treaty_98 : decode b_MO_treaty 98 = .ok (.iload 4, 2) := dc_21 (qU1_win (r := 4) wn_MO_treaty_94 (by decide +kernel))
theorem d_MO_treaty_100 : decode b_MO_treaty 100 = .ok (.imul, 1) := dc_104 (q0_win (r := 6) wn_MO_treaty_94 (by decide +kernel))
theorem d_MO_treaty_101 : decode b_MO_treaty 101 = .ok (.iload 7, 2) := dc_21 (qU1_win (r := 7) wn_MO_treaty_94 (by decide +kernel))
theorem d_MO_treaty_103 : decode b_MO_treaty 103 = .ok (.iadd, 1) := dc_96 (q0_win (r := 9) wn_MO_treaty_94 (by decide +kernel))
theorem d_MO_treaty_104 : decode b_MO_treaty 104 = .ok (.iaload, 1) := dc_46 (q0_win (r := 10) wn_MO_treaty_94 (by decide +kernel))
theorem d_MO_treaty_105 : decode b_MO_treaty 105 = .ok (.aload_n 0, 1) := dc_42 (q0_win (r := 11) wn_MO_treaty_94 (by decide +kernel))
theorem d_MO_treaty_106 : decode b_MO_treaty 106 = .ok (.getfield 121, 3) := dc_180 (qU2_win (r := 12) wn_MO_treaty_94 (by decide +kernel))
theorem d_MO_treaty_109 : decode b_MO_treaty 109 = .ok (.iload 7, 2) := dc_21 (qU1_win (r := 15) wn_MO_treaty_94 (by decide +kernel))
theorem d_MO_treaty_111 : decode b_MO_treaty 111 = .ok (.iaload, 1) := dc_46 (q0_win (r := 17) wn_MO_treaty_94 (by decide +kernel))
theorem d_MO_treaty_112 : decode b_MO_treaty 112 = .ok (.if_icmp .lt 7, 3) := dc_161 (qS2_win (r := 18) wn_MO_treaty_94 (by decide +kernel))
theorem d_MO_treaty_115 : decode b_MO_treaty 115 = .ok (.iconst 1, 1) := dc_4 (q0_win (r := 21) wn_MO_treaty_94 (by decide +kernel))
theorem d_MO_treaty_116 : decode b_MO_treaty 116 = .ok (.goto 4, 3) := dc_167 (qS2_win (r := 22) wn_MO_treaty_94 (by decide +kernel))
theorem d_MO_treaty_119 : decode b_MO_treaty 119 = .ok (.iconst 0, 1) := dc_3 (q0_win (r := 25) wn_MO_treaty_94 (by decide +kernel))
theorem d_MO_treaty_120 : decode b_MO_treaty 120 = .ok (.iand, 1) := dc_126 (q0_win (r := 26) wn_MO_treaty_94 (by decide +kernel))
theorem d_MO_treaty_121 : decode b_MO_treaty 121 = .ok (.istore 5, 2) := dc_54 (qU1_win (r := 27) wn_MO_treaty_94 (by decide +kernel))
theorem d_MO_treaty_123 : decode b_MO_treaty 123 = .ok (.iload 6, 2) := dc_21 (qU1_win (r := 29) wn_MO_treaty_94 (by decide +kernel))
theorem d_MO_treaty_125 : decode b_MO_treaty 125 = .ok (.aload_n 0, 1) := dc_42 (q0_win (r := 31) wn_MO_treaty_94 (by decide +kernel))
theorem d_MO_treaty_126 : decode b_MO_treaty 126 = .ok (.getfield 118, 3) := dc_180 (qU2_win (r := 32) wn_MO_treaty_94 (by decide +kernel))
theorem d_MO_treaty_129 : decode b_MO_treaty 129 = .ok (.iconst 4, 1) := dc_7 (q0_win (r := 35) wn_MO_treaty_94 (by decide +kernel))
theorem d_MO_treaty_130 : decode b_MO_treaty 130 = .ok (.iload 4, 2) := dc_21 (qU1_win (r := 36) wn_MO_treaty_94 (by decide +kernel))
theorem d_MO_treaty_132 : decode b_MO_treaty 132 = .ok (.imul, 1) := dc_104 (q0_win (r := 38) wn_MO_treaty_94 (by decide +kernel))
theorem d_MO_treaty_133 : decode b_MO_treaty 133 = .ok (.iload 7, 2) := dc_21 (qU1_win (r := 39) wn_MO_treaty_94 (by decide +kernel))
theorem d_MO_treaty_135 : decode b_MO_treaty 135 = .ok (.iadd, 1) := dc_96 (q0_win (r := 41) wn_MO_treaty_94 (by decide +kernel))
theorem d_MO_treaty_136 : decode b_MO_treaty 136 = .ok (.iaload, 1) := dc_46 (q0_win (r := 42) wn_MO_treaty_94 (by decide +kernel))
theorem d_MO_treaty_137 : decode b_MO_treaty 137 = .ok (.iadd, 1) := dc_96 (q0_win (r := 43) wn_MO_treaty_94 (by decide +kernel))
theorem d_MO_treaty_138 : decode b_MO_treaty 138 = .ok (.istore 6, 2) := dc_54 (qU1_win (r := 44) wn_MO_treaty_94 (by decide +kernel))
theorem d_MO_treaty_140 : decode b_MO_treaty 140 = .ok (.iinc 7 1, 3) := dc_132 (qI_win (r := 46) wn_MO_treaty_94 (by decide +kernel))
theorem d_MO_treaty_143 : decode b_MO_treaty 143 = .ok (.goto (-63), 3) := dc_167 (qS2_win (r := 49) wn_MO_treaty_94 (by decide +kernel))
theorem d_MO_treaty_146 : decode b_MO_treaty 146 = .ok (.iload 5, 2) := dc_21 (qU1_win (r := 52) wn_MO_treaty_94 (by decide +kernel))
theorem d_MO_treaty_148 : decode b_MO_treaty 148 = .ok (.ifCond .eq 23, 3) := dc_153 (qS2_win (r := 54) wn_MO_treaty_94 (by decide +kernel))
theorem d_MO_treaty_151 : decode b_MO_treaty 151 = .ok (.iload_n 2, 1) := dc_28 (q0_win (r := 57) wn_MO_treaty_94 (by decide +kernel))
theorem d_MO_treaty_152 : decode b_MO_treaty 152 = .ok (.iconst (-1), 1) := dc_2 (q0_win (r := 58) wn_MO_treaty_94 (by decide +kernel))
theorem d_MO_treaty_153 : decode b_MO_treaty 153 = .ok (.if_icmp .eq 12, 3) := dc_159 (qS2_win (r := 59) wn_MO_treaty_94 (by decide +kernel))
theorem d_MO_treaty_156 : decode b_MO_treaty 156 = .ok (.iload 6, 2) := dc_21 (qU1_win (r := 62) wn_MO_treaty_94 (by decide +kernel))
theorem d_MO_treaty_158 : decode b_MO_treaty 158 = .ok (.iload_n 3, 1) := dc_29 (q0_win (r := 64) wn_MO_treaty_94 (by decide +kernel))
theorem d_MO_treaty_159 : decode b_MO_treaty 159 = .ok (.if_icmp .gt 6, 3) := dc_163 (qS2_win (r := 65) wn_MO_treaty_94 (by decide +kernel))
theorem d_MO_treaty_162 : decode b_MO_treaty 162 = .ok (.goto 9, 3) := dc_167 (qS2_win (r := 68) wn_MO_treaty_94 (by decide +kernel))
theorem d_MO_treaty_165 : decode b_MO_treaty 165 = .ok (.iload 4, 2) := dc_21 (qU1_win (r := 71) wn_MO_treaty_94 (by decide +kernel))
theorem d_MO_treaty_167 : decode b_MO_treaty 167 = .ok (.istore_n 2, 1) := dc_61 (q0_win (r := 73) wn_MO_treaty_94 (by decide +kernel))
theorem d_MO_treaty_168 : decode b_MO_treaty 168 = .ok (.iload 6, 2) := dc_21 (qU1_win (r := 74) wn_MO_treaty_94 (by decide +kernel))
theorem d_MO_treaty_170 : decode b_MO_treaty 170 = .ok (.istore_n 3, 1) := dc_62 (q0_win (r := 76) wn_MO_treaty_94 (by decide +kernel))
theorem d_MO_treaty_171 : decode b_MO_treaty 171 = .ok (.iinc 4 1, 3) := dc_132 (qI_win (r := 77) wn_MO_treaty_94 (by decide +kernel))
theorem d_MO_treaty_174 : decode b_MO_treaty 174 = .ok (.goto (-117), 3) := dc_167 (qS2_win (r := 80) wn_MO_treaty_94 (by decide +kernel))
theorem d_MO_treaty_177 : decode b_MO_treaty 177 = .ok (.iload_n 2, 1) := dc_28 (q0_win (r := 83) wn_MO_treaty_94 (by decide +kernel))
theorem d_MO_treaty_178 : decode b_MO_treaty 178 = .ok (.iconst (-1), 1) := dc_2 (q0_win (r := 84) wn_MO_treaty_94 (by decide +kernel))
theorem d_MO_treaty_179 : decode b_MO_treaty 179 = .ok (.if_icmp .ne 8, 3) := dc_160 (qS2_win (r := 85) wn_MO_treaty_94 (by decide +kernel))
theorem d_MO_treaty_182 : decode b_MO_treaty 182 = .ok (.bipush (-2), 2) := dc_16 (qS1_win (r := 88) wn_MO_treaty_94 (by decide +kernel))
theorem d_MO_treaty_184 : decode b_MO_treaty 184 = .ok (.goto 12, 3) := dc_167 (qS2_win (r := 90) wn_MO_treaty_94 (by decide +kernel))
theorem d_MO_treaty_187 : decode b_MO_treaty 187 = .ok (.iload_n 1, 1) := dc_27 (q0_win (r := 93) wn_MO_treaty_94 (by decide +kernel))
theorem wn_MO_treaty_188 : ∀ i, i < 9 → bA b_MO_treaty (188 + i) = wB [154, 0, 7, 29, 167, 0, 4, 28, 172] i := wB_of (by decide +kernel)
theorem d_MO_treaty_188 : decode b_MO_treaty 188 = .ok (.ifCond .ne 7, 3) := dc_154 (qS2_win (r := 0) wn_MO_treaty_188 (by decide +kernel))
theorem d_MO_treaty_191 : decode b_MO_treaty 191 = .ok (.iload_n 3, 1) := dc_29 (q0_win (r := 3) wn_MO_treaty_188 (by decide +kernel))
theorem d_MO_treaty_192 : decode b_MO_treaty 192 = .ok (.goto 4, 3) := dc_167 (qS2_win (r := 4) wn_MO_treaty_188 (by decide +kernel))
theorem d_MO_treaty_195 : decode b_MO_treaty 195 = .ok (.iload_n 2, 1) := dc_28 (q0_win (r := 7) wn_MO_treaty_188 (by decide +kernel))
theorem d_MO_treaty_196 : decode b_MO_treaty 196 = .ok (.ireturn, 1) := dc_172 (q0_win (r := 8) wn_MO_treaty_188 (by decide +kernel))
def t_MO_treaty_L120 (x1 : Int) (bk57 : Mem → Int → Int → Int → Option (Mem × Int)) (bk80 : Mem → Int → Int → Int → Int → Int → Int → Option (Mem × Int)) (M : Mem) (v2_ : Int) (v3_ : Int) (v4_ : Int) (v5_ : Int) (v6_ : Int) (v7_ : Int) (v8_ : Int) : Option (Mem × Int) := (qguard (0 ≤ (w32 ((w32 (4 * v4_)) + v6_)) ∧ (w32 ((w32 (4 * v4_)) + v6_)) < 1024) (bk80 M v2_ v3_ v4_ (q_and v7_ v8_) (w32 (v5_ + (M.1 224 (w32 ((w32 (4 * v4_)) + v6_))))) (w32 (v6_ + 1))))
def t_MO_treaty_L171 (x1 : Int) (bk57 : Mem → Int → Int → Int → Option (Mem × Int)) (M : Mem) (v2_ : Int) (v3_ : Int) (v4_ : Int) : Option (Mem × Int) := (bk57 M v2_ v3_ (w32 (v4_ + 1)))
def t_MO_treaty_L165 (x1 : Int) (bk57 : Mem → Int → Int → Int → Option (Mem × Int)) (M : Mem) (v2_ : Int) (v3_ : Int) : Option (Mem × Int) := (t_MO_treaty_L171 x1 bk57 M v2_ v3_ v2_)
def t_MO_treaty_L80 (x1 : Int) (bk57 : Mem → Int → Int → Int → Option (Mem × Int)) : Nat → Mem → Int → Int → Int → Int → Int → Int → Option (Mem × Int)
  | 0, _, _, _, _, _, _, _ => none
  | fu + 1, M, v2_, v3_, v4_, v5_, v6_, v7_ => (if (M.1 193 2) ≤ v7_ then (if v5_ = 0 then (t_MO_treaty_L171 x1 bk57 M v2_ v3_ v4_) else (if v2_ = (-1) then (t_MO_treaty_L165 x1 bk57 M v4_ v6_) else (if v3_ < v6_ then (t_MO_treaty_L165 x1 bk57 M v4_ v6_) else (t_MO_treaty_L171 x1 bk57 M v2_ v3_ v4_)))) else (qguard (0 ≤ (w32 ((w32 (4 * v4_)) + v7_)) ∧ (w32 ((w32 (4 * v4_)) + v7_)) < 1024) (qguard (0 ≤ v7_ ∧ v7_ < 4) (if (M.1 224 (w32 ((w32 (4 * v4_)) + v7_))) < (M.1 225 v7_) then (t_MO_treaty_L120 x1 bk57 (fun a0_ a1_ a2_ a3_ a4_ a5_ a6_ => t_MO_treaty_L80 x1 bk57 fu a0_ a1_ a2_ a3_ a4_ a5_ a6_) M v2_ v3_ v4_ v6_ v7_ v5_ 0) else (t_MO_treaty_L120 x1 bk57 (fun a0_ a1_ a2_ a3_ a4_ a5_ a6_ => t_MO_treaty_L80 x1 bk57 fu a0_ a1_ a2_ a3_ a4_ a5_ a6_) M v2_ v3_ v4_ v6_ v7_ v5_ 1)))))
def t_MO_treaty_L57 (x1 : Int)  : Nat → Mem → Int → Int → Int → Option (Mem × Int)
  | 0, _, _, _, _ => none
  | fu + 1, M, v2_, v3_, v4_ => (qlet (t_MO_votes M) fun q12 => (if q12 ≤ v4_ then (if v2_ = (-1) then (some (M, (-2))) else (if x1 = 0 then (some (M, v3_)) else (some (M, v2_)))) else (obind (t_MO_isStay M v4_) fun q17 => (t_MO_treaty_L80 x1 (fun a0_ a1_ a2_ a3_ => t_MO_treaty_L57 x1 fu a0_ a1_ a2_ a3_) FU M v2_ v3_ v4_ q17 0 0))))
def t_MO_treaty_L18 (x1 : Int)  : Nat → Mem → Int → Option (Mem × Int)
  | 0, _, _ => none
  | fu + 1, M, v2_ => (if (M.1 193 2) ≤ v2_ then (obind (t_MO_layJoys M) fun q6 => (t_MO_treaty_L57 x1 FU q6 (-1) 0 0)) else (obind (t_MO_joyOf M 0 v2_) fun q8 => (qguard (0 ≤ v2_ ∧ v2_ < 4) (qlet (setI (q8.1) 225 v2_ (q8.2)) fun M11 => (t_MO_treaty_L18 x1 fu M11 (w32 (v2_ + 1)))))))
def t_MO_treaty (M : Mem) (x1 : Int) : Option (Mem × Int) := (qlet (setI M 191 0 0) fun M1 => (if x1 < 0 then (some (M1, (-1))) else (if x1 ≤ 1 then (t_MO_treaty_L18 x1 FU M1 0) else (some (M1, (-1))))))
set_option maxHeartbeats 4000000 in
set_option maxRecDepth 100000 in
theorem k_MO_treaty_L120 (l : Launch) {p : Program} {e : Env} {s : State} {m : MethodId} {below : List Frame} {meth : Method} {c : Code} {b n : Nat} {C : CT} (hlo : 231 ≤ n) (x1 : Int) (hx1 : InR x1) (F : Cx b p m c b_MO_treaty 8 s ([.ref (b + 191), vI x1] : List Value).toArray "WardFallsModel" C n 231) (hlk : meth.locks = false) (hr : meth.sig.returnType = some .int) {res : Mem × Int} (bk57 : Mem → Int → Int → Int → Option (Mem × Int)) (hbk57 : ∀ (M : Mem) (v2_ : Int) (hv2_ : InR v2_) (v3_ : Int) (hv3_ : InR v3_) (v4_ : Int) (hv4_ : InR v4_) (H : Heap) (locs : List Loc) (ls : Array Slot), St b C n M s H locs → lv_has ls 8 [(0, .ref (b + 191)), (1, vI x1), (2, vI v2_), (3, vI v3_), (4, vI v4_)] → bk57 M v2_ v3_ v4_ = some res → W p l e (headSpec (wsM y_MO_treaty b_MO_treaty 8 (some .int)) (rmD 6)).room s m ([.ref (b + 191), vI x1] : List Value).toArray below meth c H locs 0 0 (MQ below (QI b C n res.1 res.2) ([.ref (b + 191), vI x1] : List Value).toArray s 0 0 (frb b)) (F0 m 57 ls [])) (bk80 : Mem → Int → Int → Int → Int → Int → Int → Option (Mem × Int)) (hbk80 : ∀ (M : Mem) (v2_ : Int) (hv2_ : InR v2_) (v3_ : Int) (hv3_ : InR v3_) (v4_ : Int) (hv4_ : InR v4_) (v5_ : Int) (hv5_ : v5_ = 0 ∨ v5_ = 1) (v6_ : Int) (hv6_ : InR v6_) (v7_ : Int) (hv7_ : InR v7_) (H : Heap) (locs : List Loc) (ls : Array Slot), St b C n M s H locs → lv_has ls 8 [(0, .ref (b + 191)), (1, vI x1), (2, vI v2_), (3, vI v3_), (4, vI v4_), (5, vI v5_), (6, vI v6_), (7, vI v7_)] → bk80 M v2_ v3_ v4_ v5_ v6_ v7_ = some res → W p l e (headSpec (wsM y_MO_treaty b_MO_treaty 8 (some .int)) (rmD 6)).room s m ([.ref (b + 191), vI x1] : List Value).toArray below meth c H locs 0 0 (MQ below (QI b C n res.1 res.2) ([.ref (b + 191), vI x1] : List Value).toArray s 0 0 (frb b)) (F0 m 80 ls [])) (M : Mem) (v2_ : Int) (hv2_ : InR v2_) (v3_ : Int) (hv3_ : InR v3_) (v4_ : Int) (hv4_ : InR v4_) (v5_ : Int) (hv5_ : InR v5_) (v6_ : Int) (hv6_ : InR v6_) (v7_ : Int) (hv7_ : v7_ = 0 ∨ v7_ = 1) (v8_ : Int) (hv8_ : v8_ = 0 ∨ v8_ = 1) (H : Heap) (locs : List Loc) (ls : Array Slot) (hS : St b C n M s H locs) (hl : lv_has ls 8 [(0, .ref (b + 191)), (1, vI x1), (2, vI v2_), (3, vI v3_), (4, vI v4_), (6, vI v5_), (7, vI v6_)]) (hT : t_MO_treaty_L120 x1 bk57 bk80 M v2_ v3_ v4_ v5_ v6_ v7_ v8_ = some res) : W p l e (headSpec (wsM y_MO_treaty b_MO_treaty 8 (some .int)) (rmD 6)).room s m ([.ref (b + 191), vI x1] : List Value).toArray below meth c H locs 0 0 (MQ below (QI b C n res.1 res.2) ([.ref (b + 191), vI x1] : List Value).toArray s 0 0 (frb b)) (F0 m 120 ls [vI v8_, vI v7_]) := by
  unfold t_MO_treaty_L120 at hT
  refine r_iand F.hx F.hb d_MO_treaty_120 ?_
  refine lv_istore (lv' := [(5, vI (q_and v7_ v8_)), (0, .ref (b + 191)), (1, vI x1), (2, vI v2_), (3, vI v3_), (4, vI v4_), (6, vI v5_), (7, vI v6_)]) F.hx F.hb d_MO_treaty_121 hl (Nat.le_of_ble_eq_true rfl) rfl (fun ls hl => ?_)
  refine lv_iload F.hx F.hb d_MO_treaty_123 (lv_at hl 6 rfl) ?_
  refine lv_aload_n F.hx F.hb d_MO_treaty_125 rfl (lv_at hl 1 rfl) ?_
  refine r_get (v := .ref (b + 224)) (N := 68) (T := T1) (j := 58) F hS (show 191 < 231 by decide) (show shK 191 = 5 from rfl) (show shN 191 = 68 from rfl) rfl (Nat.le_of_ble_eq_true rfl) ing1 mw_1447 (fv_sg rfl rfl rfl) d_MO_treaty_126 ?_
  refine r_iconst F.hx F.hb d_MO_treaty_129 ?_
  refine lv_iload F.hx F.hb d_MO_treaty_130 (lv_at hl 5 rfl) ?_
  refine r_imul F.hx F.hb d_MO_treaty_132 ?_
  refine lv_iload F.hx F.hb d_MO_treaty_133 (lv_at hl 7 rfl) ?_
  refine r_iadd F.hx F.hb d_MO_treaty_135 ?_
  obtain ⟨⟨g29a, g29b⟩, hT⟩ := q_guard hT
  refine r_iald F hS (show 224 < 231 by decide) (show shK 224 = 0 from rfl) (show shN 224 = 1024 from rfl) (inr_w32 _) g29a g29b d_MO_treaty_136 ?_
  have i30 := hS.rng 224 (w32 ((w32 (4 * v4_)) + v6_))
  refine r_iadd F.hx F.hb d_MO_treaty_137 ?_
  refine lv_istore (lv' := [(6, vI (w32 (v5_ + (M.1 224 (w32 ((w32 (4 * v4_)) + v6_)))))), (5, vI (q_and v7_ v8_)), (0, .ref (b + 191)), (1, vI x1), (2, vI v2_), (3, vI v3_), (4, vI v4_), (7, vI v6_)]) F.hx F.hb d_MO_treaty_138 hl (Nat.le_of_ble_eq_true rfl) rfl (fun ls hl => ?_)
  refine lv_iinc (v := Int32.ofInt (w32 (v6_ + 1))) (lv' := [(7, vI (w32 (v6_ + 1))), (6, vI (w32 (v5_ + (M.1 224 (w32 ((w32 (4 * v4_)) + v6_)))))), (5, vI (q_and v7_ v8_)), (0, .ref (b + 191)), (1, vI x1), (2, vI v2_), (3, vI v3_), (4, vI v4_)]) F.hx F.hb d_MO_treaty_140 hl (k := 7) rfl (q_of_add _ _) (Nat.le_of_ble_eq_true rfl) rfl (fun ls hl => ?_)
  refine lv_goto (tgt := 80) F.hx F.hb d_MO_treaty_143 (by decide) ?_
  exact hbk80 M v2_ hv2_ v3_ hv3_ v4_ hv4_ (q_and v7_ v8_) (z_and hv7_ hv8_) (w32 (v5_ + (M.1 224 (w32 ((w32 (4 * v4_)) + v6_))))) (inr_w32 _) (w32 (v6_ + 1)) (inr_w32 _) _ _ _ hS (lv_sub hl [3, 4, 5, 6, 7, 2, 1, 0] rfl) hT
set_option maxHeartbeats 4000000 in
set_option maxRecDepth 100000 in
theorem k_MO_treaty_L171 (l : Launch) {p : Program} {e : Env} {s : State} {m : MethodId} {below : List Frame} {meth : Method} {c : Code} {b n : Nat} {C : CT} (hlo : 231 ≤ n) (x1 : Int) (hx1 : InR x1) (F : Cx b p m c b_MO_treaty 8 s ([.ref (b + 191), vI x1] : List Value).toArray "WardFallsModel" C n 231) (hlk : meth.locks = false) (hr : meth.sig.returnType = some .int) {res : Mem × Int} (bk57 : Mem → Int → Int → Int → Option (Mem × Int)) (hbk57 : ∀ (M : Mem) (v2_ : Int) (hv2_ : InR v2_) (v3_ : Int) (hv3_ : InR v3_) (v4_ : Int) (hv4_ : InR v4_) (H : Heap) (locs : List Loc) (ls : Array Slot), St b C n M s H locs → lv_has ls 8 [(0, .ref (b + 191)), (1, vI x1), (2, vI v2_), (3, vI v3_), (4, vI v4_)] → bk57 M v2_ v3_ v4_ = some res → W p l e (headSpec (wsM y_MO_treaty b_MO_treaty 8 (some .int)) (rmD 6)).room s m ([.ref (b + 191), vI x1] : List Value).toArray below meth c H locs 0 0 (MQ below (QI b C n res.1 res.2) ([.ref (b + 191), vI x1] : List Value).toArray s 0 0 (frb b)) (F0 m 57 ls [])) (M : Mem) (v2_ : Int) (hv2_ : InR v2_) (v3_ : Int) (hv3_ : InR v3_) (v4_ : Int) (hv4_ : InR v4_) (H : Heap) (locs : List Loc) (ls : Array Slot) (hS : St b C n M s H locs) (hl : lv_has ls 8 [(0, .ref (b + 191)), (1, vI x1), (2, vI v2_), (3, vI v3_), (4, vI v4_)]) (hT : t_MO_treaty_L171 x1 bk57 M v2_ v3_ v4_ = some res) : W p l e (headSpec (wsM y_MO_treaty b_MO_treaty 8 (some .int)) (rmD 6)).room s m ([.ref (b + 191), vI x1] : List Value).toArray below meth c H locs 0 0 (MQ below (QI b C n res.1 res.2) ([.ref (b + 191), vI x1] : List Value).toArray s 0 0 (frb b)) (F0 m 171 ls []) := by
  unfold t_MO_treaty_L171 at hT
  refine lv_iinc (v := Int32.ofInt (w32 (v4_ + 1))) (lv' := [(4, vI (w32 (v4_ + 1))), (0, .ref (b + 191)), (1, vI x1), (2, vI v2_), (3, vI v3_)]) F.hx F.hb d_MO_treaty_171 hl (k := 4) rfl (q_of_add _ _) (Nat.le_of_ble_eq_true rfl) rfl (fun ls hl => ?_)
  refine lv_goto (tgt := 57) F.hx F.hb d_MO_treaty_174 (by decide) ?_
  exact hbk57 M v2_ hv2_ v3_ hv3_ (w32 (v4_ + 1)) (inr_w32 _) _ _ _ hS (lv_sub hl [1, 2, 3, 4, 0] rfl) hT
set_option maxHeartbeats 4000000 in
set_option maxRecDepth 100000 in
theorem k_MO_treaty_L165 (l : Launch) {p : Program} {e : Env} {s : State} {m : MethodId} {below : List Frame} {meth : Method} {c : Code} {b n : Nat} {C : CT} (hlo : 231 ≤ n) (x1 : Int) (hx1 : InR x1) (F : Cx b p m c b_MO_treaty 8 s ([.ref (b + 191), vI x1] : List Value).toArray "WardFallsModel" C n 231) (hlk : meth.locks = false) (hr : meth.sig.returnType = some .int) {res : Mem × Int} (bk57 : Mem → Int → Int → Int → Option (Mem × Int)) (hbk57 : ∀ (M : Mem) (v2_ : Int) (hv2_ : InR v2_) (v3_ : Int) (hv3_ : InR v3_) (v4_ : Int) (hv4_ : InR v4_) (H : Heap) (locs : List Loc) (ls : Array Slot), St b C n M s H locs → lv_has ls 8 [(0, .ref (b + 191)), (1, vI x1), (2, vI v2_), (3, vI v3_), (4, vI v4_)] → bk57 M v2_ v3_ v4_ = some res → W p l e (headSpec (wsM y_MO_treaty b_MO_treaty 8 (some .int)) (rmD 6)).room s m ([.ref (b + 191), vI x1] : List Value).toArray below meth c H locs 0 0 (MQ below (QI b C n res.1 res.2) ([.ref (b + 191), vI x1] : List Value).toArray s 0 0 (frb b)) (F0 m 57 ls [])) (M : Mem) (v2_ : Int) (hv2_ : InR v2_) (v3_ : Int) (hv3_ : InR v3_) (H : Heap) (locs : List Loc) (ls : Array Slot) (hS : St b C n M s H locs) (hl : lv_has ls 8 [(0, .ref (b + 191)), (1, vI x1), (4, vI v2_), (6, vI v3_)]) (hT : t_MO_treaty_L165 x1 bk57 M v2_ v3_ = some res) : W p l e (headSpec (wsM y_MO_treaty b_MO_treaty 8 (some .int)) (rmD 6)).room s m ([.ref (b + 191), vI x1] : List Value).toArray below meth c H locs 0 0 (MQ below (QI b C n res.1 res.2) ([.ref (b + 191), vI x1] : List Value).toArray s 0 0 (frb b)) (F0 m 165 ls []) := by
  unfold t_MO_treaty_L165 at hT
  refine lv_iload F.hx F.hb d_MO_treaty_165 (lv_at hl 2 rfl) ?_
  refine lv_istore_n (lv' := [(2, vI v2_), (0, .ref (b + 191)), (1, vI x1), (4, vI v2_), (6, vI v3_)]) F.hx F.hb d_MO_treaty_167 rfl hl (Nat.le_of_ble_eq_true rfl) rfl (fun ls hl => ?_)
  refine lv_iload F.hx F.hb d_MO_treaty_168 (lv_at hl 4 rfl) ?_
  refine lv_istore_n (lv' := [(3, vI v3_), (2, vI v2_), (0, .ref (b + 191)), (1, vI x1), (4, vI v2_), (6, vI v3_)]) F.hx F.hb d_MO_treaty_170 rfl hl (Nat.le_of_ble_eq_true rfl) rfl (fun ls hl => ?_)
  exact k_MO_treaty_L171 l hlo x1 hx1 F hlk hr bk57 hbk57 M v2_ hv2_ v3_ hv3_ v2_ hv2_ _ _ _ hS (lv_sub hl [2, 3, 1, 0, 4] rfl) hT
set_option maxHeartbeats 4000000 in
set_option maxRecDepth 100000 in
theorem k_MO_treaty_L80 (l : Launch) {p : Program} {e : Env} {s : State} {m : MethodId} {below : List Frame} {meth : Method} {c : Code} {b n : Nat} {C : CT} (hlo : 231 ≤ n) (x1 : Int) (hx1 : InR x1) (F : Cx b p m c b_MO_treaty 8 s ([.ref (b + 191), vI x1] : List Value).toArray "WardFallsModel" C n 231) (hlk : meth.locks = false) (hr : meth.sig.returnType = some .int) {res : Mem × Int} (bk57 : Mem → Int → Int → Int → Option (Mem × Int)) (hbk57 : ∀ (M : Mem) (v2_ : Int) (hv2_ : InR v2_) (v3_ : Int) (hv3_ : InR v3_) (v4_ : Int) (hv4_ : InR v4_) (H : Heap) (locs : List Loc) (ls : Array Slot), St b C n M s H locs → lv_has ls 8 [(0, .ref (b + 191)), (1, vI x1), (2, vI v2_), (3, vI v3_), (4, vI v4_)] → bk57 M v2_ v3_ v4_ = some res → W p l e (headSpec (wsM y_MO_treaty b_MO_treaty 8 (some .int)) (rmD 6)).room s m ([.ref (b + 191), vI x1] : List Value).toArray below meth c H locs 0 0 (MQ below (QI b C n res.1 res.2) ([.ref (b + 191), vI x1] : List Value).toArray s 0 0 (frb b)) (F0 m 57 ls [])) : ∀ (fu : Nat) (M : Mem) (v2_ : Int) (hv2_ : InR v2_) (v3_ : Int) (hv3_ : InR v3_) (v4_ : Int) (hv4_ : InR v4_) (v5_ : Int) (hv5_ : v5_ = 0 ∨ v5_ = 1) (v6_ : Int) (hv6_ : InR v6_) (v7_ : Int) (hv7_ : InR v7_) (H : Heap) (locs : List Loc) (ls : Array Slot), St b C n M s H locs → lv_has ls 8 [(0, .ref (b + 191)), (1, vI x1), (2, vI v2_), (3, vI v3_), (4, vI v4_), (5, vI v5_), (6, vI v6_), (7, vI v7_)] → t_MO_treaty_L80 x1 bk57 fu M v2_ v3_ v4_ v5_ v6_ v7_ = some res → W p l e (headSpec (wsM y_MO_treaty b_MO_treaty 8 (some .int)) (rmD 6)).room s m ([.ref (b + 191), vI x1] : List Value).toArray below meth c H locs 0 0 (MQ below (QI b C n res.1 res.2) ([.ref (b + 191), vI x1] : List Value).toArray s 0 0 (frb b)) (F0 m 80 ls []) := by
  intro fu
  induction fu with
  | zero => intro M v2_ hv2_ v3_ hv3_ v4_ hv4_ v5_ hv5_ v6_ hv6_ v7_ hv7_ H locs ls hS hl hT; exact absurd hT (by simp [t_MO_treaty_L80])
  | succ fu ih =>
    intro M v2_ hv2_ v3_ hv3_ v4_ hv4_ v5_ hv5_ v6_ hv6_ v7_ hv7_ H locs ls hS hl hT
    rw [t_MO_treaty_L80] at hT
    refine lv_iload F.hx F.hb d_MO_treaty_80 (lv_at hl 7 rfl) ?_
    refine lv_aload_n F.hx F.hb d_MO_treaty_82 rfl (lv_at hl 0 rfl) ?_
    refine r_get (v := .ref (b + 193)) (N := 68) (T := T1) (j := 3) F hS (show 191 < 231 by decide) (show shK 191 = 5 from rfl) (show shN 191 = 68 from rfl) rfl (Nat.le_of_ble_eq_true rfl) ing1 mw_1392 (fv_sg rfl rfl rfl) d_MO_treaty_83 ?_
    refine r_iconst F.hx F.hb d_MO_treaty_86 ?_
    refine r_iald F hS (show 193 < 231 by decide) (show shK 193 = 0 from rfl) (show shN 193 = 18 from rfl) (inr_c rfl) (by omega) (by omega) d_MO_treaty_87 ?_
    have i19 := hS.rng 193 2
    refine r_icmp_ge (tgt := 146) F.hx F.hb hv7_ i19 d_MO_treaty_88 (by decide) (fun c20 => ?_) (fun c20 => ?_)
    · replace hT := (if_pos c20).symm.trans hT
      refine lv_iload F.hx F.hb d_MO_treaty_146 (lv_at hl 5 rfl) ?_
      refine r_if_eq (tgt := 171) F.hx F.hb (inr_z hv5_) d_MO_treaty_148 (by decide) (fun c21 => ?_) (fun c21 => ?_)
      · replace hT := (if_pos c21).symm.trans hT
        exact k_MO_treaty_L171 l hlo x1 hx1 F hlk hr bk57 hbk57 M v2_ hv2_ v3_ hv3_ v4_ hv4_ _ _ _ hS (lv_sub hl [0, 1, 2, 3, 4] rfl) hT
      · replace hT := (if_neg c21).symm.trans hT
        refine lv_iload_n F.hx F.hb d_MO_treaty_151 rfl (lv_at hl 2 rfl) ?_
        refine r_iconst F.hx F.hb d_MO_treaty_152 ?_
        refine r_icmp_eq (tgt := 165) F.hx F.hb hv2_ (inr_c rfl) d_MO_treaty_153 (by decide) (fun c22 => ?_) (fun c22 => ?_)
        · replace hT := (if_pos c22).symm.trans hT
          exact k_MO_treaty_L165 l hlo x1 hx1 F hlk hr bk57 hbk57 M v4_ hv4_ v6_ hv6_ _ _ _ hS (lv_sub hl [0, 1, 4, 6] rfl) hT
        · replace hT := (if_neg c22).symm.trans hT
          refine lv_iload F.hx F.hb d_MO_treaty_156 (lv_at hl 6 rfl) ?_
          refine lv_iload_n F.hx F.hb d_MO_treaty_158 rfl (lv_at hl 3 rfl) ?_
          refine r_icmp_gt (tgt := 165) F.hx F.hb hv6_ hv3_ d_MO_treaty_159 (by decide) (fun c23 => ?_) (fun c23 => ?_)
          · replace hT := (if_pos c23).symm.trans hT
            exact k_MO_treaty_L165 l hlo x1 hx1 F hlk hr bk57 hbk57 M v4_ hv4_ v6_ hv6_ _ _ _ hS (lv_sub hl [0, 1, 4, 6] rfl) hT
          · replace hT := (if_neg c23).symm.trans hT
            refine lv_goto (tgt := 171) F.hx F.hb d_MO_treaty_162 (by decide) ?_
            exact k_MO_treaty_L171 l hlo x1 hx1 F hlk hr bk57 hbk57 M v2_ hv2_ v3_ hv3_ v4_ hv4_ _ _ _ hS (lv_sub hl [0, 1, 2, 3, 4] rfl) hT
    · replace hT := (if_neg c20).symm.trans hT
      refine lv_iload F.hx F.hb d_MO_treaty_91 (lv_at hl 5 rfl) ?_
      refine lv_aload_n F.hx F.hb d_MO_treaty_93 rfl (lv_at hl 0 rfl) ?_
      refine r_get (v := .ref (b + 224)) (N := 68) (T := T1) (j := 58) F hS (show 191 < 231 by decide) (show shK 191 = 5 from rfl) (show shN 191 = 68 from rfl) rfl (Nat.le_of_ble_eq_true rfl) ing1 mw_1447 (fv_sg rfl rfl rfl) d_MO_treaty_94 ?_
      refine r_iconst F.hx F.hb d_MO_treaty_97 ?_
      refine lv_iload F.hx F.hb d_MO_treaty_98 (lv_at hl 4 rfl) ?_
      refine r_imul F.hx F.hb d_MO_treaty_100 ?_
      refine lv_iload F.hx F.hb d_MO_treaty_101 (lv_at hl 7 rfl) ?_
      refine r_iadd F.hx F.hb d_MO_treaty_103 ?_
      obtain ⟨⟨g24a, g24b⟩, hT⟩ := q_guard hT
      refine r_iald F hS (show 224 < 231 by decide) (show shK 224 = 0 from rfl) (show shN 224 = 1024 from rfl) (inr_w32 _) g24a g24b d_MO_treaty_104 ?_
      have i25 := hS.rng 224 (w32 ((w32 (4 * v4_)) + v7_))
      refine lv_aload_n F.hx F.hb d_MO_treaty_105 rfl (lv_at hl 0 rfl) ?_
      refine r_get (v := .ref (b + 225)) (N := 68) (T := T1) (j := 59) F hS (show 191 < 231 by decide) (show shK 191 = 5 from rfl) (show shN 191 = 68 from rfl) rfl (Nat.le_of_ble_eq_true rfl) ing1 mw_1448 (fv_sg rfl rfl rfl) d_MO_treaty_106 ?_
      refine lv_iload F.hx F.hb d_MO_treaty_109 (lv_at hl 7 rfl) ?_
      obtain ⟨⟨g26a, g26b⟩, hT⟩ := q_guard hT
      refine r_iald F hS (show 225 < 231 by decide) (show shK 225 = 0 from rfl) (show shN 225 = 4 from rfl) hv7_ g26a g26b d_MO_treaty_111 ?_
      have i27 := hS.rng 225 v7_
      refine r_icmp_lt (tgt := 119) F.hx F.hb i25 i27 d_MO_treaty_112 (by decide) (fun c28 => ?_) (fun c28 => ?_)
      · replace hT := (if_pos c28).symm.trans hT
        refine r_iconst F.hx F.hb d_MO_treaty_119 ?_
        exact k_MO_treaty_L120 l hlo x1 hx1 F hlk hr bk57 hbk57 (fun a0_ a1_ a2_ a3_ a4_ a5_ a6_ => t_MO_treaty_L80 x1 bk57 fu a0_ a1_ a2_ a3_ a4_ a5_ a6_) ih M v2_ hv2_ v3_ hv3_ v4_ hv4_ v6_ hv6_ v7_ hv7_ v5_ hv5_ 0 (Or.inl rfl) _ _ _ hS (lv_sub hl [0, 1, 2, 3, 4, 6, 7] rfl) hT
      · replace hT := (if_neg c28).symm.trans hT
        refine r_iconst F.hx F.hb d_MO_treaty_115 ?_
        refine lv_goto (tgt := 120) F.hx F.hb d_MO_treaty_116 (by decide) ?_
        exact k_MO_treaty_L120 l hlo x1 hx1 F hlk hr bk57 hbk57 (fun a0_ a1_ a2_ a3_ a4_ a5_ a6_ => t_MO_treaty_L80 x1 bk57 fu a0_ a1_ a2_ a3_ a4_ a5_ a6_) ih M v2_ hv2_ v3_ hv3_ v4_ hv4_ v6_ hv6_ v7_ hv7_ v5_ hv5_ 1 (Or.inr rfl) _ _ _ hS (lv_sub hl [0, 1, 2, 3, 4, 6, 7] rfl) hT
set_option maxHeartbeats 4000000 in
set_option maxRecDepth 100000 in
theorem k_MO_treaty_L57 (l : Launch) {p : Program} {e : Env} {s : State} {m : MethodId} {below : List Frame} {meth : Method} {c : Code} {b n : Nat} {C : CT} (hlo : 231 ≤ n) (x1 : Int) (hx1 : InR x1) (F : Cx b p m c b_MO_treaty 8 s ([.ref (b + 191), vI x1] : List Value).toArray "WardFallsModel" C n 231) (hlk : meth.locks = false) (hr : meth.sig.returnType = some .int) {res : Mem × Int} : ∀ (fu : Nat) (M : Mem) (v2_ : Int) (hv2_ : InR v2_) (v3_ : Int) (hv3_ : InR v3_) (v4_ : Int) (hv4_ : InR v4_) (H : Heap) (locs : List Loc) (ls : Array Slot), St b C n M s H locs → lv_has ls 8 [(0, .ref (b + 191)), (1, vI x1), (2, vI v2_), (3, vI v3_), (4, vI v4_)] → t_MO_treaty_L57 x1 fu M v2_ v3_ v4_ = some res → W p l e (headSpec (wsM y_MO_treaty b_MO_treaty 8 (some .int)) (rmD 6)).room s m ([.ref (b + 191), vI x1] : List Value).toArray below meth c H locs 0 0 (MQ below (QI b C n res.1 res.2) ([.ref (b + 191), vI x1] : List Value).toArray s 0 0 (frb b)) (F0 m 57 ls []) := by
  intro fu
  induction fu with
  | zero => intro M v2_ hv2_ v3_ hv3_ v4_ hv4_ H locs ls hS hl hT; exact absurd hT (by simp [t_MO_treaty_L57])
  | succ fu ih =>
    intro M v2_ hv2_ v3_ hv3_ v4_ hv4_ H locs ls hS hl hT
    rw [t_MO_treaty_L57] at hT
    refine lv_iload F.hx F.hb d_MO_treaty_57 (lv_at hl 4 rfl) ?_
    refine lv_aload_n F.hx F.hb d_MO_treaty_59 rfl (lv_at hl 0 rfl) ?_
    obtain ⟨q12, hq12⟩ : ∃ q, q = (t_MO_votes M) := ⟨_, rfl⟩
    replace hT := qlet_eq hT hq12
    refine r_backI F hS (r_runV (k := 191) (N := 68) (T := T1) (As := []) F hS (show 191 < 231 by decide) (show shK 191 = 5 from rfl) rfl (c_MO_votes l F.2.2.1 M _ hq12.symm) gs_MO_483 hd_MO_votes ⟨Nat.le_of_ble_eq_true rfl, Nat.le_of_ble_eq_true rfl⟩ rfl hl.1 (Nat.le_of_ble_eq_true rfl) ⟨Nat.zero_le _, Nat.zero_le _⟩ rfl d_MO_treaty_60) (fun H locs hS h13 => ?_)
    refine r_icmp_ge (tgt := 177) F.hx F.hb hv4_ h13 d_MO_treaty_63 (by decide) (fun c14 => ?_) (fun c14 => ?_)
    · replace hT := (if_pos c14).symm.trans hT
      refine lv_iload_n F.hx F.hb d_MO_treaty_177 rfl (lv_at hl 2 rfl) ?_
      refine r_iconst F.hx F.hb d_MO_treaty_178 ?_
      refine r_icmp_ne (tgt := 187) F.hx F.hb hv2_ (inr_c rfl) d_MO_treaty_179 (by decide) (fun c15 => ?_) (fun c15 => ?_)
      · replace hT := (if_neg c15).symm.trans hT
        refine lv_iload_n F.hx F.hb d_MO_treaty_187 rfl (lv_at hl 1 rfl) ?_
        refine r_if_ne (tgt := 195) F.hx F.hb hx1 d_MO_treaty_188 (by decide) (fun c16 => ?_) (fun c16 => ?_)
        · replace hT := (if_neg c16).symm.trans hT
          refine lv_iload_n F.hx F.hb d_MO_treaty_195 rfl (lv_at hl 2 rfl) ?_
          cases hT
          exact r_iret F hlk hr rfl hS hv2_ d_MO_treaty_196
        · replace hT := (if_pos c16).symm.trans hT
          refine lv_iload_n F.hx F.hb d_MO_treaty_191 rfl (lv_at hl 3 rfl) ?_
          refine lv_goto (tgt := 196) F.hx F.hb d_MO_treaty_192 (by decide) ?_
          cases hT
          exact r_iret F hlk hr rfl hS hv3_ d_MO_treaty_196
      · replace hT := (if_pos c15).symm.trans hT
        refine r_bipush F.hx F.hb d_MO_treaty_182 rfl ?_
        refine lv_goto (tgt := 196) F.hx F.hb d_MO_treaty_184 (by decide) ?_
        cases hT
        exact r_iret F hlk hr rfl hS (inr_c rfl) d_MO_treaty_196
    · replace hT := (if_neg c14).symm.trans hT
      refine lv_aload_n F.hx F.hb d_MO_treaty_66 rfl (lv_at hl 0 rfl) ?_
      refine lv_iload F.hx F.hb d_MO_treaty_67 (lv_at hl 4 rfl) ?_
      obtain ⟨q17, hq17, hT⟩ := q_obind hT
      refine r_backZ F hS (r_runV (k := 191) (N := 68) (T := T1) (As := [vI v4_]) F hS (show 191 < 231 by decide) (show shK 191 = 5 from rfl) rfl (c_MO_isStay l F.2.2.1 M v4_ hv4_ _ hq17) gs_MO_492 hd_MO_isStay ⟨Nat.le_of_ble_eq_true rfl, Nat.le_of_ble_eq_true rfl⟩ rfl hl.1 (Nat.le_of_ble_eq_true rfl) ⟨Nat.zero_le _, Nat.zero_le _⟩ rfl d_MO_treaty_69) (fun H locs hS h18 => ?_)
      refine lv_istore (lv' := [(5, vI q17), (0, .ref (b + 191)), (1, vI x1), (2, vI v2_), (3, vI v3_), (4, vI v4_)]) F.hx F.hb d_MO_treaty_72 hl (Nat.le_of_ble_eq_true rfl) rfl (fun ls hl => ?_)
      refine r_iconst F.hx F.hb d_MO_treaty_74 ?_
      refine lv_istore (lv' := [(6, vI 0), (5, vI q17), (0, .ref (b + 191)), (1, vI x1), (2, vI v2_), (3, vI v3_), (4, vI v4_)]) F.hx F.hb d_MO_treaty_75 hl (Nat.le_of_ble_eq_true rfl) rfl (fun ls hl => ?_)
      refine r_iconst F.hx F.hb d_MO_treaty_77 ?_
      refine lv_istore (lv' := [(7, vI 0), (6, vI 0), (5, vI q17), (0, .ref (b + 191)), (1, vI x1), (2, vI v2_), (3, vI v3_), (4, vI v4_)]) F.hx F.hb d_MO_treaty_78 hl (Nat.le_of_ble_eq_true rfl) rfl (fun ls hl => ?_)
      exact k_MO_treaty_L80 l hlo x1 hx1 F hlk hr (fun a0_ a1_ a2_ a3_ => t_MO_treaty_L57 x1 fu a0_ a1_ a2_ a3_) ih FU M v2_ hv2_ v3_ hv3_ v4_ hv4_ q17 h18 0 (inr_c rfl) 0 (inr_c rfl) _ _ _ hS (lv_sub hl [3, 4, 5, 6, 7, 2, 1, 0] rfl) hT
set_option maxHeartbeats 4000000 in
set_option maxRecDepth 100000 in
theorem k_MO_treaty_L18 (l : Launch) {p : Program} {e : Env} {s : State} {m : MethodId} {below : List Frame} {meth : Method} {c : Code} {b n : Nat} {C : CT} (hlo : 231 ≤ n) (x1 : Int) (hx1 : InR x1) (F : Cx b p m c b_MO_treaty 8 s ([.ref (b + 191), vI x1] : List Value).toArray "WardFallsModel" C n 231) (hlk : meth.locks = false) (hr : meth.sig.returnType = some .int) {res : Mem × Int} : ∀ (fu : Nat) (M : Mem) (v2_ : Int) (hv2_ : InR v2_) (H : Heap) (locs : List Loc) (ls : Array Slot), St b C n M s H locs → lv_has ls 8 [(0, .ref (b + 191)), (1, vI x1), (2, vI v2_)] → t_MO_treaty_L18 x1 fu M v2_ = some res → W p l e (headSpec (wsM y_MO_treaty b_MO_treaty 8 (some .int)) (rmD 6)).room s m ([.ref (b + 191), vI x1] : List Value).toArray below meth c H locs 0 0 (MQ below (QI b C n res.1 res.2) ([.ref (b + 191), vI x1] : List Value).toArray s 0 0 (frb b)) (F0 m 18 ls []) := by
  intro fu
  induction fu with
  | zero => intro M v2_ hv2_ H locs ls hS hl hT; exact absurd hT (by simp [t_MO_treaty_L18])
  | succ fu ih =>
    intro M v2_ hv2_ H locs ls hS hl hT
    rw [t_MO_treaty_L18] at hT
    refine lv_iload_n F.hx F.hb d_MO_treaty_18 rfl (lv_at hl 2 rfl) ?_
    refine lv_aload_n F.hx F.hb d_MO_treaty_19 rfl (lv_at hl 0 rfl) ?_
    refine r_get (v := .ref (b + 193)) (N := 68) (T := T1) (j := 3) F hS (show 191 < 231 by decide) (show shK 191 = 5 from rfl) (show shN 191 = 68 from rfl) rfl (Nat.le_of_ble_eq_true rfl) ing1 mw_1392 (fv_sg rfl rfl rfl) d_MO_treaty_20 ?_
    refine r_iconst F.hx F.hb d_MO_treaty_23 ?_
    refine r_iald F hS (show 193 < 231 by decide) (show shK 193 = 0 from rfl) (show shN 193 = 18 from rfl) (inr_c rfl) (by omega) (by omega) d_MO_treaty_24 ?_
    have i4 := hS.rng 193 2
    refine r_icmp_ge (tgt := 46) F.hx F.hb hv2_ i4 d_MO_treaty_25 (by decide) (fun c5 => ?_) (fun c5 => ?_)
    · replace hT := (if_pos c5).symm.trans hT
      refine lv_aload_n F.hx F.hb d_MO_treaty_46 rfl (lv_at hl 0 rfl) ?_
      obtain ⟨q6, hq6, hT⟩ := q_obind hT
      refine r_backV F hS (r_runV (k := 191) (N := 68) (T := T1) (As := []) F hS (show 191 < 231 by decide) (show shK 191 = 5 from rfl) rfl (c_MO_layJoys l F.2.2.1 M _ hq6) gs_MO_489 hd_MO_layJoys ⟨Nat.le_of_ble_eq_true rfl, Nat.le_of_ble_eq_true rfl⟩ rfl hl.1 (Nat.le_of_ble_eq_true rfl) ⟨Nat.zero_le _, Nat.zero_le _⟩ rfl d_MO_treaty_47) (fun H locs hS => ?_)
      refine r_iconst F.hx F.hb d_MO_treaty_50 ?_
      refine lv_istore_n (lv' := [(2, vI (-1)), (0, .ref (b + 191)), (1, vI x1)]) F.hx F.hb d_MO_treaty_51 rfl hl (Nat.le_of_ble_eq_true rfl) rfl (fun ls hl => ?_)
      refine r_iconst F.hx F.hb d_MO_treaty_52 ?_
      refine lv_istore_n (lv' := [(3, vI 0), (2, vI (-1)), (0, .ref (b + 191)), (1, vI x1)]) F.hx F.hb d_MO_treaty_53 rfl hl (Nat.le_of_ble_eq_true rfl) rfl (fun ls hl => ?_)
      refine r_iconst F.hx F.hb d_MO_treaty_54 ?_
      refine lv_istore (lv' := [(4, vI 0), (3, vI 0), (2, vI (-1)), (0, .ref (b + 191)), (1, vI x1)]) F.hx F.hb d_MO_treaty_55 hl (Nat.le_of_ble_eq_true rfl) rfl (fun ls hl => ?_)
      exact k_MO_treaty_L57 l hlo x1 hx1 F hlk hr FU q6 (-1) (inr_c rfl) 0 (inr_c rfl) 0 (inr_c rfl) _ _ _ hS (lv_sub hl [3, 4, 2, 1, 0] rfl) hT
    · replace hT := (if_neg c5).symm.trans hT
      refine lv_aload_n F.hx F.hb d_MO_treaty_28 rfl (lv_at hl 0 rfl) ?_
      refine r_get (v := .ref (b + 225)) (N := 68) (T := T1) (j := 59) F hS (show 191 < 231 by decide) (show shK 191 = 5 from rfl) (show shN 191 = 68 from rfl) rfl (Nat.le_of_ble_eq_true rfl) ing1 mw_1448 (fv_sg rfl rfl rfl) d_MO_treaty_29 ?_
      refine lv_iload_n F.hx F.hb d_MO_treaty_32 rfl (lv_at hl 2 rfl) ?_
      refine lv_aload_n F.hx F.hb d_MO_treaty_33 rfl (lv_at hl 0 rfl) ?_
      refine r_iconst F.hx F.hb d_MO_treaty_34 ?_
      refine lv_iload_n F.hx F.hb d_MO_treaty_35 rfl (lv_at hl 2 rfl) ?_
      obtain ⟨q8, hq8, hT⟩ := q_obind hT
      refine r_backI F hS (r_runV (k := 191) (N := 68) (T := T1) (As := [vI 0, vI v2_]) F hS (show 191 < 231 by decide) (show shK 191 = 5 from rfl) rfl (c_MO_joyOf l F.2.2.1 M 0 v2_ (inr_c rfl) hv2_ _ hq8) gs_MO_375 hd_MO_joyOf ⟨Nat.le_of_ble_eq_true rfl, Nat.le_of_ble_eq_true rfl⟩ rfl hl.1 (Nat.le_of_ble_eq_true rfl) ⟨Nat.zero_le _, Nat.zero_le _⟩ rfl d_MO_treaty_36) (fun H locs hS h9 => ?_)
      obtain ⟨⟨g10a, g10b⟩, hT⟩ := q_guard hT
      refine r_iast F hS (show 225 < 231 by decide) (show shK 225 = 0 from rfl) (show shN 225 = 4 from rfl) hv2_ h9 g10a g10b d_MO_treaty_39 (fun H locs hS => ?_)
      obtain ⟨M11, eM11⟩ : ∃ q, q = (setI (q8.1) 225 v2_ (q8.2)) := ⟨_, rfl⟩
      replace hS : St b C n M11 s H locs := by rw [eM11]; exact hS
      replace hT := qlet_eq hT eM11
      refine lv_iinc (v := Int32.ofInt (w32 (v2_ + 1))) (lv' := [(2, vI (w32 (v2_ + 1))), (0, .ref (b + 191)), (1, vI x1)]) F.hx F.hb d_MO_treaty_40 hl (k := 2) rfl (q_of_add _ _) (Nat.le_of_ble_eq_true rfl) rfl (fun ls hl => ?_)
      refine lv_goto (tgt := 18) F.hx F.hb d_MO_treaty_43 (by decide) ?_
      exact ih M11 (w32 (v2_ + 1)) (inr_w32 _) _ _ _ hS (lv_sub hl [1, 2, 0] rfl) hT
set_option maxHeartbeats 4000000 in
set_option maxRecDepth 100000 in
theorem c_MO_treaty (l : Launch) {b n : Nat} {C : CT} (hlo : 231 ≤ n) (M : Mem) (x1 : Int) (hx1 : InR x1) (res : Mem × Int) (hT : t_MO_treaty M x1 = some res) : CM l b C n 6 y_MO_treaty b_MO_treaty 8 (some .int) [.ref (b + 191), vI x1] M (QI b C n res.1 res.2) := by
  refine CM.of (lo := 231) (ow := "WardFallsModel") (by decide) rfl (Nat.le_of_ble_eq_true rfl) hlo (fun p e s m below meth c F hlk hr hS ls hl => ?_)
  have hl : lv_has ls 8 [(0, .ref (b + 191)), (1, vI x1)] := hl
  unfold t_MO_treaty at hT
  refine lv_aload_n F.hx F.hb d_MO_treaty_0 rfl (lv_at hl 0 rfl) ?_
  refine r_iconst F.hx F.hb d_MO_treaty_1 ?_
  refine r_putI (N := 68) (T := T1) (j := 0) F hS (show 191 < 231 by decide) (show shK 191 = 5 from rfl) (show shN 191 = 68 from rfl) rfl (Nat.le_of_ble_eq_true rfl) ing1 tyok1 nm1 rfl rfl rfl rfl rfl rfl mw_1389 (inr_c rfl) d_MO_treaty_2 (fun H locs hS => ?_)
  obtain ⟨M1, eM1⟩ : ∃ q, q = (setI M 191 0 0) := ⟨_, rfl⟩
  replace hS : St b C n M1 s H locs := by rw [eM1]; exact hS
  replace hT := qlet_eq hT eM1
  refine lv_iload_n F.hx F.hb d_MO_treaty_5 rfl (lv_at hl 1 rfl) ?_
  refine r_if_lt (tgt := 14) F.hx F.hb hx1 d_MO_treaty_6 (by decide) (fun c2 => ?_) (fun c2 => ?_)
  · replace hT := (if_pos c2).symm.trans hT
    refine r_iconst F.hx F.hb d_MO_treaty_14 ?_
    cases hT
    exact r_iret F hlk hr rfl hS (inr_c rfl) d_MO_treaty_15
  · replace hT := (if_neg c2).symm.trans hT
    refine lv_iload_n F.hx F.hb d_MO_treaty_9 rfl (lv_at hl 1 rfl) ?_
    refine r_iconst F.hx F.hb d_MO_treaty_10 ?_
    refine r_icmp_le (tgt := 16) F.hx F.hb hx1 (inr_c rfl) d_MO_treaty_11 (by decide) (fun c3 => ?_) (fun c3 => ?_)
    · replace hT := (if_pos c3).symm.trans hT
      refine r_iconst F.hx F.hb d_MO_treaty_16 ?_
      refine lv_istore_n (lv' := [(2, vI 0), (0, .ref (b + 191)), (1, vI x1)]) F.hx F.hb d_MO_treaty_17 rfl hl (Nat.le_of_ble_eq_true rfl) rfl (fun ls hl => ?_)
      exact k_MO_treaty_L18 l hlo x1 hx1 F hlk hr FU M1 0 (inr_c rfl) _ _ _ hS (lv_sub hl [1, 2, 0] rfl) hT
    · replace hT := (if_neg c3).symm.trans hT
      refine r_iconst F.hx F.hb d_MO_treaty_14 ?_
      cases hT
      exact r_iret F hlk hr rfl hS (inr_c rfl) d_MO_treaty_15
theorem d_MO_moved_0 : decode b_MO_moved 0 = .ok (.iconst 0, 1) := dc_3 (by decide +kernel)
theorem d_MO_moved_1 : decode b_MO_moved 1 = .ok (.istore_n 2, 1) := dc_61 (by decide +kernel)
theorem d_MO_moved_2 : decode b_MO_moved 2 = .ok (.iload_n 2, 1) := dc_28 (by decide +kernel)
theorem d_MO_moved_3 : decode b_MO_moved 3 = .ok (.aload_n 0, 1) := dc_42 (by decide +kernel)
theorem d_MO_moved_4 : decode b_MO_moved 4 = .ok (.getfield 13, 3) := dc_180 (by decide +kernel)
theorem d_MO_moved_7 : decode b_MO_moved 7 = .ok (.iconst 2, 1) := dc_5 (by decide +kernel)
theorem d_MO_moved_8 : decode b_MO_moved 8 = .ok (.iaload, 1) := dc_46 (by decide +kernel)
theorem d_MO_moved_9 : decode b_MO_moved 9 = .ok (.if_icmp .ge 99, 3) := dc_162 (by decide +kernel)
theorem d_MO_moved_12 : decode b_MO_moved 12 = .ok (.iconst (-1), 1) := dc_2 (by decide +kernel)
theorem d_MO_moved_13 : decode b_MO_moved 13 = .ok (.istore_n 3, 1) := dc_62 (by decide +kernel)
theorem d_MO_moved_14 : decode b_MO_moved 14 = .ok (.iconst 0, 1) := dc_3 (by decide +kernel)
theorem d_MO_moved_15 : decode b_MO_moved 15 = .ok (.istore 4, 2) := dc_54 (by decide +kernel)
theorem d_MO_moved_17 : decode b_MO_moved 17 = .ok (.iload 4, 2) := dc_21 (by decide +kernel)
theorem d_MO_moved_19 : decode b_MO_moved 19 = .ok (.iconst 4, 1) := dc_7 (by decide +kernel)
theorem d_MO_moved_20 : decode b_MO_moved 20 = .ok (.if_icmp .ge 70, 3) := dc_162 (by decide +kernel)
theorem d_MO_moved_23 : decode b_MO_moved 23 = .ok (.aload_n 0, 1) := dc_42 (by decide +kernel)
theorem d_MO_moved_24 : decode b_MO_moved 24 = .ok (.getfield 118, 3) := dc_180 (by decide +kernel)
theorem d_MO_moved_27 : decode b_MO_moved 27 = .ok (.iconst 4, 1) := dc_7 (by decide +kernel)
theorem d_MO_moved_28 : decode b_MO_moved 28 = .ok (.iload_n 1, 1) := dc_27 (by decide +kernel)
theorem d_MO_moved_29 : decode b_MO_moved 29 = .ok (.iload_n 2, 1) := dc_28 (by decide +kernel)
theorem d_MO_moved_30 : decode b_MO_moved 30 = .ok (.iload 4, 2) := dc_21 (by decide +kernel)
theorem d_MO_moved_32 : decode b_MO_moved 32 = .ok (.invokestatic 486, 3) := dc_184 (by decide +kernel)
theorem d_MO_moved_35 : decode b_MO_moved 35 = .ok (.imul, 1) := dc_104 (by decide +kernel)
theorem d_MO_moved_36 : decode b_MO_moved 36 = .ok (.iload_n 2, 1) := dc_28 (by decide +kernel)
theorem d_MO_moved_37 : decode b_MO_moved 37 = .ok (.iadd, 1) := dc_96 (by decide +kernel)
theorem d_MO_moved_38 : decode b_MO_moved 38 = .ok (.iaload, 1) := dc_46 (by decide +kernel)
theorem d_MO_moved_39 : decode b_MO_moved 39 = .ok (.istore 5, 2) := dc_54 (by decide +kernel)
theorem d_MO_moved_41 : decode b_MO_moved 41 = .ok (.iload 5, 2) := dc_21 (by decide +kernel)
theorem d_MO_moved_43 : decode b_MO_moved 43 = .ok (.aload_n 0, 1) := dc_42 (by decide +kernel)
theorem d_MO_moved_44 : decode b_MO_moved 44 = .ok (.getfield 118, 3) := dc_180 (by decide +kernel)
theorem d_MO_moved_47 : decode b_MO_moved 47 = .ok (.iconst 4, 1) := dc_7 (by decide +kernel)
theorem d_MO_moved_48 : decode b_MO_moved 48 = .ok (.iload_n 1, 1) := dc_27 (by decide +kernel)
theorem d_MO_moved_49 : decode b_MO_moved 49 = .ok (.imul, 1) := dc_104 (by decide +kernel)
theorem d_MO_moved_50 : decode b_MO_moved 50 = .ok (.iload_n 2, 1) := dc_28 (by decide +kernel)
theorem d_MO_moved_51 : decode b_MO_moved 51 = .ok (.iadd, 1) := dc_96 (by decide +kernel)
theorem d_MO_moved_52 : decode b_MO_moved 52 = .ok (.iaload, 1) := dc_46 (by decide +kernel)
theorem d_MO_moved_53 : decode b_MO_moved 53 = .ok (.if_icmp .le 31, 3) := dc_164 (by decide +kernel)
theorem d_MO_moved_56 : decode b_MO_moved 56 = .ok (.iload_n 3, 1) := dc_29 (by decide +kernel)
theorem d_MO_moved_57 : decode b_MO_moved 57 = .ok (.iconst (-1), 1) := dc_2 (by decide +kernel)
theorem d_MO_moved_58 : decode b_MO_moved 58 = .ok (.if_icmp .eq 23, 3) := dc_159 (by decide +kernel)
theorem d_MO_moved_61 : decode b_MO_moved 61 = .ok (.iload 5, 2) := dc_21 (by decide +kernel)
theorem d_MO_moved_63 : decode b_MO_moved 63 = .ok (.aload_n 0, 1) := dc_42 (by decide +kernel)
theorem d_MO_moved_64 : decode b_MO_moved 64 = .ok (.getfield 118, 3) := dc_180 (by decide +kernel)
theorem d_MO_moved_67 : decode b_MO_moved 67 = .ok (.iconst 4, 1) := dc_7 (by decide +kernel)
theorem d_MO_moved_68 : decode b_MO_moved 68 = .ok (.iload_n 1, 1) := dc_27 (by decide +kernel)
theorem d_MO_moved_69 : decode b_MO_moved 69 = .ok (.iload_n 2, 1) := dc_28 (by decide +kernel)
theorem d_MO_moved_70 : decode b_MO_moved 70 = .ok (.iload_n 3, 1) := dc_29 (by decide +kernel)
theorem d_MO_moved_71 : decode b_MO_moved 71 = .ok (.invokestatic 486, 3) := dc_184 (by decide +kernel)
theorem d_MO_moved_74 : decode b_MO_moved 74 = .ok (.imul, 1) := dc_104 (by decide +kernel)
theorem d_MO_moved_75 : decode b_MO_moved 75 = .ok (.iload_n 2, 1) := dc_28 (by decide +kernel)
theorem d_MO_moved_76 : decode b_MO_moved 76 = .ok (.iadd, 1) := dc_96 (by decide +kernel)
theorem d_MO_moved_77 : decode b_MO_moved 77 = .ok (.iaload, 1) := dc_46 (by decide +kernel)
theorem d_MO_moved_78 : decode b_MO_moved 78 = .ok (.if_icmp .le 6, 3) := dc_164 (by decide +kernel)
theorem d_MO_moved_81 : decode b_MO_moved 81 = .ok (.iload 4, 2) := dc_21 (by decide +kernel)
theorem d_MO_moved_83 : decode b_MO_moved 83 = .ok (.istore_n 3, 1) := dc_62 (by decide +kernel)
theorem d_MO_moved_84 : decode b_MO_moved 84 = .ok (.iinc 4 1, 3) := dc_132 (by decide +kernel)
theorem d_MO_moved_87 : decode b_MO_moved 87 = .ok (.goto (-70), 3) := dc_167 (by decide +kernel)
theorem d_MO_moved_90 : decode b_MO_moved 90 = .ok (.iload_n 3, 1) := dc_29 (by decide +kernel)
theorem d_MO_moved_91 : decode b_MO_moved 91 = .ok (.iconst (-1), 1) := dc_2 (by decide +kernel)
theorem d_MO_moved_92 : decode b_MO_moved 92 = .ok (.if_icmp .eq 10, 3) := dc_159 (by decide +kernel)
theorem d_MO_moved_95 : decode b_MO_moved 95 = .ok (.iload_n 1, 1) := dc_27 (by decide +kernel)
theorem d_MO_moved_96 : decode b_MO_moved 96 = .ok (.iload_n 2, 1) := dc_28 (by decide +kernel)
theorem d_MO_moved_97 : decode b_MO_moved 97 = .ok (.iload_n 3, 1) := dc_29 (by decide +kernel)
theorem d_MO_moved_98 : decode b_MO_moved 98 = .ok (.invokestatic 486, 3) := dc_184 (by decide +kernel)
theorem d_MO_moved_101 : decode b_MO_moved 101 = .ok (.ireturn, 1) := dc_172 (by decide +kernel)
theorem d_MO_moved_102 : decode b_MO_moved 102 = .ok (.iinc 2 1, 3) := dc_132 (by decide +kernel)
theorem d_MO_moved_105 : decode b_MO_moved 105 = .ok (.goto (-103), 3) := dc_167 (by decide +kernel)
theorem d_MO_moved_108 : decode b_MO_moved 108 = .ok (.iload_n 1, 1) := dc_27 (by decide +kernel)
theorem d_MO_moved_109 : decode b_MO_moved 109 = .ok (.ireturn, 1) := dc_172 (by decide +kernel)
def t_MO_moved_L84 (x1 : Int) (bk2 : Mem → Int → Option (Int)) (bk17 : Mem → Int → Int → Int → Option (Int)) (M : Mem) (v2_ : Int) (v3_ : Int) (v4_ : Int) : Option (Int) := (bk17 M v2_ v3_ (w32 (v4_ + 1)))
def t_MO_moved_L81 (x1 : Int) (bk2 : Mem → Int → Option (Int)) (bk17 : Mem → Int → Int → Int → Option (Int)) (M : Mem) (v2_ : Int) (v3_ : Int) : Option (Int) := (t_MO_moved_L84 x1 bk2 bk17 M v2_ v3_ v3_)
def t_MO_moved_L17 (x1 : Int) (bk2 : Mem → Int → Option (Int)) : Nat → Mem → Int → Int → Int → Option (Int)
  | 0, _, _, _, _ => none
  | fu + 1, M, v2_, v3_, v4_ => (if 4 ≤ v4_ then (if v3_ = (-1) then (bk2 M (w32 (v2_ + 1))) else (qlet (t_MO_with M x1 v2_ v3_) fun q5 => (some q5))) else (qlet (t_MO_with M x1 v2_ v4_) fun q7 => (qguard (0 ≤ (w32 ((w32 (4 * q7)) + v2_)) ∧ (w32 ((w32 (4 * q7)) + v2_)) < 1024) (qguard (0 ≤ (w32 ((w32 (4 * x1)) + v2_)) ∧ (w32 ((w32 (4 * x1)) + v2_)) < 1024) (if (M.1 224 (w32 ((w32 (4 * q7)) + v2_))) ≤ (M.1 224 (w32 ((w32 (4 * x1)) + v2_))) then (t_MO_moved_L84 x1 bk2 (fun a0_ a1_ a2_ a3_ => t_MO_moved_L17 x1 bk2 fu a0_ a1_ a2_ a3_) M v2_ v3_ v4_) else (if v3_ = (-1) then (t_MO_moved_L81 x1 bk2 (fun a0_ a1_ a2_ a3_ => t_MO_moved_L17 x1 bk2 fu a0_ a1_ a2_ a3_) M v2_ v4_) else (qlet (t_MO_with M x1 v2_ v3_) fun q15 => (qguard (0 ≤ (w32 ((w32 (4 * q15)) + v2_)) ∧ (w32 ((w32 (4 * q15)) + v2_)) < 1024) (if (M.1 224 (w32 ((w32 (4 * q7)) + v2_))) ≤ (M.1 224 (w32 ((w32 (4 * q15)) + v2_))) then (t_MO_moved_L84 x1 bk2 (fun a0_ a1_ a2_ a3_ => t_MO_moved_L17 x1 bk2 fu a0_ a1_ a2_ a3_) M v2_ v3_ v4_) else (t_MO_moved_L81 x1 bk2 (fun a0_ a1_ a2_ a3_ => t_MO_moved_L17 x1 bk2 fu a0_ a1_ a2_ a3_) M v2_ v4_))))))))))
def t_MO_moved_L2 (x1 : Int)  : Nat → Mem → Int → Option (Int)
  | 0, _, _ => none
  | fu + 1, M, v2_ => (if (M.1 193 2) ≤ v2_ then (some x1) else (t_MO_moved_L17 x1 (fun a0_ a1_ => t_MO_moved_L2 x1 fu a0_ a1_) FU M v2_ (-1) 0))
def t_MO_moved (M : Mem) (x1 : Int) : Option (Int) := (t_MO_moved_L2 x1 FU M 0)
set_option maxHeartbeats 4000000 in
set_option maxRecDepth 100000 in
theorem k_MO_moved_L84 (l : Launch) {p : Program} {e : Env} {s : State} {m : MethodId} {below : List Frame} {meth : Method} {c : Code} {b n : Nat} {C : CT} (hlo : 231 ≤ n) (x1 : Int) (hx1 : InR x1) (F : Cx b p m c b_MO_moved 6 s ([.ref (b + 191), vI x1] : List Value).toArray "WardFallsModel" C n 231) (hlk : meth.locks = false) (hr : meth.sig.returnType = some .int) {res : Int} (bk2 : Mem → Int → Option (Int)) (hbk2 : ∀ (M : Mem) (v2_ : Int) (hv2_ : InR v2_) (H : Heap) (locs : List Loc) (ls : Array Slot), St b C n M s H locs → lv_has ls 6 [(0, .ref (b + 191)), (1, vI x1), (2, vI v2_)] → bk2 M v2_ = some res → W p l e (headSpec (wsM y_MO_moved b_MO_moved 6 (some .int)) (rmD 1)).room s m ([.ref (b + 191), vI x1] : List Value).toArray below meth c H locs 0 0 (MQ below (QI b C n M res) ([.ref (b + 191), vI x1] : List Value).toArray s 0 0 (frb b)) (F0 m 2 ls [])) (bk17 : Mem → Int → Int → Int → Option (Int)) (hbk17 : ∀ (M : Mem) (v2_ : Int) (hv2_ : InR v2_) (v3_ : Int) (hv3_ : InR v3_) (v4_ : Int) (hv4_ : InR v4_) (H : Heap) (locs : List Loc) (ls : Array Slot), St b C n M s H locs → lv_has ls 6 [(0, .ref (b + 191)), (1, vI x1), (2, vI v2_), (3, vI v3_), (4, vI v4_)] → bk17 M v2_ v3_ v4_ = some res → W p l e (headSpec (wsM y_MO_moved b_MO_moved 6 (some .int)) (rmD 1)).room s m ([.ref (b + 191), vI x1] : List Value).toArray below meth c H locs 0 0 (MQ below (QI b C n M res) ([.ref (b + 191), vI x1] : List Value).toArray s 0 0 (frb b)) (F0 m 17 ls [])) (M : Mem) (v2_ : Int) (hv2_ : InR v2_) (v3_ : Int) (hv3_ : InR v3_) (v4_ : Int) (hv4_ : InR v4_) (H : Heap) (locs : List Loc) (ls : Array Slot) (hS : St b C n M s H locs) (hl : lv_has ls 6 [(0, .ref (b + 191)), (1, vI x1), (2, vI v2_), (3, vI v3_), (4, vI v4_)]) (hT : t_MO_moved_L84 x1 bk2 bk17 M v2_ v3_ v4_ = some res) : W p l e (headSpec (wsM y_MO_moved b_MO_moved 6 (some .int)) (rmD 1)).room s m ([.ref (b + 191), vI x1] : List Value).toArray below meth c H locs 0 0 (MQ below (QI b C n M res) ([.ref (b + 191), vI x1] : List Value).toArray s 0 0 (frb b)) (F0 m 84 ls []) := by
  unfold t_MO_moved_L84 at hT
  refine lv_iinc (v := Int32.ofInt (w32 (v4_ + 1))) (lv' := [(4, vI (w32 (v4_ + 1))), (0, .ref (b + 191)), (1, vI x1), (2, vI v2_), (3, vI v3_)]) F.hx F.hb d_MO_moved_84 hl (k := 4) rfl (q_of_add _ _) (Nat.le_of_ble_eq_true rfl) rfl (fun ls hl => ?_)
  refine lv_goto (tgt := 17) F.hx F.hb d_MO_moved_87 (by decide) ?_
  exact hbk17 M v2_ hv2_ v3_ hv3_ (w32 (v4_ + 1)) (inr_w32 _) _ _ _ hS (lv_sub hl [1, 2, 3, 4, 0] rfl) hT
set_option maxHeartbeats 4000000 in
set_option maxRecDepth 100000 in
theorem k_MO_moved_L81 (l : Launch) {p : Program} {e : Env} {s : State} {m : MethodId} {below : List Frame} {meth : Method} {c : Code} {b n : Nat} {C : CT} (hlo : 231 ≤ n) (x1 : Int) (hx1 : InR x1) (F : Cx b p m c b_MO_moved 6 s ([.ref (b + 191), vI x1] : List Value).toArray "WardFallsModel" C n 231) (hlk : meth.locks = false) (hr : meth.sig.returnType = some .int) {res : Int} (bk2 : Mem → Int → Option (Int)) (hbk2 : ∀ (M : Mem) (v2_ : Int) (hv2_ : InR v2_) (H : Heap) (locs : List Loc) (ls : Array Slot), St b C n M s H locs → lv_has ls 6 [(0, .ref (b + 191)), (1, vI x1), (2, vI v2_)] → bk2 M v2_ = some res → W p l e (headSpec (wsM y_MO_moved b_MO_moved 6 (some .int)) (rmD 1)).room s m ([.ref (b + 191), vI x1] : List Value).toArray below meth c H locs 0 0 (MQ below (QI b C n M res) ([.ref (b + 191), vI x1] : List Value).toArray s 0 0 (frb b)) (F0 m 2 ls [])) (bk17 : Mem → Int → Int → Int → Option (Int)) (hbk17 : ∀ (M : Mem) (v2_ : Int) (hv2_ : InR v2_) (v3_ : Int) (hv3_ : InR v3_) (v4_ : Int) (hv4_ : InR v4_) (H : Heap) (locs : List Loc) (ls : Array Slot), St b C n M s H locs → lv_has ls 6 [(0, .ref (b + 191)), (1, vI x1), (2, vI v2_), (3, vI v3_), (4, vI v4_)] → bk17 M v2_ v3_ v4_ = some res → W p l e (headSpec (wsM y_MO_moved b_MO_moved 6 (some .int)) (rmD 1)).room s m ([.ref (b + 191), vI x1] : List Value).toArray below meth c H locs 0 0 (MQ below (QI b C n M res) ([.ref (b + 191), vI x1] : List Value).toArray s 0 0 (frb b)) (F0 m 17 ls [])) (M : Mem) (v2_ : Int) (hv2_ : InR v2_) (v3_ : Int) (hv3_ : InR v3_) (H : Heap) (locs : List Loc) (ls : Array Slot) (hS : St b C n M s H locs) (hl : lv_has ls 6 [(0, .ref (b + 191)), (1, vI x1), (2, vI v2_), (4, vI v3_)]) (hT : t_MO_moved_L81 x1 bk2 bk17 M v2_ v3_ = some res) : W p l e (headSpec (wsM y_MO_moved b_MO_moved 6 (some .int)) (rmD 1)).room s m ([.ref (b + 191), vI x1] : List Value).toArray below meth c H locs 0 0 (MQ below (QI b C n M res) ([.ref (b + 191), vI x1] : List Value).toArray s 0 0 (frb b)) (F0 m 81 ls []) := by
  unfold t_MO_moved_L81 at hT
  refine lv_iload F.hx F.hb d_MO_moved_81 (lv_at hl 3 rfl) ?_
  refine lv_istore_n (lv' := [(3, vI v3_), (0, .ref (b + 191)), (1, vI x1), (2, vI v2_), (4, vI v3_)]) F.hx F.hb d_MO_moved_83 rfl hl (Nat.le_of_ble_eq_true rfl) rfl (fun ls hl => ?_)
  exact k_MO_moved_L84 l hlo x1 hx1 F hlk hr bk2 hbk2 bk17 hbk17 M v2_ hv2_ v3_ hv3_ v3_ hv3_ _ _ _ hS (lv_sub hl [1, 2, 3, 0, 4] rfl) hT
set_option maxHeartbeats 4000000 in
set_option maxRecDepth 100000 in
theorem k_MO_moved_L17 (l : Launch) {p : Program} {e : Env} {s : State} {m : MethodId} {below : List Frame} {meth : Method} {c : Code} {b n : Nat} {C : CT} (hlo : 231 ≤ n) (x1 : Int) (hx1 : InR x1) (F : Cx b p m c b_MO_moved 6 s ([.ref (b + 191), vI x1] : List Value).toArray "WardFallsModel" C n 231) (hlk : meth.locks = false) (hr : meth.sig.returnType = some .int) {res : Int} (bk2 : Mem → Int → Option (Int)) (hbk2 : ∀ (M : Mem) (v2_ : Int) (hv2_ : InR v2_) (H : Heap) (locs : List Loc) (ls : Array Slot), St b C n M s H locs → lv_has ls 6 [(0, .ref (b + 191)), (1, vI x1), (2, vI v2_)] → bk2 M v2_ = some res → W p l e (headSpec (wsM y_MO_moved b_MO_moved 6 (some .int)) (rmD 1)).room s m ([.ref (b + 191), vI x1] : List Value).toArray below meth c H locs 0 0 (MQ below (QI b C n M res) ([.ref (b + 191), vI x1] : List Value).toArray s 0 0 (frb b)) (F0 m 2 ls [])) : ∀ (fu : Nat) (M : Mem) (v2_ : Int) (hv2_ : InR v2_) (v3_ : Int) (hv3_ : InR v3_) (v4_ : Int) (hv4_ : InR v4_) (H : Heap) (locs : List Loc) (ls : Array Slot), St b C n M s H locs → lv_has ls 6 [(0, .ref (b + 191)), (1, vI x1), (2, vI v2_), (3, vI v3_), (4, vI v4_)] → t_MO_moved_L17 x1 bk2 fu M v2_ v3_ v4_ = some res → W p l e (headSpec (wsM y_MO_moved b_MO_moved 6 (some .int)) (rmD 1)).room s m ([.ref (b + 191), vI x1] : List Value).toArray below meth c H locs 0 0 (MQ below (QI b C n M res) ([.ref (b + 191), vI x1] : List Value).toArray s 0 0 (frb b)) (F0 m 17 ls []) := by
  intro fu
  induction fu with
  | zero => intro M v2_ hv2_ v3_ hv3_ v4_ hv4_ H locs ls hS hl hT; exact absurd hT (by simp [t_MO_moved_L17])
  | succ fu ih =>
    intro M v2_ hv2_ v3_ hv3_ v4_ hv4_ H locs ls hS hl hT
    rw [t_MO_moved_L17] at hT
    refine lv_iload F.hx F.hb d_MO_moved_17 (lv_at hl 4 rfl) ?_
    refine r_iconst F.hx F.hb d_MO_moved_19 ?_
    refine r_icmp_ge (tgt := 90) F.hx F.hb hv4_ (inr_c rfl) d_MO_moved_20 (by decide) (fun c3 => ?_) (fun c3 => ?_)
    · replace hT := (if_pos c3).symm.trans hT
      refine lv_iload_n F.hx F.hb d_MO_moved_90 rfl (lv_at hl 3 rfl) ?_
      refine r_iconst F.hx F.hb d_MO_moved_91 ?_
      refine r_icmp_eq (tgt := 102) F.hx F.hb hv3_ (inr_c rfl) d_MO_moved_92 (by decide) (fun c4 => ?_) (fun c4 => ?_)
      · replace hT := (if_pos c4).symm.trans hT
        refine lv_iinc (v := Int32.ofInt (w32 (v2_ + 1))) (lv' := [(2, vI (w32 (v2_ + 1))), (0, .ref (b + 191)), (1, vI x1), (3, vI v3_), (4, vI v4_)]) F.hx F.hb d_MO_moved_102 hl (k := 2) rfl (q_of_add _ _) (Nat.le_of_ble_eq_true rfl) rfl (fun ls hl => ?_)
        refine lv_goto (tgt := 2) F.hx F.hb d_MO_moved_105 (by decide) ?_
        exact hbk2 M (w32 (v2_ + 1)) (inr_w32 _) _ _ _ hS (lv_sub hl [1, 2, 0] rfl) hT
      · replace hT := (if_neg c4).symm.trans hT
        refine lv_iload_n F.hx F.hb d_MO_moved_95 rfl (lv_at hl 1 rfl) ?_
        refine lv_iload_n F.hx F.hb d_MO_moved_96 rfl (lv_at hl 2 rfl) ?_
        refine lv_iload_n F.hx F.hb d_MO_moved_97 rfl (lv_at hl 3 rfl) ?_
        obtain ⟨q5, hq5⟩ : ∃ q, q = (t_MO_with M x1 v2_ v3_) := ⟨_, rfl⟩
        replace hT := qlet_eq hT hq5
        refine r_backI F hS (r_runS (As := [vI x1, vI v2_, vI v3_]) F hS (c_MO_with l F.2.2.1 M x1 v2_ v3_ hx1 hv2_ hv3_ _ hq5.symm) gs_MO_486 hd_MO_with ⟨Nat.le_of_ble_eq_true rfl, Nat.le_of_ble_eq_true rfl⟩ rfl hl.1 (Nat.le_of_ble_eq_true rfl) ⟨Nat.zero_le _, Nat.zero_le _⟩ rfl d_MO_moved_98) (fun H locs hS h6 => ?_)
        cases hT
        exact r_iret F hlk hr rfl hS h6 d_MO_moved_101
    · replace hT := (if_neg c3).symm.trans hT
      refine lv_aload_n F.hx F.hb d_MO_moved_23 rfl (lv_at hl 0 rfl) ?_
      refine r_get (v := .ref (b + 224)) (N := 68) (T := T1) (j := 58) F hS (show 191 < 231 by decide) (show shK 191 = 5 from rfl) (show shN 191 = 68 from rfl) rfl (Nat.le_of_ble_eq_true rfl) ing1 mw_1447 (fv_sg rfl rfl rfl) d_MO_moved_24 ?_
      refine r_iconst F.hx F.hb d_MO_moved_27 ?_
      refine lv_iload_n F.hx F.hb d_MO_moved_28 rfl (lv_at hl 1 rfl) ?_
      refine lv_iload_n F.hx F.hb d_MO_moved_29 rfl (lv_at hl 2 rfl) ?_
      refine lv_iload F.hx F.hb d_MO_moved_30 (lv_at hl 4 rfl) ?_
      obtain ⟨q7, hq7⟩ : ∃ q, q = (t_MO_with M x1 v2_ v4_) := ⟨_, rfl⟩
      replace hT := qlet_eq hT hq7
      refine r_backI F hS (r_runS (As := [vI x1, vI v2_, vI v4_]) F hS (c_MO_with l F.2.2.1 M x1 v2_ v4_ hx1 hv2_ hv4_ _ hq7.symm) gs_MO_486 hd_MO_with ⟨Nat.le_of_ble_eq_true rfl, Nat.le_of_ble_eq_true rfl⟩ rfl hl.1 (Nat.le_of_ble_eq_true rfl) ⟨Nat.zero_le _, Nat.zero_le _⟩ rfl d_MO_moved_32) (fun H locs hS h8 => ?_)
      refine r_imul F.hx F.hb d_MO_moved_35 ?_
      refine lv_iload_n F.hx F.hb d_MO_moved_36 rfl (lv_at hl 2 rfl) ?_
      refine r_iadd F.hx F.hb d_MO_moved_37 ?_
      obtain ⟨⟨g9a, g9b⟩, hT⟩ := q_guard hT
      refine r_iald F hS (show 224 < 231 by decide) (show shK 224 = 0 from rfl) (show shN 224 = 1024 from rfl) (inr_w32 _) g9a g9b d_MO_moved_38 ?_
      have i10 := hS.rng 224 (w32 ((w32 (4 * q7)) + v2_))
      refine lv_istore (lv' := [(5, vI (M.1 224 (w32 ((w32 (4 * q7)) + v2_)))), (0, .ref (b + 191)), (1, vI x1), (2, vI v2_), (3, vI v3_), (4, vI v4_)]) F.hx F.hb d_MO_moved_39 hl (Nat.le_of_ble_eq_true rfl) rfl (fun ls hl => ?_)
      refine lv_iload F.hx F.hb d_MO_moved_41 (lv_at hl 0 rfl) ?_
      refine lv_aload_n F.hx F.hb d_MO_moved_43 rfl (lv_at hl 1 rfl) ?_
      refine r_get (v := .ref (b + 224)) (N := 68) (T := T1) (j := 58) F hS (show 191 < 231 by decide) (show shK 191 = 5 from rfl) (show shN 191 = 68 from rfl) rfl (Nat.le_of_ble_eq_true rfl) ing1 mw_1447 (fv_sg rfl rfl rfl) d_MO_moved_44 ?_
      refine r_iconst F.hx F.hb d_MO_moved_47 ?_
      refine lv_iload_n F.hx F.hb d_MO_moved_48 rfl (lv_at hl 2 rfl) ?_
      refine r_imul F.hx F.hb d_MO_moved_49 ?_
      refine lv_iload_n F.hx F.hb d_MO_moved_50 rfl (lv_at hl 3 rfl) ?_
      refine r_iadd F.hx F.hb d_MO_moved_51 ?_
      obtain ⟨⟨g11a, g11b⟩, hT⟩ := q_guard hT
      refine r_iald F hS (show 224 < 231 by decide) (show shK 224 = 0 from rfl) (show shN 224 = 1024 from rfl) (inr_w32 _) g11a g11b d_MO_moved_52 ?_
      have i12 := hS.rng 224 (w32 ((w32 (4 * x1)) + v2_))
      refine r_icmp_le (tgt := 84) F.hx F.hb i10 i12 d_MO_moved_53 (by decide) (fun c13 => ?_) (fun c13 => ?_)
      · replace hT := (if_pos c13).symm.trans hT
        exact k_MO_moved_L84 l hlo x1 hx1 F hlk hr bk2 hbk2 (fun a0_ a1_ a2_ a3_ => t_MO_moved_L17 x1 bk2 fu a0_ a1_ a2_ a3_) ih M v2_ hv2_ v3_ hv3_ v4_ hv4_ _ _ _ hS (lv_sub hl [1, 2, 3, 4, 5] rfl) hT
      · replace hT := (if_neg c13).symm.trans hT
        refine lv_iload_n F.hx F.hb d_MO_moved_56 rfl (lv_at hl 4 rfl) ?_
        refine r_iconst F.hx F.hb d_MO_moved_57 ?_
        refine r_icmp_eq (tgt := 81) F.hx F.hb hv3_ (inr_c rfl) d_MO_moved_58 (by decide) (fun c14 => ?_) (fun c14 => ?_)
        · replace hT := (if_pos c14).symm.trans hT
          exact k_MO_moved_L81 l hlo x1 hx1 F hlk hr bk2 hbk2 (fun a0_ a1_ a2_ a3_ => t_MO_moved_L17 x1 bk2 fu a0_ a1_ a2_ a3_) ih M v2_ hv2_ v4_ hv4_ _ _ _ hS (lv_sub hl [1, 2, 3, 5] rfl) hT
        · replace hT := (if_neg c14).symm.trans hT
          refine lv_iload F.hx F.hb d_MO_moved_61 (lv_at hl 0 rfl) ?_
          refine lv_aload_n F.hx F.hb d_MO_moved_63 rfl (lv_at hl 1 rfl) ?_
          refine r_get (v := .ref (b + 224)) (N := 68) (T := T1) (j := 58) F hS (show 191 < 231 by decide) (show shK 191 = 5 from rfl) (show shN 191 = 68 from rfl) rfl (Nat.le_of_ble_eq_true rfl) ing1 mw_1447 (fv_sg rfl rfl rfl) d_MO_moved_64 ?_
          refine r_iconst F.hx F.hb d_MO_moved_67 ?_
          refine lv_iload_n F.hx F.hb d_MO_moved_68 rfl (lv_at hl 2 rfl) ?_
          refine lv_iload_n F.hx F.hb d_MO_moved_69 rfl (lv_at hl 3 rfl) ?_
          refine lv_iload_n F.hx F.hb d_MO_moved_70 rfl (lv_at hl 4 rfl) ?_
          obtain ⟨q15, hq15⟩ : ∃ q, q = (t_MO_with M x1 v2_ v3_) := ⟨_, rfl⟩
          replace hT := qlet_eq hT hq15
          refine r_backI F hS (r_runS (As := [vI x1, vI v2_, vI v3_]) F hS (c_MO_with l F.2.2.1 M x1 v2_ v3_ hx1 hv2_ hv3_ _ hq15.symm) gs_MO_486 hd_MO_with ⟨Nat.le_of_ble_eq_true rfl, Nat.le_of_ble_eq_true rfl⟩ rfl hl.1 (Nat.le_of_ble_eq_true rfl) ⟨Nat.zero_le _, Nat.zero_le _⟩ rfl d_MO_moved_71) (fun H locs hS h16 => ?_)
          refine r_imul F.hx F.hb d_MO_moved_74 ?_
          refine lv_iload_n F.hx F.hb d_MO_moved_75 rfl (lv_at hl 3 rfl) ?_
          refine r_iadd F.hx F.hb d_MO_moved_76 ?_
          obtain ⟨⟨g17a, g17b⟩, hT⟩ := q_guard hT
          refine r_iald F hS (show 224 < 231 by decide) (show shK 224 = 0 from rfl) (show shN 224 = 1024 from rfl) (inr_w32 _) g17a g17b d_MO_moved_77 ?_
          have i18 := hS.rng 224 (w32 ((w32 (4 * q15)) + v2_))
          refine r_icmp_le (tgt := 84) F.hx F.hb i10 i18 d_MO_moved_78 (by decide) (fun c19 => ?_) (fun c19 => ?_)
          · replace hT := (if_pos c19).symm.trans hT
            exact k_MO_moved_L84 l hlo x1 hx1 F hlk hr bk2 hbk2 (fun a0_ a1_ a2_ a3_ => t_MO_moved_L17 x1 bk2 fu a0_ a1_ a2_ a3_) ih M v2_ hv2_ v3_ hv3_ v4_ hv4_ _ _ _ hS (lv_sub hl [1, 2, 3, 4, 5] rfl) hT
          · replace hT := (if_neg c19).symm.trans hT
            exact k_MO_moved_L81 l hlo x1 hx1 F hlk hr bk2 hbk2 (fun a0_ a1_ a2_ a3_ => t_MO_moved_L17 x1 bk2 fu a0_ a1_ a2_ a3_) ih M v2_ hv2_ v4_ hv4_ _ _ _ hS (lv_sub hl [1, 2, 3, 5] rfl) hT
set_option maxHeartbeats 4000000 in
set_option maxRecDepth 100000 in
theorem k_MO_moved_L2 (l : Launch) {p : Program} {e : Env} {s : State} {m : MethodId} {below : List Frame} {meth : Method} {c : Code} {b n : Nat} {C : CT} (hlo : 231 ≤ n) (x1 : Int) (hx1 : InR x1) (F : Cx b p m c b_MO_moved 6 s ([.ref (b + 191), vI x1] : List Value).toArray "WardFallsModel" C n 231) (hlk : meth.locks = false) (hr : meth.sig.returnType = some .int) {res : Int} : ∀ (fu : Nat) (M : Mem) (v2_ : Int) (hv2_ : InR v2_) (H : Heap) (locs : List Loc) (ls : Array Slot), St b C n M s H locs → lv_has ls 6 [(0, .ref (b + 191)), (1, vI x1), (2, vI v2_)] → t_MO_moved_L2 x1 fu M v2_ = some res → W p l e (headSpec (wsM y_MO_moved b_MO_moved 6 (some .int)) (rmD 1)).room s m ([.ref (b + 191), vI x1] : List Value).toArray below meth c H locs 0 0 (MQ below (QI b C n M res) ([.ref (b + 191), vI x1] : List Value).toArray s 0 0 (frb b)) (F0 m 2 ls []) := by
  intro fu
  induction fu with
  | zero => intro M v2_ hv2_ H locs ls hS hl hT; exact absurd hT (by simp [t_MO_moved_L2])
  | succ fu ih =>
    intro M v2_ hv2_ H locs ls hS hl hT
    rw [t_MO_moved_L2] at hT
    refine lv_iload_n F.hx F.hb d_MO_moved_2 rfl (lv_at hl 2 rfl) ?_
    refine lv_aload_n F.hx F.hb d_MO_moved_3 rfl (lv_at hl 0 rfl) ?_
    refine r_get (v := .ref (b + 193)) (N := 68) (T := T1) (j := 3) F hS (show 191 < 231 by decide) (show shK 191 = 5 from rfl) (show shN 191 = 68 from rfl) rfl (Nat.le_of_ble_eq_true rfl) ing1 mw_1392 (fv_sg rfl rfl rfl) d_MO_moved_4 ?_
    refine r_iconst F.hx F.hb d_MO_moved_7 ?_
    refine r_iald F hS (show 193 < 231 by decide) (show shK 193 = 0 from rfl) (show shN 193 = 18 from rfl) (inr_c rfl) (by omega) (by omega) d_MO_moved_8 ?_
    have i1 := hS.rng 193 2
    refine r_icmp_ge (tgt := 108) F.hx F.hb hv2_ i1 d_MO_moved_9 (by decide) (fun c2 => ?_) (fun c2 => ?_)
    · replace hT := (if_pos c2).symm.trans hT
      refine lv_iload_n F.hx F.hb d_MO_moved_108 rfl (lv_at hl 1 rfl) ?_
      cases hT
      exact r_iret F hlk hr rfl hS hx1 d_MO_moved_109
    · replace hT := (if_neg c2).symm.trans hT
      refine r_iconst F.hx F.hb d_MO_moved_12 ?_
      refine lv_istore_n (lv' := [(3, vI (-1)), (0, .ref (b + 191)), (1, vI x1), (2, vI v2_)]) F.hx F.hb d_MO_moved_13 rfl hl (Nat.le_of_ble_eq_true rfl) rfl (fun ls hl => ?_)
      refine r_iconst F.hx F.hb d_MO_moved_14 ?_
      refine lv_istore (lv' := [(4, vI 0), (3, vI (-1)), (0, .ref (b + 191)), (1, vI x1), (2, vI v2_)]) F.hx F.hb d_MO_moved_15 hl (Nat.le_of_ble_eq_true rfl) rfl (fun ls hl => ?_)
      exact k_MO_moved_L17 l hlo x1 hx1 F hlk hr (fun a0_ a1_ => t_MO_moved_L2 x1 fu a0_ a1_) ih FU M v2_ hv2_ (-1) (inr_c rfl) 0 (inr_c rfl) _ _ _ hS (lv_sub hl [2, 3, 4, 1, 0] rfl) hT
set_option maxHeartbeats 4000000 in
set_option maxRecDepth 100000 in
theorem c_MO_moved (l : Launch) {b n : Nat} {C : CT} (hlo : 231 ≤ n) (M : Mem) (x1 : Int) (hx1 : InR x1) (res : Int) (hT : t_MO_moved M x1 = some res) : CM l b C n 1 y_MO_moved b_MO_moved 6 (some .int) [.ref (b + 191), vI x1] M (QI b C n M res) := by
  refine CM.of (lo := 231) (ow := "WardFallsModel") (by decide) rfl (Nat.le_of_ble_eq_true rfl) hlo (fun p e s m below meth c F hlk hr hS ls hl => ?_)
  have hl : lv_has ls 6 [(0, .ref (b + 191)), (1, vI x1)] := hl
  unfold t_MO_moved at hT
  refine r_iconst F.hx F.hb d_MO_moved_0 ?_
  refine lv_istore_n (lv' := [(2, vI 0), (0, .ref (b + 191)), (1, vI x1)]) F.hx F.hb d_MO_moved_1 rfl hl (Nat.le_of_ble_eq_true rfl) rfl (fun ls hl => ?_)
  exact k_MO_moved_L2 l hlo x1 hx1 F hlk hr FU M 0 (inr_c rfl) _ _ _ hS (lv_sub hl [1, 2, 0] rfl) hT
theorem d_MO_moves_0 : decode b_MO_moves 0 = .ok (.aload_n 0, 1) := dc_42 (by decide +kernel)
theorem d_MO_moves_1 : decode b_MO_moves 1 = .ok (.iconst 0, 1) := dc_3 (by decide +kernel)
theorem d_MO_moves_2 : decode b_MO_moves 2 = .ok (.putfield 145, 3) := dc_181 (by decide +kernel)
theorem d_MO_moves_5 : decode b_MO_moves 5 = .ok (.iload_n 1, 1) := dc_27 (by decide +kernel)
theorem d_MO_moves_6 : decode b_MO_moves 6 = .ok (.ifCond .lt 20, 3) := dc_155 (by decide +kernel)
theorem d_MO_moves_9 : decode b_MO_moves 9 = .ok (.iload_n 1, 1) := dc_27 (by decide +kernel)
theorem d_MO_moves_10 : decode b_MO_moves 10 = .ok (.aload_n 0, 1) := dc_42 (by decide +kernel)
theorem d_MO_moves_11 : decode b_MO_moves 11 = .ok (.invokevirtual 483, 3) := dc_182 (by decide +kernel)
theorem d_MO_moves_14 : decode b_MO_moves 14 = .ok (.if_icmp .ge 12, 3) := dc_162 (by decide +kernel)
theorem d_MO_moves_17 : decode b_MO_moves 17 = .ok (.iload_n 2, 1) := dc_28 (by decide +kernel)
theorem d_MO_moves_18 : decode b_MO_moves 18 = .ok (.ifCond .lt 8, 3) := dc_155 (by decide +kernel)
theorem d_MO_moves_21 : decode b_MO_moves 21 = .ok (.iload_n 2, 1) := dc_28 (by decide +kernel)
theorem d_MO_moves_22 : decode b_MO_moves 22 = .ok (.iconst 1, 1) := dc_4 (by decide +kernel)
theorem d_MO_moves_23 : decode b_MO_moves 23 = .ok (.if_icmp .le 5, 3) := dc_164 (by decide +kernel)
theorem d_MO_moves_26 : decode b_MO_moves 26 = .ok (.iconst (-1), 1) := dc_2 (by decide +kernel)
theorem d_MO_moves_27 : decode b_MO_moves 27 = .ok (.ireturn, 1) := dc_172 (by decide +kernel)
theorem d_MO_moves_28 : decode b_MO_moves 28 = .ok (.aload_n 0, 1) := dc_42 (by decide +kernel)
theorem d_MO_moves_29 : decode b_MO_moves 29 = .ok (.invokevirtual 489, 3) := dc_182 (by decide +kernel)
theorem d_MO_moves_32 : decode b_MO_moves 32 = .ok (.iload_n 1, 1) := dc_27 (by decide +kernel)
theorem d_MO_moves_33 : decode b_MO_moves 33 = .ok (.istore_n 3, 1) := dc_62 (by decide +kernel)
theorem d_MO_moves_34 : decode b_MO_moves 34 = .ok (.iconst 0, 1) := dc_3 (by decide +kernel)
theorem d_MO_moves_35 : decode b_MO_moves 35 = .ok (.istore 4, 2) := dc_54 (by decide +kernel)
theorem d_MO_moves_37 : decode b_MO_moves 37 = .ok (.aload_n 0, 1) := dc_42 (by decide +kernel)
theorem d_MO_moves_38 : decode b_MO_moves 38 = .ok (.iload_n 3, 1) := dc_29 (by decide +kernel)
theorem d_MO_moves_39 : decode b_MO_moves 39 = .ok (.invokevirtual 498, 3) := dc_182 (by decide +kernel)
theorem d_MO_moves_42 : decode b_MO_moves 42 = .ok (.iload_n 3, 1) := dc_29 (by decide +kernel)
theorem d_MO_moves_43 : decode b_MO_moves 43 = .ok (.if_icmp .eq 25, 3) := dc_159 (by decide +kernel)
theorem d_MO_moves_46 : decode b_MO_moves 46 = .ok (.iload 4, 2) := dc_21 (by decide +kernel)
theorem d_MO_moves_48 : decode b_MO_moves 48 = .ok (.bipush 40, 2) := dc_16 (by decide +kernel)
theorem d_MO_moves_50 : decode b_MO_moves 50 = .ok (.if_icmp .ne 6, 3) := dc_160 (by decide +kernel)
theorem d_MO_moves_53 : decode b_MO_moves 53 = .ok (.bipush (-2), 2) := dc_16 (by decide +kernel)
theorem d_MO_moves_55 : decode b_MO_moves 55 = .ok (.ireturn, 1) := dc_172 (by decide +kernel)
theorem d_MO_moves_56 : decode b_MO_moves 56 = .ok (.aload_n 0, 1) := dc_42 (by decide +kernel)
theorem d_MO_moves_57 : decode b_MO_moves 57 = .ok (.iload_n 3, 1) := dc_29 (by decide +kernel)
theorem d_MO_moves_58 : decode b_MO_moves 58 = .ok (.invokevirtual 498, 3) := dc_182 (by decide +kernel)
theorem d_MO_moves_61 : decode b_MO_moves 61 = .ok (.istore_n 3, 1) := dc_62 (by decide +kernel)
theorem d_MO_moves_62 : decode b_MO_moves 62 = .ok (.iinc 4 1, 3) := dc_132 (by decide +kernel)
theorem d_MO_moves_65 : decode b_MO_moves 65 = .ok (.goto (-28), 3) := dc_167 (by decide +kernel)
theorem d_MO_moves_68 : decode b_MO_moves 68 = .ok (.iload_n 2, 1) := dc_28 (by decide +kernel)
theorem d_MO_moves_69 : decode b_MO_moves 69 = .ok (.ifCond .ne 8, 3) := dc_154 (by decide +kernel)
theorem d_MO_moves_72 : decode b_MO_moves 72 = .ok (.iload 4, 2) := dc_21 (by decide +kernel)
theorem d_MO_moves_74 : decode b_MO_moves 74 = .ok (.goto 4, 3) := dc_167 (by decide +kernel)
theorem d_MO_moves_77 : decode b_MO_moves 77 = .ok (.iload_n 3, 1) := dc_29 (by decide +kernel)
theorem d_MO_moves_78 : decode b_MO_moves 78 = .ok (.ireturn, 1) := dc_172 (by decide +kernel)
def t_MO_moves_L37 (x1 : Int) (x2 : Int)  : Nat → Mem → Int → Int → Option (Mem × Int)
  | 0, _, _, _ => none
  | fu + 1, M, v2_, v3_ => (obind (t_MO_moved M v2_) fun q10 => (if q10 = v2_ then (if x2 = 0 then (some (M, v3_)) else (some (M, v2_))) else (if v3_ = 40 then (some (M, (-2))) else (obind (t_MO_moved M v2_) fun q15 => (t_MO_moves_L37 x1 x2 fu M q15 (w32 (v3_ + 1)))))))
def t_MO_moves (M : Mem) (x1 : Int) (x2 : Int) : Option (Mem × Int) := (qlet (setI M 191 0 0) fun M1 => (if x1 < 0 then (some (M1, (-1))) else (qlet (t_MO_votes M1) fun q3 => (if q3 ≤ x1 then (some (M1, (-1))) else (if x2 < 0 then (some (M1, (-1))) else (if x2 ≤ 1 then (obind (t_MO_layJoys M1) fun q8 => (t_MO_moves_L37 x1 x2 FU q8 x1 0)) else (some (M1, (-1)))))))))
set_option maxHeartbeats 4000000 in
set_option maxRecDepth 100000 in
theorem k_MO_moves_L37 (l : Launch) {p : Program} {e : Env} {s : State} {m : MethodId} {below : List Frame} {meth : Method} {c : Code} {b n : Nat} {C : CT} (hlo : 231 ≤ n) (x1 : Int) (x2 : Int) (hx1 : InR x1) (hx2 : InR x2) (F : Cx b p m c b_MO_moves 5 s ([.ref (b + 191), vI x1, vI x2] : List Value).toArray "WardFallsModel" C n 231) (hlk : meth.locks = false) (hr : meth.sig.returnType = some .int) {res : Mem × Int} : ∀ (fu : Nat) (M : Mem) (v2_ : Int) (hv2_ : InR v2_) (v3_ : Int) (hv3_ : InR v3_) (H : Heap) (locs : List Loc) (ls : Array Slot), St b C n M s H locs → lv_has ls 5 [(0, .ref (b + 191)), (2, vI x2), (3, vI v2_), (4, vI v3_)] → t_MO_moves_L37 x1 x2 fu M v2_ v3_ = some res → W p l e (headSpec (wsM y_MO_moves b_MO_moves 5 (some .int)) (rmD 6)).room s m ([.ref (b + 191), vI x1, vI x2] : List Value).toArray below meth c H locs 0 0 (MQ below (QI b C n res.1 res.2) ([.ref (b + 191), vI x1, vI x2] : List Value).toArray s 0 0 (frb b)) (F0 m 37 ls []) := by
  intro fu
  induction fu with
  | zero => intro M v2_ hv2_ v3_ hv3_ H locs ls hS hl hT; exact absurd hT (by simp [t_MO_moves_L37])
  | succ fu ih =>
    intro M v2_ hv2_ v3_ hv3_ H locs ls hS hl hT
    rw [t_MO_moves_L37] at hT
    refine lv_aload_n F.hx F.hb d_MO_moves_37 rfl (lv_at hl 0 rfl) ?_
    refine lv_iload_n F.hx F.hb d_MO_moves_38 rfl (lv_at hl 2 rfl) ?_
    obtain ⟨q10, hq10, hT⟩ := q_obind hT
    refine r_backI F hS (r_runV (k := 191) (N := 68) (T := T1) (As := [vI v2_]) F hS (show 191 < 231 by decide) (show shK 191 = 5 from rfl) rfl (c_MO_moved l F.2.2.1 M v2_ hv2_ _ hq10) gs_MO_498 hd_MO_moved ⟨Nat.le_of_ble_eq_true rfl, Nat.le_of_ble_eq_true rfl⟩ rfl hl.1 (Nat.le_of_ble_eq_true rfl) ⟨Nat.zero_le _, Nat.zero_le _⟩ rfl d_MO_moves_39) (fun H locs hS h11 => ?_)
    refine lv_iload_n F.hx F.hb d_MO_moves_42 rfl (lv_at hl 2 rfl) ?_
    refine r_icmp_eq (tgt := 68) F.hx F.hb h11 hv2_ d_MO_moves_43 (by decide) (fun c12 => ?_) (fun c12 => ?_)
    · replace hT := (if_pos c12).symm.trans hT
      refine lv_iload_n F.hx F.hb d_MO_moves_68 rfl (lv_at hl 1 rfl) ?_
      refine r_if_ne (tgt := 77) F.hx F.hb hx2 d_MO_moves_69 (by decide) (fun c13 => ?_) (fun c13 => ?_)
      · replace hT := (if_neg c13).symm.trans hT
        refine lv_iload_n F.hx F.hb d_MO_moves_77 rfl (lv_at hl 2 rfl) ?_
        cases hT
        exact r_iret F hlk hr rfl hS hv2_ d_MO_moves_78
      · replace hT := (if_pos c13).symm.trans hT
        refine lv_iload F.hx F.hb d_MO_moves_72 (lv_at hl 3 rfl) ?_
        refine lv_goto (tgt := 78) F.hx F.hb d_MO_moves_74 (by decide) ?_
        cases hT
        exact r_iret F hlk hr rfl hS hv3_ d_MO_moves_78
    · replace hT := (if_neg c12).symm.trans hT
      refine lv_iload F.hx F.hb d_MO_moves_46 (lv_at hl 3 rfl) ?_
      refine r_bipush F.hx F.hb d_MO_moves_48 rfl ?_
      refine r_icmp_ne (tgt := 56) F.hx F.hb hv3_ (inr_c rfl) d_MO_moves_50 (by decide) (fun c14 => ?_) (fun c14 => ?_)
      · replace hT := (if_neg c14).symm.trans hT
        refine lv_aload_n F.hx F.hb d_MO_moves_56 rfl (lv_at hl 0 rfl) ?_
        refine lv_iload_n F.hx F.hb d_MO_moves_57 rfl (lv_at hl 2 rfl) ?_
        obtain ⟨q15, hq15, hT⟩ := q_obind hT
        refine r_backI F hS (r_runV (k := 191) (N := 68) (T := T1) (As := [vI v2_]) F hS (show 191 < 231 by decide) (show shK 191 = 5 from rfl) rfl (c_MO_moved l F.2.2.1 M v2_ hv2_ _ hq15) gs_MO_498 hd_MO_moved ⟨Nat.le_of_ble_eq_true rfl, Nat.le_of_ble_eq_true rfl⟩ rfl hl.1 (Nat.le_of_ble_eq_true rfl) ⟨Nat.zero_le _, Nat.zero_le _⟩ rfl d_MO_moves_58) (fun H locs hS h16 => ?_)
        refine lv_istore_n (lv' := [(3, vI q15), (0, .ref (b + 191)), (2, vI x2), (4, vI v3_)]) F.hx F.hb d_MO_moves_61 rfl hl (Nat.le_of_ble_eq_true rfl) rfl (fun ls hl => ?_)
        refine lv_iinc (v := Int32.ofInt (w32 (v3_ + 1))) (lv' := [(4, vI (w32 (v3_ + 1))), (3, vI q15), (0, .ref (b + 191)), (2, vI x2)]) F.hx F.hb d_MO_moves_62 hl (k := 3) rfl (q_of_add _ _) (Nat.le_of_ble_eq_true rfl) rfl (fun ls hl => ?_)
        refine lv_goto (tgt := 37) F.hx F.hb d_MO_moves_65 (by decide) ?_
        exact ih M q15 h16 (w32 (v3_ + 1)) (inr_w32 _) _ _ _ hS (lv_sub hl [2, 3, 1, 0] rfl) hT
      · replace hT := (if_pos c14).symm.trans hT
        refine r_bipush F.hx F.hb d_MO_moves_53 rfl ?_
        cases hT
        exact r_iret F hlk hr rfl hS (inr_c rfl) d_MO_moves_55
set_option maxHeartbeats 4000000 in
set_option maxRecDepth 100000 in
theorem c_MO_moves (l : Launch) {b n : Nat} {C : CT} (hlo : 231 ≤ n) (M : Mem) (x1 : Int) (x2 : Int) (hx1 : InR x1) (hx2 : InR x2) (res : Mem × Int) (hT : t_MO_moves M x1 x2 = some res) : CM l b C n 6 y_MO_moves b_MO_moves 5 (some .int) [.ref (b + 191), vI x1, vI x2] M (QI b C n res.1 res.2) := by
  refine CM.of (lo := 231) (ow := "WardFallsModel") (by decide) rfl (Nat.le_of_ble_eq_true rfl) hlo (fun p e s m below meth c F hlk hr hS ls hl => ?_)
  have hl : lv_has ls 5 [(0, .ref (b + 191)), (1, vI x1), (2, vI x2)] := hl
  unfold t_MO_moves at hT
  refine lv_aload_n F.hx F.hb d_MO_moves_0 rfl (lv_at hl 0 rfl) ?_
  refine r_iconst F.hx F.hb d_MO_moves_1 ?_
  refine r_putI (N := 68) (T := T1) (j := 0) F hS (show 191 < 231 by decide) (show shK 191 = 5 from rfl) (show shN 191 = 68 from rfl) rfl (Nat.le_of_ble_eq_true rfl) ing1 tyok1 nm1 rfl rfl rfl rfl rfl rfl mw_1389 (inr_c rfl) d_MO_moves_2 (fun H locs hS => ?_)
  obtain ⟨M1, eM1⟩ : ∃ q, q = (setI M 191 0 0) := ⟨_, rfl⟩
  replace hS : St b C n M1 s H locs := by rw [eM1]; exact hS
  replace hT := qlet_eq hT eM1
  refine lv_iload_n F.hx F.hb d_MO_moves_5 rfl (lv_at hl 1 rfl) ?_
  refine r_if_lt (tgt := 26) F.hx F.hb hx1 d_MO_moves_6 (by decide) (fun c2 => ?_) (fun c2 => ?_)
  · replace hT := (if_pos c2).symm.trans hT
    refine r_iconst F.hx F.hb d_MO_moves_26 ?_
    cases hT
    exact r_iret F hlk hr rfl hS (inr_c rfl) d_MO_moves_27
  · replace hT := (if_neg c2).symm.trans hT
    refine lv_iload_n F.hx F.hb d_MO_moves_9 rfl (lv_at hl 1 rfl) ?_
    refine lv_aload_n F.hx F.hb d_MO_moves_10 rfl (lv_at hl 0 rfl) ?_
    obtain ⟨q3, hq3⟩ : ∃ q, q = (t_MO_votes M1) := ⟨_, rfl⟩
    replace hT := qlet_eq hT hq3
    refine r_backI F hS (r_runV (k := 191) (N := 68) (T := T1) (As := []) F hS (show 191 < 231 by decide) (show shK 191 = 5 from rfl) rfl (c_MO_votes l F.2.2.1 M1 _ hq3.symm) gs_MO_483 hd_MO_votes ⟨Nat.le_of_ble_eq_true rfl, Nat.le_of_ble_eq_true rfl⟩ rfl hl.1 (Nat.le_of_ble_eq_true rfl) ⟨Nat.zero_le _, Nat.zero_le _⟩ rfl d_MO_moves_11) (fun H locs hS h4 => ?_)
    refine r_icmp_ge (tgt := 26) F.hx F.hb hx1 h4 d_MO_moves_14 (by decide) (fun c5 => ?_) (fun c5 => ?_)
    · replace hT := (if_pos c5).symm.trans hT
      refine r_iconst F.hx F.hb d_MO_moves_26 ?_
      cases hT
      exact r_iret F hlk hr rfl hS (inr_c rfl) d_MO_moves_27
    · replace hT := (if_neg c5).symm.trans hT
      refine lv_iload_n F.hx F.hb d_MO_moves_17 rfl (lv_at hl 2 rfl) ?_
      refine r_if_lt (tgt := 26) F.hx F.hb hx2 d_MO_moves_18 (by decide) (fun c6 => ?_) (fun c6 => ?_)
      · replace hT := (if_pos c6).symm.trans hT
        refine r_iconst F.hx F.hb d_MO_moves_26 ?_
        cases hT
        exact r_iret F hlk hr rfl hS (inr_c rfl) d_MO_moves_27
      · replace hT := (if_neg c6).symm.trans hT
        refine lv_iload_n F.hx F.hb d_MO_moves_21 rfl (lv_at hl 2 rfl) ?_
        refine r_iconst F.hx F.hb d_MO_moves_22 ?_
        refine r_icmp_le (tgt := 28) F.hx F.hb hx2 (inr_c rfl) d_MO_moves_23 (by decide) (fun c7 => ?_) (fun c7 => ?_)
        · replace hT := (if_pos c7).symm.trans hT
          refine lv_aload_n F.hx F.hb d_MO_moves_28 rfl (lv_at hl 0 rfl) ?_
          obtain ⟨q8, hq8, hT⟩ := q_obind hT
          refine r_backV F hS (r_runV (k := 191) (N := 68) (T := T1) (As := []) F hS (show 191 < 231 by decide) (show shK 191 = 5 from rfl) rfl (c_MO_layJoys l F.2.2.1 M1 _ hq8) gs_MO_489 hd_MO_layJoys ⟨Nat.le_of_ble_eq_true rfl, Nat.le_of_ble_eq_true rfl⟩ rfl hl.1 (Nat.le_of_ble_eq_true rfl) ⟨Nat.zero_le _, Nat.zero_le _⟩ rfl d_MO_moves_29) (fun H locs hS => ?_)
          refine lv_iload_n F.hx F.hb d_MO_moves_32 rfl (lv_at hl 1 rfl) ?_
          refine lv_istore_n (lv' := [(3, vI x1), (0, .ref (b + 191)), (1, vI x1), (2, vI x2)]) F.hx F.hb d_MO_moves_33 rfl hl (Nat.le_of_ble_eq_true rfl) rfl (fun ls hl => ?_)
          refine r_iconst F.hx F.hb d_MO_moves_34 ?_
          refine lv_istore (lv' := [(4, vI 0), (3, vI x1), (0, .ref (b + 191)), (1, vI x1), (2, vI x2)]) F.hx F.hb d_MO_moves_35 hl (Nat.le_of_ble_eq_true rfl) rfl (fun ls hl => ?_)
          exact k_MO_moves_L37 l hlo x1 x2 hx1 hx2 F hlk hr FU q8 x1 hx1 0 (inr_c rfl) _ _ _ hS (lv_sub hl [2, 4, 1, 0] rfl) hT
        · replace hT := (if_neg c7).symm.trans hT
          refine r_iconst F.hx F.hb d_MO_moves_26 ?_
          cases hT
          exact r_iret F hlk hr rfl hS (inr_c rfl) d_MO_moves_27
theorem d_MO_note_0 : decode b_MO_note 0 = .ok (.aload_n 0, 1) := dc_42 (by decide +kernel)
theorem d_MO_note_1 : decode b_MO_note 1 = .ok (.iconst 0, 1) := dc_3 (by decide +kernel)
theorem d_MO_note_2 : decode b_MO_note 2 = .ok (.putfield 145, 3) := dc_181 (by decide +kernel)
theorem d_MO_note_5 : decode b_MO_note 5 = .ok (.aload_n 0, 1) := dc_42 (by decide +kernel)
theorem d_MO_note_6 : decode b_MO_note 6 = .ok (.iload_n 1, 1) := dc_27 (by decide +kernel)
theorem d_MO_note_7 : decode b_MO_note 7 = .ok (.invokevirtual 428, 3) := dc_182 (by decide +kernel)
theorem d_MO_note_10 : decode b_MO_note 10 = .ok (.ifCond .eq 25, 3) := dc_153 (by decide +kernel)
theorem d_MO_note_13 : decode b_MO_note 13 = .ok (.iload_n 2, 1) := dc_28 (by decide +kernel)
theorem d_MO_note_14 : decode b_MO_note 14 = .ok (.iconst (-1), 1) := dc_2 (by decide +kernel)
theorem d_MO_note_15 : decode b_MO_note 15 = .ok (.if_icmp .eq 11, 3) := dc_159 (by decide +kernel)
theorem d_MO_note_18 : decode b_MO_note 18 = .ok (.aload_n 0, 1) := dc_42 (by decide +kernel)
theorem d_MO_note_19 : decode b_MO_note 19 = .ok (.iload_n 2, 1) := dc_28 (by decide +kernel)
theorem d_MO_note_20 : decode b_MO_note 20 = .ok (.invokevirtual 428, 3) := dc_182 (by decide +kernel)
theorem d_MO_note_23 : decode b_MO_note 23 = .ok (.ifCond .eq 12, 3) := dc_153 (by decide +kernel)
theorem d_MO_note_26 : decode b_MO_note 26 = .ok (.aload_n 0, 1) := dc_42 (by decide +kernel)
theorem d_MO_note_27 : decode b_MO_note 27 = .ok (.getfield 319, 3) := dc_180 (by decide +kernel)
theorem d_MO_note_30 : decode b_MO_note 30 = .ok (.bipush 24, 2) := dc_16 (by decide +kernel)
theorem d_MO_note_32 : decode b_MO_note 32 = .ok (.if_icmp .ne 5, 3) := dc_160 (by decide +kernel)
theorem d_MO_note_35 : decode b_MO_note 35 = .ok (.iconst (-1), 1) := dc_2 (by decide +kernel)
theorem d_MO_note_36 : decode b_MO_note 36 = .ok (.ireturn, 1) := dc_172 (by decide +kernel)
theorem d_MO_note_37 : decode b_MO_note 37 = .ok (.aload_n 0, 1) := dc_42 (by decide +kernel)
theorem d_MO_note_38 : decode b_MO_note 38 = .ok (.getfield 127, 3) := dc_180 (by decide +kernel)
theorem d_MO_note_41 : decode b_MO_note 41 = .ok (.aload_n 0, 1) := dc_42 (by decide +kernel)
theorem d_MO_note_42 : decode b_MO_note 42 = .ok (.getfield 319, 3) := dc_180 (by decide +kernel)
theorem d_MO_note_45 : decode b_MO_note 45 = .ok (.iload_n 1, 1) := dc_27 (by decide +kernel)
theorem d_MO_note_46 : decode b_MO_note 46 = .ok (.iastore, 1) := dc_79 (by decide +kernel)
theorem d_MO_note_47 : decode b_MO_note 47 = .ok (.aload_n 0, 1) := dc_42 (by decide +kernel)
theorem d_MO_note_48 : decode b_MO_note 48 = .ok (.getfield 130, 3) := dc_180 (by decide +kernel)
theorem d_MO_note_51 : decode b_MO_note 51 = .ok (.aload_n 0, 1) := dc_42 (by decide +kernel)
theorem d_MO_note_52 : decode b_MO_note 52 = .ok (.getfield 319, 3) := dc_180 (by decide +kernel)
theorem d_MO_note_55 : decode b_MO_note 55 = .ok (.iload_n 2, 1) := dc_28 (by decide +kernel)
theorem d_MO_note_56 : decode b_MO_note 56 = .ok (.iastore, 1) := dc_79 (by decide +kernel)
theorem d_MO_note_57 : decode b_MO_note 57 = .ok (.aload_n 0, 1) := dc_42 (by decide +kernel)
theorem d_MO_note_58 : decode b_MO_note 58 = .ok (.getfield 133, 3) := dc_180 (by decide +kernel)
theorem d_MO_note_61 : decode b_MO_note 61 = .ok (.aload_n 0, 1) := dc_42 (by decide +kernel)
theorem d_MO_note_62 : decode b_MO_note 62 = .ok (.getfield 319, 3) := dc_180 (by decide +kernel)
theorem d_MO_note_65 : decode b_MO_note 65 = .ok (.iconst 0, 1) := dc_3 (by decide +kernel)
theorem d_MO_note_66 : decode b_MO_note 66 = .ok (.bastore, 1) := dc_84 (by decide +kernel)
theorem d_MO_note_67 : decode b_MO_note 67 = .ok (.aload_n 0, 1) := dc_42 (by decide +kernel)
theorem d_MO_note_68 : decode b_MO_note 68 = .ok (.dup, 1) := dc_89 (by decide +kernel)
theorem d_MO_note_69 : decode b_MO_note 69 = .ok (.getfield 319, 3) := dc_180 (by decide +kernel)
theorem d_MO_note_72 : decode b_MO_note 72 = .ok (.iconst 1, 1) := dc_4 (by decide +kernel)
theorem d_MO_note_73 : decode b_MO_note 73 = .ok (.iadd, 1) := dc_96 (by decide +kernel)
theorem d_MO_note_74 : decode b_MO_note 74 = .ok (.putfield 319, 3) := dc_181 (by decide +kernel)
theorem d_MO_note_77 : decode b_MO_note 77 = .ok (.aload_n 0, 1) := dc_42 (by decide +kernel)
theorem d_MO_note_78 : decode b_MO_note 78 = .ok (.getfield 319, 3) := dc_180 (by decide +kernel)
theorem d_MO_note_81 : decode b_MO_note 81 = .ok (.iconst 1, 1) := dc_4 (by decide +kernel)
theorem d_MO_note_82 : decode b_MO_note 82 = .ok (.isub, 1) := dc_100 (by decide +kernel)
theorem d_MO_note_83 : decode b_MO_note 83 = .ok (.ireturn, 1) := dc_172 (by decide +kernel)
def t_MO_note_L26 (x1 : Int) (x2 : Int)  (M : Mem)  : Option (Mem × Int) := (if (M.1 191 60) = 24 then (some (M, (-1))) else (qguard (0 ≤ (M.1 191 60) ∧ (M.1 191 60) < 24) (qlet (setI M 226 (M.1 191 60) x1) fun M13 => (qguard (0 ≤ (M13.1 191 60) ∧ (M13.1 191 60) < 24) (qlet (setI M13 227 (M13.1 191 60) x2) fun M16 => (qguard (0 ≤ (M16.1 191 60) ∧ (M16.1 191 60) < 24) (qlet (setI M16 228 (M16.1 191 60) 0) fun M19 => (qlet (setI M19 191 60 (w32 ((M19.1 191 60) + 1))) fun M21 => (some (M21, (w32 ((M21.1 191 60) - 1))))))))))))
def t_MO_note (M : Mem) (x1 : Int) (x2 : Int) : Option (Mem × Int) := (qlet (setI M 191 0 0) fun M1 => (obind (t_MO_isOpen M1 x1) fun q2 => (if q2 = 0 then (some (M1, (-1))) else (if x2 = (-1) then (t_MO_note_L26 x1 x2 M1) else (obind (t_MO_isOpen M1 x2) fun q6 => (if q6 = 0 then (some (M1, (-1))) else (t_MO_note_L26 x1 x2 M1)))))))
set_option maxHeartbeats 4000000 in
set_option maxRecDepth 100000 in
theorem k_MO_note_L26 (l : Launch) {p : Program} {e : Env} {s : State} {m : MethodId} {below : List Frame} {meth : Method} {c : Code} {b n : Nat} {C : CT} (hlo : 231 ≤ n) (x1 : Int) (x2 : Int) (hx1 : InR x1) (hx2 : InR x2) (F : Cx b p m c b_MO_note 3 s ([.ref (b + 191), vI x1, vI x2] : List Value).toArray "WardFallsModel" C n 231) (hlk : meth.locks = false) (hr : meth.sig.returnType = some .int) {res : Mem × Int} (M : Mem)  (H : Heap) (locs : List Loc) (ls : Array Slot) (hS : St b C n M s H locs) (hl : lv_has ls 3 [(0, .ref (b + 191)), (1, vI x1), (2, vI x2)]) (hT : t_MO_note_L26 x1 x2 M = some res) : W p l e (headSpec (wsM y_MO_note b_MO_note 3 (some .int)) (rmD 3)).room s m ([.ref (b + 191), vI x1, vI x2] : List Value).toArray below meth c H locs 0 0 (MQ below (QI b C n res.1 res.2) ([.ref (b + 191), vI x1, vI x2] : List Value).toArray s 0 0 (frb b)) (F0 m 26 ls []) := by
  unfold t_MO_note_L26 at hT
  refine lv_aload_n F.hx F.hb d_MO_note_26 rfl (lv_at hl 0 rfl) ?_
  refine r_get (v := vI (M.1 191 60)) (N := 68) (T := T1) (j := 60) F hS (show 191 < 231 by decide) (show shK 191 = 5 from rfl) (show shN 191 = 68 from rfl) rfl (Nat.le_of_ble_eq_true rfl) ing1 mw_1449 (fv_int rfl) d_MO_note_27 ?_
  have i9 := hS.rng 191 60
  refine r_bipush F.hx F.hb d_MO_note_30 rfl ?_
  refine r_icmp_ne (tgt := 37) F.hx F.hb i9 (inr_c rfl) d_MO_note_32 (by decide) (fun c10 => ?_) (fun c10 => ?_)
  · replace hT := (if_neg c10).symm.trans hT
    refine lv_aload_n F.hx F.hb d_MO_note_37 rfl (lv_at hl 0 rfl) ?_
    refine r_get (v := .ref (b + 226)) (N := 68) (T := T1) (j := 62) F hS (show 191 < 231 by decide) (show shK 191 = 5 from rfl) (show shN 191 = 68 from rfl) rfl (Nat.le_of_ble_eq_true rfl) ing1 mw_1451 (fv_sg rfl rfl rfl) d_MO_note_38 ?_
    refine lv_aload_n F.hx F.hb d_MO_note_41 rfl (lv_at hl 0 rfl) ?_
    refine r_get (v := vI (M.1 191 60)) (N := 68) (T := T1) (j := 60) F hS (show 191 < 231 by decide) (show shK 191 = 5 from rfl) (show shN 191 = 68 from rfl) rfl (Nat.le_of_ble_eq_true rfl) ing1 mw_1449 (fv_int rfl) d_MO_note_42 ?_
    have i11 := hS.rng 191 60
    refine lv_iload_n F.hx F.hb d_MO_note_45 rfl (lv_at hl 1 rfl) ?_
    obtain ⟨⟨g12a, g12b⟩, hT⟩ := q_guard hT
    refine r_iast F hS (show 226 < 231 by decide) (show shK 226 = 0 from rfl) (show shN 226 = 24 from rfl) i11 hx1 g12a g12b d_MO_note_46 (fun H locs hS => ?_)
    obtain ⟨M13, eM13⟩ : ∃ q, q = (setI M 226 (M.1 191 60) x1) := ⟨_, rfl⟩
    replace hS : St b C n M13 s H locs := by rw [eM13]; exact hS
    replace hT := qlet_eq hT eM13
    refine lv_aload_n F.hx F.hb d_MO_note_47 rfl (lv_at hl 0 rfl) ?_
    refine r_get (v := .ref (b + 227)) (N := 68) (T := T1) (j := 63) F hS (show 191 < 231 by decide) (show shK 191 = 5 from rfl) (show shN 191 = 68 from rfl) rfl (Nat.le_of_ble_eq_true rfl) ing1 mw_1452 (fv_sg rfl rfl rfl) d_MO_note_48 ?_
    refine lv_aload_n F.hx F.hb d_MO_note_51 rfl (lv_at hl 0 rfl) ?_
    refine r_get (v := vI (M13.1 191 60)) (N := 68) (T := T1) (j := 60) F hS (show 191 < 231 by decide) (show shK 191 = 5 from rfl) (show shN 191 = 68 from rfl) rfl (Nat.le_of_ble_eq_true rfl) ing1 mw_1449 (fv_int rfl) d_MO_note_52 ?_
    have i14 := hS.rng 191 60
    refine lv_iload_n F.hx F.hb d_MO_note_55 rfl (lv_at hl 2 rfl) ?_
    obtain ⟨⟨g15a, g15b⟩, hT⟩ := q_guard hT
    refine r_iast F hS (show 227 < 231 by decide) (show shK 227 = 0 from rfl) (show shN 227 = 24 from rfl) i14 hx2 g15a g15b d_MO_note_56 (fun H locs hS => ?_)
    obtain ⟨M16, eM16⟩ : ∃ q, q = (setI M13 227 (M13.1 191 60) x2) := ⟨_, rfl⟩
    replace hS : St b C n M16 s H locs := by rw [eM16]; exact hS
    replace hT := qlet_eq hT eM16
    refine lv_aload_n F.hx F.hb d_MO_note_57 rfl (lv_at hl 0 rfl) ?_
    refine r_get (v := .ref (b + 228)) (N := 68) (T := T1) (j := 64) F hS (show 191 < 231 by decide) (show shK 191 = 5 from rfl) (show shN 191 = 68 from rfl) rfl (Nat.le_of_ble_eq_true rfl) ing1 mw_1453 (fv_sg rfl rfl rfl) d_MO_note_58 ?_
    refine lv_aload_n F.hx F.hb d_MO_note_61 rfl (lv_at hl 0 rfl) ?_
    refine r_get (v := vI (M16.1 191 60)) (N := 68) (T := T1) (j := 60) F hS (show 191 < 231 by decide) (show shK 191 = 5 from rfl) (show shN 191 = 68 from rfl) rfl (Nat.le_of_ble_eq_true rfl) ing1 mw_1449 (fv_int rfl) d_MO_note_62 ?_
    have i17 := hS.rng 191 60
    refine r_iconst F.hx F.hb d_MO_note_65 ?_
    obtain ⟨⟨g18a, g18b⟩, hT⟩ := q_guard hT
    refine r_zast F hS (show 228 < 231 by decide) (show shK 228 = 1 from rfl) (show shN 228 = 24 from rfl) i17 (Or.inl rfl) g18a g18b d_MO_note_66 (fun H locs hS => ?_)
    obtain ⟨M19, eM19⟩ : ∃ q, q = (setI M16 228 (M16.1 191 60) 0) := ⟨_, rfl⟩
    replace hS : St b C n M19 s H locs := by rw [eM19]; exact hS
    replace hT := qlet_eq hT eM19
    refine lv_aload_n F.hx F.hb d_MO_note_67 rfl (lv_at hl 0 rfl) ?_
    refine lv_dup F.hx F.hb d_MO_note_68 rfl ?_
    refine r_get (v := vI (M19.1 191 60)) (N := 68) (T := T1) (j := 60) F hS (show 191 < 231 by decide) (show shK 191 = 5 from rfl) (show shN 191 = 68 from rfl) rfl (Nat.le_of_ble_eq_true rfl) ing1 mw_1449 (fv_int rfl) d_MO_note_69 ?_
    have i20 := hS.rng 191 60
    refine r_iconst F.hx F.hb d_MO_note_72 ?_
    refine r_iadd F.hx F.hb d_MO_note_73 ?_
    refine r_putI (N := 68) (T := T1) (j := 60) F hS (show 191 < 231 by decide) (show shK 191 = 5 from rfl) (show shN 191 = 68 from rfl) rfl (Nat.le_of_ble_eq_true rfl) ing1 tyok1 nm1 rfl rfl rfl rfl rfl rfl mw_1449 (inr_w32 _) d_MO_note_74 (fun H locs hS => ?_)
    obtain ⟨M21, eM21⟩ : ∃ q, q = (setI M19 191 60 (w32 ((M19.1 191 60) + 1))) := ⟨_, rfl⟩
    replace hS : St b C n M21 s H locs := by rw [eM21]; exact hS
    replace hT := qlet_eq hT eM21
    refine lv_aload_n F.hx F.hb d_MO_note_77 rfl (lv_at hl 0 rfl) ?_
    refine r_get (v := vI (M21.1 191 60)) (N := 68) (T := T1) (j := 60) F hS (show 191 < 231 by decide) (show shK 191 = 5 from rfl) (show shN 191 = 68 from rfl) rfl (Nat.le_of_ble_eq_true rfl) ing1 mw_1449 (fv_int rfl) d_MO_note_78 ?_
    have i22 := hS.rng 191 60
    refine r_iconst F.hx F.hb d_MO_note_81 ?_
    refine r_isub F.hx F.hb d_MO_note_82 ?_
    cases hT
    exact r_iret F hlk hr rfl hS (inr_w32 _) d_MO_note_83
  · replace hT := (if_pos c10).symm.trans hT
    refine r_iconst F.hx F.hb d_MO_note_35 ?_
    cases hT
    exact r_iret F hlk hr rfl hS (inr_c rfl) d_MO_note_36
set_option maxHeartbeats 4000000 in
set_option maxRecDepth 100000 in
theorem c_MO_note (l : Launch) {b n : Nat} {C : CT} (hlo : 231 ≤ n) (M : Mem) (x1 : Int) (x2 : Int) (hx1 : InR x1) (hx2 : InR x2) (res : Mem × Int) (hT : t_MO_note M x1 x2 = some res) : CM l b C n 3 y_MO_note b_MO_note 3 (some .int) [.ref (b + 191), vI x1, vI x2] M (QI b C n res.1 res.2) := by
  refine CM.of (lo := 231) (ow := "WardFallsModel") (by decide) rfl (Nat.le_of_ble_eq_true rfl) hlo (fun p e s m below meth c F hlk hr hS ls hl => ?_)
  have hl : lv_has ls 3 [(0, .ref (b + 191)), (1, vI x1), (2, vI x2)] := hl
  unfold t_MO_note at hT
  refine lv_aload_n F.hx F.hb d_MO_note_0 rfl (lv_at hl 0 rfl) ?_
  refine r_iconst F.hx F.hb d_MO_note_1 ?_
  refine r_putI (N := 68) (T := T1) (j := 0) F hS (show 191 < 231 by decide) (show shK 191 = 5 from rfl) (show shN 191 = 68 from rfl) rfl (Nat.le_of_ble_eq_true rfl) ing1 tyok1 nm1 rfl rfl rfl rfl rfl rfl mw_1389 (inr_c rfl) d_MO_note_2 (fun H locs hS => ?_)
  obtain ⟨M1, eM1⟩ : ∃ q, q = (setI M 191 0 0) := ⟨_, rfl⟩
  replace hS : St b C n M1 s H locs := by rw [eM1]; exact hS
  replace hT := qlet_eq hT eM1
  refine lv_aload_n F.hx F.hb d_MO_note_5 rfl (lv_at hl 0 rfl) ?_
  refine lv_iload_n F.hx F.hb d_MO_note_6 rfl (lv_at hl 1 rfl) ?_
  obtain ⟨q2, hq2, hT⟩ := q_obind hT
  refine r_backZ F hS (r_runV (k := 191) (N := 68) (T := T1) (As := [vI x1]) F hS (show 191 < 231 by decide) (show shK 191 = 5 from rfl) rfl (c_MO_isOpen l F.2.2.1 M1 x1 hx1 _ hq2) gs_MO_428 hd_MO_isOpen ⟨Nat.le_of_ble_eq_true rfl, Nat.le_of_ble_eq_true rfl⟩ rfl hl.1 (Nat.le_of_ble_eq_true rfl) ⟨Nat.zero_le _, Nat.zero_le _⟩ rfl d_MO_note_7) (fun H locs hS h3 => ?_)
  refine r_if_eq (tgt := 35) F.hx F.hb (inr_z h3) d_MO_note_10 (by decide) (fun c4 => ?_) (fun c4 => ?_)
  · replace hT := (if_pos c4).symm.trans hT
    refine r_iconst F.hx F.hb d_MO_note_35 ?_
    cases hT
    exact r_iret F hlk hr rfl hS (inr_c rfl) d_MO_note_36
  · replace hT := (if_neg c4).symm.trans hT
    refine lv_iload_n F.hx F.hb d_MO_note_13 rfl (lv_at hl 2 rfl) ?_
    refine r_iconst F.hx F.hb d_MO_note_14 ?_
    refine r_icmp_eq (tgt := 26) F.hx F.hb hx2 (inr_c rfl) d_MO_note_15 (by decide) (fun c5 => ?_) (fun c5 => ?_)
    · replace hT := (if_pos c5).symm.trans hT
      exact k_MO_note_L26 l hlo x1 x2 hx1 hx2 F hlk hr M1 _ _ _ hS (lv_sub hl [0, 1, 2] rfl) hT
    · replace hT := (if_neg c5).symm.trans hT
      refine lv_aload_n F.hx F.hb d_MO_note_18 rfl (lv_at hl 0 rfl) ?_
      refine lv_iload_n F.hx F.hb d_MO_note_19 rfl (lv_at hl 2 rfl) ?_
      obtain ⟨q6, hq6, hT⟩ := q_obind hT
      refine r_backZ F hS (r_runV (k := 191) (N := 68) (T := T1) (As := [vI x2]) F hS (show 191 < 231 by decide) (show shK 191 = 5 from rfl) rfl (c_MO_isOpen l F.2.2.1 M1 x2 hx2 _ hq6) gs_MO_428 hd_MO_isOpen ⟨Nat.le_of_ble_eq_true rfl, Nat.le_of_ble_eq_true rfl⟩ rfl hl.1 (Nat.le_of_ble_eq_true rfl) ⟨Nat.zero_le _, Nat.zero_le _⟩ rfl d_MO_note_20) (fun H locs hS h7 => ?_)
      refine r_if_eq (tgt := 35) F.hx F.hb (inr_z h7) d_MO_note_23 (by decide) (fun c8 => ?_) (fun c8 => ?_)
      · replace hT := (if_pos c8).symm.trans hT
        refine r_iconst F.hx F.hb d_MO_note_35 ?_
        cases hT
        exact r_iret F hlk hr rfl hS (inr_c rfl) d_MO_note_36
      · replace hT := (if_neg c8).symm.trans hT
        exact k_MO_note_L26 l hlo x1 x2 hx1 hx2 F hlk hr M1 _ _ _ hS (lv_sub hl [0, 1, 2] rfl) hT
theorem d_MO_strike_0 : decode b_MO_strike 0 = .ok (.aload_n 0, 1) := dc_42 (by decide +kernel)
theorem d_MO_strike_1 : decode b_MO_strike 1 = .ok (.iconst 0, 1) := dc_3 (by decide +kernel)
theorem d_MO_strike_2 : decode b_MO_strike 2 = .ok (.putfield 145, 3) := dc_181 (by decide +kernel)
theorem d_MO_strike_5 : decode b_MO_strike 5 = .ok (.iload_n 1, 1) := dc_27 (by decide +kernel)
theorem d_MO_strike_6 : decode b_MO_strike 6 = .ok (.ifCond .lt 20, 3) := dc_155 (by decide +kernel)
theorem d_MO_strike_9 : decode b_MO_strike 9 = .ok (.iload_n 1, 1) := dc_27 (by decide +kernel)
theorem d_MO_strike_10 : decode b_MO_strike 10 = .ok (.aload_n 0, 1) := dc_42 (by decide +kernel)
theorem d_MO_strike_11 : decode b_MO_strike 11 = .ok (.getfield 319, 3) := dc_180 (by decide +kernel)
theorem d_MO_strike_14 : decode b_MO_strike 14 = .ok (.if_icmp .ge 12, 3) := dc_162 (by decide +kernel)
theorem d_MO_strike_17 : decode b_MO_strike 17 = .ok (.aload_n 0, 1) := dc_42 (by decide +kernel)
theorem d_MO_strike_18 : decode b_MO_strike 18 = .ok (.getfield 319, 3) := dc_180 (by decide +kernel)
theorem d_MO_strike_21 : decode b_MO_strike 21 = .ok (.bipush 24, 2) := dc_16 (by decide +kernel)
theorem d_MO_strike_23 : decode b_MO_strike 23 = .ok (.if_icmp .ne 5, 3) := dc_160 (by decide +kernel)
theorem d_MO_strike_26 : decode b_MO_strike 26 = .ok (.iconst (-1), 1) := dc_2 (by decide +kernel)
theorem d_MO_strike_27 : decode b_MO_strike 27 = .ok (.ireturn, 1) := dc_172 (by decide +kernel)
theorem d_MO_strike_28 : decode b_MO_strike 28 = .ok (.aload_n 0, 1) := dc_42 (by decide +kernel)
theorem d_MO_strike_29 : decode b_MO_strike 29 = .ok (.getfield 127, 3) := dc_180 (by decide +kernel)
theorem d_MO_strike_32 : decode b_MO_strike 32 = .ok (.aload_n 0, 1) := dc_42 (by decide +kernel)
theorem d_MO_strike_33 : decode b_MO_strike 33 = .ok (.getfield 319, 3) := dc_180 (by decide +kernel)
theorem d_MO_strike_36 : decode b_MO_strike 36 = .ok (.iload_n 1, 1) := dc_27 (by decide +kernel)
theorem d_MO_strike_37 : decode b_MO_strike 37 = .ok (.iastore, 1) := dc_79 (by decide +kernel)
theorem d_MO_strike_38 : decode b_MO_strike 38 = .ok (.aload_n 0, 1) := dc_42 (by decide +kernel)
theorem d_MO_strike_39 : decode b_MO_strike 39 = .ok (.getfield 133, 3) := dc_180 (by decide +kernel)
theorem d_MO_strike_42 : decode b_MO_strike 42 = .ok (.aload_n 0, 1) := dc_42 (by decide +kernel)
theorem d_MO_strike_43 : decode b_MO_strike 43 = .ok (.getfield 319, 3) := dc_180 (by decide +kernel)
theorem d_MO_strike_46 : decode b_MO_strike 46 = .ok (.iconst 1, 1) := dc_4 (by decide +kernel)
theorem d_MO_strike_47 : decode b_MO_strike 47 = .ok (.bastore, 1) := dc_84 (by decide +kernel)
theorem d_MO_strike_48 : decode b_MO_strike 48 = .ok (.aload_n 0, 1) := dc_42 (by decide +kernel)
theorem d_MO_strike_49 : decode b_MO_strike 49 = .ok (.dup, 1) := dc_89 (by decide +kernel)
theorem d_MO_strike_50 : decode b_MO_strike 50 = .ok (.getfield 319, 3) := dc_180 (by decide +kernel)
theorem d_MO_strike_53 : decode b_MO_strike 53 = .ok (.iconst 1, 1) := dc_4 (by decide +kernel)
theorem d_MO_strike_54 : decode b_MO_strike 54 = .ok (.iadd, 1) := dc_96 (by decide +kernel)
theorem d_MO_strike_55 : decode b_MO_strike 55 = .ok (.putfield 319, 3) := dc_181 (by decide +kernel)
theorem d_MO_strike_58 : decode b_MO_strike 58 = .ok (.aload_n 0, 1) := dc_42 (by decide +kernel)
theorem d_MO_strike_59 : decode b_MO_strike 59 = .ok (.getfield 319, 3) := dc_180 (by decide +kernel)
theorem d_MO_strike_62 : decode b_MO_strike 62 = .ok (.iconst 1, 1) := dc_4 (by decide +kernel)
theorem d_MO_strike_63 : decode b_MO_strike 63 = .ok (.isub, 1) := dc_100 (by decide +kernel)
theorem d_MO_strike_64 : decode b_MO_strike 64 = .ok (.ireturn, 1) := dc_172 (by decide +kernel)
def t_MO_strike (M : Mem) (x1 : Int) : Option (Mem × Int) := (qlet (setI M 191 0 0) fun M1 => (if x1 < 0 then (some (M1, (-1))) else (if (M1.1 191 60) ≤ x1 then (some (M1, (-1))) else (if (M1.1 191 60) = 24 then (some (M1, (-1))) else (qguard (0 ≤ (M1.1 191 60) ∧ (M1.1 191 60) < 24) (qlet (setI M1 226 (M1.1 191 60) x1) fun M9 => (qguard (0 ≤ (M9.1 191 60) ∧ (M9.1 191 60) < 24) (qlet (setI M9 228 (M9.1 191 60) 1) fun M12 => (qlet (setI M12 191 60 (w32 ((M12.1 191 60) + 1))) fun M14 => (some (M14, (w32 ((M14.1 191 60) - 1)))))))))))))
set_option maxHeartbeats 4000000 in
set_option maxRecDepth 100000 in
theorem c_MO_strike (l : Launch) {b n : Nat} {C : CT} (hlo : 231 ≤ n) (M : Mem) (x1 : Int) (hx1 : InR x1) (res : Mem × Int) (hT : t_MO_strike M x1 = some res) : CM l b C n 0 y_MO_strike b_MO_strike 2 (some .int) [.ref (b + 191), vI x1] M (QI b C n res.1 res.2) := by
  refine CM.of (lo := 231) (ow := "WardFallsModel") (by decide) rfl (Nat.le_of_ble_eq_true rfl) hlo (fun p e s m below meth c F hlk hr hS ls hl => ?_)
  have hl : lv_has ls 2 [(0, .ref (b + 191)), (1, vI x1)] := hl
  unfold t_MO_strike at hT
  refine lv_aload_n F.hx F.hb d_MO_strike_0 rfl (lv_at hl 0 rfl) ?_
  refine r_iconst F.hx F.hb d_MO_strike_1 ?_
  refine r_putI (N := 68) (T := T1) (j := 0) F hS (show 191 < 231 by decide) (show shK 191 = 5 from rfl) (show shN 191 = 68 from rfl) rfl (Nat.le_of_ble_eq_true rfl) ing1 tyok1 nm1 rfl rfl rfl rfl rfl rfl mw_1389 (inr_c rfl) d_MO_strike_2 (fun H locs hS => ?_)
  obtain ⟨M1, eM1⟩ : ∃ q, q = (setI M 191 0 0) := ⟨_, rfl⟩
  replace hS : St b C n M1 s H locs := by rw [eM1]; exact hS
  replace hT := qlet_eq hT eM1
  refine lv_iload_n F.hx F.hb d_MO_strike_5 rfl (lv_at hl 1 rfl) ?_
  refine r_if_lt (tgt := 26) F.hx F.hb hx1 d_MO_strike_6 (by decide) (fun c2 => ?_) (fun c2 => ?_)
  · replace hT := (if_pos c2).symm.trans hT
    refine r_iconst F.hx F.hb d_MO_strike_26 ?_
    cases hT
    exact r_iret F hlk hr rfl hS (inr_c rfl) d_MO_strike_27
  · replace hT := (if_neg c2).symm.trans hT
    refine lv_iload_n F.hx F.hb d_MO_strike_9 rfl (lv_at hl 1 rfl) ?_
    refine lv_aload_n F.hx F.hb d_MO_strike_10 rfl (lv_at hl 0 rfl) ?_
    refine r_get (v := vI (M1.1 191 60)) (N := 68) (T := T1) (j := 60) F hS (show 191 < 231 by decide) (show shK 191 = 5 from rfl) (show shN 191 = 68 from rfl) rfl (Nat.le_of_ble_eq_true rfl) ing1 mw_1449 (fv_int rfl) d_MO_strike_11 ?_
    have i3 := hS.rng 191 60
    refine r_icmp_ge (tgt := 26) F.hx F.hb hx1 i3 d_MO_strike_14 (by decide) (fun c4 => ?_) (fun c4 => ?_)
    · replace hT := (if_pos c4).symm.trans hT
      refine r_iconst F.hx F.hb d_MO_strike_26 ?_
      cases hT
      exact r_iret F hlk hr rfl hS (inr_c rfl) d_MO_strike_27
    · replace hT := (if_neg c4).symm.trans hT
      refine lv_aload_n F.hx F.hb d_MO_strike_17 rfl (lv_at hl 0 rfl) ?_
      refine r_get (v := vI (M1.1 191 60)) (N := 68) (T := T1) (j := 60) F hS (show 191 < 231 by decide) (show shK 191 = 5 from rfl) (show shN 191 = 68 from rfl) rfl (Nat.le_of_ble_eq_true rfl) ing1 mw_1449 (fv_int rfl) d_MO_strike_18 ?_
      have i5 := hS.rng 191 60
      refine r_bipush F.hx F.hb d_MO_strike_21 rfl ?_
      refine r_icmp_ne (tgt := 28) F.hx F.hb i5 (inr_c rfl) d_MO_strike_23 (by decide) (fun c6 => ?_) (fun c6 => ?_)
      · replace hT := (if_neg c6).symm.trans hT
        refine lv_aload_n F.hx F.hb d_MO_strike_28 rfl (lv_at hl 0 rfl) ?_
        refine r_get (v := .ref (b + 226)) (N := 68) (T := T1) (j := 62) F hS (show 191 < 231 by decide) (show shK 191 = 5 from rfl) (show shN 191 = 68 from rfl) rfl (Nat.le_of_ble_eq_true rfl) ing1 mw_1451 (fv_sg rfl rfl rfl) d_MO_strike_29 ?_
        refine lv_aload_n F.hx F.hb d_MO_strike_32 rfl (lv_at hl 0 rfl) ?_
        refine r_get (v := vI (M1.1 191 60)) (N := 68) (T := T1) (j := 60) F hS (show 191 < 231 by decide) (show shK 191 = 5 from rfl) (show shN 191 = 68 from rfl) rfl (Nat.le_of_ble_eq_true rfl) ing1 mw_1449 (fv_int rfl) d_MO_strike_33 ?_
        have i7 := hS.rng 191 60
        refine lv_iload_n F.hx F.hb d_MO_strike_36 rfl (lv_at hl 1 rfl) ?_
        obtain ⟨⟨g8a, g8b⟩, hT⟩ := q_guard hT
        refine r_iast F hS (show 226 < 231 by decide) (show shK 226 = 0 from rfl) (show shN 226 = 24 from rfl) i7 hx1 g8a g8b d_MO_strike_37 (fun H locs hS => ?_)
        obtain ⟨M9, eM9⟩ : ∃ q, q = (setI M1 226 (M1.1 191 60) x1) := ⟨_, rfl⟩
        replace hS : St b C n M9 s H locs := by rw [eM9]; exact hS
        replace hT := qlet_eq hT eM9
        refine lv_aload_n F.hx F.hb d_MO_strike_38 rfl (lv_at hl 0 rfl) ?_
        refine r_get (v := .ref (b + 228)) (N := 68) (T := T1) (j := 64) F hS (show 191 < 231 by decide) (show shK 191 = 5 from rfl) (show shN 191 = 68 from rfl) rfl (Nat.le_of_ble_eq_true rfl) ing1 mw_1453 (fv_sg rfl rfl rfl) d_MO_strike_39 ?_
        refine lv_aload_n F.hx F.hb d_MO_strike_42 rfl (lv_at hl 0 rfl) ?_
        refine r_get (v := vI (M9.1 191 60)) (N := 68) (T := T1) (j := 60) F hS (show 191 < 231 by decide) (show shK 191 = 5 from rfl) (show shN 191 = 68 from rfl) rfl (Nat.le_of_ble_eq_true rfl) ing1 mw_1449 (fv_int rfl) d_MO_strike_43 ?_
        have i10 := hS.rng 191 60
        refine r_iconst F.hx F.hb d_MO_strike_46 ?_
        obtain ⟨⟨g11a, g11b⟩, hT⟩ := q_guard hT
        refine r_zast F hS (show 228 < 231 by decide) (show shK 228 = 1 from rfl) (show shN 228 = 24 from rfl) i10 (Or.inr rfl) g11a g11b d_MO_strike_47 (fun H locs hS => ?_)
        obtain ⟨M12, eM12⟩ : ∃ q, q = (setI M9 228 (M9.1 191 60) 1) := ⟨_, rfl⟩
        replace hS : St b C n M12 s H locs := by rw [eM12]; exact hS
        replace hT := qlet_eq hT eM12
        refine lv_aload_n F.hx F.hb d_MO_strike_48 rfl (lv_at hl 0 rfl) ?_
        refine lv_dup F.hx F.hb d_MO_strike_49 rfl ?_
        refine r_get (v := vI (M12.1 191 60)) (N := 68) (T := T1) (j := 60) F hS (show 191 < 231 by decide) (show shK 191 = 5 from rfl) (show shN 191 = 68 from rfl) rfl (Nat.le_of_ble_eq_true rfl) ing1 mw_1449 (fv_int rfl) d_MO_strike_50 ?_
        have i13 := hS.rng 191 60
        refine r_iconst F.hx F.hb d_MO_strike_53 ?_
        refine r_iadd F.hx F.hb d_MO_strike_54 ?_
        refine r_putI (N := 68) (T := T1) (j := 60) F hS (show 191 < 231 by decide) (show shK 191 = 5 from rfl) (show shN 191 = 68 from rfl) rfl (Nat.le_of_ble_eq_true rfl) ing1 tyok1 nm1 rfl rfl rfl rfl rfl rfl mw_1449 (inr_w32 _) d_MO_strike_55 (fun H locs hS => ?_)
        obtain ⟨M14, eM14⟩ : ∃ q, q = (setI M12 191 60 (w32 ((M12.1 191 60) + 1))) := ⟨_, rfl⟩
        replace hS : St b C n M14 s H locs := by rw [eM14]; exact hS
        replace hT := qlet_eq hT eM14
        refine lv_aload_n F.hx F.hb d_MO_strike_58 rfl (lv_at hl 0 rfl) ?_
        refine r_get (v := vI (M14.1 191 60)) (N := 68) (T := T1) (j := 60) F hS (show 191 < 231 by decide) (show shK 191 = 5 from rfl) (show shN 191 = 68 from rfl) rfl (Nat.le_of_ble_eq_true rfl) ing1 mw_1449 (fv_int rfl) d_MO_strike_59 ?_
        have i15 := hS.rng 191 60
        refine r_iconst F.hx F.hb d_MO_strike_62 ?_
        refine r_isub F.hx F.hb d_MO_strike_63 ?_
        cases hT
        exact r_iret F hlk hr rfl hS (inr_w32 _) d_MO_strike_64
      · replace hT := (if_pos c6).symm.trans hT
        refine r_iconst F.hx F.hb d_MO_strike_26 ?_
        cases hT
        exact r_iret F hlk hr rfl hS (inr_c rfl) d_MO_strike_27
theorem d_MO_known_0 : decode b_MO_known 0 = .ok (.aload_n 0, 1) := dc_42 (by decide +kernel)
theorem d_MO_known_1 : decode b_MO_known 1 = .ok (.iconst 0, 1) := dc_3 (by decide +kernel)
theorem d_MO_known_2 : decode b_MO_known 2 = .ok (.putfield 145, 3) := dc_181 (by decide +kernel)
theorem d_MO_known_5 : decode b_MO_known 5 = .ok (.iload_n 1, 1) := dc_27 (by decide +kernel)
theorem d_MO_known_6 : decode b_MO_known 6 = .ok (.iconst (-1), 1) := dc_2 (by decide +kernel)
theorem d_MO_known_7 : decode b_MO_known 7 = .ok (.if_icmp .lt 11, 3) := dc_161 (by decide +kernel)
theorem d_MO_known_10 : decode b_MO_known 10 = .ok (.iload_n 1, 1) := dc_27 (by decide +kernel)
theorem d_MO_known_11 : decode b_MO_known 11 = .ok (.aload_n 0, 1) := dc_42 (by decide +kernel)
theorem d_MO_known_12 : decode b_MO_known 12 = .ok (.getfield 319, 3) := dc_180 (by decide +kernel)
theorem d_MO_known_15 : decode b_MO_known 15 = .ok (.if_icmp .le 5, 3) := dc_164 (by decide +kernel)
theorem d_MO_known_18 : decode b_MO_known 18 = .ok (.iconst 0, 1) := dc_3 (by decide +kernel)
theorem d_MO_known_19 : decode b_MO_known 19 = .ok (.ireturn, 1) := dc_172 (by decide +kernel)
theorem d_MO_known_20 : decode b_MO_known 20 = .ok (.aload_n 0, 1) := dc_42 (by decide +kernel)
theorem d_MO_known_21 : decode b_MO_known 21 = .ok (.iload_n 1, 1) := dc_27 (by decide +kernel)
theorem d_MO_known_22 : decode b_MO_known 22 = .ok (.putfield 124, 3) := dc_181 (by decide +kernel)
theorem d_MO_known_25 : decode b_MO_known 25 = .ok (.iconst 1, 1) := dc_4 (by decide +kernel)
theorem d_MO_known_26 : decode b_MO_known 26 = .ok (.ireturn, 1) := dc_172 (by decide +kernel)
def t_MO_known (M : Mem) (x1 : Int) : Mem × Int := (qlet (setI M 191 0 0) fun M1 => (if x1 < (-1) then (M1, 0) else (if x1 ≤ (M1.1 191 60) then (qlet (setI M1 191 61 x1) fun M5 => (M5, 1)) else (M1, 0))))
set_option maxHeartbeats 4000000 in
set_option maxRecDepth 100000 in
theorem c_MO_known (l : Launch) {b n : Nat} {C : CT} (hlo : 231 ≤ n) (M : Mem) (x1 : Int) (hx1 : InR x1) (res : Mem × Int) (hT : t_MO_known M x1 = res) : CM l b C n 0 y_MO_known b_MO_known 2 (some .boolean) [.ref (b + 191), vI x1] M (QZ b C n res.1 res.2) := by
  refine CM.of (lo := 231) (ow := "WardFallsModel") (by decide) rfl (Nat.le_of_ble_eq_true rfl) hlo (fun p e s m below meth c F hlk hr hS ls hl => ?_)
  have hl : lv_has ls 2 [(0, .ref (b + 191)), (1, vI x1)] := hl
  unfold t_MO_known at hT
  refine lv_aload_n F.hx F.hb d_MO_known_0 rfl (lv_at hl 0 rfl) ?_
  refine r_iconst F.hx F.hb d_MO_known_1 ?_
  refine r_putI (N := 68) (T := T1) (j := 0) F hS (show 191 < 231 by decide) (show shK 191 = 5 from rfl) (show shN 191 = 68 from rfl) rfl (Nat.le_of_ble_eq_true rfl) ing1 tyok1 nm1 rfl rfl rfl rfl rfl rfl mw_1389 (inr_c rfl) d_MO_known_2 (fun H locs hS => ?_)
  obtain ⟨M1, eM1⟩ : ∃ q, q = (setI M 191 0 0) := ⟨_, rfl⟩
  replace hS : St b C n M1 s H locs := by rw [eM1]; exact hS
  replace hT := qlet_eq hT eM1
  refine lv_iload_n F.hx F.hb d_MO_known_5 rfl (lv_at hl 1 rfl) ?_
  refine r_iconst F.hx F.hb d_MO_known_6 ?_
  refine r_icmp_lt (tgt := 18) F.hx F.hb hx1 (inr_c rfl) d_MO_known_7 (by decide) (fun c2 => ?_) (fun c2 => ?_)
  · replace hT := (if_pos c2).symm.trans hT
    refine r_iconst F.hx F.hb d_MO_known_18 ?_
    subst hT
    exact r_zret F hlk hr hS (Or.inl rfl) d_MO_known_19
  · replace hT := (if_neg c2).symm.trans hT
    refine lv_iload_n F.hx F.hb d_MO_known_10 rfl (lv_at hl 1 rfl) ?_
    refine lv_aload_n F.hx F.hb d_MO_known_11 rfl (lv_at hl 0 rfl) ?_
    refine r_get (v := vI (M1.1 191 60)) (N := 68) (T := T1) (j := 60) F hS (show 191 < 231 by decide) (show shK 191 = 5 from rfl) (show shN 191 = 68 from rfl) rfl (Nat.le_of_ble_eq_true rfl) ing1 mw_1449 (fv_int rfl) d_MO_known_12 ?_
    have i3 := hS.rng 191 60
    refine r_icmp_le (tgt := 20) F.hx F.hb hx1 i3 d_MO_known_15 (by decide) (fun c4 => ?_) (fun c4 => ?_)
    · replace hT := (if_pos c4).symm.trans hT
      refine lv_aload_n F.hx F.hb d_MO_known_20 rfl (lv_at hl 0 rfl) ?_
      refine lv_iload_n F.hx F.hb d_MO_known_21 rfl (lv_at hl 1 rfl) ?_
      refine r_putI (N := 68) (T := T1) (j := 61) F hS (show 191 < 231 by decide) (show shK 191 = 5 from rfl) (show shN 191 = 68 from rfl) rfl (Nat.le_of_ble_eq_true rfl) ing1 tyok1 nm1 rfl rfl rfl rfl rfl rfl mw_1450 hx1 d_MO_known_22 (fun H locs hS => ?_)
      obtain ⟨M5, eM5⟩ : ∃ q, q = (setI M1 191 61 x1) := ⟨_, rfl⟩
      replace hS : St b C n M5 s H locs := by rw [eM5]; exact hS
      replace hT := qlet_eq hT eM5
      refine r_iconst F.hx F.hb d_MO_known_25 ?_
      subst hT
      exact r_zret F hlk hr hS (Or.inr rfl) d_MO_known_26
    · replace hT := (if_neg c4).symm.trans hT
      refine r_iconst F.hx F.hb d_MO_known_18 ?_
      subst hT
      exact r_zret F hlk hr hS (Or.inl rfl) d_MO_known_19
theorem d_MO_knownMany_0 : decode b_MO_knownMany 0 = .ok (.aload_n 0, 1) := dc_42 (by decide +kernel)
theorem d_MO_knownMany_1 : decode b_MO_knownMany 1 = .ok (.getfield 124, 3) := dc_180 (by decide +kernel)
theorem d_MO_knownMany_4 : decode b_MO_knownMany 4 = .ok (.iconst (-1), 1) := dc_2 (by decide +kernel)
theorem d_MO_knownMany_5 : decode b_MO_knownMany 5 = .ok (.if_icmp .ne 10, 3) := dc_160 (by decide +kernel)
theorem d_MO_knownMany_8 : decode b_MO_knownMany 8 = .ok (.aload_n 0, 1) := dc_42 (by decide +kernel)
theorem d_MO_knownMany_9 : decode b_MO_knownMany 9 = .ok (.getfield 319, 3) := dc_180 (by decide +kernel)
theorem d_MO_knownMany_12 : decode b_MO_knownMany 12 = .ok (.goto 7, 3) := dc_167 (by decide +kernel)
theorem d_MO_knownMany_15 : decode b_MO_knownMany 15 = .ok (.aload_n 0, 1) := dc_42 (by decide +kernel)
theorem d_MO_knownMany_16 : decode b_MO_knownMany 16 = .ok (.getfield 124, 3) := dc_180 (by decide +kernel)
theorem d_MO_knownMany_19 : decode b_MO_knownMany 19 = .ok (.ireturn, 1) := dc_172 (by decide +kernel)
def t_MO_knownMany (M : Mem)  : Int := (if (M.1 191 61) = (-1) then (M.1 191 60) else (M.1 191 61))
set_option maxHeartbeats 4000000 in
set_option maxRecDepth 100000 in
theorem c_MO_knownMany (l : Launch) {b n : Nat} {C : CT} (hlo : 231 ≤ n) (M : Mem)   (res : Int) (hT : t_MO_knownMany M  = res) : CM l b C n 0 y_MO_knownMany b_MO_knownMany 1 (some .int) [.ref (b + 191)] M (QI b C n M res) := by
  refine CM.of (lo := 231) (ow := "WardFallsModel") (by decide) rfl (Nat.le_of_ble_eq_true rfl) hlo (fun p e s m below meth c F hlk hr hS ls hl => ?_)
  have hl : lv_has ls 1 [(0, .ref (b + 191))] := hl
  unfold t_MO_knownMany at hT
  refine lv_aload_n F.hx F.hb d_MO_knownMany_0 rfl (lv_at hl 0 rfl) ?_
  refine r_get (v := vI (M.1 191 61)) (N := 68) (T := T1) (j := 61) F hS (show 191 < 231 by decide) (show shK 191 = 5 from rfl) (show shN 191 = 68 from rfl) rfl (Nat.le_of_ble_eq_true rfl) ing1 mw_1450 (fv_int rfl) d_MO_knownMany_1 ?_
  have i1 := hS.rng 191 61
  refine r_iconst F.hx F.hb d_MO_knownMany_4 ?_
  refine r_icmp_ne (tgt := 15) F.hx F.hb i1 (inr_c rfl) d_MO_knownMany_5 (by decide) (fun c2 => ?_) (fun c2 => ?_)
  · replace hT := (if_neg c2).symm.trans hT
    refine lv_aload_n F.hx F.hb d_MO_knownMany_15 rfl (lv_at hl 0 rfl) ?_
    refine r_get (v := vI (M.1 191 61)) (N := 68) (T := T1) (j := 61) F hS (show 191 < 231 by decide) (show shK 191 = 5 from rfl) (show shN 191 = 68 from rfl) rfl (Nat.le_of_ble_eq_true rfl) ing1 mw_1450 (fv_int rfl) d_MO_knownMany_16 ?_
    have i3 := hS.rng 191 61
    subst hT
    exact r_iret F hlk hr rfl hS i3 d_MO_knownMany_19
  · replace hT := (if_pos c2).symm.trans hT
    refine lv_aload_n F.hx F.hb d_MO_knownMany_8 rfl (lv_at hl 0 rfl) ?_
    refine r_get (v := vI (M.1 191 60)) (N := 68) (T := T1) (j := 60) F hS (show 191 < 231 by decide) (show shK 191 = 5 from rfl) (show shN 191 = 68 from rfl) rfl (Nat.le_of_ble_eq_true rfl) ing1 mw_1449 (fv_int rfl) d_MO_knownMany_9 ?_
    have i4 := hS.rng 191 60
    refine lv_goto (tgt := 19) F.hx F.hb d_MO_knownMany_12 (by decide) ?_
    subst hT
    exact r_iret F hlk hr rfl hS i4 d_MO_knownMany_19
