theorem d_Formula_clear_0 : decode b_Formula_clear 0 = .ok (.aload_n 0, 1) := dc_42 (by decide +kernel)
theorem d_Formula_clear_1 : decode b_Formula_clear 1 = .ok (.iconst 0, 1) := dc_3 (by decide +kernel)
theorem d_Formula_clear_2 : decode b_Formula_clear 2 = .ok (.putfield 25, 3) := dc_181 (by decide +kernel)
theorem d_Formula_clear_5 : decode b_Formula_clear 5 = .ok (.aload_n 0, 1) := dc_42 (by decide +kernel)
theorem d_Formula_clear_6 : decode b_Formula_clear 6 = .ok (.iconst 0, 1) := dc_3 (by decide +kernel)
theorem d_Formula_clear_7 : decode b_Formula_clear 7 = .ok (.putfield 29, 3) := dc_181 (by decide +kernel)
theorem d_Formula_clear_10 : decode b_Formula_clear 10 = .ok (.return_, 1) := dc_177 (by decide +kernel)
def t_Formula_clear (M : Mem) (k0 : Nat) : Mem := (qlet (setI M k0 3 0) fun M1 => (qlet (setI M1 k0 4 0) fun M2 => M2))
set_option maxHeartbeats 4000000 in
set_option maxRecDepth 100000 in
theorem c_Formula_clear (l : Launch) {b n : Nat} {C : CT} (hlo : 191 ≤ n) (M : Mem) (k0 : Nat) (hk0 : isFormula k0) (res : Mem) (hT : t_Formula_clear M k0 = res) : CM l b C n 0 y_Formula_clear b_Formula_clear 1 (none) [.ref (b + k0)] M (QV b C n res) := by
  refine CM.of (lo := 191) (ow := "WardFalls$Formula") (by decide) rfl (Nat.le_of_ble_eq_true rfl) hlo (fun p e s m below meth c F hlk hr hS ls hl => ?_)
  have hl : lv_has ls 1 [(0, .ref (b + k0))] := hl
  unfold t_Formula_clear at hT
  refine lv_aload_n F.hx F.hb d_Formula_clear_0 rfl (lv_at hl 0 rfl) ?_
  refine r_iconst F.hx F.hb d_Formula_clear_1 ?_
  refine r_putI (N := 12) (T := T3) (j := 3) F hS (Formula_lt hk0) (Formula_sh hk0) (Formula_N hk0) rfl (Nat.le_of_ble_eq_true rfl) ing3 tyok3 nm3 rfl rfl rfl rfl rfl (Formula_dyn hk0 _) mw_50 (inr_c rfl) d_Formula_clear_2 (fun H locs hS => ?_)
  obtain ⟨M1, eM1⟩ : ∃ q, q = (setI M k0 3 0) := ⟨_, rfl⟩
  replace hS : St b C n M1 s H locs := by rw [eM1]; exact hS
  replace hT := qlet_eq hT eM1
  refine lv_aload_n F.hx F.hb d_Formula_clear_5 rfl (lv_at hl 0 rfl) ?_
  refine r_iconst F.hx F.hb d_Formula_clear_6 ?_
  refine r_putI (N := 12) (T := T3) (j := 4) F hS (Formula_lt hk0) (Formula_sh hk0) (Formula_N hk0) rfl (Nat.le_of_ble_eq_true rfl) ing3 tyok3 nm3 rfl rfl (nar_z (Or.inl rfl)) (fit_z (Or.inl rfl)) rfl (Formula_dyn hk0 _) mw_51 (inr_c rfl) d_Formula_clear_7 (fun H locs hS => ?_)
  obtain ⟨M2, eM2⟩ : ∃ q, q = (setI M1 k0 4 0) := ⟨_, rfl⟩
  replace hS : St b C n M2 s H locs := by rw [eM2]; exact hS
  replace hT := qlet_eq hT eM2
  subst hT
  exact r_vret F hlk hr hS d_Formula_clear_10
theorem d_Arrays_fill_0 : decode b_Arrays_fill 0 = .ok (.iconst 0, 1) := dc_3 (by decide +kernel)
theorem d_Arrays_fill_1 : decode b_Arrays_fill 1 = .ok (.istore_n 2, 1) := dc_61 (by decide +kernel)
theorem d_Arrays_fill_2 : decode b_Arrays_fill 2 = .ok (.aload_n 0, 1) := dc_42 (by decide +kernel)
theorem d_Arrays_fill_3 : decode b_Arrays_fill 3 = .ok (.arraylength, 1) := dc_190 (by decide +kernel)
theorem d_Arrays_fill_4 : decode b_Arrays_fill 4 = .ok (.istore_n 3, 1) := dc_62 (by decide +kernel)
theorem d_Arrays_fill_5 : decode b_Arrays_fill 5 = .ok (.iload_n 2, 1) := dc_28 (by decide +kernel)
theorem d_Arrays_fill_6 : decode b_Arrays_fill 6 = .ok (.iload_n 3, 1) := dc_29 (by decide +kernel)
theorem d_Arrays_fill_7 : decode b_Arrays_fill 7 = .ok (.if_icmp .ge 13, 3) := dc_162 (by decide +kernel)
theorem d_Arrays_fill_10 : decode b_Arrays_fill 10 = .ok (.aload_n 0, 1) := dc_42 (by decide +kernel)
theorem d_Arrays_fill_11 : decode b_Arrays_fill 11 = .ok (.iload_n 2, 1) := dc_28 (by decide +kernel)
theorem d_Arrays_fill_12 : decode b_Arrays_fill 12 = .ok (.iload_n 1, 1) := dc_27 (by decide +kernel)
theorem d_Arrays_fill_13 : decode b_Arrays_fill 13 = .ok (.iastore, 1) := dc_79 (by decide +kernel)
theorem d_Arrays_fill_14 : decode b_Arrays_fill 14 = .ok (.iinc 2 1, 3) := dc_132 (by decide +kernel)
theorem d_Arrays_fill_17 : decode b_Arrays_fill 17 = .ok (.goto (-12), 3) := dc_167 (by decide +kernel)
theorem d_Arrays_fill_20 : decode b_Arrays_fill 20 = .ok (.return_, 1) := dc_177 (by decide +kernel)
def t_Arrays_fill_L5 (r1 : Nat) (N1 : Nat) (x2 : Int)  : Nat → Mem → Int → Int → Option (Mem)
  | 0, _, _, _ => none
  | fu + 1, M, v2_, v3_ => (if v3_ ≤ v2_ then (some M) else (qguard (0 ≤ v2_ ∧ v2_ < (N1 : Int)) (qlet (setI M r1 v2_ x2) fun M3 => (t_Arrays_fill_L5 r1 N1 x2 fu M3 (w32 (v2_ + 1)) v3_))))
def t_Arrays_fill (M : Mem) (r1 : Nat) (N1 : Nat) (x2 : Int) : Option (Mem) := (t_Arrays_fill_L5 r1 N1 x2 FU M 0 (N1 : Int))
set_option maxHeartbeats 4000000 in
set_option maxRecDepth 100000 in
theorem k_Arrays_fill_L5 (l : Launch) {p : Program} {e : Env} {s : State} {m : MethodId} {below : List Frame} {meth : Method} {c : Code} {b n : Nat} {C : CT} (hlo : 191 ≤ n) (r1 : Nat) (N1 : Nat) (x2 : Int) (hr1 : arrP 0 r1 N1 191) (hx2 : InR x2) (F : Cx b p m c b_Arrays_fill 4 s ([.ref (b + r1), vI x2] : List Value).toArray "java/util/Arrays" C n 191) (hlk : meth.locks = false) (hr : meth.sig.returnType = none) {res : Mem} : ∀ (fu : Nat) (M : Mem) (v2_ : Int) (hv2_ : InR v2_) (v3_ : Int) (hv3_ : InR v3_) (H : Heap) (locs : List Loc) (ls : Array Slot), St b C n M s H locs → lv_has ls 4 [(0, .ref (b + r1)), (1, vI x2), (2, vI v2_), (3, vI v3_)] → t_Arrays_fill_L5 r1 N1 x2 fu M v2_ v3_ = some res → W p l e (headSpec (wsM y_Arrays_fill b_Arrays_fill 4 (none)) (rmD 0)).room s m ([.ref (b + r1), vI x2] : List Value).toArray below meth c H locs 0 0 (MQ below (QV b C n res) ([.ref (b + r1), vI x2] : List Value).toArray s 0 0 (frb b)) (F0 m 5 ls []) := by
  intro fu
  induction fu with
  | zero => intro M v2_ hv2_ v3_ hv3_ H locs ls hS hl hT; exact absurd hT (by simp [t_Arrays_fill_L5])
  | succ fu ih =>
    intro M v2_ hv2_ v3_ hv3_ H locs ls hS hl hT
    rw [t_Arrays_fill_L5] at hT
    refine lv_iload_n F.hx F.hb d_Arrays_fill_5 rfl (lv_at hl 2 rfl) ?_
    refine lv_iload_n F.hx F.hb d_Arrays_fill_6 rfl (lv_at hl 3 rfl) ?_
    refine r_icmp_ge (tgt := 20) F.hx F.hb hv2_ hv3_ d_Arrays_fill_7 (by decide) (fun c1 => ?_) (fun c1 => ?_)
    · replace hT := (if_pos c1).symm.trans hT
      cases hT
      exact r_vret F hlk hr hS d_Arrays_fill_20
    · replace hT := (if_neg c1).symm.trans hT
      refine lv_aload_n F.hx F.hb d_Arrays_fill_10 rfl (lv_at hl 0 rfl) ?_
      refine lv_iload_n F.hx F.hb d_Arrays_fill_11 rfl (lv_at hl 2 rfl) ?_
      refine lv_iload_n F.hx F.hb d_Arrays_fill_12 rfl (lv_at hl 1 rfl) ?_
      obtain ⟨⟨g2a, g2b⟩, hT⟩ := q_guard hT
      refine r_iast F hS hr1.2.2 hr1.1 hr1.2.1 hv2_ hx2 g2a g2b d_Arrays_fill_13 (fun H locs hS => ?_)
      obtain ⟨M3, eM3⟩ : ∃ q, q = (setI M r1 v2_ x2) := ⟨_, rfl⟩
      replace hS : St b C n M3 s H locs := by rw [eM3]; exact hS
      replace hT := qlet_eq hT eM3
      refine lv_iinc (v := Int32.ofInt (w32 (v2_ + 1))) (lv' := [(2, vI (w32 (v2_ + 1))), (0, .ref (b + r1)), (1, vI x2), (3, vI v3_)]) F.hx F.hb d_Arrays_fill_14 hl (k := 2) rfl (q_of_add _ _) (Nat.le_of_ble_eq_true rfl) rfl (fun ls hl => ?_)
      refine lv_goto (tgt := 5) F.hx F.hb d_Arrays_fill_17 (by decide) ?_
      exact ih M3 (w32 (v2_ + 1)) (inr_w32 _) v3_ hv3_ _ _ _ hS (lv_sub hl [1, 2, 0, 3] rfl) hT
set_option maxHeartbeats 4000000 in
set_option maxRecDepth 100000 in
theorem c_Arrays_fill (l : Launch) {b n : Nat} {C : CT} (hlo : 191 ≤ n) (M : Mem) (r1 : Nat) (N1 : Nat) (x2 : Int) (hr1 : arrP 0 r1 N1 191) (hx2 : InR x2) (res : Mem) (hT : t_Arrays_fill M r1 N1 x2 = some res) : CM l b C n 0 y_Arrays_fill b_Arrays_fill 4 (none) [.ref (b + r1), vI x2] M (QV b C n res) := by
  refine CM.of (lo := 191) (ow := "java/util/Arrays") (by decide) rfl (Nat.le_of_ble_eq_true rfl) hlo (fun p e s m below meth c F hlk hr hS ls hl => ?_)
  have hl : lv_has ls 4 [(0, .ref (b + r1)), (1, vI x2)] := hl
  unfold t_Arrays_fill at hT
  refine r_iconst F.hx F.hb d_Arrays_fill_0 ?_
  refine lv_istore_n (lv' := [(2, vI 0), (0, .ref (b + r1)), (1, vI x2)]) F.hx F.hb d_Arrays_fill_1 rfl hl (Nat.le_of_ble_eq_true rfl) rfl (fun ls hl => ?_)
  refine lv_aload_n F.hx F.hb d_Arrays_fill_2 rfl (lv_at hl 1 rfl) ?_
  refine r_alen F hS hr1.2.2 (by rw [hr1.1]; decide) hr1.2.1 d_Arrays_fill_3 rfl ?_
  refine lv_istore_n (lv' := [(3, vI (N1 : Int)), (2, vI 0), (0, .ref (b + r1)), (1, vI x2)]) F.hx F.hb d_Arrays_fill_4 rfl hl (Nat.le_of_ble_eq_true rfl) rfl (fun ls hl => ?_)
  exact k_Arrays_fill_L5 l hlo r1 N1 x2 hr1 hx2 F hlk hr FU M 0 (inr_c rfl) (N1 : Int) (inr_len hr1) _ _ _ hS (lv_sub hl [2, 3, 1, 0] rfl) hT
theorem d_Town_clear_0 : decode b_Town_clear 0 = .ok (.aload_n 0, 1) := dc_42 (by decide +kernel)
theorem d_Town_clear_1 : decode b_Town_clear 1 = .ok (.iconst 4, 1) := dc_7 (by decide +kernel)
theorem d_Town_clear_2 : decode b_Town_clear 2 = .ok (.putfield 49, 3) := dc_181 (by decide +kernel)
theorem d_Town_clear_5 : decode b_Town_clear 5 = .ok (.aload_n 0, 1) := dc_42 (by decide +kernel)
theorem d_Town_clear_6 : decode b_Town_clear 6 = .ok (.iconst 4, 1) := dc_7 (by decide +kernel)
theorem d_Town_clear_7 : decode b_Town_clear 7 = .ok (.putfield 53, 3) := dc_181 (by decide +kernel)
theorem d_Town_clear_10 : decode b_Town_clear 10 = .ok (.aload_n 0, 1) := dc_42 (by decide +kernel)
theorem d_Town_clear_11 : decode b_Town_clear 11 = .ok (.iconst 0, 1) := dc_3 (by decide +kernel)
theorem d_Town_clear_12 : decode b_Town_clear 12 = .ok (.putfield 56, 3) := dc_181 (by decide +kernel)
theorem d_Town_clear_15 : decode b_Town_clear 15 = .ok (.aload_n 0, 1) := dc_42 (by decide +kernel)
theorem d_Town_clear_16 : decode b_Town_clear 16 = .ok (.iconst 0, 1) := dc_3 (by decide +kernel)
theorem d_Town_clear_17 : decode b_Town_clear 17 = .ok (.putfield 59, 3) := dc_181 (by decide +kernel)
theorem d_Town_clear_20 : decode b_Town_clear 20 = .ok (.aload_n 0, 1) := dc_42 (by decide +kernel)
theorem d_Town_clear_21 : decode b_Town_clear 21 = .ok (.iconst 0, 1) := dc_3 (by decide +kernel)
theorem d_Town_clear_22 : decode b_Town_clear 22 = .ok (.putfield 62, 3) := dc_181 (by decide +kernel)
theorem d_Town_clear_25 : decode b_Town_clear 25 = .ok (.aload_n 0, 1) := dc_42 (by decide +kernel)
theorem d_Town_clear_26 : decode b_Town_clear 26 = .ok (.iconst 0, 1) := dc_3 (by decide +kernel)
theorem d_Town_clear_27 : decode b_Town_clear 27 = .ok (.putfield 65, 3) := dc_181 (by decide +kernel)
theorem d_Town_clear_30 : decode b_Town_clear 30 = .ok (.aload_n 0, 1) := dc_42 (by decide +kernel)
theorem d_Town_clear_31 : decode b_Town_clear 31 = .ok (.lconst 0, 1) := dc_9 (by decide +kernel)
theorem d_Town_clear_32 : decode b_Town_clear 32 = .ok (.putfield 68, 3) := dc_181 (by decide +kernel)
theorem d_Town_clear_35 : decode b_Town_clear 35 = .ok (.aload_n 0, 1) := dc_42 (by decide +kernel)
theorem d_Town_clear_36 : decode b_Town_clear 36 = .ok (.lconst 0, 1) := dc_9 (by decide +kernel)
theorem d_Town_clear_37 : decode b_Town_clear 37 = .ok (.putfield 72, 3) := dc_181 (by decide +kernel)
theorem d_Town_clear_40 : decode b_Town_clear 40 = .ok (.aload_n 0, 1) := dc_42 (by decide +kernel)
theorem d_Town_clear_41 : decode b_Town_clear 41 = .ok (.getfield 42, 3) := dc_180 (by decide +kernel)
theorem d_Town_clear_44 : decode b_Town_clear 44 = .ok (.invokevirtual 75, 3) := dc_182 (by decide +kernel)
theorem d_Town_clear_47 : decode b_Town_clear 47 = .ok (.aload_n 0, 1) := dc_42 (by decide +kernel)
theorem d_Town_clear_48 : decode b_Town_clear 48 = .ok (.getfield 46, 3) := dc_180 (by decide +kernel)
theorem d_Town_clear_51 : decode b_Town_clear 51 = .ok (.invokevirtual 75, 3) := dc_182 (by decide +kernel)
theorem d_Town_clear_54 : decode b_Town_clear 54 = .ok (.aload_n 0, 1) := dc_42 (by decide +kernel)
theorem d_Town_clear_55 : decode b_Town_clear 55 = .ok (.getfield 33, 3) := dc_180 (by decide +kernel)
theorem d_Town_clear_58 : decode b_Town_clear 58 = .ok (.iconst (-1), 1) := dc_2 (by decide +kernel)
theorem d_Town_clear_59 : decode b_Town_clear 59 = .ok (.invokestatic 78, 3) := dc_184 (by decide +kernel)
theorem d_Town_clear_62 : decode b_Town_clear 62 = .ok (.return_, 1) := dc_177 (by decide +kernel)
def t_Town_clear (M : Mem) (k0 : Nat) : Option (Mem) := (qlet (setI M k0 11 4) fun M1 => (qlet (setI M1 k0 12 4) fun M2 => (qlet (setI M2 k0 14 0) fun M3 => (qlet (setI M3 k0 15 0) fun M4 => (qlet (setI M4 k0 16 0) fun M5 => (qlet (setI M5 k0 17 0) fun M6 => (qlet (setL M6 k0 18 0) fun M7 => (qlet (setL M7 k0 19 0) fun M8 => (qlet (t_Formula_clear M8 (k0 + 10)) fun q9 => (qlet (t_Formula_clear q9 (k0 + 15)) fun q11 => (obind (t_Arrays_fill q11 (k0 + 8) 48 (-1)) fun q13 => (some q13))))))))))))
set_option maxHeartbeats 4000000 in
set_option maxRecDepth 100000 in
theorem c_Town_clear (l : Launch) {b n : Nat} {C : CT} (hlo : 191 ≤ n) (M : Mem) (k0 : Nat) (hk0 : isTown k0) (res : Mem) (hT : t_Town_clear M k0 = some res) : CM l b C n 1 y_Town_clear b_Town_clear 1 (none) [.ref (b + k0)] M (QV b C n res) := by
  refine CM.of (lo := 191) (ow := "WardFalls$Town") (by decide) rfl (Nat.le_of_ble_eq_true rfl) hlo (fun p e s m below meth c F hlk hr hS ls hl => ?_)
  have hl : lv_has ls 1 [(0, .ref (b + k0))] := hl
  unfold t_Town_clear at hT
  refine lv_aload_n F.hx F.hb d_Town_clear_0 rfl (lv_at hl 0 rfl) ?_
  refine r_iconst F.hx F.hb d_Town_clear_1 ?_
  refine r_putI (N := 20) (T := T11) (j := 11) F hS (Town_lt hk0) (Town_sh hk0) (Town_N hk0) rfl (Nat.le_of_ble_eq_true rfl) ing11 tyok11 nm11 rfl rfl rfl rfl rfl (Town_dyn hk0 _) mw_121 (inr_c rfl) d_Town_clear_2 (fun H locs hS => ?_)
  obtain ⟨M1, eM1⟩ : ∃ q, q = (setI M k0 11 4) := ⟨_, rfl⟩
  replace hS : St b C n M1 s H locs := by rw [eM1]; exact hS
  replace hT := qlet_eq hT eM1
  refine lv_aload_n F.hx F.hb d_Town_clear_5 rfl (lv_at hl 0 rfl) ?_
  refine r_iconst F.hx F.hb d_Town_clear_6 ?_
  refine r_putI (N := 20) (T := T11) (j := 12) F hS (Town_lt hk0) (Town_sh hk0) (Town_N hk0) rfl (Nat.le_of_ble_eq_true rfl) ing11 tyok11 nm11 rfl rfl rfl rfl rfl (Town_dyn hk0 _) mw_124 (inr_c rfl) d_Town_clear_7 (fun H locs hS => ?_)
  obtain ⟨M2, eM2⟩ : ∃ q, q = (setI M1 k0 12 4) := ⟨_, rfl⟩
  replace hS : St b C n M2 s H locs := by rw [eM2]; exact hS
  replace hT := qlet_eq hT eM2
  refine lv_aload_n F.hx F.hb d_Town_clear_10 rfl (lv_at hl 0 rfl) ?_
  refine r_iconst F.hx F.hb d_Town_clear_11 ?_
  refine r_putI (N := 20) (T := T11) (j := 14) F hS (Town_lt hk0) (Town_sh hk0) (Town_N hk0) rfl (Nat.le_of_ble_eq_true rfl) ing11 tyok11 nm11 rfl rfl rfl rfl rfl (Town_dyn hk0 _) mw_133 (inr_c rfl) d_Town_clear_12 (fun H locs hS => ?_)
  obtain ⟨M3, eM3⟩ : ∃ q, q = (setI M2 k0 14 0) := ⟨_, rfl⟩
  replace hS : St b C n M3 s H locs := by rw [eM3]; exact hS
  replace hT := qlet_eq hT eM3
  refine lv_aload_n F.hx F.hb d_Town_clear_15 rfl (lv_at hl 0 rfl) ?_
  refine r_iconst F.hx F.hb d_Town_clear_16 ?_
  refine r_putI (N := 20) (T := T11) (j := 15) F hS (Town_lt hk0) (Town_sh hk0) (Town_N hk0) rfl (Nat.le_of_ble_eq_true rfl) ing11 tyok11 nm11 rfl rfl rfl rfl rfl (Town_dyn hk0 _) mw_140 (inr_c rfl) d_Town_clear_17 (fun H locs hS => ?_)
  obtain ⟨M4, eM4⟩ : ∃ q, q = (setI M3 k0 15 0) := ⟨_, rfl⟩
  replace hS : St b C n M4 s H locs := by rw [eM4]; exact hS
  replace hT := qlet_eq hT eM4
  refine lv_aload_n F.hx F.hb d_Town_clear_20 rfl (lv_at hl 0 rfl) ?_
  refine r_iconst F.hx F.hb d_Town_clear_21 ?_
  refine r_putI (N := 20) (T := T11) (j := 16) F hS (Town_lt hk0) (Town_sh hk0) (Town_N hk0) rfl (Nat.le_of_ble_eq_true rfl) ing11 tyok11 nm11 rfl rfl rfl rfl rfl (Town_dyn hk0 _) mw_145 (inr_c rfl) d_Town_clear_22 (fun H locs hS => ?_)
  obtain ⟨M5, eM5⟩ : ∃ q, q = (setI M4 k0 16 0) := ⟨_, rfl⟩
  replace hS : St b C n M5 s H locs := by rw [eM5]; exact hS
  replace hT := qlet_eq hT eM5
  refine lv_aload_n F.hx F.hb d_Town_clear_25 rfl (lv_at hl 0 rfl) ?_
  refine r_iconst F.hx F.hb d_Town_clear_26 ?_
  refine r_putI (N := 20) (T := T11) (j := 17) F hS (Town_lt hk0) (Town_sh hk0) (Town_N hk0) rfl (Nat.le_of_ble_eq_true rfl) ing11 tyok11 nm11 rfl rfl rfl rfl rfl (Town_dyn hk0 _) mw_149 (inr_c rfl) d_Town_clear_27 (fun H locs hS => ?_)
  obtain ⟨M6, eM6⟩ : ∃ q, q = (setI M5 k0 17 0) := ⟨_, rfl⟩
  replace hS : St b C n M6 s H locs := by rw [eM6]; exact hS
  replace hT := qlet_eq hT eM6
  refine lv_aload_n F.hx F.hb d_Town_clear_30 rfl (lv_at hl 0 rfl) ?_
  refine lv_lconst (v := 0) F.hx F.hb d_Town_clear_31 rfl ?_
  refine r_putL (N := 20) (T := T11) (j := 18) F hS (Town_lt hk0) (Town_sh hk0) (Town_N hk0) rfl (Nat.le_of_ble_eq_true rfl) ing11 tyok11 nm11 rfl rfl rfl mw_151 d_Town_clear_32 (fun H locs hS => ?_)
  obtain ⟨M7, eM7⟩ : ∃ q, q = (setL M6 k0 18 0) := ⟨_, rfl⟩
  replace hS : St b C n M7 s H locs := by rw [eM7]; exact hS
  replace hT := qlet_eq hT eM7
  refine lv_aload_n F.hx F.hb d_Town_clear_35 rfl (lv_at hl 0 rfl) ?_
  refine lv_lconst (v := 0) F.hx F.hb d_Town_clear_36 rfl ?_
  refine r_putL (N := 20) (T := T11) (j := 19) F hS (Town_lt hk0) (Town_sh hk0) (Town_N hk0) rfl (Nat.le_of_ble_eq_true rfl) ing11 tyok11 nm11 rfl rfl rfl mw_154 d_Town_clear_37 (fun H locs hS => ?_)
  obtain ⟨M8, eM8⟩ : ∃ q, q = (setL M7 k0 19 0) := ⟨_, rfl⟩
  replace hS : St b C n M8 s H locs := by rw [eM8]; exact hS
  replace hT := qlet_eq hT eM8
  refine lv_aload_n F.hx F.hb d_Town_clear_40 rfl (lv_at hl 0 rfl) ?_
  refine r_get (v := .ref (b + (k0 + 10))) (N := 20) (T := T11) (j := 9) F hS (Town_lt hk0) (Town_sh hk0) (Town_N hk0) rfl (Nat.le_of_ble_eq_true rfl) ing11 mw_115 (Town_g9 hk0 _) d_Town_clear_41 ?_
  obtain ⟨q9, hq9⟩ : ∃ q, q = (t_Formula_clear M8 (k0 + 10)) := ⟨_, rfl⟩
  replace hT := qlet_eq hT hq9
  refine r_backV F hS (r_runV (k := (k0 + 10)) (N := 12) (T := T3) (As := []) F hS (Formula_lt (Town_f9 hk0)) (Formula_sh (Town_f9 hk0)) rfl (c_Formula_clear l F.2.2.1 M8 (k0 + 10) (Town_f9 hk0) _ hq9.symm) gs_Town_75 hd_Formula_clear ⟨Nat.le_of_ble_eq_true rfl, Nat.le_of_ble_eq_true rfl⟩ rfl hl.1 (Nat.le_of_ble_eq_true rfl) ⟨Nat.zero_le _, Nat.zero_le _⟩ rfl d_Town_clear_44) (fun H locs hS => ?_)
  refine lv_aload_n F.hx F.hb d_Town_clear_47 rfl (lv_at hl 0 rfl) ?_
  refine r_get (v := .ref (b + (k0 + 15))) (N := 20) (T := T11) (j := 10) F hS (Town_lt hk0) (Town_sh hk0) (Town_N hk0) rfl (Nat.le_of_ble_eq_true rfl) ing11 mw_118 (Town_g10 hk0 _) d_Town_clear_48 ?_
  obtain ⟨q11, hq11⟩ : ∃ q, q = (t_Formula_clear q9 (k0 + 15)) := ⟨_, rfl⟩
  replace hT := qlet_eq hT hq11
  refine r_backV F hS (r_runV (k := (k0 + 15)) (N := 12) (T := T3) (As := []) F hS (Formula_lt (Town_f10 hk0)) (Formula_sh (Town_f10 hk0)) rfl (c_Formula_clear l F.2.2.1 q9 (k0 + 15) (Town_f10 hk0) _ hq11.symm) gs_Town_75 hd_Formula_clear ⟨Nat.le_of_ble_eq_true rfl, Nat.le_of_ble_eq_true rfl⟩ rfl hl.1 (Nat.le_of_ble_eq_true rfl) ⟨Nat.zero_le _, Nat.zero_le _⟩ rfl d_Town_clear_51) (fun H locs hS => ?_)
  refine lv_aload_n F.hx F.hb d_Town_clear_54 rfl (lv_at hl 0 rfl) ?_
  refine r_get (v := .ref (b + (k0 + 8))) (N := 20) (T := T11) (j := 7) F hS (Town_lt hk0) (Town_sh hk0) (Town_N hk0) rfl (Nat.le_of_ble_eq_true rfl) ing11 mw_111 (Town_g7 hk0 _) d_Town_clear_55 ?_
  refine r_iconst F.hx F.hb d_Town_clear_58 ?_
  obtain ⟨q13, hq13, hT⟩ := q_obind hT
  refine r_backV F hS (r_runS (As := [.ref (b + (k0 + 8)), vI (-1)]) F hS (c_Arrays_fill l F.2.2.1 q11 (k0 + 8) 48 (-1) (Town_f7 hk0) (inr_c rfl) _ hq13) gs_Town_78 hd_Arrays_fill ⟨Nat.le_of_ble_eq_true rfl, Nat.le_of_ble_eq_true rfl⟩ rfl hl.1 (Nat.le_of_ble_eq_true rfl) ⟨Nat.zero_le _, Nat.zero_le _⟩ rfl d_Town_clear_59) (fun H locs hS => ?_)
  cases hT
  exact r_vret F hlk hr hS d_Town_clear_62
theorem d_WF_put_0 : decode b_WF_put 0 = .ok (.iload_n 1, 1) := dc_27 (by decide +kernel)
theorem d_WF_put_1 : decode b_WF_put 1 = .ok (.ifCond .lt 13, 3) := dc_155 (by decide +kernel)
theorem d_WF_put_4 : decode b_WF_put 4 = .ok (.iload_n 1, 1) := dc_27 (by decide +kernel)
theorem d_WF_put_5 : decode b_WF_put 5 = .ok (.aload_n 0, 1) := dc_42 (by decide +kernel)
theorem d_WF_put_6 : decode b_WF_put 6 = .ok (.arraylength, 1) := dc_190 (by decide +kernel)
theorem d_WF_put_7 : decode b_WF_put 7 = .ok (.if_icmp .ge 7, 3) := dc_162 (by decide +kernel)
theorem d_WF_put_10 : decode b_WF_put 10 = .ok (.aload_n 0, 1) := dc_42 (by decide +kernel)
theorem d_WF_put_11 : decode b_WF_put 11 = .ok (.iload_n 1, 1) := dc_27 (by decide +kernel)
theorem d_WF_put_12 : decode b_WF_put 12 = .ok (.iload_n 2, 1) := dc_28 (by decide +kernel)
theorem d_WF_put_13 : decode b_WF_put 13 = .ok (.iastore, 1) := dc_79 (by decide +kernel)
theorem d_WF_put_14 : decode b_WF_put 14 = .ok (.return_, 1) := dc_177 (by decide +kernel)
def t_WF_put (M : Mem) (r1 : Nat) (N1 : Nat) (x2 : Int) (x3 : Int) : Mem := (if x2 < 0 then M else (if (N1 : Int) ≤ x2 then M else (qlet (setI M r1 x2 x3) fun M3 => M3)))
set_option maxHeartbeats 4000000 in
set_option maxRecDepth 100000 in
theorem c_WF_put (l : Launch) {b n : Nat} {C : CT} (hlo : 191 ≤ n) (M : Mem) (r1 : Nat) (N1 : Nat) (x2 : Int) (x3 : Int) (hr1 : arrP 0 r1 N1 191) (hx2 : InR x2) (hx3 : InR x3) (res : Mem) (hT : t_WF_put M r1 N1 x2 x3 = res) : CM l b C n 0 y_WF_put b_WF_put 3 (none) [.ref (b + r1), vI x2, vI x3] M (QV b C n res) := by
  refine CM.of (lo := 191) (ow := "WardFalls") (by decide) rfl (Nat.le_of_ble_eq_true rfl) hlo (fun p e s m below meth c F hlk hr hS ls hl => ?_)
  have hl : lv_has ls 3 [(0, .ref (b + r1)), (1, vI x2), (2, vI x3)] := hl
  unfold t_WF_put at hT
  refine lv_iload_n F.hx F.hb d_WF_put_0 rfl (lv_at hl 1 rfl) ?_
  refine r_if_lt (tgt := 14) F.hx F.hb hx2 d_WF_put_1 (by decide) (fun c1 => ?_) (fun c1 => ?_)
  · replace hT := (if_pos c1).symm.trans hT
    subst hT
    exact r_vret F hlk hr hS d_WF_put_14
  · replace hT := (if_neg c1).symm.trans hT
    refine lv_iload_n F.hx F.hb d_WF_put_4 rfl (lv_at hl 1 rfl) ?_
    refine lv_aload_n F.hx F.hb d_WF_put_5 rfl (lv_at hl 0 rfl) ?_
    refine r_alen F hS hr1.2.2 (by rw [hr1.1]; decide) hr1.2.1 d_WF_put_6 rfl ?_
    refine r_icmp_ge (tgt := 14) F.hx F.hb hx2 (inr_len hr1) d_WF_put_7 (by decide) (fun c2 => ?_) (fun c2 => ?_)
    · replace hT := (if_pos c2).symm.trans hT
      subst hT
      exact r_vret F hlk hr hS d_WF_put_14
    · replace hT := (if_neg c2).symm.trans hT
      refine lv_aload_n F.hx F.hb d_WF_put_10 rfl (lv_at hl 0 rfl) ?_
      refine lv_iload_n F.hx F.hb d_WF_put_11 rfl (lv_at hl 1 rfl) ?_
      refine lv_iload_n F.hx F.hb d_WF_put_12 rfl (lv_at hl 2 rfl) ?_
      refine r_iast F hS hr1.2.2 hr1.1 hr1.2.1 hx2 hx3 (by omega) (by omega) d_WF_put_13 (fun H locs hS => ?_)
      obtain ⟨M3, eM3⟩ : ∃ q, q = (setI M r1 x2 x3) := ⟨_, rfl⟩
      replace hS : St b C n M3 s H locs := by rw [eM3]; exact hS
      replace hT := qlet_eq hT eM3
      subst hT
      exact r_vret F hlk hr hS d_WF_put_14
theorem d_WF_look_0 : decode b_WF_look 0 = .ok (.iload_n 1, 1) := dc_27 (by decide +kernel)
theorem d_WF_look_1 : decode b_WF_look 1 = .ok (.ifCond .lt 15, 3) := dc_155 (by decide +kernel)
theorem d_WF_look_4 : decode b_WF_look 4 = .ok (.iload_n 1, 1) := dc_27 (by decide +kernel)
theorem d_WF_look_5 : decode b_WF_look 5 = .ok (.aload_n 0, 1) := dc_42 (by decide +kernel)
theorem d_WF_look_6 : decode b_WF_look 6 = .ok (.arraylength, 1) := dc_190 (by decide +kernel)
theorem d_WF_look_7 : decode b_WF_look 7 = .ok (.if_icmp .ge 9, 3) := dc_162 (by decide +kernel)
theorem d_WF_look_10 : decode b_WF_look 10 = .ok (.aload_n 0, 1) := dc_42 (by decide +kernel)
theorem d_WF_look_11 : decode b_WF_look 11 = .ok (.iload_n 1, 1) := dc_27 (by decide +kernel)
theorem d_WF_look_12 : decode b_WF_look 12 = .ok (.iaload, 1) := dc_46 (by decide +kernel)
theorem d_WF_look_13 : decode b_WF_look 13 = .ok (.goto 4, 3) := dc_167 (by decide +kernel)
theorem d_WF_look_16 : decode b_WF_look 16 = .ok (.iconst (-1), 1) := dc_2 (by decide +kernel)
theorem d_WF_look_17 : decode b_WF_look 17 = .ok (.ireturn, 1) := dc_172 (by decide +kernel)
def t_WF_look (M : Mem) (r1 : Nat) (N1 : Nat) (x2 : Int) : Int := (if x2 < 0 then (-1) else (if (N1 : Int) ≤ x2 then (-1) else (M.1 r1 x2)))
set_option maxHeartbeats 4000000 in
set_option maxRecDepth 100000 in
theorem c_WF_look (l : Launch) {b n : Nat} {C : CT} (hlo : 191 ≤ n) (M : Mem) (r1 : Nat) (N1 : Nat) (x2 : Int) (hr1 : arrP 0 r1 N1 191) (hx2 : InR x2) (res : Int) (hT : t_WF_look M r1 N1 x2 = res) : CM l b C n 0 y_WF_look b_WF_look 2 (some .int) [.ref (b + r1), vI x2] M (QI b C n M res) := by
  refine CM.of (lo := 191) (ow := "WardFalls") (by decide) rfl (Nat.le_of_ble_eq_true rfl) hlo (fun p e s m below meth c F hlk hr hS ls hl => ?_)
  have hl : lv_has ls 2 [(0, .ref (b + r1)), (1, vI x2)] := hl
  unfold t_WF_look at hT
  refine lv_iload_n F.hx F.hb d_WF_look_0 rfl (lv_at hl 1 rfl) ?_
  refine r_if_lt (tgt := 16) F.hx F.hb hx2 d_WF_look_1 (by decide) (fun c1 => ?_) (fun c1 => ?_)
  · replace hT := (if_pos c1).symm.trans hT
    refine r_iconst F.hx F.hb d_WF_look_16 ?_
    subst hT
    exact r_iret F hlk hr rfl hS (inr_c rfl) d_WF_look_17
  · replace hT := (if_neg c1).symm.trans hT
    refine lv_iload_n F.hx F.hb d_WF_look_4 rfl (lv_at hl 1 rfl) ?_
    refine lv_aload_n F.hx F.hb d_WF_look_5 rfl (lv_at hl 0 rfl) ?_
    refine r_alen F hS hr1.2.2 (by rw [hr1.1]; decide) hr1.2.1 d_WF_look_6 rfl ?_
    refine r_icmp_ge (tgt := 16) F.hx F.hb hx2 (inr_len hr1) d_WF_look_7 (by decide) (fun c2 => ?_) (fun c2 => ?_)
    · replace hT := (if_pos c2).symm.trans hT
      refine r_iconst F.hx F.hb d_WF_look_16 ?_
      subst hT
      exact r_iret F hlk hr rfl hS (inr_c rfl) d_WF_look_17
    · replace hT := (if_neg c2).symm.trans hT
      refine lv_aload_n F.hx F.hb d_WF_look_10 rfl (lv_at hl 0 rfl) ?_
      refine lv_iload_n F.hx F.hb d_WF_look_11 rfl (lv_at hl 1 rfl) ?_
      refine r_iald F hS hr1.2.2 hr1.1 hr1.2.1 hx2 (by omega) (by omega) d_WF_look_12 ?_
      have i3 := hS.rng r1 x2
      refine lv_goto (tgt := 17) F.hx F.hb d_WF_look_13 (by decide) ?_
      subst hT
      exact r_iret F hlk hr rfl hS i3 d_WF_look_17
theorem d_Town_ownerOf_0 : decode b_Town_ownerOf 0 = .ok (.aload_n 0, 1) := dc_42 (by decide +kernel)
theorem d_Town_ownerOf_1 : decode b_Town_ownerOf 1 = .ok (.getfield 33, 3) := dc_180 (by decide +kernel)
theorem d_Town_ownerOf_4 : decode b_Town_ownerOf 4 = .ok (.iload_n 1, 1) := dc_27 (by decide +kernel)
theorem d_Town_ownerOf_5 : decode b_Town_ownerOf 5 = .ok (.invokestatic 95, 3) := dc_184 (by decide +kernel)
theorem d_Town_ownerOf_8 : decode b_Town_ownerOf 8 = .ok (.ireturn, 1) := dc_172 (by decide +kernel)
def t_Town_ownerOf (M : Mem) (k0 : Nat) (x1 : Int) : Int := (qlet (t_WF_look M (k0 + 8) 48 x1) fun q1 => q1)
set_option maxHeartbeats 4000000 in
set_option maxRecDepth 100000 in
theorem c_Town_ownerOf (l : Launch) {b n : Nat} {C : CT} (hlo : 191 ≤ n) (M : Mem) (k0 : Nat) (x1 : Int) (hk0 : isTown k0) (hx1 : InR x1) (res : Int) (hT : t_Town_ownerOf M k0 x1 = res) : CM l b C n 1 y_Town_ownerOf b_Town_ownerOf 2 (some .int) [.ref (b + k0), vI x1] M (QI b C n M res) := by
  refine CM.of (lo := 191) (ow := "WardFalls$Town") (by decide) rfl (Nat.le_of_ble_eq_true rfl) hlo (fun p e s m below meth c F hlk hr hS ls hl => ?_)
  have hl : lv_has ls 2 [(0, .ref (b + k0)), (1, vI x1)] := hl
  unfold t_Town_ownerOf at hT
  refine lv_aload_n F.hx F.hb d_Town_ownerOf_0 rfl (lv_at hl 0 rfl) ?_
  refine r_get (v := .ref (b + (k0 + 8))) (N := 20) (T := T11) (j := 7) F hS (Town_lt hk0) (Town_sh hk0) (Town_N hk0) rfl (Nat.le_of_ble_eq_true rfl) ing11 mw_111 (Town_g7 hk0 _) d_Town_ownerOf_1 ?_
  refine lv_iload_n F.hx F.hb d_Town_ownerOf_4 rfl (lv_at hl 1 rfl) ?_
  obtain ⟨q1, hq1⟩ : ∃ q, q = (t_WF_look M (k0 + 8) 48 x1) := ⟨_, rfl⟩
  replace hT := qlet_eq hT hq1
  refine r_backI F hS (r_runSN (As := [.ref (b + (k0 + 8)), vI x1]) F hS (c_WF_look l F.2.2.1 M (k0 + 8) 48 x1 (Town_f7 hk0) hx1 _ hq1.symm) mw_519 mw_518 mw_1 gs_Town_95 hd_WF_look ⟨Nat.le_of_ble_eq_true rfl, Nat.le_of_ble_eq_true rfl⟩ rfl hl.1 (Nat.le_of_ble_eq_true rfl) ⟨Nat.zero_le _, Nat.zero_le _⟩ rfl d_Town_ownerOf_5) (fun H locs hS h2 => ?_)
  subst hT
  exact r_iret F hlk hr rfl hS h2 d_Town_ownerOf_8
theorem wn_Town_settle_0 : ∀ i, i < 96 → bA b_Town_settle (0 + i) = wB [42, 42, 180, 0, 49, 42, 180, 0, 53, 104, 181, 0, 84, 42, 180, 0, 21, 3, 184, 0, 78, 3, 60, 27, 42, 180, 0, 53, 162, 0, 169, 3, 61, 28, 42, 180, 0, 49, 162, 0, 153, 27, 42, 180, 0, 49, 104, 28, 96, 62, 42, 180, 0, 36, 29, 7, 104, 27, 158, 0, 12, 29, 42, 180, 0, 49, 100, 167, 0, 4, 2, 184, 0, 87, 42, 180, 0, 36, 29, 7, 104, 4, 96, 28, 42, 180, 0, 49, 4, 100, 162, 0, 9, 29, 4, 96] i := wB_of (by decide +kernel)
theorem d_Town_settle_0 : decode b_Town_settle 0 = .ok (.aload_n 0, 1) := dc_42 (q0_win (r := 0) wn_Town_settle_0 (by decide +kernel))
theorem d_Town_settle_1 : decode b_Town_settle 1 = .ok (.aload_n 0, 1) := dc_42 (q0_win (r := 1) wn_Town_settle_0 (by decide +kernel))
theorem d_Town_settle_2 : decode b_Town_settle 2 = .ok (.getfield 49, 3) := dc_180 (qU2_win (r := 2) wn_Town_settle_0 (by decide +kernel))
theorem d_Town_settle_5 : decode b_Town_settle 5 = .ok (.aload_n 0, 1) := dc_42 (q0_win (r := 5) wn_Town_settle_0 (by decide +kernel))
theorem d_Town_settle_6 : decode b_Town_settle 6 = .ok (.getfield 53, 3) := dc_180 (qU2_win (r := 6) wn_Town_settle_0 (by decide +kernel))
theorem d_Town_settle_9 : decode b_Town_settle 9 = .ok (.imul, 1) := dc_104 (q0_win (r := 9) wn_Town_settle_0 (by decide +kernel))
theorem d_Town_settle_10 : decode b_Town_settle 10 = .ok (.putfield 84, 3) := dc_181 (qU2_win (r := 10) wn_Town_settle_0 (by decide +kernel))
theorem d_Town_settle_13 : decode b_Town_settle 13 = .ok (.aload_n 0, 1) := dc_42 (q0_win (r := 13) wn_Town_settle_0 (by decide +kernel))
theorem d_Town_settle_14 : decode b_Town_settle 14 = .ok (.getfield 21, 3) := dc_180 (qU2_win (r := 14) wn_Town_settle_0 (by decide +kernel))
theorem d_Town_settle_17 : decode b_Town_settle 17 = .ok (.iconst 0, 1) := dc_3 (q0_win (r := 17) wn_Town_settle_0 (by decide +kernel))
theorem d_Town_settle_18 : decode b_Town_settle 18 = .ok (.invokestatic 78, 3) := dc_184 (qU2_win (r := 18) wn_Town_settle_0 (by decide +kernel))
theorem d_Town_settle_21 : decode b_Town_settle 21 = .ok (.iconst 0, 1) := dc_3 (q0_win (r := 21) wn_Town_settle_0 (by decide +kernel))
theorem d_Town_settle_22 : decode b_Town_settle 22 = .ok (.istore_n 1, 1) := dc_60 (q0_win (r := 22) wn_Town_settle_0 (by decide +kernel))
theorem d_Town_settle_23 : decode b_Town_settle 23 = .ok (.iload_n 1, 1) := dc_27 (q0_win (r := 23) wn_Town_settle_0 (by decide +kernel))
theorem d_Town_settle_24 : decode b_Town_settle 24 = .ok (.aload_n 0, 1) := dc_42 (q0_win (r := 24) wn_Town_settle_0 (by decide +kernel))
theorem d_Town_settle_25 : decode b_Town_settle 25 = .ok (.getfield 53, 3) := dc_180 (qU2_win (r := 25) wn_Town_settle_0 (by decide +kernel))
theorem d_Town_settle_28 : decode b_Town_settle 28 = .ok (.if_icmp .ge 169, 3) := dc_162 (qS2_win (r := 28) wn_Town_settle_0 (by decide +kernel))
theorem d_Town_settle_31 : decode b_Town_settle 31 = .ok (.iconst 0, 1) := dc_3 (q0_win (r := 31) wn_Town_settle_0 (by decide +kernel))
theorem d_Town_settle_32 : decode b_Town_settle 32 = .ok (.istore_n 2, 1) := dc_61 (q0_win (r := 32) wn_Town_settle_0 (by decide +kernel))
theorem d_Town_settle_33 : decode b_Town_settle 33 = .ok (.iload_n 2, 1) := dc_28 (q0_win (r := 33) wn_Town_settle_0 (by decide +kernel))
theorem d_Town_settle_34 : decode b_Town_settle 34 = .ok (.aload_n 0, 1) := dc_42 (q0_win (r := 34) wn_Town_settle_0 (by decide +kernel))
theorem d_Town_settle_35 : decode b_Town_settle 35 = .ok (.getfield 49, 3) := dc_180 (qU2_win (r := 35) wn_Town_settle_0 (by decide +kernel))
theorem d_Town_settle_38 : decode b_Town_settle 38 = .ok (.if_icmp .ge 153, 3) := dc_162 (qS2_win (r := 38) wn_Town_settle_0 (by decide +kernel))
theorem d_Town_settle_41 : decode b_Town_settle 41 = .ok (.iload_n 1, 1) := dc_27 (q0_win (r := 41) wn_Town_settle_0 (by decide +kernel))
theorem d_Town_settle_42 : decode b_Town_settle 42 = .ok (.aload_n 0, 1) := dc_42 (q0_win (r := 42) wn_Town_settle_0 (by decide +kernel))
theorem d_Town_settle_43 : decode b_Town_settle 43 = .ok (.getfield 49, 3) := dc_180 (qU2_win (r := 43) wn_Town_settle_0 (by decide +kernel))
theorem d_Town_settle_46 : decode b_Town_settle 46 = .ok (.imul, 1) := dc_104 (q0_win (r := 46) wn_Town_settle_0 (by decide +kernel))
theorem d_Town_settle_47 : decode b_Town_settle 47 = .ok (.iload_n 2, 1) := dc_28 (q0_win (r := 47) wn_Town_settle_0 (by decide +kernel))
theorem d_Town_settle_48 : decode b_Town_settle 48 = .ok (.iadd, 1) := dc_96 (q0_win (r := 48) wn_Town_settle_0 (by decide +kernel))
theorem d_Town_settle_49 : decode b_Town_settle 49 = .ok (.istore_n 3, 1) := dc_62 (q0_win (r := 49) wn_Town_settle_0 (by decide +kernel))
theorem d_Town_settle_50 : decode b_Town_settle 50 = .ok (.aload_n 0, 1) := dc_42 (q0_win (r := 50) wn_Town_settle_0 (by decide +kernel))
theorem d_Town_settle_51 : decode b_Town_settle 51 = .ok (.getfield 36, 3) := dc_180 (qU2_win (r := 51) wn_Town_settle_0 (by decide +kernel))
theorem d_Town_settle_54 : decode b_Town_settle 54 = .ok (.iload_n 3, 1) := dc_29 (q0_win (r := 54) wn_Town_settle_0 (by decide +kernel))
theorem d_Town_settle_55 : decode b_Town_settle 55 = .ok (.iconst 4, 1) := dc_7 (q0_win (r := 55) wn_Town_settle_0 (by decide +kernel))
theorem d_Town_settle_56 : decode b_Town_settle 56 = .ok (.imul, 1) := dc_104 (q0_win (r := 56) wn_Town_settle_0 (by decide +kernel))
theorem d_Town_settle_57 : decode b_Town_settle 57 = .ok (.iload_n 1, 1) := dc_27 (q0_win (r := 57) wn_Town_settle_0 (by decide +kernel))
theorem d_Town_settle_58 : decode b_Town_settle 58 = .ok (.ifCond .le 12, 3) := dc_158 (qS2_win (r := 58) wn_Town_settle_0 (by decide +kernel))
theorem d_Town_settle_61 : decode b_Town_settle 61 = .ok (.iload_n 3, 1) := dc_29 (q0_win (r := 61) wn_Town_settle_0 (by decide +kernel))
theorem d_Town_settle_62 : decode b_Town_settle 62 = .ok (.aload_n 0, 1) := dc_42 (q0_win (r := 62) wn_Town_settle_0 (by decide +kernel))
theorem d_Town_settle_63 : decode b_Town_settle 63 = .ok (.getfield 49, 3) := dc_180 (qU2_win (r := 63) wn_Town_settle_0 (by decide +kernel))
theorem d_Town_settle_66 : decode b_Town_settle 66 = .ok (.isub, 1) := dc_100 (q0_win (r := 66) wn_Town_settle_0 (by decide +kernel))
theorem d_Town_settle_67 : decode b_Town_settle 67 = .ok (.goto 4, 3) := dc_167 (qS2_win (r := 67) wn_Town_settle_0 (by decide +kernel))
theorem d_Town_settle_70 : decode b_Town_settle 70 = .ok (.iconst (-1), 1) := dc_2 (q0_win (r := 70) wn_Town_settle_0 (by decide +kernel))
theorem d_Town_settle_71 : decode b_Town_settle 71 = .ok (.invokestatic 87, 3) := dc_184 (qU2_win (r := 71) wn_Town_settle_0 (by decide +kernel))
theorem d_Town_settle_74 : decode b_Town_settle 74 = .ok (.aload_n 0, 1) := dc_42 (q0_win (r := 74) wn_Town_settle_0 (by decide +kernel))
theorem d_Town_settle_75 : decode b_Town_settle 75 = .ok (.getfield 36, 3) := dc_180 (qU2_win (r := 75) wn_Town_settle_0 (by decide +kernel))
theorem d_Town_settle_78 : decode b_Town_settle 78 = .ok (.iload_n 3, 1) := dc_29 (q0_win (r := 78) wn_Town_settle_0 (by decide +kernel))
theorem d_Town_settle_79 : decode b_Town_settle 79 = .ok (.iconst 4, 1) := dc_7 (q0_win (r := 79) wn_Town_settle_0 (by decide +kernel))
theorem d_Town_settle_80 : decode b_Town_settle 80 = .ok (.imul, 1) := dc_104 (q0_win (r := 80) wn_Town_settle_0 (by decide +kernel))
theorem d_Town_settle_81 : decode b_Town_settle 81 = .ok (.iconst 1, 1) := dc_4 (q0_win (r := 81) wn_Town_settle_0 (by decide +kernel))
theorem d_Town_settle_82 : decode b_Town_settle 82 = .ok (.iadd, 1) := dc_96 (q0_win (r := 82) wn_Town_settle_0 (by decide +kernel))
theorem d_Town_settle_83 : decode b_Town_settle 83 = .ok (.iload_n 2, 1) := dc_28 (q0_win (r := 83) wn_Town_settle_0 (by decide +kernel))
theorem d_Town_settle_84 : decode b_Town_settle 84 = .ok (.aload_n 0, 1) := dc_42 (q0_win (r := 84) wn_Town_settle_0 (by decide +kernel))
theorem d_Town_settle_85 : decode b_Town_settle 85 = .ok (.getfield 49, 3) := dc_180 (qU2_win (r := 85) wn_Town_settle_0 (by decide +kernel))
theorem d_Town_settle_88 : decode b_Town_settle 88 = .ok (.iconst 1, 1) := dc_4 (q0_win (r := 88) wn_Town_settle_0 (by decide +kernel))
theorem d_Town_settle_89 : decode b_Town_settle 89 = .ok (.isub, 1) := dc_100 (q0_win (r := 89) wn_Town_settle_0 (by decide +kernel))
theorem d_Town_settle_90 : decode b_Town_settle 90 = .ok (.if_icmp .ge 9, 3) := dc_162 (qS2_win (r := 90) wn_Town_settle_0 (by decide +kernel))
theorem d_Town_settle_93 : decode b_Town_settle 93 = .ok (.iload_n 3, 1) := dc_29 (q0_win (r := 93) wn_Town_settle_0 (by decide +kernel))
theorem d_Town_settle_94 : decode b_Town_settle 94 = .ok (.iconst 1, 1) := dc_4 (q0_win (r := 94) wn_Town_settle_0 (by decide +kernel))
theorem d_Town_settle_95 : decode b_Town_settle 95 = .ok (.iadd, 1) := dc_96 (q0_win (r := 95) wn_Town_settle_0 (by decide +kernel))
theorem wn_Town_settle_96 : ∀ i, i < 95 → bA b_Town_settle (96 + i) = wB [167, 0, 4, 2, 184, 0, 87, 42, 180, 0, 36, 29, 7, 104, 5, 96, 27, 42, 180, 0, 53, 4, 100, 162, 0, 12, 29, 42, 180, 0, 49, 96, 167, 0, 4, 2, 184, 0, 87, 42, 180, 0, 36, 29, 7, 104, 6, 96, 28, 158, 0, 9, 29, 4, 100, 167, 0, 4, 2, 184, 0, 87, 42, 29, 182, 0, 91, 54, 4, 42, 180, 0, 21, 21, 4, 42, 180, 0, 21, 21, 4, 184, 0, 95, 4, 96, 184, 0, 87, 132, 2, 1, 167, 255, 101] i := wB_of (by decide +kernel)
theorem d_Town_settle_96 : decode b_Town_settle 96 = .ok (.goto 4, 3) := dc_167 (qS2_win (r := 0) wn_Town_settle_96 (by decide +kernel))
theorem d_Town_settle_99 : decode b_Town_settle 99 = .ok (.iconst (-1), 1) := dc_2 (q0_win (r := 3) wn_Town_settle_96 (by decide +kernel))
theorem d_Town_settle_100 : decode b_Town_settle 100 = .ok (.invokestatic 87, 3) := dc_184 (qU2_win (r := 4) wn_Town_settle_96 (by decide +kernel))
theorem d_Town_settle_103 : decode b_Town_settle 103 = .ok (.aload_n 0, 1) := dc_42 (q0_win (r := 7) wn_Town_settle_96 (by decide +kernel))
theorem d_Town_settle_104 : decode b_Town_settle 104 = .ok (.getfield 36, 3) := dc_180 (qU2_win (r := 8) wn_Town_settle_96 (by decide +kernel))
theorem d_Town_settle_107 : decode b_Town_settle 107 = .ok (.iload_n 3, 1) := dc_29 (q0_win (r := 11) wn_Town_settle_96 (by decide +kernel))
theorem d_Town_settle_108 : decode b_Town_settle 108 = .ok (.iconst 4, 1) := dc_7 (q0_win (r := 12) wn_Town_settle_96 (by decide +kernel))
theorem d_Town_settle_109 : decode b_Town_settle 109 = .ok (.imul, 1) := dc_104 (q0_win (r := 13) wn_Town_settle_96 (by decide +kernel))
theorem d_Town_settle_110 : decode b_Town_settle 110 = .ok (.iconst 2, 1) := dc_5 (q0_win (r := 14) wn_Town_settle_96 (by decide +kernel))
theorem d_Town_settle_111 : decode b_Town_settle 111 = .ok (.iadd, 1) := dc_96 (q0_win (r := 15) wn_Town_settle_96 (by decide +kernel))
theorem d_Town_settle_112 : decode b_Town_settle 112 = .ok (.iload_n 1, 1) := dc_27 (q0_win (r := 16) wn_Town_settle_96 (by decide +kernel))
theorem d_Town_settle_113 : decode b_Town_settle 113 = .ok (.aload_n 0, 1) := dc_42 (q0_win (r := 17) wn_Town_settle_96 (by decide +kernel))
theorem d_Town_settle_114 : decode b_Town_settle 114 = .ok (.getfield 53, 3) := dc_180 (qU2_win (r := 18) wn_Town_settle_96 (by decide +kernel))
theorem d_Town_settle_117 : decode b_Town_settle 117 = .ok (.iconst 1, 1) := dc_4 (q0_win (r := 21) wn_Town_settle_96 (by decide +kernel))
theorem d_Town_settle_118 : decode b_Town_settle 118 = .ok (.isub, 1) := dc_100 (q0_win (r := 22) wn_Town_settle_96 (by decide +kernel))
theorem d_Town_settle_119 : decode b_Town_settle 119 = .ok (.if_icmp .ge 12, 3) := dc_162 (qS2_win (r := 23) wn_Town_settle_96 (by decide +kernel))
theorem d_Town_settle_122 : decode b_Town_settle 122 = .ok (.iload_n 3, 1) := dc_29 (q0_win (r := 26) wn_Town_settle_96 (by decide +kernel))
theorem d_Town_settle_123 : decode b_Town_settle 123 = .ok (.aload_n 0, 1) := dc_42 (q0_win (r := 27) wn_Town_settle_96 (by decide +kernel))
theorem d_Town_settle_124 : decode b_Town_settle 124 = .ok (.getfield 49, 3) := dc_180 (qU2_win (r := 28) wn_Town_settle_96 (by decide +kernel))
theorem d_Town_settle_127 : decode b_Town_settle 127 = .ok (.iadd, 1) := dc_96 (q0_win (r := 31) wn_Town_settle_96 (by decide +kernel))
theorem d_Town_settle_128 : decode b_Town_settle 128 = .ok (.goto 4, 3) := dc_167 (qS2_win (r := 32) wn_Town_settle_96 (by decide +kernel))
theorem d_Town_settle_131 : decode b_Town_settle 131 = .ok (.iconst (-1), 1) := dc_2 (q0_win (r := 35) wn_Town_settle_96 (by decide +kernel))
theorem d_Town_settle_132 : decode b_Town_settle 132 = .ok (.invokestatic 87, 3) := dc_184 (qU2_win (r := 36) wn_Town_settle_96 (by decide +kernel))
theorem d_Town_settle_135 : decode b_Town_settle 135 = .ok (.aload_n 0, 1) := dc_42 (q0_win (r := 39) wn_Town_settle_96 (by decide +kernel))
theorem d_Town_settle_136 : decode b_Town_settle 136 = .ok (.getfield 36, 3) := dc_180 (qU2_win (r := 40) wn_Town_settle_96 (by decide +kernel))
theorem d_Town_settle_139 : decode b_Town_settle 139 = .ok (.iload_n 3, 1) := dc_29 (q0_win (r := 43) wn_Town_settle_96 (by decide +kernel))
theorem d_Town_settle_140 : decode b_Town_settle 140 = .ok (.iconst 4, 1) := dc_7 (q0_win (r := 44) wn_Town_settle_96 (by decide +kernel))
theorem d_Town_settle_141 : decode b_Town_settle 141 = .ok (.imul, 1) := dc_104 (q0_win (r := 45) wn_Town_settle_96 (by decide +kernel))
theorem d_Town_settle_142 : decode b_Town_settle 142 = .ok (.iconst 3, 1) := dc_6 (q0_win (r := 46) wn_Town_settle_96 (by decide +kernel))
theorem d_Town_settle_143 : decode b_Town_settle 143 = .ok (.iadd, 1) := dc_96 (q0_win (r := 47) wn_Town_settle_96 (by decide +kernel))
theorem d_Town_settle_144 : decode b_Town_settle 144 = .ok (.iload_n 2, 1) := dc_28 (q0_win (r := 48) wn_Town_settle_96 (by decide +kernel))
theorem d_Town_settle_145 : decode b_Town_settle 145 = .ok (.ifCond .le 9, 3) := dc_158 (qS2_win (r := 49) wn_Town_settle_96 (by decide +kernel))
theorem d_Town_settle_148 : decode b_Town_settle 148 = .ok (.iload_n 3, 1) := dc_29 (q0_win (r := 52) wn_Town_settle_96 (by decide +kernel))
theorem d_Town_settle_149 : decode b_Town_settle 149 = .ok (.iconst 1, 1) := dc_4 (q0_win (r := 53) wn_Town_settle_96 (by decide +kernel))
theorem d_Town_settle_150 : decode b_Town_settle 150 = .ok (.isub, 1) := dc_100 (q0_win (r := 54) wn_Town_settle_96 (by decide +kernel))
theorem d_Town_settle_151 : decode b_Town_settle 151 = .ok (.goto 4, 3) := dc_167 (qS2_win (r := 55) wn_Town_settle_96 (by decide +kernel))
theorem d_Town_settle_154 : decode b_Town_settle 154 = .ok (.iconst (-1), 1) := dc_2 (q0_win (r := 58) wn_Town_settle_96 (by decide +kernel))
theorem d_Town_settle_155 : decode b_Town_settle 155 = .ok (.invokestatic 87, 3) := dc_184 (qU2_win (r := 59) wn_Town_settle_96 (by decide +kernel))
theorem d_Town_settle_158 : decode b_Town_settle 158 = .ok (.aload_n 0, 1) := dc_42 (q0_win (r := 62) wn_Town_settle_96 (by decide +kernel))
theorem d_Town_settle_159 : decode b_Town_settle 159 = .ok (.iload_n 3, 1) := dc_29 (q0_win (r := 63) wn_Town_settle_96 (by decide +kernel))
theorem d_Town_settle_160 : decode b_Town_settle 160 = .ok (.invokevirtual 91, 3) := dc_182 (qU2_win (r := 64) wn_Town_settle_96 (by decide +kernel))
theorem d_Town_settle_163 : decode b_Town_settle 163 = .ok (.istore 4, 2) := dc_54 (qU1_win (r := 67) wn_Town_settle_96 (by decide +kernel))
theorem d_Town_settle_165 : decode b_Town_settle 165 = .ok (.aload_n 0, 1) := dc_42 (q0_win (r := 69) wn_Town_settle_96 (by decide +kernel))
theorem d_Town_settle_166 : decode b_Town_settle 166 = .ok (.getfield 21, 3) := dc_180 (qU2_win (r := 70) wn_Town_settle_96 (by decide +kernel))
theorem d_Town_settle_169 : decode b_Town_settle 169 = .ok (.iload 4, 2) := dc_21 (qU1_win (r := 73) wn_Town_settle_96 (by decide +kernel))
theorem d_Town_settle_171 : decode b_Town_settle 171 = .ok (.aload_n 0, 1) := dc_42 (q0_win (r := 75) wn_Town_settle_96 (by decide +kernel))
theorem d_Town_settle_172 : decode b_Town_settle 172 = .ok (.getfield 21, 3) := dc_180 (qU2_win (r := 76) wn_Town_settle_96 (by decide +kernel))
theorem d_Town_settle_175 : decode b_Town_settle 175 = .ok (.iload 4, 2) := dc_21 (qU1_win (r := 79) wn_Town_settle_96 (by decide +kernel))
theorem d_Town_settle_177 : decode b_Town_settle 177 = .ok (.invokestatic 95, 3) := dc_184 (qU2_win (r := 81) wn_Town_settle_96 (by decide +kernel))
theorem d_Town_settle_180 : decode b_Town_settle 180 = .ok (.iconst 1, 1) := dc_4 (q0_win (r := 84) wn_Town_settle_96 (by decide +kernel))
theorem d_Town_settle_181 : decode b_Town_settle 181 = .ok (.iadd, 1) := dc_96 (q0_win (r := 85) wn_Town_settle_96 (by decide +kernel))
theorem d_Town_settle_182 : decode b_Town_settle 182 = .ok (.invokestatic 87, 3) := dc_184 (qU2_win (r := 86) wn_Town_settle_96 (by decide +kernel))
theorem d_Town_settle_185 : decode b_Town_settle 185 = .ok (.iinc 2 1, 3) := dc_132 (qI_win (r := 89) wn_Town_settle_96 (by decide +kernel))
theorem d_Town_settle_188 : decode b_Town_settle 188 = .ok (.goto (-155), 3) := dc_167 (qS2_win (r := 92) wn_Town_settle_96 (by decide +kernel))
theorem wn_Town_settle_191 : ∀ i, i < 7 → bA b_Town_settle (191 + i) = wB [132, 1, 1, 167, 255, 85, 177] i := wB_of (by decide +kernel)
theorem d_Town_settle_191 : decode b_Town_settle 191 = .ok (.iinc 1 1, 3) := dc_132 (qI_win (r := 0) wn_Town_settle_191 (by decide +kernel))
theorem d_Town_settle_194 : decode b_Town_settle 194 = .ok (.goto (-171), 3) := dc_167 (qS2_win (r := 3) wn_Town_settle_191 (by decide +kernel))
theorem d_Town_settle_197 : decode b_Town_settle 197 = .ok (.return_, 1) := dc_177 (q0_win (r := 6) wn_Town_settle_191 (by decide +kernel))
def t_Town_settle_L155 (k0 : Nat) (bk23 : Mem → Int → Option (Mem)) (bk33 : Mem → Int → Int → Option (Mem)) (M : Mem) (v1_ : Int) (v2_ : Int) (v3_ : Int) (v5_ : Int) (v6_ : Int) : Option (Mem) := (qlet (t_WF_put M (k0 + 9) 192 v5_ v6_) fun q25 => (qlet (t_Town_ownerOf q25 k0 v3_) fun q27 => (qlet (t_WF_look q25 (k0 + 4) 4 q27) fun q29 => (qlet (t_WF_put q25 (k0 + 4) 4 q27 (w32 (q29 + 1))) fun q31 => (bk33 q31 v1_ (w32 (v2_ + 1)))))))
def t_Town_settle_L132 (k0 : Nat) (bk23 : Mem → Int → Option (Mem)) (bk33 : Mem → Int → Int → Option (Mem)) (M : Mem) (v1_ : Int) (v2_ : Int) (v3_ : Int) (v5_ : Int) (v6_ : Int) : Option (Mem) := (qlet (t_WF_put M (k0 + 9) 192 v5_ v6_) fun q22 => (if v2_ ≤ 0 then (t_Town_settle_L155 k0 bk23 bk33 q22 v1_ v2_ v3_ (w32 ((w32 (v3_ * 4)) + 3)) (-1)) else (t_Town_settle_L155 k0 bk23 bk33 q22 v1_ v2_ v3_ (w32 ((w32 (v3_ * 4)) + 3)) (w32 (v3_ - 1)))))
def t_Town_settle_L100 (k0 : Nat) (bk23 : Mem → Int → Option (Mem)) (bk33 : Mem → Int → Int → Option (Mem)) (M : Mem) (v1_ : Int) (v2_ : Int) (v3_ : Int) (v5_ : Int) (v6_ : Int) : Option (Mem) := (qlet (t_WF_put M (k0 + 9) 192 v5_ v6_) fun q17 => (if (w32 ((q17.1 k0 12) - 1)) ≤ v1_ then (t_Town_settle_L132 k0 bk23 bk33 q17 v1_ v2_ v3_ (w32 ((w32 (v3_ * 4)) + 2)) (-1)) else (t_Town_settle_L132 k0 bk23 bk33 q17 v1_ v2_ v3_ (w32 ((w32 (v3_ * 4)) + 2)) (w32 (v3_ + (q17.1 k0 11))))))
def t_Town_settle_L71 (k0 : Nat) (bk23 : Mem → Int → Option (Mem)) (bk33 : Mem → Int → Int → Option (Mem)) (M : Mem) (v1_ : Int) (v2_ : Int) (v3_ : Int) (v5_ : Int) (v6_ : Int) : Option (Mem) := (qlet (t_WF_put M (k0 + 9) 192 v5_ v6_) fun q13 => (if (w32 ((q13.1 k0 11) - 1)) ≤ v2_ then (t_Town_settle_L100 k0 bk23 bk33 q13 v1_ v2_ v3_ (w32 ((w32 (v3_ * 4)) + 1)) (-1)) else (t_Town_settle_L100 k0 bk23 bk33 q13 v1_ v2_ v3_ (w32 ((w32 (v3_ * 4)) + 1)) (w32 (v3_ + 1)))))
def t_Town_settle_L33 (k0 : Nat) (bk23 : Mem → Int → Option (Mem)) : Nat → Mem → Int → Int → Option (Mem)
  | 0, _, _, _ => none
  | fu + 1, M, v1_, v2_ => (if (M.1 k0 11) ≤ v2_ then (bk23 M (w32 (v1_ + 1))) else (if v1_ ≤ 0 then (t_Town_settle_L71 k0 bk23 (fun a0_ a1_ a2_ => t_Town_settle_L33 k0 bk23 fu a0_ a1_ a2_) M v1_ v2_ (w32 ((w32 (v1_ * (M.1 k0 11))) + v2_)) (w32 ((w32 ((w32 (v1_ * (M.1 k0 11))) + v2_)) * 4)) (-1)) else (t_Town_settle_L71 k0 bk23 (fun a0_ a1_ a2_ => t_Town_settle_L33 k0 bk23 fu a0_ a1_ a2_) M v1_ v2_ (w32 ((w32 (v1_ * (M.1 k0 11))) + v2_)) (w32 ((w32 ((w32 (v1_ * (M.1 k0 11))) + v2_)) * 4)) (w32 ((w32 ((w32 (v1_ * (M.1 k0 11))) + v2_)) - (M.1 k0 11))))))
def t_Town_settle_L23 (k0 : Nat)  : Nat → Mem → Int → Option (Mem)
  | 0, _, _ => none
  | fu + 1, M, v1_ => (if (M.1 k0 12) ≤ v1_ then (some M) else (t_Town_settle_L33 k0 (fun a0_ a1_ => t_Town_settle_L23 k0 fu a0_ a1_) FU M v1_ 0))
def t_Town_settle (M : Mem) (k0 : Nat) : Option (Mem) := (qlet (setI M k0 13 (w32 ((M.1 k0 11) * (M.1 k0 12)))) fun M3 => (obind (t_Arrays_fill M3 (k0 + 4) 4 0) fun q4 => (t_Town_settle_L23 k0 FU q4 0)))
set_option maxHeartbeats 4000000 in
set_option maxRecDepth 100000 in
theorem k_Town_settle_L155 (l : Launch) {p : Program} {e : Env} {s : State} {m : MethodId} {below : List Frame} {meth : Method} {c : Code} {b n : Nat} {C : CT} (hlo : 191 ≤ n) (k0 : Nat) (hk0 : isTown k0) (F : Cx b p m c b_Town_settle 5 s ([.ref (b + k0)] : List Value).toArray "WardFalls$Town" C n 191) (hlk : meth.locks = false) (hr : meth.sig.returnType = none) {res : Mem} (bk23 : Mem → Int → Option (Mem)) (hbk23 : ∀ (M : Mem) (v1_ : Int) (hv1_ : InR v1_) (H : Heap) (locs : List Loc) (ls : Array Slot), St b C n M s H locs → lv_has ls 5 [(0, .ref (b + k0)), (1, vI v1_)] → bk23 M v1_ = some res → W p l e (headSpec (wsM y_Town_settle b_Town_settle 5 (none)) (rmD 2)).room s m ([.ref (b + k0)] : List Value).toArray below meth c H locs 0 0 (MQ below (QV b C n res) ([.ref (b + k0)] : List Value).toArray s 0 0 (frb b)) (F0 m 23 ls [])) (bk33 : Mem → Int → Int → Option (Mem)) (hbk33 : ∀ (M : Mem) (v1_ : Int) (hv1_ : InR v1_) (v2_ : Int) (hv2_ : InR v2_) (H : Heap) (locs : List Loc) (ls : Array Slot), St b C n M s H locs → lv_has ls 5 [(0, .ref (b + k0)), (1, vI v1_), (2, vI v2_)] → bk33 M v1_ v2_ = some res → W p l e (headSpec (wsM y_Town_settle b_Town_settle 5 (none)) (rmD 2)).room s m ([.ref (b + k0)] : List Value).toArray below meth c H locs 0 0 (MQ below (QV b C n res) ([.ref (b + k0)] : List Value).toArray s 0 0 (frb b)) (F0 m 33 ls [])) (M : Mem) (v1_ : Int) (hv1_ : InR v1_) (v2_ : Int) (hv2_ : InR v2_) (v3_ : Int) (hv3_ : InR v3_) (v5_ : Int) (hv5_ : InR v5_) (v6_ : Int) (hv6_ : InR v6_) (H : Heap) (locs : List Loc) (ls : Array Slot) (hS : St b C n M s H locs) (hl : lv_has ls 5 [(0, .ref (b + k0)), (1, vI v1_), (2, vI v2_), (3, vI v3_)]) (hT : t_Town_settle_L155 k0 bk23 bk33 M v1_ v2_ v3_ v5_ v6_ = some res) : W p l e (headSpec (wsM y_Town_settle b_Town_settle 5 (none)) (rmD 2)).room s m ([.ref (b + k0)] : List Value).toArray below meth c H locs 0 0 (MQ below (QV b C n res) ([.ref (b + k0)] : List Value).toArray s 0 0 (frb b)) (F0 m 155 ls [vI v6_, vI v5_, .ref (b + (k0 + 9))]) := by
  unfold t_Town_settle_L155 at hT
  obtain ⟨q25, hq25⟩ : ∃ q, q = (t_WF_put M (k0 + 9) 192 v5_ v6_) := ⟨_, rfl⟩
  replace hT := qlet_eq hT hq25
  refine r_backV F hS (r_runSN (As := [.ref (b + (k0 + 9)), vI v5_, vI v6_]) F hS (c_WF_put l F.2.2.1 M (k0 + 9) 192 v5_ v6_ (Town_f8 hk0) hv5_ hv6_ _ hq25.symm) mw_512 mw_511 mw_1 gs_Town_87 hd_WF_put ⟨Nat.le_of_ble_eq_true rfl, Nat.le_of_ble_eq_true rfl⟩ rfl hl.1 (Nat.le_of_ble_eq_true rfl) ⟨Nat.zero_le _, Nat.zero_le _⟩ rfl d_Town_settle_155) (fun H locs hS => ?_)
  refine lv_aload_n F.hx F.hb d_Town_settle_158 rfl (lv_at hl 0 rfl) ?_
  refine lv_iload_n F.hx F.hb d_Town_settle_159 rfl (lv_at hl 3 rfl) ?_
  obtain ⟨q27, hq27⟩ : ∃ q, q = (t_Town_ownerOf q25 k0 v3_) := ⟨_, rfl⟩
  replace hT := qlet_eq hT hq27
  refine r_backI F hS (r_runV (k := k0) (N := 20) (T := T11) (As := [vI v3_]) F hS (Town_lt hk0) (Town_sh hk0) rfl (c_Town_ownerOf l F.2.2.1 q25 k0 v3_ hk0 hv3_ _ hq27.symm) gs_Town_91 hd_Town_ownerOf ⟨Nat.le_of_ble_eq_true rfl, Nat.le_of_ble_eq_true rfl⟩ rfl hl.1 (Nat.le_of_ble_eq_true rfl) ⟨Nat.zero_le _, Nat.zero_le _⟩ rfl d_Town_settle_160) (fun H locs hS h28 => ?_)
  refine lv_istore (lv' := [(4, vI q27), (0, .ref (b + k0)), (1, vI v1_), (2, vI v2_), (3, vI v3_)]) F.hx F.hb d_Town_settle_163 hl (Nat.le_of_ble_eq_true rfl) rfl (fun ls hl => ?_)
  refine lv_aload_n F.hx F.hb d_Town_settle_165 rfl (lv_at hl 1 rfl) ?_
  refine r_get (v := .ref (b + (k0 + 4))) (N := 20) (T := T11) (j := 3) F hS (Town_lt hk0) (Town_sh hk0) (Town_N hk0) rfl (Nat.le_of_ble_eq_true rfl) ing11 mw_98 (Town_g3 hk0 _) d_Town_settle_166 ?_
  refine lv_iload F.hx F.hb d_Town_settle_169 (lv_at hl 0 rfl) ?_
  refine lv_aload_n F.hx F.hb d_Town_settle_171 rfl (lv_at hl 1 rfl) ?_
  refine r_get (v := .ref (b + (k0 + 4))) (N := 20) (T := T11) (j := 3) F hS (Town_lt hk0) (Town_sh hk0) (Town_N hk0) rfl (Nat.le_of_ble_eq_true rfl) ing11 mw_98 (Town_g3 hk0 _) d_Town_settle_172 ?_
  refine lv_iload F.hx F.hb d_Town_settle_175 (lv_at hl 0 rfl) ?_
  obtain ⟨q29, hq29⟩ : ∃ q, q = (t_WF_look q25 (k0 + 4) 4 q27) := ⟨_, rfl⟩
  replace hT := qlet_eq hT hq29
  refine r_backI F hS (r_runSN (As := [.ref (b + (k0 + 4)), vI q27]) F hS (c_WF_look l F.2.2.1 q25 (k0 + 4) 4 q27 (Town_f3 hk0) h28 _ hq29.symm) mw_519 mw_518 mw_1 gs_Town_95 hd_WF_look ⟨Nat.le_of_ble_eq_true rfl, Nat.le_of_ble_eq_true rfl⟩ rfl hl.1 (Nat.le_of_ble_eq_true rfl) ⟨Nat.zero_le _, Nat.zero_le _⟩ rfl d_Town_settle_177) (fun H locs hS h30 => ?_)
  refine r_iconst F.hx F.hb d_Town_settle_180 ?_
  refine r_iadd F.hx F.hb d_Town_settle_181 ?_
  obtain ⟨q31, hq31⟩ : ∃ q, q = (t_WF_put q25 (k0 + 4) 4 q27 (w32 (q29 + 1))) := ⟨_, rfl⟩
  replace hT := qlet_eq hT hq31
  refine r_backV F hS (r_runSN (As := [.ref (b + (k0 + 4)), vI q27, vI (w32 (q29 + 1))]) F hS (c_WF_put l F.2.2.1 q25 (k0 + 4) 4 q27 (w32 (q29 + 1)) (Town_f3 hk0) h28 (inr_w32 _) _ hq31.symm) mw_512 mw_511 mw_1 gs_Town_87 hd_WF_put ⟨Nat.le_of_ble_eq_true rfl, Nat.le_of_ble_eq_true rfl⟩ rfl hl.1 (Nat.le_of_ble_eq_true rfl) ⟨Nat.zero_le _, Nat.zero_le _⟩ rfl d_Town_settle_182) (fun H locs hS => ?_)
  refine lv_iinc (v := Int32.ofInt (w32 (v2_ + 1))) (lv' := [(2, vI (w32 (v2_ + 1))), (4, vI q27), (0, .ref (b + k0)), (1, vI v1_), (3, vI v3_)]) F.hx F.hb d_Town_settle_185 hl (k := 3) rfl (q_of_add _ _) (Nat.le_of_ble_eq_true rfl) rfl (fun ls hl => ?_)
  refine lv_goto (tgt := 33) F.hx F.hb d_Town_settle_188 (by decide) ?_
  exact hbk33 q31 v1_ hv1_ (w32 (v2_ + 1)) (inr_w32 _) _ _ _ hS (lv_sub hl [2, 3, 0] rfl) hT
set_option maxHeartbeats 4000000 in
set_option maxRecDepth 100000 in
theorem k_Town_settle_L132 (l : Launch) {p : Program} {e : Env} {s : State} {m : MethodId} {below : List Frame} {meth : Method} {c : Code} {b n : Nat} {C : CT} (hlo : 191 ≤ n) (k0 : Nat) (hk0 : isTown k0) (F : Cx b p m c b_Town_settle 5 s ([.ref (b + k0)] : List Value).toArray "WardFalls$Town" C n 191) (hlk : meth.locks = false) (hr : meth.sig.returnType = none) {res : Mem} (bk23 : Mem → Int → Option (Mem)) (hbk23 : ∀ (M : Mem) (v1_ : Int) (hv1_ : InR v1_) (H : Heap) (locs : List Loc) (ls : Array Slot), St b C n M s H locs → lv_has ls 5 [(0, .ref (b + k0)), (1, vI v1_)] → bk23 M v1_ = some res → W p l e (headSpec (wsM y_Town_settle b_Town_settle 5 (none)) (rmD 2)).room s m ([.ref (b + k0)] : List Value).toArray below meth c H locs 0 0 (MQ below (QV b C n res) ([.ref (b + k0)] : List Value).toArray s 0 0 (frb b)) (F0 m 23 ls [])) (bk33 : Mem → Int → Int → Option (Mem)) (hbk33 : ∀ (M : Mem) (v1_ : Int) (hv1_ : InR v1_) (v2_ : Int) (hv2_ : InR v2_) (H : Heap) (locs : List Loc) (ls : Array Slot), St b C n M s H locs → lv_has ls 5 [(0, .ref (b + k0)), (1, vI v1_), (2, vI v2_)] → bk33 M v1_ v2_ = some res → W p l e (headSpec (wsM y_Town_settle b_Town_settle 5 (none)) (rmD 2)).room s m ([.ref (b + k0)] : List Value).toArray below meth c H locs 0 0 (MQ below (QV b C n res) ([.ref (b + k0)] : List Value).toArray s 0 0 (frb b)) (F0 m 33 ls [])) (M : Mem) (v1_ : Int) (hv1_ : InR v1_) (v2_ : Int) (hv2_ : InR v2_) (v3_ : Int) (hv3_ : InR v3_) (v5_ : Int) (hv5_ : InR v5_) (v6_ : Int) (hv6_ : InR v6_) (H : Heap) (locs : List Loc) (ls : Array Slot) (hS : St b C n M s H locs) (hl : lv_has ls 5 [(0, .ref (b + k0)), (1, vI v1_), (2, vI v2_), (3, vI v3_)]) (hT : t_Town_settle_L132 k0 bk23 bk33 M v1_ v2_ v3_ v5_ v6_ = some res) : W p l e (headSpec (wsM y_Town_settle b_Town_settle 5 (none)) (rmD 2)).room s m ([.ref (b + k0)] : List Value).toArray below meth c H locs 0 0 (MQ below (QV b C n res) ([.ref (b + k0)] : List Value).toArray s 0 0 (frb b)) (F0 m 132 ls [vI v6_, vI v5_, .ref (b + (k0 + 9))]) := by
  unfold t_Town_settle_L132 at hT
  obtain ⟨q22, hq22⟩ : ∃ q, q = (t_WF_put M (k0 + 9) 192 v5_ v6_) := ⟨_, rfl⟩
  replace hT := qlet_eq hT hq22
  refine r_backV F hS (r_runSN (As := [.ref (b + (k0 + 9)), vI v5_, vI v6_]) F hS (c_WF_put l F.2.2.1 M (k0 + 9) 192 v5_ v6_ (Town_f8 hk0) hv5_ hv6_ _ hq22.symm) mw_512 mw_511 mw_1 gs_Town_87 hd_WF_put ⟨Nat.le_of_ble_eq_true rfl, Nat.le_of_ble_eq_true rfl⟩ rfl hl.1 (Nat.le_of_ble_eq_true rfl) ⟨Nat.zero_le _, Nat.zero_le _⟩ rfl d_Town_settle_132) (fun H locs hS => ?_)
  refine lv_aload_n F.hx F.hb d_Town_settle_135 rfl (lv_at hl 0 rfl) ?_
  refine r_get (v := .ref (b + (k0 + 9))) (N := 20) (T := T11) (j := 8) F hS (Town_lt hk0) (Town_sh hk0) (Town_N hk0) rfl (Nat.le_of_ble_eq_true rfl) ing11 mw_114 (Town_g8 hk0 _) d_Town_settle_136 ?_
  refine lv_iload_n F.hx F.hb d_Town_settle_139 rfl (lv_at hl 3 rfl) ?_
  refine r_iconst F.hx F.hb d_Town_settle_140 ?_
  refine r_imul F.hx F.hb d_Town_settle_141 ?_
  refine r_iconst F.hx F.hb d_Town_settle_142 ?_
  refine r_iadd F.hx F.hb d_Town_settle_143 ?_
  refine lv_iload_n F.hx F.hb d_Town_settle_144 rfl (lv_at hl 2 rfl) ?_
  refine r_if_le (tgt := 154) F.hx F.hb hv2_ d_Town_settle_145 (by decide) (fun c24 => ?_) (fun c24 => ?_)
  · replace hT := (if_pos c24).symm.trans hT
    refine r_iconst F.hx F.hb d_Town_settle_154 ?_
    exact k_Town_settle_L155 l hlo k0 hk0 F hlk hr bk23 hbk23 bk33 hbk33 q22 v1_ hv1_ v2_ hv2_ v3_ hv3_ (w32 ((w32 (v3_ * 4)) + 3)) (inr_w32 _) (-1) (inr_c rfl) _ _ _ hS (lv_sub hl [0, 1, 2, 3] rfl) hT
  · replace hT := (if_neg c24).symm.trans hT
    refine lv_iload_n F.hx F.hb d_Town_settle_148 rfl (lv_at hl 3 rfl) ?_
    refine r_iconst F.hx F.hb d_Town_settle_149 ?_
    refine r_isub F.hx F.hb d_Town_settle_150 ?_
    refine lv_goto (tgt := 155) F.hx F.hb d_Town_settle_151 (by decide) ?_
    exact k_Town_settle_L155 l hlo k0 hk0 F hlk hr bk23 hbk23 bk33 hbk33 q22 v1_ hv1_ v2_ hv2_ v3_ hv3_ (w32 ((w32 (v3_ * 4)) + 3)) (inr_w32 _) (w32 (v3_ - 1)) (inr_w32 _) _ _ _ hS (lv_sub hl [0, 1, 2, 3] rfl) hT
set_option maxHeartbeats 4000000 in
set_option maxRecDepth 100000 in
theorem k_Town_settle_L100 (l : Launch) {p : Program} {e : Env} {s : State} {m : MethodId} {below : List Frame} {meth : Method} {c : Code} {b n : Nat} {C : CT} (hlo : 191 ≤ n) (k0 : Nat) (hk0 : isTown k0) (F : Cx b p m c b_Town_settle 5 s ([.ref (b + k0)] : List Value).toArray "WardFalls$Town" C n 191) (hlk : meth.locks = false) (hr : meth.sig.returnType = none) {res : Mem} (bk23 : Mem → Int → Option (Mem)) (hbk23 : ∀ (M : Mem) (v1_ : Int) (hv1_ : InR v1_) (H : Heap) (locs : List Loc) (ls : Array Slot), St b C n M s H locs → lv_has ls 5 [(0, .ref (b + k0)), (1, vI v1_)] → bk23 M v1_ = some res → W p l e (headSpec (wsM y_Town_settle b_Town_settle 5 (none)) (rmD 2)).room s m ([.ref (b + k0)] : List Value).toArray below meth c H locs 0 0 (MQ below (QV b C n res) ([.ref (b + k0)] : List Value).toArray s 0 0 (frb b)) (F0 m 23 ls [])) (bk33 : Mem → Int → Int → Option (Mem)) (hbk33 : ∀ (M : Mem) (v1_ : Int) (hv1_ : InR v1_) (v2_ : Int) (hv2_ : InR v2_) (H : Heap) (locs : List Loc) (ls : Array Slot), St b C n M s H locs → lv_has ls 5 [(0, .ref (b + k0)), (1, vI v1_), (2, vI v2_)] → bk33 M v1_ v2_ = some res → W p l e (headSpec (wsM y_Town_settle b_Town_settle 5 (none)) (rmD 2)).room s m ([.ref (b + k0)] : List Value).toArray below meth c H locs 0 0 (MQ below (QV b C n res) ([.ref (b + k0)] : List Value).toArray s 0 0 (frb b)) (F0 m 33 ls [])) (M : Mem) (v1_ : Int) (hv1_ : InR v1_) (v2_ : Int) (hv2_ : InR v2_) (v3_ : Int) (hv3_ : InR v3_) (v5_ : Int) (hv5_ : InR v5_) (v6_ : Int) (hv6_ : InR v6_) (H : Heap) (locs : List Loc) (ls : Array Slot) (hS : St b C n M s H locs) (hl : lv_has ls 5 [(0, .ref (b + k0)), (1, vI v1_), (2, vI v2_), (3, vI v3_)]) (hT : t_Town_settle_L100 k0 bk23 bk33 M v1_ v2_ v3_ v5_ v6_ = some res) : W p l e (headSpec (wsM y_Town_settle b_Town_settle 5 (none)) (rmD 2)).room s m ([.ref (b + k0)] : List Value).toArray below meth c H locs 0 0 (MQ below (QV b C n res) ([.ref (b + k0)] : List Value).toArray s 0 0 (frb b)) (F0 m 100 ls [vI v6_, vI v5_, .ref (b + (k0 + 9))]) := by
  unfold t_Town_settle_L100 at hT
  obtain ⟨q17, hq17⟩ : ∃ q, q = (t_WF_put M (k0 + 9) 192 v5_ v6_) := ⟨_, rfl⟩
  replace hT := qlet_eq hT hq17
  refine r_backV F hS (r_runSN (As := [.ref (b + (k0 + 9)), vI v5_, vI v6_]) F hS (c_WF_put l F.2.2.1 M (k0 + 9) 192 v5_ v6_ (Town_f8 hk0) hv5_ hv6_ _ hq17.symm) mw_512 mw_511 mw_1 gs_Town_87 hd_WF_put ⟨Nat.le_of_ble_eq_true rfl, Nat.le_of_ble_eq_true rfl⟩ rfl hl.1 (Nat.le_of_ble_eq_true rfl) ⟨Nat.zero_le _, Nat.zero_le _⟩ rfl d_Town_settle_100) (fun H locs hS => ?_)
  refine lv_aload_n F.hx F.hb d_Town_settle_103 rfl (lv_at hl 0 rfl) ?_
  refine r_get (v := .ref (b + (k0 + 9))) (N := 20) (T := T11) (j := 8) F hS (Town_lt hk0) (Town_sh hk0) (Town_N hk0) rfl (Nat.le_of_ble_eq_true rfl) ing11 mw_114 (Town_g8 hk0 _) d_Town_settle_104 ?_
  refine lv_iload_n F.hx F.hb d_Town_settle_107 rfl (lv_at hl 3 rfl) ?_
  refine r_iconst F.hx F.hb d_Town_settle_108 ?_
  refine r_imul F.hx F.hb d_Town_settle_109 ?_
  refine r_iconst F.hx F.hb d_Town_settle_110 ?_
  refine r_iadd F.hx F.hb d_Town_settle_111 ?_
  refine lv_iload_n F.hx F.hb d_Town_settle_112 rfl (lv_at hl 1 rfl) ?_
  refine lv_aload_n F.hx F.hb d_Town_settle_113 rfl (lv_at hl 0 rfl) ?_
  refine r_get (v := vI (q17.1 k0 12)) (N := 20) (T := T11) (j := 12) F hS (Town_lt hk0) (Town_sh hk0) (Town_N hk0) rfl (Nat.le_of_ble_eq_true rfl) ing11 mw_124 (fv_int rfl) d_Town_settle_114 ?_
  have i19 := hS.rng k0 12
  refine r_iconst F.hx F.hb d_Town_settle_117 ?_
  refine r_isub F.hx F.hb d_Town_settle_118 ?_
  refine r_icmp_ge (tgt := 131) F.hx F.hb hv1_ (inr_w32 _) d_Town_settle_119 (by decide) (fun c20 => ?_) (fun c20 => ?_)
  · replace hT := (if_pos c20).symm.trans hT
    refine r_iconst F.hx F.hb d_Town_settle_131 ?_
    exact k_Town_settle_L132 l hlo k0 hk0 F hlk hr bk23 hbk23 bk33 hbk33 q17 v1_ hv1_ v2_ hv2_ v3_ hv3_ (w32 ((w32 (v3_ * 4)) + 2)) (inr_w32 _) (-1) (inr_c rfl) _ _ _ hS (lv_sub hl [0, 1, 2, 3] rfl) hT
  · replace hT := (if_neg c20).symm.trans hT
    refine lv_iload_n F.hx F.hb d_Town_settle_122 rfl (lv_at hl 3 rfl) ?_
    refine lv_aload_n F.hx F.hb d_Town_settle_123 rfl (lv_at hl 0 rfl) ?_
    refine r_get (v := vI (q17.1 k0 11)) (N := 20) (T := T11) (j := 11) F hS (Town_lt hk0) (Town_sh hk0) (Town_N hk0) rfl (Nat.le_of_ble_eq_true rfl) ing11 mw_121 (fv_int rfl) d_Town_settle_124 ?_
    have i21 := hS.rng k0 11
    refine r_iadd F.hx F.hb d_Town_settle_127 ?_
    refine lv_goto (tgt := 132) F.hx F.hb d_Town_settle_128 (by decide) ?_
    exact k_Town_settle_L132 l hlo k0 hk0 F hlk hr bk23 hbk23 bk33 hbk33 q17 v1_ hv1_ v2_ hv2_ v3_ hv3_ (w32 ((w32 (v3_ * 4)) + 2)) (inr_w32 _) (w32 (v3_ + (q17.1 k0 11))) (inr_w32 _) _ _ _ hS (lv_sub hl [0, 1, 2, 3] rfl) hT
set_option maxHeartbeats 4000000 in
set_option maxRecDepth 100000 in
theorem k_Town_settle_L71 (l : Launch) {p : Program} {e : Env} {s : State} {m : MethodId} {below : List Frame} {meth : Method} {c : Code} {b n : Nat} {C : CT} (hlo : 191 ≤ n) (k0 : Nat) (hk0 : isTown k0) (F : Cx b p m c b_Town_settle 5 s ([.ref (b + k0)] : List Value).toArray "WardFalls$Town" C n 191) (hlk : meth.locks = false) (hr : meth.sig.returnType = none) {res : Mem} (bk23 : Mem → Int → Option (Mem)) (hbk23 : ∀ (M : Mem) (v1_ : Int) (hv1_ : InR v1_) (H : Heap) (locs : List Loc) (ls : Array Slot), St b C n M s H locs → lv_has ls 5 [(0, .ref (b + k0)), (1, vI v1_)] → bk23 M v1_ = some res → W p l e (headSpec (wsM y_Town_settle b_Town_settle 5 (none)) (rmD 2)).room s m ([.ref (b + k0)] : List Value).toArray below meth c H locs 0 0 (MQ below (QV b C n res) ([.ref (b + k0)] : List Value).toArray s 0 0 (frb b)) (F0 m 23 ls [])) (bk33 : Mem → Int → Int → Option (Mem)) (hbk33 : ∀ (M : Mem) (v1_ : Int) (hv1_ : InR v1_) (v2_ : Int) (hv2_ : InR v2_) (H : Heap) (locs : List Loc) (ls : Array Slot), St b C n M s H locs → lv_has ls 5 [(0, .ref (b + k0)), (1, vI v1_), (2, vI v2_)] → bk33 M v1_ v2_ = some res → W p l e (headSpec (wsM y_Town_settle b_Town_settle 5 (none)) (rmD 2)).room s m ([.ref (b + k0)] : List Value).toArray below meth c H locs 0 0 (MQ below (QV b C n res) ([.ref (b + k0)] : List Value).toArray s 0 0 (frb b)) (F0 m 33 ls [])) (M : Mem) (v1_ : Int) (hv1_ : InR v1_) (v2_ : Int) (hv2_ : InR v2_) (v3_ : Int) (hv3_ : InR v3_) (v5_ : Int) (hv5_ : InR v5_) (v6_ : Int) (hv6_ : InR v6_) (H : Heap) (locs : List Loc) (ls : Array Slot) (hS : St b C n M s H locs) (hl : lv_has ls 5 [(0, .ref (b + k0)), (1, vI v1_), (2, vI v2_), (3, vI v3_)]) (hT : t_Town_settle_L71 k0 bk23 bk33 M v1_ v2_ v3_ v5_ v6_ = some res) : W p l e (headSpec (wsM y_Town_settle b_Town_settle 5 (none)) (rmD 2)).room s m ([.ref (b + k0)] : List Value).toArray below meth c H locs 0 0 (MQ below (QV b C n res) ([.ref (b + k0)] : List Value).toArray s 0 0 (frb b)) (F0 m 71 ls [vI v6_, vI v5_, .ref (b + (k0 + 9))]) := by
  unfold t_Town_settle_L71 at hT
  obtain ⟨q13, hq13⟩ : ∃ q, q = (t_WF_put M (k0 + 9) 192 v5_ v6_) := ⟨_, rfl⟩
  replace hT := qlet_eq hT hq13
  refine r_backV F hS (r_runSN (As := [.ref (b + (k0 + 9)), vI v5_, vI v6_]) F hS (c_WF_put l F.2.2.1 M (k0 + 9) 192 v5_ v6_ (Town_f8 hk0) hv5_ hv6_ _ hq13.symm) mw_512 mw_511 mw_1 gs_Town_87 hd_WF_put ⟨Nat.le_of_ble_eq_true rfl, Nat.le_of_ble_eq_true rfl⟩ rfl hl.1 (Nat.le_of_ble_eq_true rfl) ⟨Nat.zero_le _, Nat.zero_le _⟩ rfl d_Town_settle_71) (fun H locs hS => ?_)
  refine lv_aload_n F.hx F.hb d_Town_settle_74 rfl (lv_at hl 0 rfl) ?_
  refine r_get (v := .ref (b + (k0 + 9))) (N := 20) (T := T11) (j := 8) F hS (Town_lt hk0) (Town_sh hk0) (Town_N hk0) rfl (Nat.le_of_ble_eq_true rfl) ing11 mw_114 (Town_g8 hk0 _) d_Town_settle_75 ?_
  refine lv_iload_n F.hx F.hb d_Town_settle_78 rfl (lv_at hl 3 rfl) ?_
  refine r_iconst F.hx F.hb d_Town_settle_79 ?_
  refine r_imul F.hx F.hb d_Town_settle_80 ?_
  refine r_iconst F.hx F.hb d_Town_settle_81 ?_
  refine r_iadd F.hx F.hb d_Town_settle_82 ?_
  refine lv_iload_n F.hx F.hb d_Town_settle_83 rfl (lv_at hl 2 rfl) ?_
  refine lv_aload_n F.hx F.hb d_Town_settle_84 rfl (lv_at hl 0 rfl) ?_
  refine r_get (v := vI (q13.1 k0 11)) (N := 20) (T := T11) (j := 11) F hS (Town_lt hk0) (Town_sh hk0) (Town_N hk0) rfl (Nat.le_of_ble_eq_true rfl) ing11 mw_121 (fv_int rfl) d_Town_settle_85 ?_
  have i15 := hS.rng k0 11
  refine r_iconst F.hx F.hb d_Town_settle_88 ?_
  refine r_isub F.hx F.hb d_Town_settle_89 ?_
  refine r_icmp_ge (tgt := 99) F.hx F.hb hv2_ (inr_w32 _) d_Town_settle_90 (by decide) (fun c16 => ?_) (fun c16 => ?_)
  · replace hT := (if_pos c16).symm.trans hT
    refine r_iconst F.hx F.hb d_Town_settle_99 ?_
    exact k_Town_settle_L100 l hlo k0 hk0 F hlk hr bk23 hbk23 bk33 hbk33 q13 v1_ hv1_ v2_ hv2_ v3_ hv3_ (w32 ((w32 (v3_ * 4)) + 1)) (inr_w32 _) (-1) (inr_c rfl) _ _ _ hS (lv_sub hl [0, 1, 2, 3] rfl) hT
  · replace hT := (if_neg c16).symm.trans hT
    refine lv_iload_n F.hx F.hb d_Town_settle_93 rfl (lv_at hl 3 rfl) ?_
    refine r_iconst F.hx F.hb d_Town_settle_94 ?_
    refine r_iadd F.hx F.hb d_Town_settle_95 ?_
    refine lv_goto (tgt := 100) F.hx F.hb d_Town_settle_96 (by decide) ?_
    exact k_Town_settle_L100 l hlo k0 hk0 F hlk hr bk23 hbk23 bk33 hbk33 q13 v1_ hv1_ v2_ hv2_ v3_ hv3_ (w32 ((w32 (v3_ * 4)) + 1)) (inr_w32 _) (w32 (v3_ + 1)) (inr_w32 _) _ _ _ hS (lv_sub hl [0, 1, 2, 3] rfl) hT
set_option maxHeartbeats 4000000 in
set_option maxRecDepth 100000 in
theorem k_Town_settle_L33 (l : Launch) {p : Program} {e : Env} {s : State} {m : MethodId} {below : List Frame} {meth : Method} {c : Code} {b n : Nat} {C : CT} (hlo : 191 ≤ n) (k0 : Nat) (hk0 : isTown k0) (F : Cx b p m c b_Town_settle 5 s ([.ref (b + k0)] : List Value).toArray "WardFalls$Town" C n 191) (hlk : meth.locks = false) (hr : meth.sig.returnType = none) {res : Mem} (bk23 : Mem → Int → Option (Mem)) (hbk23 : ∀ (M : Mem) (v1_ : Int) (hv1_ : InR v1_) (H : Heap) (locs : List Loc) (ls : Array Slot), St b C n M s H locs → lv_has ls 5 [(0, .ref (b + k0)), (1, vI v1_)] → bk23 M v1_ = some res → W p l e (headSpec (wsM y_Town_settle b_Town_settle 5 (none)) (rmD 2)).room s m ([.ref (b + k0)] : List Value).toArray below meth c H locs 0 0 (MQ below (QV b C n res) ([.ref (b + k0)] : List Value).toArray s 0 0 (frb b)) (F0 m 23 ls [])) : ∀ (fu : Nat) (M : Mem) (v1_ : Int) (hv1_ : InR v1_) (v2_ : Int) (hv2_ : InR v2_) (H : Heap) (locs : List Loc) (ls : Array Slot), St b C n M s H locs → lv_has ls 5 [(0, .ref (b + k0)), (1, vI v1_), (2, vI v2_)] → t_Town_settle_L33 k0 bk23 fu M v1_ v2_ = some res → W p l e (headSpec (wsM y_Town_settle b_Town_settle 5 (none)) (rmD 2)).room s m ([.ref (b + k0)] : List Value).toArray below meth c H locs 0 0 (MQ below (QV b C n res) ([.ref (b + k0)] : List Value).toArray s 0 0 (frb b)) (F0 m 33 ls []) := by
  intro fu
  induction fu with
  | zero => intro M v1_ hv1_ v2_ hv2_ H locs ls hS hl hT; exact absurd hT (by simp [t_Town_settle_L33])
  | succ fu ih =>
    intro M v1_ hv1_ v2_ hv2_ H locs ls hS hl hT
    rw [t_Town_settle_L33] at hT
    refine lv_iload_n F.hx F.hb d_Town_settle_33 rfl (lv_at hl 2 rfl) ?_
    refine lv_aload_n F.hx F.hb d_Town_settle_34 rfl (lv_at hl 0 rfl) ?_
    refine r_get (v := vI (M.1 k0 11)) (N := 20) (T := T11) (j := 11) F hS (Town_lt hk0) (Town_sh hk0) (Town_N hk0) rfl (Nat.le_of_ble_eq_true rfl) ing11 mw_121 (fv_int rfl) d_Town_settle_35 ?_
    have i8 := hS.rng k0 11
    refine r_icmp_ge (tgt := 191) F.hx F.hb hv2_ i8 d_Town_settle_38 (by decide) (fun c9 => ?_) (fun c9 => ?_)
    · replace hT := (if_pos c9).symm.trans hT
      refine lv_iinc (v := Int32.ofInt (w32 (v1_ + 1))) (lv' := [(1, vI (w32 (v1_ + 1))), (0, .ref (b + k0)), (2, vI v2_)]) F.hx F.hb d_Town_settle_191 hl (k := 1) rfl (q_of_add _ _) (Nat.le_of_ble_eq_true rfl) rfl (fun ls hl => ?_)
      refine lv_goto (tgt := 23) F.hx F.hb d_Town_settle_194 (by decide) ?_
      exact hbk23 M (w32 (v1_ + 1)) (inr_w32 _) _ _ _ hS (lv_sub hl [1, 0] rfl) hT
    · replace hT := (if_neg c9).symm.trans hT
      refine lv_iload_n F.hx F.hb d_Town_settle_41 rfl (lv_at hl 1 rfl) ?_
      refine lv_aload_n F.hx F.hb d_Town_settle_42 rfl (lv_at hl 0 rfl) ?_
      refine r_get (v := vI (M.1 k0 11)) (N := 20) (T := T11) (j := 11) F hS (Town_lt hk0) (Town_sh hk0) (Town_N hk0) rfl (Nat.le_of_ble_eq_true rfl) ing11 mw_121 (fv_int rfl) d_Town_settle_43 ?_
      have i10 := hS.rng k0 11
      refine r_imul F.hx F.hb d_Town_settle_46 ?_
      refine lv_iload_n F.hx F.hb d_Town_settle_47 rfl (lv_at hl 2 rfl) ?_
      refine r_iadd F.hx F.hb d_Town_settle_48 ?_
      refine lv_istore_n (lv' := [(3, vI (w32 ((w32 (v1_ * (M.1 k0 11))) + v2_))), (0, .ref (b + k0)), (1, vI v1_), (2, vI v2_)]) F.hx F.hb d_Town_settle_49 rfl hl (Nat.le_of_ble_eq_true rfl) rfl (fun ls hl => ?_)
      refine lv_aload_n F.hx F.hb d_Town_settle_50 rfl (lv_at hl 1 rfl) ?_
      refine r_get (v := .ref (b + (k0 + 9))) (N := 20) (T := T11) (j := 8) F hS (Town_lt hk0) (Town_sh hk0) (Town_N hk0) rfl (Nat.le_of_ble_eq_true rfl) ing11 mw_114 (Town_g8 hk0 _) d_Town_settle_51 ?_
      refine lv_iload_n F.hx F.hb d_Town_settle_54 rfl (lv_at hl 0 rfl) ?_
      refine r_iconst F.hx F.hb d_Town_settle_55 ?_
      refine r_imul F.hx F.hb d_Town_settle_56 ?_
      refine lv_iload_n F.hx F.hb d_Town_settle_57 rfl (lv_at hl 2 rfl) ?_
      refine r_if_le (tgt := 70) F.hx F.hb hv1_ d_Town_settle_58 (by decide) (fun c11 => ?_) (fun c11 => ?_)
      · replace hT := (if_pos c11).symm.trans hT
        refine r_iconst F.hx F.hb d_Town_settle_70 ?_
        exact k_Town_settle_L71 l hlo k0 hk0 F hlk hr bk23 hbk23 (fun a0_ a1_ a2_ => t_Town_settle_L33 k0 bk23 fu a0_ a1_ a2_) ih M v1_ hv1_ v2_ hv2_ (w32 ((w32 (v1_ * (M.1 k0 11))) + v2_)) (inr_w32 _) (w32 ((w32 ((w32 (v1_ * (M.1 k0 11))) + v2_)) * 4)) (inr_w32 _) (-1) (inr_c rfl) _ _ _ hS (lv_sub hl [1, 2, 3, 0] rfl) hT
      · replace hT := (if_neg c11).symm.trans hT
        refine lv_iload_n F.hx F.hb d_Town_settle_61 rfl (lv_at hl 0 rfl) ?_
        refine lv_aload_n F.hx F.hb d_Town_settle_62 rfl (lv_at hl 1 rfl) ?_
        refine r_get (v := vI (M.1 k0 11)) (N := 20) (T := T11) (j := 11) F hS (Town_lt hk0) (Town_sh hk0) (Town_N hk0) rfl (Nat.le_of_ble_eq_true rfl) ing11 mw_121 (fv_int rfl) d_Town_settle_63 ?_
        have i12 := hS.rng k0 11
        refine r_isub F.hx F.hb d_Town_settle_66 ?_
        refine lv_goto (tgt := 71) F.hx F.hb d_Town_settle_67 (by decide) ?_
        exact k_Town_settle_L71 l hlo k0 hk0 F hlk hr bk23 hbk23 (fun a0_ a1_ a2_ => t_Town_settle_L33 k0 bk23 fu a0_ a1_ a2_) ih M v1_ hv1_ v2_ hv2_ (w32 ((w32 (v1_ * (M.1 k0 11))) + v2_)) (inr_w32 _) (w32 ((w32 ((w32 (v1_ * (M.1 k0 11))) + v2_)) * 4)) (inr_w32 _) (w32 ((w32 ((w32 (v1_ * (M.1 k0 11))) + v2_)) - (M.1 k0 11))) (inr_w32 _) _ _ _ hS (lv_sub hl [1, 2, 3, 0] rfl) hT
set_option maxHeartbeats 4000000 in
set_option maxRecDepth 100000 in
theorem k_Town_settle_L23 (l : Launch) {p : Program} {e : Env} {s : State} {m : MethodId} {below : List Frame} {meth : Method} {c : Code} {b n : Nat} {C : CT} (hlo : 191 ≤ n) (k0 : Nat) (hk0 : isTown k0) (F : Cx b p m c b_Town_settle 5 s ([.ref (b + k0)] : List Value).toArray "WardFalls$Town" C n 191) (hlk : meth.locks = false) (hr : meth.sig.returnType = none) {res : Mem} : ∀ (fu : Nat) (M : Mem) (v1_ : Int) (hv1_ : InR v1_) (H : Heap) (locs : List Loc) (ls : Array Slot), St b C n M s H locs → lv_has ls 5 [(0, .ref (b + k0)), (1, vI v1_)] → t_Town_settle_L23 k0 fu M v1_ = some res → W p l e (headSpec (wsM y_Town_settle b_Town_settle 5 (none)) (rmD 2)).room s m ([.ref (b + k0)] : List Value).toArray below meth c H locs 0 0 (MQ below (QV b C n res) ([.ref (b + k0)] : List Value).toArray s 0 0 (frb b)) (F0 m 23 ls []) := by
  intro fu
  induction fu with
  | zero => intro M v1_ hv1_ H locs ls hS hl hT; exact absurd hT (by simp [t_Town_settle_L23])
  | succ fu ih =>
    intro M v1_ hv1_ H locs ls hS hl hT
    rw [t_Town_settle_L23] at hT
    refine lv_iload_n F.hx F.hb d_Town_settle_23 rfl (lv_at hl 1 rfl) ?_
    refine lv_aload_n F.hx F.hb d_Town_settle_24 rfl (lv_at hl 0 rfl) ?_
    refine r_get (v := vI (M.1 k0 12)) (N := 20) (T := T11) (j := 12) F hS (Town_lt hk0) (Town_sh hk0) (Town_N hk0) rfl (Nat.le_of_ble_eq_true rfl) ing11 mw_124 (fv_int rfl) d_Town_settle_25 ?_
    have i6 := hS.rng k0 12
    refine r_icmp_ge (tgt := 197) F.hx F.hb hv1_ i6 d_Town_settle_28 (by decide) (fun c7 => ?_) (fun c7 => ?_)
    · replace hT := (if_pos c7).symm.trans hT
      cases hT
      exact r_vret F hlk hr hS d_Town_settle_197
    · replace hT := (if_neg c7).symm.trans hT
      refine r_iconst F.hx F.hb d_Town_settle_31 ?_
      refine lv_istore_n (lv' := [(2, vI 0), (0, .ref (b + k0)), (1, vI v1_)]) F.hx F.hb d_Town_settle_32 rfl hl (Nat.le_of_ble_eq_true rfl) rfl (fun ls hl => ?_)
      exact k_Town_settle_L33 l hlo k0 hk0 F hlk hr (fun a0_ a1_ => t_Town_settle_L23 k0 fu a0_ a1_) ih FU M v1_ hv1_ 0 (inr_c rfl) _ _ _ hS (lv_sub hl [1, 2, 0] rfl) hT
set_option maxHeartbeats 4000000 in
set_option maxRecDepth 100000 in
theorem c_Town_settle (l : Launch) {b n : Nat} {C : CT} (hlo : 191 ≤ n) (M : Mem) (k0 : Nat) (hk0 : isTown k0) (res : Mem) (hT : t_Town_settle M k0 = some res) : CM l b C n 2 y_Town_settle b_Town_settle 5 (none) [.ref (b + k0)] M (QV b C n res) := by
  refine CM.of (lo := 191) (ow := "WardFalls$Town") (by decide) rfl (Nat.le_of_ble_eq_true rfl) hlo (fun p e s m below meth c F hlk hr hS ls hl => ?_)
  have hl : lv_has ls 5 [(0, .ref (b + k0))] := hl
  unfold t_Town_settle at hT
  refine lv_aload_n F.hx F.hb d_Town_settle_0 rfl (lv_at hl 0 rfl) ?_
  refine lv_aload_n F.hx F.hb d_Town_settle_1 rfl (lv_at hl 0 rfl) ?_
  refine r_get (v := vI (M.1 k0 11)) (N := 20) (T := T11) (j := 11) F hS (Town_lt hk0) (Town_sh hk0) (Town_N hk0) rfl (Nat.le_of_ble_eq_true rfl) ing11 mw_121 (fv_int rfl) d_Town_settle_2 ?_
  have i1 := hS.rng k0 11
  refine lv_aload_n F.hx F.hb d_Town_settle_5 rfl (lv_at hl 0 rfl) ?_
  refine r_get (v := vI (M.1 k0 12)) (N := 20) (T := T11) (j := 12) F hS (Town_lt hk0) (Town_sh hk0) (Town_N hk0) rfl (Nat.le_of_ble_eq_true rfl) ing11 mw_124 (fv_int rfl) d_Town_settle_6 ?_
  have i2 := hS.rng k0 12
  refine r_imul F.hx F.hb d_Town_settle_9 ?_
  refine r_putI (N := 20) (T := T11) (j := 13) F hS (Town_lt hk0) (Town_sh hk0) (Town_N hk0) rfl (Nat.le_of_ble_eq_true rfl) ing11 tyok11 nm11 rfl rfl rfl rfl rfl (Town_dyn hk0 _) mw_128 (inr_w32 _) d_Town_settle_10 (fun H locs hS => ?_)
  obtain ⟨M3, eM3⟩ : ∃ q, q = (setI M k0 13 (w32 ((M.1 k0 11) * (M.1 k0 12)))) := ⟨_, rfl⟩
  replace hS : St b C n M3 s H locs := by rw [eM3]; exact hS
  replace hT := qlet_eq hT eM3
  refine lv_aload_n F.hx F.hb d_Town_settle_13 rfl (lv_at hl 0 rfl) ?_
  refine r_get (v := .ref (b + (k0 + 4))) (N := 20) (T := T11) (j := 3) F hS (Town_lt hk0) (Town_sh hk0) (Town_N hk0) rfl (Nat.le_of_ble_eq_true rfl) ing11 mw_98 (Town_g3 hk0 _) d_Town_settle_14 ?_
  refine r_iconst F.hx F.hb d_Town_settle_17 ?_
  obtain ⟨q4, hq4, hT⟩ := q_obind hT
  refine r_backV F hS (r_runS (As := [.ref (b + (k0 + 4)), vI 0]) F hS (c_Arrays_fill l F.2.2.1 M3 (k0 + 4) 4 0 (Town_f3 hk0) (inr_c rfl) _ hq4) gs_Town_78 hd_Arrays_fill ⟨Nat.le_of_ble_eq_true rfl, Nat.le_of_ble_eq_true rfl⟩ rfl hl.1 (Nat.le_of_ble_eq_true rfl) ⟨Nat.zero_le _, Nat.zero_le _⟩ rfl d_Town_settle_18) (fun H locs hS => ?_)
  refine r_iconst F.hx F.hb d_Town_settle_21 ?_
  refine lv_istore_n (lv' := [(1, vI 0), (0, .ref (b + k0))]) F.hx F.hb d_Town_settle_22 rfl hl (Nat.le_of_ble_eq_true rfl) rfl (fun ls hl => ?_)
  exact k_Town_settle_L23 l hlo k0 hk0 F hlk hr FU q4 0 (inr_c rfl) _ _ _ hS (lv_sub hl [1, 0] rfl) hT
theorem d_WF_copyRow_0 : decode b_WF_copyRow 0 = .ok (.aload_n 0, 1) := dc_42 (by decide +kernel)
theorem d_WF_copyRow_1 : decode b_WF_copyRow 1 = .ok (.iconst 0, 1) := dc_3 (by decide +kernel)
theorem d_WF_copyRow_2 : decode b_WF_copyRow 2 = .ok (.aload_n 1, 1) := dc_43 (by decide +kernel)
theorem d_WF_copyRow_3 : decode b_WF_copyRow 3 = .ok (.iconst 0, 1) := dc_3 (by decide +kernel)
theorem d_WF_copyRow_4 : decode b_WF_copyRow 4 = .ok (.aload_n 0, 1) := dc_42 (by decide +kernel)
theorem d_WF_copyRow_5 : decode b_WF_copyRow 5 = .ok (.arraylength, 1) := dc_190 (by decide +kernel)
theorem d_WF_copyRow_6 : decode b_WF_copyRow 6 = .ok (.aload_n 1, 1) := dc_43 (by decide +kernel)
theorem d_WF_copyRow_7 : decode b_WF_copyRow 7 = .ok (.arraylength, 1) := dc_190 (by decide +kernel)
theorem d_WF_copyRow_8 : decode b_WF_copyRow 8 = .ok (.invokestatic 449, 3) := dc_184 (by decide +kernel)
theorem d_WF_copyRow_11 : decode b_WF_copyRow 11 = .ok (.invokestatic 454, 3) := dc_184 (by decide +kernel)
theorem d_WF_copyRow_14 : decode b_WF_copyRow 14 = .ok (.return_, 1) := dc_177 (by decide +kernel)
def cpyM (M : Mem) (r1 r2 : Nat) (n9 : Int) : Mem := (fun k j => if k = r2 ∧ 0 ≤ j ∧ j < n9 then M.1 r1 j else M.1 k j, M.2)
theorem St_cpy {b n : Nat} {C : CT} {M : Mem} {s : State} {H H1 : Heap} {locs : List Loc} {r1 r2 N2 : Nat} {n9 : Int} (hS : St b C n M s H locs) (hrn : r2 < n) (h2 : shK r2 = 0) (hN2 : shN r2 = N2) (L : List Loc) (hL : ∀ q ∈ L, q.base = b + r2) (z : H1.size = H.size) (oq : ∀ q : Nat, q ≠ b + r2 → H1[q]? = H[q]?)
    (hc : H1[b + r2]? = some (arrV (C.2.2.1 0) N2 (fun j => vI ((cpyM M r1 r2 n9).1 r2 (j : Int))))) : St b C n (cpyM M r1 r2 n9) s H1 (locs ++ L) := by
  obtain ⟨g1, g2, g3, g4, g5⟩ := hS
  have hne : ∀ k' j', k' ≠ r2 → (cpyM M r1 r2 n9).1 k' j' = M.1 k' j' := fun k' j' h => if_neg (fun q => h q.1)
  have h0 : (0 : Nat) ≠ r2 := fun e => by rw [← e] at h2; exact absurd h2 (by decide)
  have h46 : (46 : Nat) ≠ r2 := fun e => by rw [← e] at h2; exact absurd h2 (by decide)
  have hGM : ∀ k' j', GM (cpyM M r1 r2 n9) k' j' = GM M k' j' := fun k' j' => by
    unfold GM
    by_cases hd : dyn k' j' = true
    · rw [if_pos hd, if_pos hd]
      refine hne _ _ (fun e => ?_)
      rw [e, dyn_lo (by omega)] at hd
      cases hd
    · rw [if_neg hd, if_neg hd]
  refine ⟨by rw [z]; exact g1, ?_, fun q hq => (oq q (Nat.ne_of_lt (Nat.lt_of_lt_of_le hq (Nat.le_add_right b r2)))).trans (g3 q hq), ⟨?_, ?_, ?_, ?_⟩, ?_⟩
  · refine HP_put g2 (fun k' j' h => ⟨hne _ _ h, rfl⟩) (fun k' j' _ => hGM k' j') oq (fun _ => ?_)
    refine cell_lo (a := 0) (by omega) h2 ?_
    rw [hc, hN2]
    rfl
  · intro k j
    show InR (if _ then _ else _)
    split
    · exact g4.1 _ _
    · exact g4.1 _ _
  · unfold DynOK
    rw [hne _ _ h0, hne _ _ h0, hne _ _ h46]
    exact g4.2.1
  · intro k j hk
    rw [hne _ _ (fun e => by rw [e, h2] at hk; cases hk)]
    exact g4.2.2.1 k j hk
  · intro k j hk hd
    rw [hne _ _ (by omega)]
    exact g4.2.2.2 k j hk hd
  · refine ⟨by rw [z]; exact g5.1, fun q q1 q2 => (oq q (fun e => q2 (by rw [e]; show b ≤ b + r2; omega))).trans (g5.2.1 q q1 q2), fun q hq => ?_⟩
    rcases List.mem_append.mp hq with h | h
    · exact g5.2.2 q h
    · show b ≤ q.base
      rw [hL q h]
      omega
section RCP
variable {p : Program} {l : Launch} {e : Env} {R : Room} {s : State} {m : MethodId} {args : Array Value} {below : List Frame} {meth : Method} {c : Code} {H : Heap} {locs : List Loc} {cells slots : Nat} {Q : State → Prop}
variable {cc : ByteArray} {pc nL lo : Nat} {ls : Array Slot} {rest : List Value} {own : String} {b n : Nat} {C : CT} {M : Mem}
theorem r_copyI {index r1 N1 r2 N2 : Nat} {n9 : Int} (F : Cx b p m c cc nL s args own C n lo) (hsz : ls.size = nL) (hS : St b C n M s H locs) (h1 : arrP 0 r1 N1 lo) (h2 : arrP 0 r2 N2 lo) (hr : InR n9) (hn0 : 0 ≤ n9) (hn1 : n9 ≤ (N1 : Int)) (hn2 : n9 ≤ (N2 : Int))
    (hlink : Cond.methodLink own index arraycopyName ∈ lw_good) (hnat : Cond.native arraycopyName ∈ lw_good) (hstat : Cond.static arraycopyName ∈ lw_good) (hini : Cond.initialized "java/lang/System" ∈ lw_good)
    (hframes : 1 ≤ R.frames) (hlocals : (rest.map fun v => v.category).sum + (nativeFrameWords "java/lang/System" "arraycopy" 5 + 11) ≤ R.locals) (hdg : decode cc pc = .ok (.invokestatic index, 3))
    (kk : ∀ (H1 : Heap) (locs1 : List Loc), St b C n (cpyM M r1 r2 n9) s H1 locs1 → W p l e R s m args below meth c H1 locs1 cells slots Q (F0 m (pc + 3) ls rest)) : W p l e R s m args below meth c H locs cells slots Q (F0 m pc ls (vI n9 :: vI 0 :: .ref (b + r2) :: vI 0 :: .ref (b + r1) :: rest)) := by
  obtain ⟨hx, hb, hml, hown, hts⟩ := F.1
  have z0 : (Int32.ofInt 0).toNatClampNeg = 0 := rfl
  have zn : (Int32.ofInt n9).toNatClampNeg = n9.toNat := q_nn_of hr
  have nneg : ¬ Int32.ofInt n9 < 0 := fun q => by
    rw [show (0 : Int32) = Int32.ofInt 0 from rfl, q_of_lt hr (inr_c rfl)] at q
    omega
  have c1 := (hS.2.1 r1 (F.lt h1.2.2)).1 h1.1
  have c2 := (hS.2.1 r2 (F.lt h2.2.2)).1 h2.1
  rw [h1.2.1] at c1
  rw [h2.2.1] at c2
  intro T hT X
  obtain ⟨-, k0, hk0, cm0, hkk0⟩ := (F.2.1.2 0 _ rfl).1 N1 (fun j => vI (M.1 r1 j))
  obtain ⟨-, k1, hk1, cm1, hkk1⟩ := (F.2.1.2 0 _ rfl).1 N2 (fun j => vI (M.1 r2 j))
  have hti : (Int32.ofInt n9).toInt = n9 := q_toInt_of hr
  have hti0 : (Int32.ofInt 0).toInt = 0 := rfl
  obtain ⟨vm', X', step⟩ := X.arraycopy hx hown (F.hts hlink) (F.hts hnat) (F.hts hstat) (F.hts hini) (src := b + r1) (dst := b + r2) (cs := arrV (C.2.2.1 0) N1 (fun j => vI (M.1 r1 j))) (cd := arrV (C.2.2.1 0) N2 (fun j => vI (M.1 r2 j))) (srcPos := Int32.ofInt 0) (destPos := Int32.ofInt 0) (n := Int32.ofInt n9) (by rw [hT]; exact c1) (by rw [hT]; exact c2)
    (fun _ h => by cases h) (fun _ h => by cases h) (fun h => by cases h) (fun h => by cases h) hk0 hk1 hkk0 hkk1 (by simp [show refKind FieldType.int = false from rfl]) (by decide) (by decide) nneg
    (by rw [hti, hti0]; show ¬ _ > ((arrV _ N1 _).slots.size : Int); rw [arrV_size]; omega)
    (by rw [hti, hti0]; show ¬ _ > ((arrV _ N2 _).slots.size : Int); rw [arrV_size]; omega)
    (fun vm₁ _ i hi => by
      have hi2 : i < n9.toNat := by rw [← zn]; exact hi
      have e : (arrV (C.2.2.1 0) N1 (fun j => vI (M.1 r1 j))).slots.getD ((Int32.ofInt 0).toNatClampNeg + i) .null = vI (M.1 r1 ((0 + i : Nat) : Int)) := by
        rw [Array.getD_eq_getD_getElem?, z0, arrV_read _ _ (by omega)]
        rfl
      refine ⟨?_, ?_⟩
      · rw [e]; rfl
      · rw [e]; exact trivial)
    (g := F0 m pc ls (vI n9 :: vI 0 :: .ref (b + r2) :: vI 0 :: .ref (b + r1) :: rest)) rfl (by rw [hml]; exact hsz) (rest := rest) rfl (by rw [hb]; exact hdg) hframes (by show 2 * 0 + _ + _ ≤ _; omega)
  have e1 : copied (arrV (C.2.2.1 0) N1 (fun j => vI (M.1 r1 j))) (arrV (C.2.2.1 0) N2 (fun j => vI (M.1 r2 j))) (Int32.ofInt 0) (Int32.ofInt 0) (Int32.ofInt n9) = arrV (C.2.2.1 0) N2 (fun j => vI ((cpyM M r1 r2 n9).1 r2 (j : Int))) := by
    refine (va_copied (sp := (Int32.ofInt 0).toNatClampNeg) (dp := (Int32.ofInt 0).toNatClampNeg) (n := (Int32.ofInt n9).toNatClampNeg) (fun z => vI z) (C.2.2.1 0) (C.2.2.1 0) (fun j : Nat => M.1 r1 (j : Int)) (fun j : Nat => M.1 r2 (j : Int)) (by rw [zn, z0]; omega)).trans ?_
    congr 1
    funext j
    rw [zn, z0]
    unfold va_cpy cpyM
    by_cases hj : j < n9.toNat
    · rw [if_pos ⟨by omega, by omega⟩]
      show vI (M.1 r1 ((0 + (j - 0) : Nat) : Int)) = vI (if _ then _ else _)
      rw [if_pos ⟨rfl, by omega, by omega⟩]
      simp
    · rw [if_neg (by omega)]
      show vI (M.1 r2 (j : Int)) = vI (if _ then _ else _)
      rw [if_neg (by omega)]
  rw [e1] at X' step
  have hl : b + r2 < H.size := (Array.getElem?_eq_some_iff.mp c2).1
  have hheap : ((T.setVm vm').setCell (b + r2) (arrV (C.2.2.1 0) N2 (fun j => vI ((cpyM M r1 r2 n9).1 r2 (j : Int))))).heap = H.setIfInBounds (b + r2) (arrV (C.2.2.1 0) N2 (fun j => vI ((cpyM M r1 r2 n9).1 r2 (j : Int)))) := by rw [← hT]; rfl
  have oq : ∀ q : Nat, q ≠ b + r2 → (H.setIfInBounds (b + r2) (arrV (C.2.2.1 0) N2 (fun j => vI ((cpyM M r1 r2 n9).1 r2 (j : Int)))))[q]? = H[q]? := fun q hq => by simp [Array.getElem?_setIfInBounds, Ne.symm hq]
  obtain ⟨t, a1, b1⟩ := kk _ _ (St_cpy (N2 := N2) hS (F.lt h2.2.2) h2.1 h2.2.1 _ (fun q hq => by
      obtain ⟨z, -, hz⟩ := List.mem_map.mp hq
      rw [← hz]) (by simp) oq (by simp [Array.getElem?_setIfInBounds, hl])) _ hheap X'
  exact ⟨t, step t a1, b1⟩
end RCP
def t_WF_copyRow (M : Mem) (r1 N1 r2 N2 : Nat) : Mem := cpyM M r1 r2 (q_min (N1 : Int) (N2 : Int))
set_option maxHeartbeats 4000000 in
theorem c_WF_copyRow (l : Launch) {b n : Nat} {C : CT} (hlo : 191 ≤ n) (M : Mem) (r1 : Nat) (N1 : Nat) (r2 : Nat) (N2 : Nat) (hr1 : arrP 0 r1 N1 191) (hr2 : arrP 0 r2 N2 191) (res : Mem) (hT : t_WF_copyRow M r1 N1 r2 N2 = res) : CM l b C n 2 y_WF_copyRow b_WF_copyRow 2 (none) [.ref (b + r1), .ref (b + r2)] M (QV b C n res) := by
  refine CM.of (lo := 191) (ow := "WardFalls") (by decide) rfl (Nat.le_of_ble_eq_true rfl) hlo (fun p e s m below meth c F hlk hr hS ls hl => ?_)
  have hl : lv_has ls 2 [(0, .ref (b + r1)), (1, .ref (b + r2))] := hl
  refine lv_aload_n F.hx F.hb d_WF_copyRow_0 rfl (lv_at hl 0 rfl) ?_
  refine r_iconst F.hx F.hb d_WF_copyRow_1 ?_
  refine lv_aload_n F.hx F.hb d_WF_copyRow_2 rfl (lv_at hl 1 rfl) ?_
  refine r_iconst F.hx F.hb d_WF_copyRow_3 ?_
  refine lv_aload_n F.hx F.hb d_WF_copyRow_4 rfl (lv_at hl 0 rfl) ?_
  refine r_alen F hS hr1.2.2 (by rw [hr1.1]; decide) hr1.2.1 d_WF_copyRow_5 rfl ?_
  refine lv_aload_n F.hx F.hb d_WF_copyRow_6 rfl (lv_at hl 1 rfl) ?_
  refine r_alen F hS hr2.2.2 (by rw [hr2.1]; decide) hr2.2.1 d_WF_copyRow_7 rfl ?_
  refine r_mmin F hl.1 mw_531 mw_532 mw_14 mw_533 ⟨Nat.le_of_ble_eq_true rfl, Nat.le_of_ble_eq_true rfl⟩ (Nat.le_of_ble_eq_true rfl) ⟨Nat.zero_le _, Nat.zero_le _⟩ (inr_len hr1) (inr_len hr2) d_WF_copyRow_8 ?_
  have hq : 0 ≤ q_min (N1 : Int) (N2 : Int) ∧ q_min (N1 : Int) (N2 : Int) ≤ (N1 : Int) ∧ q_min (N1 : Int) (N2 : Int) ≤ (N2 : Int) := by
    unfold q_min
    split <;> omega
  refine r_copyI F hl.1 hS hr1 hr2 (inr_min (inr_len hr1) (inr_len hr2)) hq.1 hq.2.1 hq.2.2 mw_534 mw_536 mw_535 mw_15 (Nat.le_of_ble_eq_true rfl) (Nat.le_of_ble_eq_true rfl) d_WF_copyRow_11 (fun H locs hS => ?_)
  subst hT
  exact r_vret F hlk hr hS d_WF_copyRow_14

theorem d_Scene_begin_0 : decode b_Scene_begin 0 = .ok (.aload_n 1, 1) := dc_43 (by decide +kernel)
theorem d_Scene_begin_1 : decode b_Scene_begin 1 = .ok (.getfield 24, 3) := dc_180 (by decide +kernel)
theorem d_Scene_begin_4 : decode b_Scene_begin 4 = .ok (.aload_n 0, 1) := dc_42 (by decide +kernel)
theorem d_Scene_begin_5 : decode b_Scene_begin 5 = .ok (.getfield 9, 3) := dc_180 (by decide +kernel)
theorem d_Scene_begin_8 : decode b_Scene_begin 8 = .ok (.invokestatic 29, 3) := dc_184 (by decide +kernel)
theorem d_Scene_begin_11 : decode b_Scene_begin 11 = .ok (.aload_n 1, 1) := dc_43 (by decide +kernel)
theorem d_Scene_begin_12 : decode b_Scene_begin 12 = .ok (.getfield 33, 3) := dc_180 (by decide +kernel)
theorem d_Scene_begin_15 : decode b_Scene_begin 15 = .ok (.aload_n 0, 1) := dc_42 (by decide +kernel)
theorem d_Scene_begin_16 : decode b_Scene_begin 16 = .ok (.getfield 15, 3) := dc_180 (by decide +kernel)
theorem d_Scene_begin_19 : decode b_Scene_begin 19 = .ok (.invokestatic 29, 3) := dc_184 (by decide +kernel)
theorem d_Scene_begin_22 : decode b_Scene_begin 22 = .ok (.aload_n 0, 1) := dc_42 (by decide +kernel)
theorem d_Scene_begin_23 : decode b_Scene_begin 23 = .ok (.getfield 18, 3) := dc_180 (by decide +kernel)
theorem d_Scene_begin_26 : decode b_Scene_begin 26 = .ok (.iconst 0, 1) := dc_3 (by decide +kernel)
theorem d_Scene_begin_27 : decode b_Scene_begin 27 = .ok (.invokestatic 36, 3) := dc_184 (by decide +kernel)
theorem d_Scene_begin_30 : decode b_Scene_begin 30 = .ok (.aload_n 0, 1) := dc_42 (by decide +kernel)
theorem d_Scene_begin_31 : decode b_Scene_begin 31 = .ok (.getfield 21, 3) := dc_180 (by decide +kernel)
theorem d_Scene_begin_34 : decode b_Scene_begin 34 = .ok (.iconst 0, 1) := dc_3 (by decide +kernel)
theorem d_Scene_begin_35 : decode b_Scene_begin 35 = .ok (.invokestatic 36, 3) := dc_184 (by decide +kernel)
theorem d_Scene_begin_38 : decode b_Scene_begin 38 = .ok (.aload_n 0, 1) := dc_42 (by decide +kernel)
theorem d_Scene_begin_39 : decode b_Scene_begin 39 = .ok (.aload_n 1, 1) := dc_43 (by decide +kernel)
theorem d_Scene_begin_40 : decode b_Scene_begin 40 = .ok (.getfield 42, 3) := dc_180 (by decide +kernel)
theorem d_Scene_begin_43 : decode b_Scene_begin 43 = .ok (.putfield 46, 3) := dc_181 (by decide +kernel)
theorem d_Scene_begin_46 : decode b_Scene_begin 46 = .ok (.aload_n 0, 1) := dc_42 (by decide +kernel)
theorem d_Scene_begin_47 : decode b_Scene_begin 47 = .ok (.lconst 0, 1) := dc_9 (by decide +kernel)
theorem d_Scene_begin_48 : decode b_Scene_begin 48 = .ok (.putfield 47, 3) := dc_181 (by decide +kernel)
theorem d_Scene_begin_51 : decode b_Scene_begin 51 = .ok (.aload_n 0, 1) := dc_42 (by decide +kernel)
theorem d_Scene_begin_52 : decode b_Scene_begin 52 = .ok (.lconst 0, 1) := dc_9 (by decide +kernel)
theorem d_Scene_begin_53 : decode b_Scene_begin 53 = .ok (.putfield 50, 3) := dc_181 (by decide +kernel)
theorem d_Scene_begin_56 : decode b_Scene_begin 56 = .ok (.return_, 1) := dc_177 (by decide +kernel)
def t_Scene_begin (M : Mem) (k0 : Nat) (k1 : Nat) : Option (Mem) := (qlet (t_WF_copyRow M (k1 + 2) 4 (k0 + 1) 4) fun q1 => (qlet (t_WF_copyRow q1 (k1 + 7) 8 (k0 + 2) 8) fun q3 => (obind (t_Arrays_fill q3 (k0 + 3) 8 0) fun q5 => (obind (t_Arrays_fill q5 (k0 + 4) 8 0) fun q7 => (qlet (setL q7 k0 4 (q7.2 k1 18)) fun M9 => (qlet (setL M9 k0 5 0) fun M10 => (qlet (setL M10 k0 6 0) fun M11 => (some M11))))))))
set_option maxHeartbeats 4000000 in
set_option maxRecDepth 100000 in
theorem c_Scene_begin (l : Launch) {b n : Nat} {C : CT} (hlo : 191 ≤ n) (M : Mem) (k0 : Nat) (k1 : Nat) (hk0 : isScene k0) (hk1 : isTown k1) (res : Mem) (hT : t_Scene_begin M k0 k1 = some res) : CM l b C n 3 y_Scene_begin b_Scene_begin 2 (none) [.ref (b + k0), .ref (b + k1)] M (QV b C n res) := by
  refine CM.of (lo := 191) (ow := "WardFalls$Scene") (by decide) rfl (Nat.le_of_ble_eq_true rfl) hlo (fun p e s m below meth c F hlk hr hS ls hl => ?_)
  have hl : lv_has ls 2 [(0, .ref (b + k0)), (1, .ref (b + k1))] := hl
  unfold t_Scene_begin at hT
  refine lv_aload_n F.hx F.hb d_Scene_begin_0 rfl (lv_at hl 1 rfl) ?_
  refine r_get (v := .ref (b + (k1 + 2))) (N := 20) (T := T11) (j := 1) F hS (Town_lt hk1) (Town_sh hk1) (Town_N hk1) rfl (Nat.le_of_ble_eq_true rfl) ing11 mw_92 (Town_g1 hk1 _) d_Scene_begin_1 ?_
  refine lv_aload_n F.hx F.hb d_Scene_begin_4 rfl (lv_at hl 0 rfl) ?_
  refine r_get (v := .ref (b + (k0 + 1))) (N := 7) (T := T9) (j := 0) F hS (Scene_lt hk0) (Scene_sh hk0) (Scene_N hk0) rfl (Nat.le_of_ble_eq_true rfl) ing9 mw_272 (Scene_g0 hk0 _) d_Scene_begin_5 ?_
  obtain ⟨q1, hq1⟩ : ∃ q, q = (t_WF_copyRow M (k1 + 2) 4 (k0 + 1) 4) := ⟨_, rfl⟩
  replace hT := qlet_eq hT hq1
  refine r_backV F hS (r_runSN (As := [.ref (b + (k1 + 2)), .ref (b + (k0 + 1))]) F hS (c_WF_copyRow l F.2.2.1 M (k1 + 2) 4 (k0 + 1) 4 (Town_f1 hk1) (Scene_f0 hk0) _ hq1.symm) mw_530 mw_529 mw_1 gs_Scene_29 hd_WF_copyRow ⟨Nat.le_of_ble_eq_true rfl, Nat.le_of_ble_eq_true rfl⟩ rfl hl.1 (Nat.le_of_ble_eq_true rfl) ⟨Nat.zero_le _, Nat.zero_le _⟩ rfl d_Scene_begin_8) (fun H locs hS => ?_)
  refine lv_aload_n F.hx F.hb d_Scene_begin_11 rfl (lv_at hl 1 rfl) ?_
  refine r_get (v := .ref (b + (k1 + 7))) (N := 20) (T := T11) (j := 6) F hS (Town_lt hk1) (Town_sh hk1) (Town_N hk1) rfl (Nat.le_of_ble_eq_true rfl) ing11 mw_109 (Town_g6 hk1 _) d_Scene_begin_12 ?_
  refine lv_aload_n F.hx F.hb d_Scene_begin_15 rfl (lv_at hl 0 rfl) ?_
  refine r_get (v := .ref (b + (k0 + 2))) (N := 7) (T := T9) (j := 1) F hS (Scene_lt hk0) (Scene_sh hk0) (Scene_N hk0) rfl (Nat.le_of_ble_eq_true rfl) ing9 mw_278 (Scene_g1 hk0 _) d_Scene_begin_16 ?_
  obtain ⟨q3, hq3⟩ : ∃ q, q = (t_WF_copyRow q1 (k1 + 7) 8 (k0 + 2) 8) := ⟨_, rfl⟩
  replace hT := qlet_eq hT hq3
  refine r_backV F hS (r_runSN (As := [.ref (b + (k1 + 7)), .ref (b + (k0 + 2))]) F hS (c_WF_copyRow l F.2.2.1 q1 (k1 + 7) 8 (k0 + 2) 8 (Town_f6 hk1) (Scene_f1 hk0) _ hq3.symm) mw_530 mw_529 mw_1 gs_Scene_29 hd_WF_copyRow ⟨Nat.le_of_ble_eq_true rfl, Nat.le_of_ble_eq_true rfl⟩ rfl hl.1 (Nat.le_of_ble_eq_true rfl) ⟨Nat.zero_le _, Nat.zero_le _⟩ rfl d_Scene_begin_19) (fun H locs hS => ?_)
  refine lv_aload_n F.hx F.hb d_Scene_begin_22 rfl (lv_at hl 0 rfl) ?_
  refine r_get (v := .ref (b + (k0 + 3))) (N := 7) (T := T9) (j := 2) F hS (Scene_lt hk0) (Scene_sh hk0) (Scene_N hk0) rfl (Nat.le_of_ble_eq_true rfl) ing9 mw_281 (Scene_g2 hk0 _) d_Scene_begin_23 ?_
  refine r_iconst F.hx F.hb d_Scene_begin_26 ?_
  obtain ⟨q5, hq5, hT⟩ := q_obind hT
  refine r_backV F hS (r_runS (As := [.ref (b + (k0 + 3)), vI 0]) F hS (c_Arrays_fill l F.2.2.1 q3 (k0 + 3) 8 0 (Scene_f2 hk0) (inr_c rfl) _ hq5) gs_Scene_36 hd_Arrays_fill ⟨Nat.le_of_ble_eq_true rfl, Nat.le_of_ble_eq_true rfl⟩ rfl hl.1 (Nat.le_of_ble_eq_true rfl) ⟨Nat.zero_le _, Nat.zero_le _⟩ rfl d_Scene_begin_27) (fun H locs hS => ?_)
  refine lv_aload_n F.hx F.hb d_Scene_begin_30 rfl (lv_at hl 0 rfl) ?_
  refine r_get (v := .ref (b + (k0 + 4))) (N := 7) (T := T9) (j := 3) F hS (Scene_lt hk0) (Scene_sh hk0) (Scene_N hk0) rfl (Nat.le_of_ble_eq_true rfl) ing9 mw_283 (Scene_g3 hk0 _) d_Scene_begin_31 ?_
  refine r_iconst F.hx F.hb d_Scene_begin_34 ?_
  obtain ⟨q7, hq7, hT⟩ := q_obind hT
  refine r_backV F hS (r_runS (As := [.ref (b + (k0 + 4)), vI 0]) F hS (c_Arrays_fill l F.2.2.1 q5 (k0 + 4) 8 0 (Scene_f3 hk0) (inr_c rfl) _ hq7) gs_Scene_36 hd_Arrays_fill ⟨Nat.le_of_ble_eq_true rfl, Nat.le_of_ble_eq_true rfl⟩ rfl hl.1 (Nat.le_of_ble_eq_true rfl) ⟨Nat.zero_le _, Nat.zero_le _⟩ rfl d_Scene_begin_35) (fun H locs hS => ?_)
  refine lv_aload_n F.hx F.hb d_Scene_begin_38 rfl (lv_at hl 0 rfl) ?_
  refine lv_aload_n F.hx F.hb d_Scene_begin_39 rfl (lv_at hl 1 rfl) ?_
  refine r_get (v := .long (q7.2 k1 18)) (N := 20) (T := T11) (j := 18) F hS (Town_lt hk1) (Town_sh hk1) (Town_N hk1) rfl (Nat.le_of_ble_eq_true rfl) ing11 mw_152 (fv_long rfl) d_Scene_begin_40 ?_
  refine r_putL (N := 7) (T := T9) (j := 4) F hS (Scene_lt hk0) (Scene_sh hk0) (Scene_N hk0) rfl (Nat.le_of_ble_eq_true rfl) ing9 tyok9 nm9 rfl rfl rfl mw_285 d_Scene_begin_43 (fun H locs hS => ?_)
  obtain ⟨M9, eM9⟩ : ∃ q, q = (setL q7 k0 4 (q7.2 k1 18)) := ⟨_, rfl⟩
  replace hS : St b C n M9 s H locs := by rw [eM9]; exact hS
  replace hT := qlet_eq hT eM9
  refine lv_aload_n F.hx F.hb d_Scene_begin_46 rfl (lv_at hl 0 rfl) ?_
  refine lv_lconst (v := 0) F.hx F.hb d_Scene_begin_47 rfl ?_
  refine r_putL (N := 7) (T := T9) (j := 5) F hS (Scene_lt hk0) (Scene_sh hk0) (Scene_N hk0) rfl (Nat.le_of_ble_eq_true rfl) ing9 tyok9 nm9 rfl rfl rfl mw_289 d_Scene_begin_48 (fun H locs hS => ?_)
  obtain ⟨M10, eM10⟩ : ∃ q, q = (setL M9 k0 5 0) := ⟨_, rfl⟩
  replace hS : St b C n M10 s H locs := by rw [eM10]; exact hS
  replace hT := qlet_eq hT eM10
  refine lv_aload_n F.hx F.hb d_Scene_begin_51 rfl (lv_at hl 0 rfl) ?_
  refine lv_lconst (v := 0) F.hx F.hb d_Scene_begin_52 rfl ?_
  refine r_putL (N := 7) (T := T9) (j := 6) F hS (Scene_lt hk0) (Scene_sh hk0) (Scene_N hk0) rfl (Nat.le_of_ble_eq_true rfl) ing9 tyok9 nm9 rfl rfl rfl mw_291 d_Scene_begin_53 (fun H locs hS => ?_)
  obtain ⟨M11, eM11⟩ : ∃ q, q = (setL M10 k0 6 0) := ⟨_, rfl⟩
  replace hS : St b C n M11 s H locs := by rw [eM11]; exact hS
  replace hT := qlet_eq hT eM11
  cases hT
  exact r_vret F hlk hr hS d_Scene_begin_56
theorem d_Chronicle_begin_0 : decode b_Chronicle_begin 0 = .ok (.aload_n 0, 1) := dc_42 (by decide +kernel)
theorem d_Chronicle_begin_1 : decode b_Chronicle_begin 1 = .ok (.iconst 0, 1) := dc_3 (by decide +kernel)
theorem d_Chronicle_begin_2 : decode b_Chronicle_begin 2 = .ok (.putfield 21, 3) := dc_181 (by decide +kernel)
theorem d_Chronicle_begin_5 : decode b_Chronicle_begin 5 = .ok (.aload_n 0, 1) := dc_42 (by decide +kernel)
theorem d_Chronicle_begin_6 : decode b_Chronicle_begin 6 = .ok (.iconst 0, 1) := dc_3 (by decide +kernel)
theorem d_Chronicle_begin_7 : decode b_Chronicle_begin 7 = .ok (.putfield 25, 3) := dc_181 (by decide +kernel)
theorem d_Chronicle_begin_10 : decode b_Chronicle_begin 10 = .ok (.aload_n 0, 1) := dc_42 (by decide +kernel)
theorem d_Chronicle_begin_11 : decode b_Chronicle_begin 11 = .ok (.aload_n 1, 1) := dc_43 (by decide +kernel)
theorem d_Chronicle_begin_12 : decode b_Chronicle_begin 12 = .ok (.getfield 28, 3) := dc_180 (by decide +kernel)
theorem d_Chronicle_begin_15 : decode b_Chronicle_begin 15 = .ok (.i2l, 1) := dc_133 (by decide +kernel)
theorem d_Chronicle_begin_16 : decode b_Chronicle_begin 16 = .ok (.putfield 33, 3) := dc_181 (by decide +kernel)
theorem d_Chronicle_begin_19 : decode b_Chronicle_begin 19 = .ok (.return_, 1) := dc_177 (by decide +kernel)
def t_Chronicle_begin (M : Mem) (k0 : Nat) (k1 : Nat) : Mem := (qlet (setI M k0 3 0) fun M1 => (qlet (setI M1 k0 4 0) fun M2 => (qlet (setL M2 k0 5 (q_i2l (M2.1 k1 17))) fun M4 => M4)))
set_option maxHeartbeats 4000000 in
set_option maxRecDepth 100000 in
theorem c_Chronicle_begin (l : Launch) {b n : Nat} {C : CT} (hlo : 191 ≤ n) (M : Mem) (k0 : Nat) (k1 : Nat) (hk0 : isChronicle k0) (hk1 : isTown k1) (res : Mem) (hT : t_Chronicle_begin M k0 k1 = res) : CM l b C n 0 y_Chronicle_begin b_Chronicle_begin 2 (none) [.ref (b + k0), .ref (b + k1)] M (QV b C n res) := by
  refine CM.of (lo := 191) (ow := "WardFalls$Chronicle") (by decide) rfl (Nat.le_of_ble_eq_true rfl) hlo (fun p e s m below meth c F hlk hr hS ls hl => ?_)
  have hl : lv_has ls 2 [(0, .ref (b + k0)), (1, .ref (b + k1))] := hl
  unfold t_Chronicle_begin at hT
  refine lv_aload_n F.hx F.hb d_Chronicle_begin_0 rfl (lv_at hl 0 rfl) ?_
  refine r_iconst F.hx F.hb d_Chronicle_begin_1 ?_
  refine r_putI (N := 6) (T := T2) (j := 3) F hS (Chronicle_lt hk0) (Chronicle_sh hk0) (Chronicle_N hk0) rfl (Nat.le_of_ble_eq_true rfl) ing2 tyok2 nm2 rfl rfl rfl rfl rfl (Chronicle_dyn hk0 _) mw_320 (inr_c rfl) d_Chronicle_begin_2 (fun H locs hS => ?_)
  obtain ⟨M1, eM1⟩ : ∃ q, q = (setI M k0 3 0) := ⟨_, rfl⟩
  replace hS : St b C n M1 s H locs := by rw [eM1]; exact hS
  replace hT := qlet_eq hT eM1
  refine lv_aload_n F.hx F.hb d_Chronicle_begin_5 rfl (lv_at hl 0 rfl) ?_
  refine r_iconst F.hx F.hb d_Chronicle_begin_6 ?_
  refine r_putI (N := 6) (T := T2) (j := 4) F hS (Chronicle_lt hk0) (Chronicle_sh hk0) (Chronicle_N hk0) rfl (Nat.le_of_ble_eq_true rfl) ing2 tyok2 nm2 rfl rfl rfl rfl rfl (Chronicle_dyn hk0 _) mw_322 (inr_c rfl) d_Chronicle_begin_7 (fun H locs hS => ?_)
  obtain ⟨M2, eM2⟩ : ∃ q, q = (setI M1 k0 4 0) := ⟨_, rfl⟩
  replace hS : St b C n M2 s H locs := by rw [eM2]; exact hS
  replace hT := qlet_eq hT eM2
  refine lv_aload_n F.hx F.hb d_Chronicle_begin_10 rfl (lv_at hl 0 rfl) ?_
  refine lv_aload_n F.hx F.hb d_Chronicle_begin_11 rfl (lv_at hl 1 rfl) ?_
  refine r_get (v := vI (M2.1 k1 17)) (N := 20) (T := T11) (j := 17) F hS (Town_lt hk1) (Town_sh hk1) (Town_N hk1) rfl (Nat.le_of_ble_eq_true rfl) ing11 mw_148 (fv_int rfl) d_Chronicle_begin_12 ?_
  have i3 := hS.rng k1 17
  refine r_i2l F.hx F.hb d_Chronicle_begin_15 ?_
  refine r_putL (N := 6) (T := T2) (j := 5) F hS (Chronicle_lt hk0) (Chronicle_sh hk0) (Chronicle_N hk0) rfl (Nat.le_of_ble_eq_true rfl) ing2 tyok2 nm2 rfl rfl rfl mw_324 d_Chronicle_begin_16 (fun H locs hS => ?_)
  obtain ⟨M4, eM4⟩ : ∃ q, q = (setL M2 k0 5 (q_i2l (M2.1 k1 17))) := ⟨_, rfl⟩
  replace hS : St b C n M4 s H locs := by rw [eM4]; exact hS
  replace hT := qlet_eq hT eM4
  subst hT
  exact r_vret F hlk hr hS d_Chronicle_begin_19
theorem d_Past_clear_0 : decode b_Past_clear 0 = .ok (.aload_n 0, 1) := dc_42 (by decide +kernel)
theorem d_Past_clear_1 : decode b_Past_clear 1 = .ok (.iconst 0, 1) := dc_3 (by decide +kernel)
theorem d_Past_clear_2 : decode b_Past_clear 2 = .ok (.putfield 18, 3) := dc_181 (by decide +kernel)
theorem d_Past_clear_5 : decode b_Past_clear 5 = .ok (.return_, 1) := dc_177 (by decide +kernel)
def t_Past_clear (M : Mem)  : Mem := (qlet (setI M 70 2 0) fun M1 => M1)
set_option maxHeartbeats 4000000 in
set_option maxRecDepth 100000 in
theorem c_Past_clear (l : Launch) {b n : Nat} {C : CT} (hlo : 191 ≤ n) (M : Mem)   (res : Mem) (hT : t_Past_clear M  = res) : CM l b C n 0 y_Past_clear b_Past_clear 1 (none) [.ref (b + 70)] M (QV b C n res) := by
  refine CM.of (lo := 191) (ow := "WardFalls$Past") (by decide) rfl (Nat.le_of_ble_eq_true rfl) hlo (fun p e s m below meth c F hlk hr hS ls hl => ?_)
  have hl : lv_has ls 1 [(0, .ref (b + 70))] := hl
  unfold t_Past_clear at hT
  refine lv_aload_n F.hx F.hb d_Past_clear_0 rfl (lv_at hl 0 rfl) ?_
  refine r_iconst F.hx F.hb d_Past_clear_1 ?_
  refine r_putI (N := 3) (T := T6) (j := 2) F hS (show 70 < 191 by decide) (show shK 70 = 10 from rfl) (show shN 70 = 3 from rfl) rfl (Nat.le_of_ble_eq_true rfl) ing6 tyok6 nm6 rfl rfl rfl rfl rfl rfl mw_349 (inr_c rfl) d_Past_clear_2 (fun H locs hS => ?_)
  obtain ⟨M1, eM1⟩ : ∃ q, q = (setI M 70 2 0) := ⟨_, rfl⟩
  replace hS : St b C n M1 s H locs := by rw [eM1]; exact hS
  replace hT := qlet_eq hT eM1
  subst hT
  exact r_vret F hlk hr hS d_Past_clear_5
theorem d_Notes_clear_0 : decode b_Notes_clear 0 = .ok (.aload_n 0, 1) := dc_42 (by decide +kernel)
theorem d_Notes_clear_1 : decode b_Notes_clear 1 = .ok (.iconst 0, 1) := dc_3 (by decide +kernel)
theorem d_Notes_clear_2 : decode b_Notes_clear 2 = .ok (.putfield 24, 3) := dc_181 (by decide +kernel)
theorem d_Notes_clear_5 : decode b_Notes_clear 5 = .ok (.aload_n 0, 1) := dc_42 (by decide +kernel)
theorem d_Notes_clear_6 : decode b_Notes_clear 6 = .ok (.iconst (-1), 1) := dc_2 (by decide +kernel)
theorem d_Notes_clear_7 : decode b_Notes_clear 7 = .ok (.putfield 28, 3) := dc_181 (by decide +kernel)
theorem d_Notes_clear_10 : decode b_Notes_clear 10 = .ok (.return_, 1) := dc_177 (by decide +kernel)
def t_Notes_clear (M : Mem)  : Mem := (qlet (setI M 172 5 0) fun M1 => (qlet (setI M1 172 6 (-1)) fun M2 => M2))
set_option maxHeartbeats 4000000 in
set_option maxRecDepth 100000 in
theorem c_Notes_clear (l : Launch) {b n : Nat} {C : CT} (hlo : 191 ≤ n) (M : Mem)   (res : Mem) (hT : t_Notes_clear M  = res) : CM l b C n 0 y_Notes_clear b_Notes_clear 1 (none) [.ref (b + 172)] M (QV b C n res) := by
  refine CM.of (lo := 191) (ow := "WardFalls$Notes") (by decide) rfl (Nat.le_of_ble_eq_true rfl) hlo (fun p e s m below meth c F hlk hr hS ls hl => ?_)
  have hl : lv_has ls 1 [(0, .ref (b + 172))] := hl
  unfold t_Notes_clear at hT
  refine lv_aload_n F.hx F.hb d_Notes_clear_0 rfl (lv_at hl 0 rfl) ?_
  refine r_iconst F.hx F.hb d_Notes_clear_1 ?_
  refine r_putI (N := 7) (T := T5) (j := 5) F hS (show 172 < 191 by decide) (show shK 172 = 9 from rfl) (show shN 172 = 7 from rfl) rfl (Nat.le_of_ble_eq_true rfl) ing5 tyok5 nm5 rfl rfl rfl rfl rfl rfl mw_371 (inr_c rfl) d_Notes_clear_2 (fun H locs hS => ?_)
  obtain ⟨M1, eM1⟩ : ∃ q, q = (setI M 172 5 0) := ⟨_, rfl⟩
  replace hS : St b C n M1 s H locs := by rw [eM1]; exact hS
  replace hT := qlet_eq hT eM1
  refine lv_aload_n F.hx F.hb d_Notes_clear_5 rfl (lv_at hl 0 rfl) ?_
  refine r_iconst F.hx F.hb d_Notes_clear_6 ?_
  refine r_putI (N := 7) (T := T5) (j := 6) F hS (show 172 < 191 by decide) (show shK 172 = 9 from rfl) (show shN 172 = 7 from rfl) rfl (Nat.le_of_ble_eq_true rfl) ing5 tyok5 nm5 rfl rfl rfl rfl rfl rfl mw_373 (inr_c rfl) d_Notes_clear_7 (fun H locs hS => ?_)
  obtain ⟨M2, eM2⟩ : ∃ q, q = (setI M1 172 6 (-1)) := ⟨_, rfl⟩
  replace hS : St b C n M2 s H locs := by rw [eM2]; exact hS
  replace hT := qlet_eq hT eM2
  subst hT
  exact r_vret F hlk hr hS d_Notes_clear_10
theorem d_WF_startAnew_0 : decode b_WF_startAnew 0 = .ok (.aload_n 0, 1) := dc_42 (by decide +kernel)
theorem d_WF_startAnew_1 : decode b_WF_startAnew 1 = .ok (.getfield 46, 3) := dc_180 (by decide +kernel)
theorem d_WF_startAnew_4 : decode b_WF_startAnew 4 = .ok (.aload_n 0, 1) := dc_42 (by decide +kernel)
theorem d_WF_startAnew_5 : decode b_WF_startAnew 5 = .ok (.getfield 22, 3) := dc_180 (by decide +kernel)
theorem d_WF_startAnew_8 : decode b_WF_startAnew 8 = .ok (.invokevirtual 429, 3) := dc_182 (by decide +kernel)
theorem d_WF_startAnew_11 : decode b_WF_startAnew 11 = .ok (.aload_n 0, 1) := dc_42 (by decide +kernel)
theorem d_WF_startAnew_12 : decode b_WF_startAnew 12 = .ok (.getfield 59, 3) := dc_180 (by decide +kernel)
theorem d_WF_startAnew_15 : decode b_WF_startAnew 15 = .ok (.aload_n 0, 1) := dc_42 (by decide +kernel)
theorem d_WF_startAnew_16 : decode b_WF_startAnew 16 = .ok (.getfield 22, 3) := dc_180 (by decide +kernel)
theorem d_WF_startAnew_19 : decode b_WF_startAnew 19 = .ok (.invokevirtual 432, 3) := dc_182 (by decide +kernel)
theorem d_WF_startAnew_22 : decode b_WF_startAnew 22 = .ok (.aload_n 0, 1) := dc_42 (by decide +kernel)
theorem d_WF_startAnew_23 : decode b_WF_startAnew 23 = .ok (.iconst 0, 1) := dc_3 (by decide +kernel)
theorem d_WF_startAnew_24 : decode b_WF_startAnew 24 = .ok (.putfield 411, 3) := dc_181 (by decide +kernel)
theorem d_WF_startAnew_27 : decode b_WF_startAnew 27 = .ok (.aload_n 0, 1) := dc_42 (by decide +kernel)
theorem d_WF_startAnew_28 : decode b_WF_startAnew 28 = .ok (.getfield 69, 3) := dc_180 (by decide +kernel)
theorem d_WF_startAnew_31 : decode b_WF_startAnew 31 = .ok (.invokevirtual 279, 3) := dc_182 (by decide +kernel)
theorem d_WF_startAnew_34 : decode b_WF_startAnew 34 = .ok (.aload_n 0, 1) := dc_42 (by decide +kernel)
theorem d_WF_startAnew_35 : decode b_WF_startAnew 35 = .ok (.getfield 76, 3) := dc_180 (by decide +kernel)
theorem d_WF_startAnew_38 : decode b_WF_startAnew 38 = .ok (.invokevirtual 433, 3) := dc_182 (by decide +kernel)
theorem d_WF_startAnew_41 : decode b_WF_startAnew 41 = .ok (.aload_n 0, 1) := dc_42 (by decide +kernel)
theorem d_WF_startAnew_42 : decode b_WF_startAnew 42 = .ok (.getfield 83, 3) := dc_180 (by decide +kernel)
theorem d_WF_startAnew_45 : decode b_WF_startAnew 45 = .ok (.iconst 0, 1) := dc_3 (by decide +kernel)
theorem d_WF_startAnew_46 : decode b_WF_startAnew 46 = .ok (.putfield 280, 3) := dc_181 (by decide +kernel)
theorem d_WF_startAnew_49 : decode b_WF_startAnew 49 = .ok (.return_, 1) := dc_177 (by decide +kernel)
def t_WF_startAnew (M : Mem)  : Option (Mem) := (obind (t_Scene_begin M 47 ((M.1 0 4).toNat)) fun q2 => (qlet (t_Chronicle_begin q2 62 ((q2.1 0 4).toNat)) fun q5 => (qlet (setI q5 0 13 0) fun M7 => (qlet (t_Past_clear M7) fun q8 => (qlet (t_Notes_clear q8) fun q10 => (qlet (setI q10 177 8 0) fun M12 => (some M12)))))))
set_option maxHeartbeats 4000000 in
set_option maxRecDepth 100000 in
theorem c_WF_startAnew (l : Launch) {b n : Nat} {C : CT} (hlo : 191 ≤ n) (M : Mem)   (res : Mem) (hT : t_WF_startAnew M  = some res) : CM l b C n 4 y_WF_startAnew b_WF_startAnew 1 (none) [.ref (b + 0)] M (QV b C n res) := by
  refine CM.of (lo := 191) (ow := "WardFalls") (by decide) rfl (Nat.le_of_ble_eq_true rfl) hlo (fun p e s m below meth c F hlk hr hS ls hl => ?_)
  have hl : lv_has ls 1 [(0, .ref (b + 0))] := hl
  unfold t_WF_startAnew at hT
  refine lv_aload_n F.hx F.hb d_WF_startAnew_0 rfl (lv_at hl 0 rfl) ?_
  refine r_get (v := .ref (b + 47)) (N := 19) (T := T0) (j := 8) F hS (show 0 < 191 by decide) (show shK 0 = 4 from rfl) (show shN 0 = 19 from rfl) rfl (Nat.le_of_ble_eq_true rfl) ing0 mw_558 (fv_sg rfl rfl rfl) d_WF_startAnew_1 ?_
  refine lv_aload_n F.hx F.hb d_WF_startAnew_4 rfl (lv_at hl 0 rfl) ?_
  have h1 := St_town hS
  refine r_get (v := .ref (b + ((M.1 0 4).toNat))) (N := 19) (T := T0) (j := 4) F hS (show 0 < 191 by decide) (show shK 0 = 4 from rfl) (show shN 0 = 19 from rfl) rfl (Nat.le_of_ble_eq_true rfl) ing0 mw_554 (fv_town hS) d_WF_startAnew_5 ?_
  obtain ⟨q2, hq2, hT⟩ := q_obind hT
  refine r_backV F hS (r_runV (k := 47) (N := 7) (T := T9) (As := [.ref (b + ((M.1 0 4).toNat))]) F hS (show 47 < 191 by decide) (show shK 47 = 13 from rfl) rfl (c_Scene_begin l F.2.2.1 M 47 ((M.1 0 4).toNat) (by decide : isScene 47) h1 _ hq2) gs_WF_429 hd_Scene_begin ⟨Nat.le_of_ble_eq_true rfl, Nat.le_of_ble_eq_true rfl⟩ rfl hl.1 (Nat.le_of_ble_eq_true rfl) ⟨Nat.zero_le _, Nat.zero_le _⟩ rfl d_WF_startAnew_8) (fun H locs hS => ?_)
  refine lv_aload_n F.hx F.hb d_WF_startAnew_11 rfl (lv_at hl 0 rfl) ?_
  refine r_get (v := .ref (b + 62)) (N := 19) (T := T0) (j := 11) F hS (show 0 < 191 by decide) (show shK 0 = 4 from rfl) (show shN 0 = 19 from rfl) rfl (Nat.le_of_ble_eq_true rfl) ing0 mw_561 (fv_sg rfl rfl rfl) d_WF_startAnew_12 ?_
  refine lv_aload_n F.hx F.hb d_WF_startAnew_15 rfl (lv_at hl 0 rfl) ?_
  have h4 := St_town hS
  refine r_get (v := .ref (b + ((q2.1 0 4).toNat))) (N := 19) (T := T0) (j := 4) F hS (show 0 < 191 by decide) (show shK 0 = 4 from rfl) (show shN 0 = 19 from rfl) rfl (Nat.le_of_ble_eq_true rfl) ing0 mw_554 (fv_town hS) d_WF_startAnew_16 ?_
  obtain ⟨q5, hq5⟩ : ∃ q, q = (t_Chronicle_begin q2 62 ((q2.1 0 4).toNat)) := ⟨_, rfl⟩
  replace hT := qlet_eq hT hq5
  refine r_backV F hS (r_runV (k := 62) (N := 6) (T := T2) (As := [.ref (b + ((q2.1 0 4).toNat))]) F hS (show 62 < 191 by decide) (show shK 62 = 6 from rfl) rfl (c_Chronicle_begin l F.2.2.1 q2 62 ((q2.1 0 4).toNat) (by decide : isChronicle 62) h4 _ hq5.symm) gs_WF_432 hd_Chronicle_begin ⟨Nat.le_of_ble_eq_true rfl, Nat.le_of_ble_eq_true rfl⟩ rfl hl.1 (Nat.le_of_ble_eq_true rfl) ⟨Nat.zero_le _, Nat.zero_le _⟩ rfl d_WF_startAnew_19) (fun H locs hS => ?_)
  refine lv_aload_n F.hx F.hb d_WF_startAnew_22 rfl (lv_at hl 0 rfl) ?_
  refine r_iconst F.hx F.hb d_WF_startAnew_23 ?_
  refine r_putI (N := 19) (T := T0) (j := 13) F hS (show 0 < 191 by decide) (show shK 0 = 4 from rfl) (show shN 0 = 19 from rfl) rfl (Nat.le_of_ble_eq_true rfl) ing0 tyok0 nm0 rfl rfl (nar_z (Or.inl rfl)) (fit_z (Or.inl rfl)) rfl rfl mw_563 (inr_c rfl) d_WF_startAnew_24 (fun H locs hS => ?_)
  obtain ⟨M7, eM7⟩ : ∃ q, q = (setI q5 0 13 0) := ⟨_, rfl⟩
  replace hS : St b C n M7 s H locs := by rw [eM7]; exact hS
  replace hT := qlet_eq hT eM7
  refine lv_aload_n F.hx F.hb d_WF_startAnew_27 rfl (lv_at hl 0 rfl) ?_
  refine r_get (v := .ref (b + 70)) (N := 19) (T := T0) (j := 14) F hS (show 0 < 191 by decide) (show shK 0 = 4 from rfl) (show shN 0 = 19 from rfl) rfl (Nat.le_of_ble_eq_true rfl) ing0 mw_564 (fv_sg rfl rfl rfl) d_WF_startAnew_28 ?_
  obtain ⟨q8, hq8⟩ : ∃ q, q = (t_Past_clear M7) := ⟨_, rfl⟩
  replace hT := qlet_eq hT hq8
  refine r_backV F hS (r_runV (k := 70) (N := 3) (T := T6) (As := []) F hS (show 70 < 191 by decide) (show shK 70 = 10 from rfl) rfl (c_Past_clear l F.2.2.1 M7 _ hq8.symm) gs_WF_279 hd_Past_clear ⟨Nat.le_of_ble_eq_true rfl, Nat.le_of_ble_eq_true rfl⟩ rfl hl.1 (Nat.le_of_ble_eq_true rfl) ⟨Nat.zero_le _, Nat.zero_le _⟩ rfl d_WF_startAnew_31) (fun H locs hS => ?_)
  refine lv_aload_n F.hx F.hb d_WF_startAnew_34 rfl (lv_at hl 0 rfl) ?_
  refine r_get (v := .ref (b + 172)) (N := 19) (T := T0) (j := 15) F hS (show 0 < 191 by decide) (show shK 0 = 4 from rfl) (show shN 0 = 19 from rfl) rfl (Nat.le_of_ble_eq_true rfl) ing0 mw_565 (fv_sg rfl rfl rfl) d_WF_startAnew_35 ?_
  obtain ⟨q10, hq10⟩ : ∃ q, q = (t_Notes_clear q8) := ⟨_, rfl⟩
  replace hT := qlet_eq hT hq10
  refine r_backV F hS (r_runV (k := 172) (N := 7) (T := T5) (As := []) F hS (show 172 < 191 by decide) (show shK 172 = 9 from rfl) rfl (c_Notes_clear l F.2.2.1 q8 _ hq10.symm) gs_WF_433 hd_Notes_clear ⟨Nat.le_of_ble_eq_true rfl, Nat.le_of_ble_eq_true rfl⟩ rfl hl.1 (Nat.le_of_ble_eq_true rfl) ⟨Nat.zero_le _, Nat.zero_le _⟩ rfl d_WF_startAnew_38) (fun H locs hS => ?_)
  refine lv_aload_n F.hx F.hb d_WF_startAnew_41 rfl (lv_at hl 0 rfl) ?_
  refine r_get (v := .ref (b + 177)) (N := 19) (T := T0) (j := 16) F hS (show 0 < 191 by decide) (show shK 0 = 4 from rfl) (show shN 0 = 19 from rfl) rfl (Nat.le_of_ble_eq_true rfl) ing0 mw_566 (fv_sg rfl rfl rfl) d_WF_startAnew_42 ?_
  refine r_iconst F.hx F.hb d_WF_startAnew_45 ?_
  refine r_putI (N := 9) (T := T4) (j := 8) F hS (show 177 < 191 by decide) (show shK 177 = 8 from rfl) (show shN 177 = 9 from rfl) rfl (Nat.le_of_ble_eq_true rfl) ing4 tyok4 nm4 rfl rfl (nar_z (Or.inl rfl)) (fit_z (Or.inl rfl)) rfl rfl mw_448 (inr_c rfl) d_WF_startAnew_46 (fun H locs hS => ?_)
  obtain ⟨M12, eM12⟩ : ∃ q, q = (setI q10 177 8 0) := ⟨_, rfl⟩
  replace hS : St b C n M12 s H locs := by rw [eM12]; exact hS
  replace hT := qlet_eq hT eM12
  cases hT
  exact r_vret F hlk hr hS d_WF_startAnew_49
theorem d_WF_feedFour_0 : decode b_WF_feedFour 0 = .ok (.bipush 24, 2) := dc_16 (by decide +kernel)
theorem d_WF_feedFour_2 : decode b_WF_feedFour 2 = .ok (.istore_n 2, 1) := dc_61 (by decide +kernel)
theorem d_WF_feedFour_3 : decode b_WF_feedFour 3 = .ok (.iload_n 2, 1) := dc_28 (by decide +kernel)
theorem d_WF_feedFour_4 : decode b_WF_feedFour 4 = .ok (.ifCond .lt 37, 3) := dc_155 (by decide +kernel)
theorem d_WF_feedFour_7 : decode b_WF_feedFour 7 = .ok (.aload_n 0, 1) := dc_42 (by decide +kernel)
theorem d_WF_feedFour_8 : decode b_WF_feedFour 8 = .ok (.getfield 11, 3) := dc_180 (by decide +kernel)
theorem d_WF_feedFour_11 : decode b_WF_feedFour 11 = .ok (.aload_n 0, 1) := dc_42 (by decide +kernel)
theorem d_WF_feedFour_12 : decode b_WF_feedFour 12 = .ok (.getfield 110, 3) := dc_180 (by decide +kernel)
theorem d_WF_feedFour_15 : decode b_WF_feedFour 15 = .ok (.iload_n 1, 1) := dc_27 (by decide +kernel)
theorem d_WF_feedFour_16 : decode b_WF_feedFour 16 = .ok (.iload_n 2, 1) := dc_28 (by decide +kernel)
theorem d_WF_feedFour_17 : decode b_WF_feedFour 17 = .ok (.iushr, 1) := dc_124 (by decide +kernel)
theorem d_WF_feedFour_18 : decode b_WF_feedFour 18 = .ok (.sipush 255, 3) := dc_17 (by decide +kernel)
theorem d_WF_feedFour_21 : decode b_WF_feedFour 21 = .ok (.iand, 1) := dc_126 (by decide +kernel)
theorem d_WF_feedFour_22 : decode b_WF_feedFour 22 = .ok (.invokestatic 291, 3) := dc_184 (by decide +kernel)
theorem d_WF_feedFour_25 : decode b_WF_feedFour 25 = .ok (.aload_n 0, 1) := dc_42 (by decide +kernel)
theorem d_WF_feedFour_26 : decode b_WF_feedFour 26 = .ok (.dup, 1) := dc_89 (by decide +kernel)
theorem d_WF_feedFour_27 : decode b_WF_feedFour 27 = .ok (.getfield 110, 3) := dc_180 (by decide +kernel)
theorem d_WF_feedFour_30 : decode b_WF_feedFour 30 = .ok (.iconst 1, 1) := dc_4 (by decide +kernel)
theorem d_WF_feedFour_31 : decode b_WF_feedFour 31 = .ok (.iadd, 1) := dc_96 (by decide +kernel)
theorem d_WF_feedFour_32 : decode b_WF_feedFour 32 = .ok (.putfield 110, 3) := dc_181 (by decide +kernel)
theorem d_WF_feedFour_35 : decode b_WF_feedFour 35 = .ok (.iinc 2 (-8), 3) := dc_132 (by decide +kernel)
theorem d_WF_feedFour_38 : decode b_WF_feedFour 38 = .ok (.goto (-35), 3) := dc_167 (by decide +kernel)
theorem d_WF_feedFour_41 : decode b_WF_feedFour 41 = .ok (.return_, 1) := dc_177 (by decide +kernel)
def t_WF_feedFour_L3 (x1 : Int)  : Nat → Mem → Int → Option (Mem)
  | 0, _, _ => none
  | fu + 1, M, v2_ => (if v2_ < 0 then (some M) else (qlet (t_WF_put M 1 700 (M.1 0 1) (q_and (q_ushr x1 v2_) 255)) fun q3 => (qlet (setI q3 0 1 (w32 ((q3.1 0 1) + 1))) fun M6 => (t_WF_feedFour_L3 x1 fu M6 (w32 (v2_ + (-8)))))))
def t_WF_feedFour (M : Mem) (x1 : Int) : Option (Mem) := (t_WF_feedFour_L3 x1 FU M 24)
set_option maxHeartbeats 4000000 in
set_option maxRecDepth 100000 in
theorem k_WF_feedFour_L3 (l : Launch) {p : Program} {e : Env} {s : State} {m : MethodId} {below : List Frame} {meth : Method} {c : Code} {b n : Nat} {C : CT} (hlo : 191 ≤ n) (x1 : Int) (hx1 : InR x1) (F : Cx b p m c b_WF_feedFour 3 s ([.ref (b + 0), vI x1] : List Value).toArray "WardFalls" C n 191) (hlk : meth.locks = false) (hr : meth.sig.returnType = none) {res : Mem} : ∀ (fu : Nat) (M : Mem) (v2_ : Int) (hv2_ : InR v2_) (H : Heap) (locs : List Loc) (ls : Array Slot), St b C n M s H locs → lv_has ls 3 [(0, .ref (b + 0)), (1, vI x1), (2, vI v2_)] → t_WF_feedFour_L3 x1 fu M v2_ = some res → W p l e (headSpec (wsM y_WF_feedFour b_WF_feedFour 3 (none)) (rmD 1)).room s m ([.ref (b + 0), vI x1] : List Value).toArray below meth c H locs 0 0 (MQ below (QV b C n res) ([.ref (b + 0), vI x1] : List Value).toArray s 0 0 (frb b)) (F0 m 3 ls []) := by
  intro fu
  induction fu with
  | zero => intro M v2_ hv2_ H locs ls hS hl hT; exact absurd hT (by simp [t_WF_feedFour_L3])
  | succ fu ih =>
    intro M v2_ hv2_ H locs ls hS hl hT
    rw [t_WF_feedFour_L3] at hT
    refine lv_iload_n F.hx F.hb d_WF_feedFour_3 rfl (lv_at hl 2 rfl) ?_
    refine r_if_lt (tgt := 41) F.hx F.hb hv2_ d_WF_feedFour_4 (by decide) (fun c1 => ?_) (fun c1 => ?_)
    · replace hT := (if_pos c1).symm.trans hT
      cases hT
      exact r_vret F hlk hr hS d_WF_feedFour_41
    · replace hT := (if_neg c1).symm.trans hT
      refine lv_aload_n F.hx F.hb d_WF_feedFour_7 rfl (lv_at hl 0 rfl) ?_
      refine r_get (v := .ref (b + 1)) (N := 19) (T := T0) (j := 0) F hS (show 0 < 191 by decide) (show shK 0 = 4 from rfl) (show shN 0 = 19 from rfl) rfl (Nat.le_of_ble_eq_true rfl) ing0 mw_550 (fv_sg rfl rfl rfl) d_WF_feedFour_8 ?_
      refine lv_aload_n F.hx F.hb d_WF_feedFour_11 rfl (lv_at hl 0 rfl) ?_
      refine r_get (v := vI (M.1 0 1)) (N := 19) (T := T0) (j := 1) F hS (show 0 < 191 by decide) (show shK 0 = 4 from rfl) (show shN 0 = 19 from rfl) rfl (Nat.le_of_ble_eq_true rfl) ing0 mw_551 (fv_int rfl) d_WF_feedFour_12 ?_
      have i2 := hS.rng 0 1
      refine lv_iload_n F.hx F.hb d_WF_feedFour_15 rfl (lv_at hl 1 rfl) ?_
      refine lv_iload_n F.hx F.hb d_WF_feedFour_16 rfl (lv_at hl 2 rfl) ?_
      refine r_iushr F.hx F.hb d_WF_feedFour_17 ?_
      refine r_sipush F.hx F.hb d_WF_feedFour_18 rfl ?_
      refine r_iand F.hx F.hb d_WF_feedFour_21 ?_
      obtain ⟨q3, hq3⟩ : ∃ q, q = (t_WF_put M 1 700 (M.1 0 1) (q_and (q_ushr x1 v2_) 255)) := ⟨_, rfl⟩
      replace hT := qlet_eq hT hq3
      refine r_backV F hS (r_runS (As := [.ref (b + 1), vI (M.1 0 1), vI (q_and (q_ushr x1 v2_) 255)]) F hS (c_WF_put l F.2.2.1 M 1 700 (M.1 0 1) (q_and (q_ushr x1 v2_) 255) (show arrP 0 1 700 191 from ⟨rfl, rfl, by decide⟩) i2 (q_inr_toInt _) _ hq3.symm) gs_WF_291 hd_WF_put ⟨Nat.le_of_ble_eq_true rfl, Nat.le_of_ble_eq_true rfl⟩ rfl hl.1 (Nat.le_of_ble_eq_true rfl) ⟨Nat.zero_le _, Nat.zero_le _⟩ rfl d_WF_feedFour_22) (fun H locs hS => ?_)
      refine lv_aload_n F.hx F.hb d_WF_feedFour_25 rfl (lv_at hl 0 rfl) ?_
      refine lv_dup F.hx F.hb d_WF_feedFour_26 rfl ?_
      refine r_get (v := vI (q3.1 0 1)) (N := 19) (T := T0) (j := 1) F hS (show 0 < 191 by decide) (show shK 0 = 4 from rfl) (show shN 0 = 19 from rfl) rfl (Nat.le_of_ble_eq_true rfl) ing0 mw_551 (fv_int rfl) d_WF_feedFour_27 ?_
      have i5 := hS.rng 0 1
      refine r_iconst F.hx F.hb d_WF_feedFour_30 ?_
      refine r_iadd F.hx F.hb d_WF_feedFour_31 ?_
      refine r_putI (N := 19) (T := T0) (j := 1) F hS (show 0 < 191 by decide) (show shK 0 = 4 from rfl) (show shN 0 = 19 from rfl) rfl (Nat.le_of_ble_eq_true rfl) ing0 tyok0 nm0 rfl rfl rfl rfl rfl rfl mw_551 (inr_w32 _) d_WF_feedFour_32 (fun H locs hS => ?_)
      obtain ⟨M6, eM6⟩ : ∃ q, q = (setI q3 0 1 (w32 ((q3.1 0 1) + 1))) := ⟨_, rfl⟩
      replace hS : St b C n M6 s H locs := by rw [eM6]; exact hS
      replace hT := qlet_eq hT eM6
      refine lv_iinc (v := Int32.ofInt (w32 (v2_ + (-8)))) (lv' := [(2, vI (w32 (v2_ + (-8)))), (0, .ref (b + 0)), (1, vI x1)]) F.hx F.hb d_WF_feedFour_35 hl (k := 2) rfl (q_of_add _ _) (Nat.le_of_ble_eq_true rfl) rfl (fun ls hl => ?_)
      refine lv_goto (tgt := 3) F.hx F.hb d_WF_feedFour_38 (by decide) ?_
      exact ih M6 (w32 (v2_ + (-8))) (inr_w32 _) _ _ _ hS (lv_sub hl [1, 2, 0] rfl) hT
set_option maxHeartbeats 4000000 in
set_option maxRecDepth 100000 in
theorem c_WF_feedFour (l : Launch) {b n : Nat} {C : CT} (hlo : 191 ≤ n) (M : Mem) (x1 : Int) (hx1 : InR x1) (res : Mem) (hT : t_WF_feedFour M x1 = some res) : CM l b C n 1 y_WF_feedFour b_WF_feedFour 3 (none) [.ref (b + 0), vI x1] M (QV b C n res) := by
  refine CM.of (lo := 191) (ow := "WardFalls") (by decide) rfl (Nat.le_of_ble_eq_true rfl) hlo (fun p e s m below meth c F hlk hr hS ls hl => ?_)
  have hl : lv_has ls 3 [(0, .ref (b + 0)), (1, vI x1)] := hl
  unfold t_WF_feedFour at hT
  refine r_bipush F.hx F.hb d_WF_feedFour_0 rfl ?_
  refine lv_istore_n (lv' := [(2, vI 24), (0, .ref (b + 0)), (1, vI x1)]) F.hx F.hb d_WF_feedFour_2 rfl hl (Nat.le_of_ble_eq_true rfl) rfl (fun ls hl => ?_)
  exact k_WF_feedFour_L3 l hlo x1 hx1 F hlk hr FU M 24 (inr_c rfl) _ _ _ hS (lv_sub hl [1, 2, 0] rfl) hT
theorem d_WF_feed_0 : decode b_WF_feed 0 = .ok (.aload_n 0, 1) := dc_42 (by decide +kernel)
theorem d_WF_feed_1 : decode b_WF_feed 1 = .ok (.getfield 110, 3) := dc_180 (by decide +kernel)
theorem d_WF_feed_4 : decode b_WF_feed 4 = .ok (.bipush 20, 2) := dc_16 (by decide +kernel)
theorem d_WF_feed_6 : decode b_WF_feed 6 = .ok (.iadd, 1) := dc_96 (by decide +kernel)
theorem d_WF_feed_7 : decode b_WF_feed 7 = .ok (.sipush 700, 3) := dc_17 (by decide +kernel)
theorem d_WF_feed_10 : decode b_WF_feed 10 = .ok (.if_icmp .le 5, 3) := dc_164 (by decide +kernel)
theorem d_WF_feed_13 : decode b_WF_feed 13 = .ok (.iconst (-1), 1) := dc_2 (by decide +kernel)
theorem d_WF_feed_14 : decode b_WF_feed 14 = .ok (.ireturn, 1) := dc_172 (by decide +kernel)
theorem d_WF_feed_15 : decode b_WF_feed 15 = .ok (.aload_n 0, 1) := dc_42 (by decide +kernel)
theorem d_WF_feed_16 : decode b_WF_feed 16 = .ok (.iload_n 1, 1) := dc_27 (by decide +kernel)
theorem d_WF_feed_17 : decode b_WF_feed 17 = .ok (.invokevirtual 113, 3) := dc_182 (by decide +kernel)
theorem d_WF_feed_20 : decode b_WF_feed 20 = .ok (.aload_n 0, 1) := dc_42 (by decide +kernel)
theorem d_WF_feed_21 : decode b_WF_feed 21 = .ok (.iload_n 2, 1) := dc_28 (by decide +kernel)
theorem d_WF_feed_22 : decode b_WF_feed 22 = .ok (.invokevirtual 113, 3) := dc_182 (by decide +kernel)
theorem d_WF_feed_25 : decode b_WF_feed 25 = .ok (.aload_n 0, 1) := dc_42 (by decide +kernel)
theorem d_WF_feed_26 : decode b_WF_feed 26 = .ok (.iload_n 3, 1) := dc_29 (by decide +kernel)
theorem d_WF_feed_27 : decode b_WF_feed 27 = .ok (.invokevirtual 113, 3) := dc_182 (by decide +kernel)
theorem d_WF_feed_30 : decode b_WF_feed 30 = .ok (.aload_n 0, 1) := dc_42 (by decide +kernel)
theorem d_WF_feed_31 : decode b_WF_feed 31 = .ok (.iload 4, 2) := dc_21 (by decide +kernel)
theorem d_WF_feed_33 : decode b_WF_feed 33 = .ok (.invokevirtual 113, 3) := dc_182 (by decide +kernel)
theorem d_WF_feed_36 : decode b_WF_feed 36 = .ok (.aload_n 0, 1) := dc_42 (by decide +kernel)
theorem d_WF_feed_37 : decode b_WF_feed 37 = .ok (.iload 5, 2) := dc_21 (by decide +kernel)
theorem d_WF_feed_39 : decode b_WF_feed 39 = .ok (.invokevirtual 113, 3) := dc_182 (by decide +kernel)
theorem d_WF_feed_42 : decode b_WF_feed 42 = .ok (.aload_n 0, 1) := dc_42 (by decide +kernel)
theorem d_WF_feed_43 : decode b_WF_feed 43 = .ok (.getfield 110, 3) := dc_180 (by decide +kernel)
theorem d_WF_feed_46 : decode b_WF_feed 46 = .ok (.ireturn, 1) := dc_172 (by decide +kernel)
def t_WF_feed (M : Mem) (x1 : Int) (x2 : Int) (x3 : Int) (x4 : Int) (x5 : Int) : Option (Mem × Int) := (if (w32 ((M.1 0 1) + 20)) ≤ 700 then (obind (t_WF_feedFour M x1) fun q3 => (obind (t_WF_feedFour q3 x2) fun q5 => (obind (t_WF_feedFour q5 x3) fun q7 => (obind (t_WF_feedFour q7 x4) fun q9 => (obind (t_WF_feedFour q9 x5) fun q11 => (some (q11, (q11.1 0 1)))))))) else (some (M, (-1))))
set_option maxHeartbeats 4000000 in
set_option maxRecDepth 100000 in
theorem c_WF_feed (l : Launch) {b n : Nat} {C : CT} (hlo : 191 ≤ n) (M : Mem) (x1 : Int) (x2 : Int) (x3 : Int) (x4 : Int) (x5 : Int) (hx1 : InR x1) (hx2 : InR x2) (hx3 : InR x3) (hx4 : InR x4) (hx5 : InR x5) (res : Mem × Int) (hT : t_WF_feed M x1 x2 x3 x4 x5 = some res) : CM l b C n 2 y_WF_feed b_WF_feed 6 (some .int) [.ref (b + 0), vI x1, vI x2, vI x3, vI x4, vI x5] M (QI b C n res.1 res.2) := by
  refine CM.of (lo := 191) (ow := "WardFalls") (by decide) rfl (Nat.le_of_ble_eq_true rfl) hlo (fun p e s m below meth c F hlk hr hS ls hl => ?_)
  have hl : lv_has ls 6 [(0, .ref (b + 0)), (1, vI x1), (2, vI x2), (3, vI x3), (4, vI x4), (5, vI x5)] := hl
  unfold t_WF_feed at hT
  refine lv_aload_n F.hx F.hb d_WF_feed_0 rfl (lv_at hl 0 rfl) ?_
  refine r_get (v := vI (M.1 0 1)) (N := 19) (T := T0) (j := 1) F hS (show 0 < 191 by decide) (show shK 0 = 4 from rfl) (show shN 0 = 19 from rfl) rfl (Nat.le_of_ble_eq_true rfl) ing0 mw_551 (fv_int rfl) d_WF_feed_1 ?_
  have i1 := hS.rng 0 1
  refine r_bipush F.hx F.hb d_WF_feed_4 rfl ?_
  refine r_iadd F.hx F.hb d_WF_feed_6 ?_
  refine r_sipush F.hx F.hb d_WF_feed_7 rfl ?_
  refine r_icmp_le (tgt := 15) F.hx F.hb (inr_w32 _) (inr_c rfl) d_WF_feed_10 (by decide) (fun c2 => ?_) (fun c2 => ?_)
  · replace hT := (if_pos c2).symm.trans hT
    refine lv_aload_n F.hx F.hb d_WF_feed_15 rfl (lv_at hl 0 rfl) ?_
    refine lv_iload_n F.hx F.hb d_WF_feed_16 rfl (lv_at hl 1 rfl) ?_
    obtain ⟨q3, hq3, hT⟩ := q_obind hT
    refine r_backV F hS (r_runV (k := 0) (N := 19) (T := T0) (As := [vI x1]) F hS (show 0 < 191 by decide) (show shK 0 = 4 from rfl) rfl (c_WF_feedFour l F.2.2.1 M x1 hx1 _ hq3) gs_WF_113 hd_WF_feedFour ⟨Nat.le_of_ble_eq_true rfl, Nat.le_of_ble_eq_true rfl⟩ rfl hl.1 (Nat.le_of_ble_eq_true rfl) ⟨Nat.zero_le _, Nat.zero_le _⟩ rfl d_WF_feed_17) (fun H locs hS => ?_)
    refine lv_aload_n F.hx F.hb d_WF_feed_20 rfl (lv_at hl 0 rfl) ?_
    refine lv_iload_n F.hx F.hb d_WF_feed_21 rfl (lv_at hl 2 rfl) ?_
    obtain ⟨q5, hq5, hT⟩ := q_obind hT
    refine r_backV F hS (r_runV (k := 0) (N := 19) (T := T0) (As := [vI x2]) F hS (show 0 < 191 by decide) (show shK 0 = 4 from rfl) rfl (c_WF_feedFour l F.2.2.1 q3 x2 hx2 _ hq5) gs_WF_113 hd_WF_feedFour ⟨Nat.le_of_ble_eq_true rfl, Nat.le_of_ble_eq_true rfl⟩ rfl hl.1 (Nat.le_of_ble_eq_true rfl) ⟨Nat.zero_le _, Nat.zero_le _⟩ rfl d_WF_feed_22) (fun H locs hS => ?_)
    refine lv_aload_n F.hx F.hb d_WF_feed_25 rfl (lv_at hl 0 rfl) ?_
    refine lv_iload_n F.hx F.hb d_WF_feed_26 rfl (lv_at hl 3 rfl) ?_
    obtain ⟨q7, hq7, hT⟩ := q_obind hT
    refine r_backV F hS (r_runV (k := 0) (N := 19) (T := T0) (As := [vI x3]) F hS (show 0 < 191 by decide) (show shK 0 = 4 from rfl) rfl (c_WF_feedFour l F.2.2.1 q5 x3 hx3 _ hq7) gs_WF_113 hd_WF_feedFour ⟨Nat.le_of_ble_eq_true rfl, Nat.le_of_ble_eq_true rfl⟩ rfl hl.1 (Nat.le_of_ble_eq_true rfl) ⟨Nat.zero_le _, Nat.zero_le _⟩ rfl d_WF_feed_27) (fun H locs hS => ?_)
    refine lv_aload_n F.hx F.hb d_WF_feed_30 rfl (lv_at hl 0 rfl) ?_
    refine lv_iload F.hx F.hb d_WF_feed_31 (lv_at hl 4 rfl) ?_
    obtain ⟨q9, hq9, hT⟩ := q_obind hT
    refine r_backV F hS (r_runV (k := 0) (N := 19) (T := T0) (As := [vI x4]) F hS (show 0 < 191 by decide) (show shK 0 = 4 from rfl) rfl (c_WF_feedFour l F.2.2.1 q7 x4 hx4 _ hq9) gs_WF_113 hd_WF_feedFour ⟨Nat.le_of_ble_eq_true rfl, Nat.le_of_ble_eq_true rfl⟩ rfl hl.1 (Nat.le_of_ble_eq_true rfl) ⟨Nat.zero_le _, Nat.zero_le _⟩ rfl d_WF_feed_33) (fun H locs hS => ?_)
    refine lv_aload_n F.hx F.hb d_WF_feed_36 rfl (lv_at hl 0 rfl) ?_
    refine lv_iload F.hx F.hb d_WF_feed_37 (lv_at hl 5 rfl) ?_
    obtain ⟨q11, hq11, hT⟩ := q_obind hT
    refine r_backV F hS (r_runV (k := 0) (N := 19) (T := T0) (As := [vI x5]) F hS (show 0 < 191 by decide) (show shK 0 = 4 from rfl) rfl (c_WF_feedFour l F.2.2.1 q9 x5 hx5 _ hq11) gs_WF_113 hd_WF_feedFour ⟨Nat.le_of_ble_eq_true rfl, Nat.le_of_ble_eq_true rfl⟩ rfl hl.1 (Nat.le_of_ble_eq_true rfl) ⟨Nat.zero_le _, Nat.zero_le _⟩ rfl d_WF_feed_39) (fun H locs hS => ?_)
    refine lv_aload_n F.hx F.hb d_WF_feed_42 rfl (lv_at hl 0 rfl) ?_
    refine r_get (v := vI (q11.1 0 1)) (N := 19) (T := T0) (j := 1) F hS (show 0 < 191 by decide) (show shK 0 = 4 from rfl) (show shN 0 = 19 from rfl) rfl (Nat.le_of_ble_eq_true rfl) ing0 mw_551 (fv_int rfl) d_WF_feed_43 ?_
    have i13 := hS.rng 0 1
    cases hT
    exact r_iret F hlk hr rfl hS i13 d_WF_feed_46
  · replace hT := (if_neg c2).symm.trans hT
    refine r_iconst F.hx F.hb d_WF_feed_13 ?_
    cases hT
    exact r_iret F hlk hr rfl hS (inr_c rfl) d_WF_feed_14
theorem d_Tokens_isLetter_0 : decode b_Tokens_isLetter 0 = .ok (.iload_n 0, 1) := dc_26 (by decide +kernel)
theorem d_Tokens_isLetter_1 : decode b_Tokens_isLetter 1 = .ok (.bipush 97, 2) := dc_16 (by decide +kernel)
theorem d_Tokens_isLetter_3 : decode b_Tokens_isLetter 3 = .ok (.if_icmp .lt 13, 3) := dc_161 (by decide +kernel)
theorem d_Tokens_isLetter_6 : decode b_Tokens_isLetter 6 = .ok (.iload_n 0, 1) := dc_26 (by decide +kernel)
theorem d_Tokens_isLetter_7 : decode b_Tokens_isLetter 7 = .ok (.bipush 122, 2) := dc_16 (by decide +kernel)
theorem d_Tokens_isLetter_9 : decode b_Tokens_isLetter 9 = .ok (.if_icmp .gt 7, 3) := dc_163 (by decide +kernel)
theorem d_Tokens_isLetter_12 : decode b_Tokens_isLetter 12 = .ok (.iconst 1, 1) := dc_4 (by decide +kernel)
theorem d_Tokens_isLetter_13 : decode b_Tokens_isLetter 13 = .ok (.goto 4, 3) := dc_167 (by decide +kernel)
theorem d_Tokens_isLetter_16 : decode b_Tokens_isLetter 16 = .ok (.iconst 0, 1) := dc_3 (by decide +kernel)
theorem d_Tokens_isLetter_17 : decode b_Tokens_isLetter 17 = .ok (.ireturn, 1) := dc_172 (by decide +kernel)
def t_Tokens_isLetter (M : Mem) (x1 : Int) : Int := (if x1 < 97 then 0 else (if 122 < x1 then 0 else 1))
set_option maxHeartbeats 4000000 in
set_option maxRecDepth 100000 in
theorem c_Tokens_isLetter (l : Launch) {b n : Nat} {C : CT} (hlo : 191 ≤ n) (M : Mem) (x1 : Int) (hx1 : InR x1) (res : Int) (hT : t_Tokens_isLetter M x1 = res) : CM l b C n 0 y_Tokens_isLetter b_Tokens_isLetter 1 (some .boolean) [vI x1] M (QZ b C n M res) := by
  refine CM.of (lo := 191) (ow := "WardFalls$Tokens") (by decide) rfl (Nat.le_of_ble_eq_true rfl) hlo (fun p e s m below meth c F hlk hr hS ls hl => ?_)
  have hl : lv_has ls 1 [(0, vI x1)] := hl
  unfold t_Tokens_isLetter at hT
  refine lv_iload_n F.hx F.hb d_Tokens_isLetter_0 rfl (lv_at hl 0 rfl) ?_
  refine r_bipush F.hx F.hb d_Tokens_isLetter_1 rfl ?_
  refine r_icmp_lt (tgt := 16) F.hx F.hb hx1 (inr_c rfl) d_Tokens_isLetter_3 (by decide) (fun c1 => ?_) (fun c1 => ?_)
  · replace hT := (if_pos c1).symm.trans hT
    refine r_iconst F.hx F.hb d_Tokens_isLetter_16 ?_
    subst hT
    exact r_zret F hlk hr hS (Or.inl rfl) d_Tokens_isLetter_17
  · replace hT := (if_neg c1).symm.trans hT
    refine lv_iload_n F.hx F.hb d_Tokens_isLetter_6 rfl (lv_at hl 0 rfl) ?_
    refine r_bipush F.hx F.hb d_Tokens_isLetter_7 rfl ?_
    refine r_icmp_gt (tgt := 16) F.hx F.hb hx1 (inr_c rfl) d_Tokens_isLetter_9 (by decide) (fun c2 => ?_) (fun c2 => ?_)
    · replace hT := (if_pos c2).symm.trans hT
      refine r_iconst F.hx F.hb d_Tokens_isLetter_16 ?_
      subst hT
      exact r_zret F hlk hr hS (Or.inl rfl) d_Tokens_isLetter_17
    · replace hT := (if_neg c2).symm.trans hT
      refine r_iconst F.hx F.hb d_Tokens_isLetter_12 ?_
      refine lv_goto (tgt := 17) F.hx F.hb d_Tokens_isLetter_13 (by decide) ?_
      subst hT
      exact r_zret F hlk hr hS (Or.inr rfl) d_Tokens_isLetter_17
theorem d_Tokens_isWord_0 : decode b_Tokens_isWord 0 = .ok (.iconst 0, 1) := dc_3 (by decide +kernel)
theorem d_Tokens_isWord_1 : decode b_Tokens_isWord 1 = .ok (.istore 4, 2) := dc_54 (by decide +kernel)
theorem d_Tokens_isWord_3 : decode b_Tokens_isWord 3 = .ok (.iload 4, 2) := dc_21 (by decide +kernel)
theorem d_Tokens_isWord_5 : decode b_Tokens_isWord 5 = .ok (.iload_n 3, 1) := dc_29 (by decide +kernel)
theorem d_Tokens_isWord_6 : decode b_Tokens_isWord 6 = .ok (.if_icmp .ge 43, 3) := dc_162 (by decide +kernel)
theorem d_Tokens_isWord_9 : decode b_Tokens_isWord 9 = .ok (.iload_n 0, 1) := dc_26 (by decide +kernel)
theorem d_Tokens_isWord_10 : decode b_Tokens_isWord 10 = .ok (.iload 4, 2) := dc_21 (by decide +kernel)
theorem d_Tokens_isWord_12 : decode b_Tokens_isWord 12 = .ok (.iadd, 1) := dc_96 (by decide +kernel)
theorem d_Tokens_isWord_13 : decode b_Tokens_isWord 13 = .ok (.ldc 69, 2) := dc_18 (by decide +kernel)
theorem d_Tokens_isWord_15 : decode b_Tokens_isWord 15 = .ok (.invokevirtual 71, 3) := dc_182 (by decide +kernel)
theorem d_Tokens_isWord_18 : decode b_Tokens_isWord 18 = .ok (.if_icmp .ge 31, 3) := dc_162 (by decide +kernel)
theorem d_Tokens_isWord_21 : decode b_Tokens_isWord 21 = .ok (.ldc 69, 2) := dc_18 (by decide +kernel)
theorem d_Tokens_isWord_23 : decode b_Tokens_isWord 23 = .ok (.iload_n 0, 1) := dc_26 (by decide +kernel)
theorem d_Tokens_isWord_24 : decode b_Tokens_isWord 24 = .ok (.iload 4, 2) := dc_21 (by decide +kernel)
theorem d_Tokens_isWord_26 : decode b_Tokens_isWord 26 = .ok (.iadd, 1) := dc_96 (by decide +kernel)
theorem d_Tokens_isWord_27 : decode b_Tokens_isWord 27 = .ok (.invokevirtual 77, 3) := dc_182 (by decide +kernel)
theorem d_Tokens_isWord_30 : decode b_Tokens_isWord 30 = .ok (.aload_n 1, 1) := dc_43 (by decide +kernel)
theorem d_Tokens_isWord_31 : decode b_Tokens_isWord 31 = .ok (.iload_n 2, 1) := dc_28 (by decide +kernel)
theorem d_Tokens_isWord_32 : decode b_Tokens_isWord 32 = .ok (.iload 4, 2) := dc_21 (by decide +kernel)
theorem d_Tokens_isWord_34 : decode b_Tokens_isWord 34 = .ok (.iadd, 1) := dc_96 (by decide +kernel)
theorem d_Tokens_isWord_35 : decode b_Tokens_isWord 35 = .ok (.invokestatic 25, 3) := dc_184 (by decide +kernel)
theorem d_Tokens_isWord_38 : decode b_Tokens_isWord 38 = .ok (.if_icmp .eq 5, 3) := dc_159 (by decide +kernel)
theorem d_Tokens_isWord_41 : decode b_Tokens_isWord 41 = .ok (.iconst 0, 1) := dc_3 (by decide +kernel)
theorem d_Tokens_isWord_42 : decode b_Tokens_isWord 42 = .ok (.ireturn, 1) := dc_172 (by decide +kernel)
theorem d_Tokens_isWord_43 : decode b_Tokens_isWord 43 = .ok (.iinc 4 1, 3) := dc_132 (by decide +kernel)
theorem d_Tokens_isWord_46 : decode b_Tokens_isWord 46 = .ok (.goto (-43), 3) := dc_167 (by decide +kernel)
theorem d_Tokens_isWord_49 : decode b_Tokens_isWord 49 = .ok (.iconst 1, 1) := dc_4 (by decide +kernel)
theorem d_Tokens_isWord_50 : decode b_Tokens_isWord 50 = .ok (.ireturn, 1) := dc_172 (by decide +kernel)
def t_Tokens_isWord_L3 (x1 : Int) (r2 : Nat) (N2 : Nat) (x3 : Int) (x4 : Int)  : Nat → Mem → Int → Option (Int)
  | 0, _, _ => none
  | fu + 1, M, v4_ => (if x4 ≤ v4_ then (some 1) else (if 126 ≤ (w32 (x1 + v4_)) then (some 1) else (qguard (0 ≤ (w32 (x1 + v4_)) ∧ (w32 (x1 + v4_)) < 126) (qlet (t_WF_look M r2 N2 (w32 (x3 + v4_))) fun q6 => (if (chW (w32 (x1 + v4_))) = q6 then (t_Tokens_isWord_L3 x1 r2 N2 x3 x4 fu M (w32 (v4_ + 1))) else (some 0))))))
def t_Tokens_isWord (M : Mem) (x1 : Int) (r2 : Nat) (N2 : Nat) (x3 : Int) (x4 : Int) : Option (Int) := (t_Tokens_isWord_L3 x1 r2 N2 x3 x4 FU M 0)
set_option maxHeartbeats 4000000 in
set_option maxRecDepth 100000 in
theorem k_Tokens_isWord_L3 (l : Launch) {p : Program} {e : Env} {s : State} {m : MethodId} {below : List Frame} {meth : Method} {c : Code} {b n : Nat} {C : CT} (hlo : 191 ≤ n) (x1 : Int) (r2 : Nat) (N2 : Nat) (x3 : Int) (x4 : Int) (hx1 : InR x1) (hr2 : arrP 0 r2 N2 191) (hx3 : InR x3) (hx4 : InR x4) (F : Cx b p m c b_Tokens_isWord 5 s ([vI x1, .ref (b + r2), vI x3, vI x4] : List Value).toArray "WardFalls$Tokens" C n 191) (hlk : meth.locks = false) (hr : meth.sig.returnType = some .boolean) {res : Int} : ∀ (fu : Nat) (M : Mem) (v4_ : Int) (hv4_ : InR v4_) (H : Heap) (locs : List Loc) (ls : Array Slot), St b C n M s H locs → lv_has ls 5 [(0, vI x1), (1, .ref (b + r2)), (2, vI x3), (3, vI x4), (4, vI v4_)] → t_Tokens_isWord_L3 x1 r2 N2 x3 x4 fu M v4_ = some res → W p l e (headSpec (wsM y_Tokens_isWord b_Tokens_isWord 5 (some .boolean)) (rmD 4)).room s m ([vI x1, .ref (b + r2), vI x3, vI x4] : List Value).toArray below meth c H locs 0 0 (MQ below (QZ b C n M res) ([vI x1, .ref (b + r2), vI x3, vI x4] : List Value).toArray s 0 0 (frb b)) (F0 m 3 ls []) := by
  intro fu
  induction fu with
  | zero => intro M v4_ hv4_ H locs ls hS hl hT; exact absurd hT (by simp [t_Tokens_isWord_L3])
  | succ fu ih =>
    intro M v4_ hv4_ H locs ls hS hl hT
    rw [t_Tokens_isWord_L3] at hT
    refine lv_iload F.hx F.hb d_Tokens_isWord_3 (lv_at hl 4 rfl) ?_
    refine lv_iload_n F.hx F.hb d_Tokens_isWord_5 rfl (lv_at hl 3 rfl) ?_
    refine r_icmp_ge (tgt := 49) F.hx F.hb hv4_ hx4 d_Tokens_isWord_6 (by decide) (fun c1 => ?_) (fun c1 => ?_)
    · replace hT := (if_pos c1).symm.trans hT
      refine r_iconst F.hx F.hb d_Tokens_isWord_49 ?_
      cases hT
      exact r_zret F hlk hr hS (Or.inr rfl) d_Tokens_isWord_50
    · replace hT := (if_neg c1).symm.trans hT
      refine lv_iload_n F.hx F.hb d_Tokens_isWord_9 rfl (lv_at hl 0 rfl) ?_
      refine lv_iload F.hx F.hb d_Tokens_isWord_10 (lv_at hl 4 rfl) ?_
      refine r_iadd F.hx F.hb d_Tokens_isWord_12 ?_
      refine va_ldcS F.hx F.hb F.hown F.2.2.2.2.1.1 d_Tokens_isWord_13 ?_
      refine r_backI F hS (r_runVT (As := []) F hS (isStr1 (C := C)) rfl (c_Str_length l _ (isStr1 (C := C))) gs_Tokens_71 hd_Str_length ⟨Nat.le_of_ble_eq_true rfl, Nat.le_of_ble_eq_true rfl⟩ rfl hl.1 (Nat.le_of_ble_eq_true rfl) ⟨Nat.zero_le _, Nat.zero_le _⟩ rfl d_Tokens_isWord_15) (fun H locs hS h2 => ?_)
      refine r_icmp_ge (tgt := 49) F.hx F.hb (inr_w32 _) h2 d_Tokens_isWord_18 (by decide) (fun c3 => ?_) (fun c3 => ?_)
      · replace hT := (if_pos c3).symm.trans hT
        refine r_iconst F.hx F.hb d_Tokens_isWord_49 ?_
        cases hT
        exact r_zret F hlk hr hS (Or.inr rfl) d_Tokens_isWord_50
      · replace hT := (if_neg c3).symm.trans hT
        refine va_ldcS F.hx F.hb F.hown F.2.2.2.2.1.1 d_Tokens_isWord_21 ?_
        refine lv_iload_n F.hx F.hb d_Tokens_isWord_23 rfl (lv_at hl 0 rfl) ?_
        refine lv_iload F.hx F.hb d_Tokens_isWord_24 (lv_at hl 4 rfl) ?_
        refine r_iadd F.hx F.hb d_Tokens_isWord_26 ?_
        obtain ⟨⟨g4a, g4b⟩, hT⟩ := q_guard hT
        refine r_backI F hS (r_runVT (As := [vI (w32 (x1 + v4_))]) F hS (isStr1 (C := C)) rfl (c_Str_charAt l _ (isStr1 (C := C)) (inr_w32 _) g4a g4b) gs_Tokens_77 hd_Str_charAt ⟨Nat.le_of_ble_eq_true rfl, Nat.le_of_ble_eq_true rfl⟩ rfl hl.1 (Nat.le_of_ble_eq_true rfl) ⟨Nat.zero_le _, Nat.zero_le _⟩ rfl d_Tokens_isWord_27) (fun H locs hS h5 => ?_)
        refine lv_aload_n F.hx F.hb d_Tokens_isWord_30 rfl (lv_at hl 1 rfl) ?_
        refine lv_iload_n F.hx F.hb d_Tokens_isWord_31 rfl (lv_at hl 2 rfl) ?_
        refine lv_iload F.hx F.hb d_Tokens_isWord_32 (lv_at hl 4 rfl) ?_
        refine r_iadd F.hx F.hb d_Tokens_isWord_34 ?_
        obtain ⟨q6, hq6⟩ : ∃ q, q = (t_WF_look M r2 N2 (w32 (x3 + v4_))) := ⟨_, rfl⟩
        replace hT := qlet_eq hT hq6
        refine r_backI F hS (r_runSN (As := [.ref (b + r2), vI (w32 (x3 + v4_))]) F hS (c_WF_look l F.2.2.1 M r2 N2 (w32 (x3 + v4_)) hr2 (inr_w32 _) _ hq6.symm) mw_519 mw_518 mw_1 gs_Tokens_25 hd_WF_look ⟨Nat.le_of_ble_eq_true rfl, Nat.le_of_ble_eq_true rfl⟩ rfl hl.1 (Nat.le_of_ble_eq_true rfl) ⟨Nat.zero_le _, Nat.zero_le _⟩ rfl d_Tokens_isWord_35) (fun H locs hS h7 => ?_)
        refine r_icmp_eq (tgt := 43) F.hx F.hb h5 h7 d_Tokens_isWord_38 (by decide) (fun c8 => ?_) (fun c8 => ?_)
        · replace hT := (if_pos c8).symm.trans hT
          refine lv_iinc (v := Int32.ofInt (w32 (v4_ + 1))) (lv' := [(4, vI (w32 (v4_ + 1))), (0, vI x1), (1, .ref (b + r2)), (2, vI x3), (3, vI x4)]) F.hx F.hb d_Tokens_isWord_43 hl (k := 4) rfl (q_of_add _ _) (Nat.le_of_ble_eq_true rfl) rfl (fun ls hl => ?_)
          refine lv_goto (tgt := 3) F.hx F.hb d_Tokens_isWord_46 (by decide) ?_
          exact ih M (w32 (v4_ + 1)) (inr_w32 _) _ _ _ hS (lv_sub hl [1, 2, 3, 4, 0] rfl) hT
        · replace hT := (if_neg c8).symm.trans hT
          refine r_iconst F.hx F.hb d_Tokens_isWord_41 ?_
          cases hT
          exact r_zret F hlk hr hS (Or.inl rfl) d_Tokens_isWord_42
set_option maxHeartbeats 4000000 in
set_option maxRecDepth 100000 in
theorem c_Tokens_isWord (l : Launch) {b n : Nat} {C : CT} (hlo : 191 ≤ n) (M : Mem) (x1 : Int) (r2 : Nat) (N2 : Nat) (x3 : Int) (x4 : Int) (hx1 : InR x1) (hr2 : arrP 0 r2 N2 191) (hx3 : InR x3) (hx4 : InR x4) (res : Int) (hT : t_Tokens_isWord M x1 r2 N2 x3 x4 = some res) : CM l b C n 4 y_Tokens_isWord b_Tokens_isWord 5 (some .boolean) [vI x1, .ref (b + r2), vI x3, vI x4] M (QZ b C n M res) := by
  refine CM.of (lo := 191) (ow := "WardFalls$Tokens") (by decide) rfl (Nat.le_of_ble_eq_true rfl) hlo (fun p e s m below meth c F hlk hr hS ls hl => ?_)
  have hl : lv_has ls 5 [(0, vI x1), (1, .ref (b + r2)), (2, vI x3), (3, vI x4)] := hl
  unfold t_Tokens_isWord at hT
  refine r_iconst F.hx F.hb d_Tokens_isWord_0 ?_
  refine lv_istore (lv' := [(4, vI 0), (0, vI x1), (1, .ref (b + r2)), (2, vI x3), (3, vI x4)]) F.hx F.hb d_Tokens_isWord_1 hl (Nat.le_of_ble_eq_true rfl) rfl (fun ls hl => ?_)
  exact k_Tokens_isWord_L3 l hlo x1 r2 N2 x3 x4 hx1 hr2 hx3 hx4 F hlk hr FU M 0 (inr_c rfl) _ _ _ hS (lv_sub hl [1, 2, 3, 4, 0] rfl) hT
