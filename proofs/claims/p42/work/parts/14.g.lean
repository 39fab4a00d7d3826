section
theorem d_Formula_clear_0 : decode b_Formula_clear 0 = .ok (.aload_n 0, 1) := dc_42 (by decide +kernel)
theorem d_Formula_clear_1 : decode b_Formula_clear 1 = .ok (.iconst 0, 1) := dc_3 (by decide +kernel)
theorem d_Formula_clear_2 : decode b_Formula_clear 2 = .ok (.putfield 25, 3) := dc_181 (by decide +kernel)
theorem d_Formula_clear_5 : decode b_Formula_clear 5 = .ok (.aload_n 0, 1) := dc_42 (by decide +kernel)
theorem d_Formula_clear_6 : decode b_Formula_clear 6 = .ok (.iconst 0, 1) := dc_3 (by decide +kernel)
theorem d_Formula_clear_7 : decode b_Formula_clear 7 = .ok (.putfield 29, 3) := dc_181 (by decide +kernel)
theorem d_Formula_clear_10 : decode b_Formula_clear 10 = .ok (.return_, 1) := dc_177 (by decide +kernel)
def t_Formula_clear (M : Mem) (k0 : Nat) : Mem := (qlet (setI M k0 3 0) fun M1 => (qlet (setI M1 k0 4 0) fun M2 => M2))
set_option maxHeartbeats 4000000 in
set_option maxRecDepth 100000 in
theorem c_Formula_clear (l : Launch) {b n : Nat} {C : CT} (hlo : 191 ≤ n) (M : Mem) (k0 : Nat) (hk0 : isFormula k0) (res : Mem) (hT : t_Formula_clear M k0 = res) : CM l b C n 0 y_Formula_clear b_Formula_clear 1 (none) [.ref (b + k0)] M (QV b C n res) := by
  refine CM.of (lo := 191) (ow := "WardFalls$Formula") (by decide) rfl (Nat.le_of_ble_eq_true rfl) hlo (fun p e s m below meth c F hlk hr hS ls hl => ?_)
  have hl : lv_has ls 1 [(0, .ref (b + k0))] := hl
  unfold t_Formula_clear at hT
  refine lv_aload_n F.hx F.hb d_Formula_clear_0 rfl (lv_at hl 0 rfl) ?_
  refine r_iconst F.hx F.hb d_Formula_clear_1 ?_
  refine r_putI (N := 12) (T := T3) (j := 3) F hS (Formula_lt hk0) (Formula_sh hk0) (Formula_N hk0) rfl (Nat.le_of_ble_eq_true rfl) ing3 tyok3 nm3 rfl rfl rfl rfl rfl (Formula_dyn hk0 _) mw_50 (inr_c rfl) d_Formula_clear_2 (fun H locs hS => ?_)
  obtain ⟨M1, eM1⟩ : ∃ q, q = (setI M k0 3 0) := ⟨_, rfl⟩
  replace hS : St b C n M1 s H locs := by rw [eM1]; exact hS
  replace hT := qlet_eq hT eM1
  refine lv_aload_n F.hx F.hb d_Formula_clear_5 rfl (lv_at hl 0 rfl) ?_
  refine r_iconst F.hx F.hb d_Formula_clear_6 ?_
  refine r_putI (N := 12) (T := T3) (j := 4) F hS (Formula_lt hk0) (Formula_sh hk0) (Formula_N hk0) rfl (Nat.le_of_ble_eq_true rfl) ing3 tyok3 nm3 rfl rfl (nar_z (Or.inl rfl)) (fit_z (Or.inl rfl)) rfl (Formula_dyn hk0 _) mw_51 (inr_c rfl) d_Formula_clear_7 (fun H locs hS => ?_)
  obtain ⟨M2, eM2⟩ : ∃ q, q = (setI M1 k0 4 0) := ⟨_, rfl⟩
  replace hS : St b C n M2 s H locs := by rw [eM2]; exact hS
  replace hT := qlet_eq hT eM2
  subst hT
  exact r_vret F hlk hr hS d_Formula_clear_10
theorem d_Arrays_fill_0 : decode b_Arrays_fill 0 = .ok (.iconst 0, 1) := dc_3 (by decide +kernel)
theorem d_Arrays_fill_1 : decode b_Arrays_fill 1 = .ok (.istore_n 2, 1) := dc_61 (by decide +kernel)
theorem d_Arrays_fill_2 : decode b_Arrays_fill 2 = .ok (.aload_n 0, 1) := dc_42 (by decide +kernel)
theorem d_Arrays_fill_3 : decode b_Arrays_fill 3 = .ok (.arraylength, 1) := dc_190 (by decide +kernel)
theorem d_Arrays_fill_4 : decode b_Arrays_fill 4 = .ok (.istore_n 3, 1) := dc_62 (by decide +kernel)
theorem d_Arrays_fill_5 : decode b_Arrays_fill 5 = .ok (.iload_n 2, 1) := dc_28 (by decide +kernel)
theorem d_Arrays_fill_6 : decode b_Arrays_fill 6 = .ok (.iload_n 3, 1) := dc_29 (by decide +kernel)
theorem d_Arrays_fill_7 : decode b_Arrays_fill 7 = .ok (.if_icmp .ge 13, 3) := dc_162 (by decide +kernel)
theorem d_Arrays_fill_10 : decode b_Arrays_fill 10 = .ok (.aload_n 0, 1) := dc_42 (by decide +kernel)
theorem d_Arrays_fill_11 : decode b_Arrays_fill 11 = .ok (.iload_n 2, 1) := dc_28 (by decide +kernel)
theorem d_Arrays_fill_12 : decode b_Arrays_fill 12 = .ok (.iload_n 1, 1) := dc_27 (by decide +kernel)
theorem d_Arrays_fill_13 : decode b_Arrays_fill 13 = .ok (.iastore, 1) := dc_79 (by decide +kernel)
theorem d_Arrays_fill_14 : decode b_Arrays_fill 14 = .ok (.iinc 2 1, 3) := dc_132 (by decide +kernel)
theorem d_Arrays_fill_17 : decode b_Arrays_fill 17 = .ok (.goto (-12), 3) := dc_167 (by decide +kernel)
theorem d_Arrays_fill_20 : decode b_Arrays_fill 20 = .ok (.return_, 1) := dc_177 (by decide +kernel)
def t_Arrays_fill_L5 (r1 : Nat) (N1 : Nat) (x2 : Int)  : Nat → Mem → Int → Int → Option (Mem)
  | 0, _, _, _ => none
  | fu + 1, M, v2_, v3_ => (if v3_ ≤ v2_ then (some M) else (qguard (0 ≤ v2_ ∧ v2_ < (N1 : Int)) (qlet (setI M r1 v2_ x2) fun M3 => (t_Arrays_fill_L5 r1 N1 x2 fu M3 (w32 (v2_ + 1)) v3_))))
def t_Arrays_fill (M : Mem) (r1 : Nat) (N1 : Nat) (x2 : Int) : Option (Mem) := (t_Arrays_fill_L5 r1 N1 x2 FU M 0 (N1 : Int))
set_option maxHeartbeats 4000000 in
set_option maxRecDepth 100000 in
theorem k_Arrays_fill_L5 (l : Launch) {p : Program} {e : Env} {s : State} {m : MethodId} {below : List Frame} {meth : Method} {c : Code} {b n : Nat} {C : CT} (hlo : 191 ≤ n) (r1 : Nat) (N1 : Nat) (x2 : Int) (hr1 : arrP 0 r1 N1 191) (hx2 : InR x2) (F : Cx b p m c b_Arrays_fill 4 s ([.ref (b + r1), vI x2] : List Value).toArray "java/util/Arrays" C n 191) (hlk : meth.locks = false) (hr : meth.sig.returnType = none) {res : Mem} : ∀ (fu : Nat) (M : Mem) (v2_ : Int) (hv2_ : InR v2_) (v3_ : Int) (hv3_ : InR v3_) (H : Heap) (locs : List Loc) (ls : Array Slot), St b C n M s H locs → lv_has ls 4 [(0, .ref (b + r1)), (1, vI x2), (2, vI v2_), (3, vI v3_)] → t_Arrays_fill_L5 r1 N1 x2 fu M v2_ v3_ = some res → W p l e (headSpec (wsM y_Arrays_fill b_Arrays_fill 4 (none)) (rmD 0)).room s m ([.ref (b + r1), vI x2] : List Value).toArray below meth c H locs 0 0 (MQ below (QV b C n res) ([.ref (b + r1), vI x2] : List Value).toArray s 0 0 (frb b)) (F0 m 5 ls []) := by
  intro fu
  induction fu with
  | zero => intro M v2_ hv2_ v3_ hv3_ H locs ls hS hl hT; exact absurd hT (by simp [t_Arrays_fill_L5])
  | succ fu ih =>
    intro M v2_ hv2_ v3_ hv3_ H locs ls hS hl hT
    rw [t_Arrays_fill_L5] at hT
    refine lv_iload_n F.hx F.hb d_Arrays_fill_5 rfl (lv_at hl 2 rfl) ?_
    refine lv_iload_n F.hx F.hb d_Arrays_fill_6 rfl (lv_at hl 3 rfl) ?_
    refine r_icmp_ge (tgt := 20) F.hx F.hb hv2_ hv3_ d_Arrays_fill_7 (by decide) (fun c1 => ?_) (fun c1 => ?_)
    · replace hT := (if_pos c1).symm.trans hT
      cases hT
      exact r_vret F hlk hr hS d_Arrays_fill_20
    · replace hT := (if_neg c1).symm.trans hT
      refine lv_aload_n F.hx F.hb d_Arrays_fill_10 rfl (lv_at hl 0 rfl) ?_
      refine lv_iload_n F.hx F.hb d_Arrays_fill_11 rfl (lv_at hl 2 rfl) ?_
      refine lv_iload_n F.hx F.hb d_Arrays_fill_12 rfl (lv_at hl 1 rfl) ?_
      obtain ⟨⟨g2a, g2b⟩, hT⟩ := q_guard hT
      refine r_iast F hS hr1.2.2 hr1.1 hr1.2.1 hv2_ hx2 g2a g2b d_Arrays_fill_13 (fun H locs hS => ?_)
      obtain ⟨M3, eM3⟩ : ∃ q, q = (setI M r1 v2_ x2) := ⟨_, rfl⟩
      replace hS : St b C n M3 s H locs := by rw [eM3]; exact hS
      replace hT := qlet_eq hT eM3
      refine lv_iinc (v := Int32.ofInt (w32 (v2_ + 1))) (lv' := [(2, vI (w32 (v2_ + 1))), (0, .ref (b + r1)), (1, vI x2), (3, vI v3_)]) F.hx F.hb d_Arrays_fill_14 hl (k := 2) rfl (q_of_add _ _) (Nat.le_of_ble_eq_true rfl) rfl (fun ls hl => ?_)
      refine lv_goto (tgt := 5) F.hx F.hb d_Arrays_fill_17 (by decide) ?_
      exact ih M3 (w32 (v2_ + 1)) (inr_w32 _) v3_ hv3_ _ _ _ hS (lv_sub hl [1, 2, 0, 3] rfl) hT
set_option maxHeartbeats 4000000 in
set_option maxRecDepth 100000 in
theorem c_Arrays_fill (l : Launch) {b n : Nat} {C : CT} (hlo : 191 ≤ n) (M : Mem) (r1 : Nat) (N1 : Nat) (x2 : Int) (hr1 : arrP 0 r1 N1 191) (hx2 : InR x2) (res : Mem) (hT : t_Arrays_fill M r1 N1 x2 = some res) : CM l b C n 0 y_Arrays_fill b_Arrays_fill 4 (none) [.ref (b + r1), vI x2] M (QV b C n res) := by
  refine CM.of (lo := 191) (ow := "java/util/Arrays") (by decide) rfl (Nat.le_of_ble_eq_true rfl) hlo (fun p e s m below meth c F hlk hr hS ls hl => ?_)
  have hl : lv_has ls 4 [(0, .ref (b + r1)), (1, vI x2)] := hl
  unfold t_Arrays_fill at hT
  refine r_iconst F.hx F.hb d_Arrays_fill_0 ?_
  refine lv_istore_n (lv' := [(2, vI 0), (0, .ref (b + r1)), (1, vI x2)]) F.hx F.hb d_Arrays_fill_1 rfl hl (Nat.le_of_ble_eq_true rfl) rfl (fun ls hl => ?_)
  refine lv_aload_n F.hx F.hb d_Arrays_fill_2 rfl (lv_at hl 1 rfl) ?_
  refine r_alen F hS hr1.2.2 (by rw [hr1.1]; decide) hr1.2.1 d_Arrays_fill_3 rfl ?_
  refine lv_istore_n (lv' := [(3, vI (N1 : Int)), (2, vI 0), (0, .ref (b + r1)), (1, vI x2)]) F.hx F.hb d_Arrays_fill_4 rfl hl (Nat.le_of_ble_eq_true rfl) rfl (fun ls hl => ?_)
  exact k_Arrays_fill_L5 l hlo r1 N1 x2 hr1 hx2 F hlk hr FU M 0 (inr_c rfl) (N1 : Int) (inr_len hr1) _ _ _ hS (lv_sub hl [2, 3, 1, 0] rfl) hT
theorem d_Town_clear_0 : decode b_Town_clear 0 = .ok (.aload_n 0, 1) := dc_42 (by decide +kernel)
theorem d_Town_clear_1 : decode b_Town_clear 1 = .ok (.iconst 4, 1) := dc_7 (by decide +kernel)
theorem d_Town_clear_2 : decode b_Town_clear 2 = .ok (.putfield 49, 3) := dc_181 (by decide +kernel)
theorem d_Town_clear_5 : decode b_Town_clear 5 = .ok (.aload_n 0, 1) := dc_42 (by decide +kernel)
theorem d_Town_clear_6 : decode b_Town_clear 6 = .ok (.iconst 4, 1) := dc_7 (by decide +kernel)
theorem d_Town_clear_7 : decode b_Town_clear 7 = .ok (.putfield 53, 3) := dc_181 (by decide +kernel)
theorem d_Town_clear_10 : decode b_Town_clear 10 = .ok (.aload_n 0, 1) := dc_42 (by decide +kernel)
theorem d_Town_clear_11 : decode b_Town_clear 11 = .ok (.iconst 0, 1) := dc_3 (by decide +kernel)
theorem d_Town_clear_12 : decode b_Town_clear 12 = .ok (.putfield 56, 3) := dc_181 (by decide +kernel)
theorem d_Town_clear_15 : decode b_Town_clear 15 = .ok (.aload_n 0, 1) := dc_42 (by decide +kernel)
theorem d_Town_clear_16 : decode b_Town_clear 16 = .ok (.iconst 0, 1) := dc_3 (by decide +kernel)
theorem d_Town_clear_17 : decode b_Town_clear 17 = .ok (.putfield 59, 3) := dc_181 (by decide +kernel)
theorem d_Town_clear_20 : decode b_Town_clear 20 = .ok (.aload_n 0, 1) := dc_42 (by decide +kernel)
theorem d_Town_clear_21 : decode b_Town_clear 21 = .ok (.iconst 0, 1) := dc_3 (by decide +kernel)
theorem d_Town_clear_22 : decode b_Town_clear 22 = .ok (.putfield 62, 3) := dc_181 (by decide +kernel)
theorem d_Town_clear_25 : decode b_Town_clear 25 = .ok (.aload_n 0, 1) := dc_42 (by decide +kernel)
theorem d_Town_clear_26 : decode b_Town_clear 26 = .ok (.iconst 0, 1) := dc_3 (by decide +kernel)
theorem d_Town_clear_27 : decode b_Town_clear 27 = .ok (.putfield 65, 3) := dc_181 (by decide +kernel)
theorem d_Town_clear_30 : decode b_Town_clear 30 = .ok (.aload_n 0, 1) := dc_42 (by decide +kernel)
theorem d_Town_clear_31 : decode b_Town_clear 31 = .ok (.lconst 0, 1) := dc_9 (by decide +kernel)
theorem d_Town_clear_32 : decode b_Town_clear 32 = .ok (.putfield 68, 3) := dc_181 (by decide +kernel)
theorem d_Town_clear_35 : decode b_Town_clear 35 = .ok (.aload_n 0, 1) := dc_42 (by decide +kernel)
theorem d_Town_clear_36 : decode b_Town_clear 36 = .ok (.lconst 0, 1) := dc_9 (by decide +kernel)
theorem d_Town_clear_37 : decode b_Town_clear 37 = .ok (.putfield 72, 3) := dc_181 (by decide +kernel)
theorem d_Town_clear_40 : decode b_Town_clear 40 = .ok (.aload_n 0, 1) := dc_42 (by decide +kernel)
theorem d_Town_clear_41 : decode b_Town_clear 41 = .ok (.getfield 42, 3) := dc_180 (by decide +kernel)
theorem d_Town_clear_44 : decode b_Town_clear 44 = .ok (.invokevirtual 75, 3) := dc_182 (by decide +kernel)
theorem d_Town_clear_47 : decode b_Town_clear 47 = .ok (.aload_n 0, 1) := dc_42 (by decide +kernel)
theorem d_Town_clear_48 : decode b_Town_clear 48 = .ok (.getfield 46, 3) := dc_180 (by decide +kernel)
theorem d_Town_clear_51 : decode b_Town_clear 51 = .ok (.invokevirtual 75, 3) := dc_182 (by decide +kernel)
theorem d_Town_clear_54 : decode b_Town_clear 54 = .ok (.aload_n 0, 1) := dc_42 (by decide +kernel)
theorem d_Town_clear_55 : decode b_Town_clear 55 = .ok (.getfield 33, 3) := dc_180 (by decide +kernel)
theorem d_Town_clear_58 : decode b_Town_clear 58 = .ok (.iconst (-1), 1) := dc_2 (by decide +kernel)
theorem d_Town_clear_59 : decode b_Town_clear 59 = .ok (.invokestatic 78, 3) := dc_184 (by decide +kernel)
theorem d_Town_clear_62 : decode b_Town_clear 62 = .ok (.return_, 1) := dc_177 (by decide +kernel)
def t_Town_clear (M : Mem) (k0 : Nat) : Option (Mem) := (qlet (setI M k0 11 4) fun M1 => (qlet (setI M1 k0 12 4) fun M2 => (qlet (setI M2 k0 14 0) fun M3 => (qlet (setI M3 k0 15 0) fun M4 => (qlet (setI M4 k0 16 0) fun M5 => (qlet (setI M5 k0 17 0) fun M6 => (qlet (setL M6 k0 18 0) fun M7 => (qlet (setL M7 k0 19 0) fun M8 => (qlet (t_Formula_clear M8 (k0 + 10)) fun q9 => (qlet (t_Formula_clear q9 (k0 + 15)) fun q11 => (obind (t_Arrays_fill q11 (k0 + 8) 48 (-1)) fun q13 => (some q13))))))))))))
set_option maxHeartbeats 4000000 in
set_option maxRecDepth 100000 in
theorem c_Town_clear (l : Launch) {b n : Nat} {C : CT} (hlo : 191 ≤ n) (M : Mem) (k0 : Nat) (hk0 : isTown k0) (res : Mem) (hT : t_Town_clear M k0 = some res) : CM l b C n 1 y_Town_clear b_Town_clear 1 (none) [.ref (b + k0)] M (QV b C n res) := by
  refine CM.of (lo := 191) (ow := "WardFalls$Town") (by decide) rfl (Nat.le_of_ble_eq_true rfl) hlo (fun p e s m below meth c F hlk hr hS ls hl => ?_)
  have hl : lv_has ls 1 [(0, .ref (b + k0))] := hl
  unfold t_Town_clear at hT
  refine lv_aload_n F.hx F.hb d_Town_clear_0 rfl (lv_at hl 0 rfl) ?_
  refine r_iconst F.hx F.hb d_Town_clear_1 ?_
  refine r_putI (N := 20) (T := T11) (j := 11) F hS (Town_lt hk0) (Town_sh hk0) (Town_N hk0) rfl (Nat.le_of_ble_eq_true rfl) ing11 tyok11 nm11 rfl rfl rfl rfl rfl (Town_dyn hk0 _) mw_121 (inr_c rfl) d_Town_clear_2 (fun H locs hS => ?_)
  obtain ⟨M1, eM1⟩ : ∃ q, q = (setI M k0 11 4) := ⟨_, rfl⟩
  replace hS : St b C n M1 s H locs := by rw [eM1]; exact hS
  replace hT := qlet_eq hT eM1
  refine lv_aload_n F.hx F.hb d_Town_clear_5 rfl (lv_at hl 0 rfl) ?_
  refine r_iconst F.hx F.hb d_Town_clear_6 ?_
  refine r_putI (N := 20) (T := T11) (j := 12) F hS (Town_lt hk0) (Town_sh hk0) (Town_N hk0) rfl (Nat.le_of_ble_eq_true rfl) ing11 tyok11 nm11 rfl rfl rfl rfl rfl (Town_dyn hk0 _) mw_124 (inr_c rfl) d_Town_clear_7 (fun H locs hS => ?_)
  obtain ⟨M2, eM2⟩ : ∃ q, q = (setI M1 k0 12 4) := ⟨_, rfl⟩
  replace hS : St b C n M2 s H locs := by rw [eM2]; exact hS
  replace hT := qlet_eq hT eM2
  refine lv_aload_n F.hx F.hb d_Town_clear_10 rfl (lv_at hl 0 rfl) ?_
  refine r_iconst F.hx F.hb d_Town_clear_11 ?_
  refine r_putI (N := 20) (T := T11) (j := 14) F hS (Town_lt hk0) (Town_sh hk0) (Town_N hk0) rfl (Nat.le_of_ble_eq_true rfl) ing11 tyok11 nm11 rfl rfl rfl rfl rfl (Town_dyn hk0 _) mw_133 (inr_c rfl) d_Town_clear_12 (fun H locs hS => ?_)
  obtain ⟨M3, eM3⟩ : ∃ q, q = (setI M2 k0 14 0) := ⟨_, rfl⟩
  replace hS : St b C n M3 s H locs := by rw [eM3]; exact hS
  replace hT := qlet_eq hT eM3
  refine lv_aload_n F.hx F.hb d_Town_clear_15 rfl (lv_at hl 0 rfl) ?_
  refine r_iconst F.hx F.hb d_Town_clear_16 ?_
  refine r_putI (N := 20) (T := T11) (j := 15) F hS (Town_lt hk0) (Town_sh hk0) (Town_N hk0) rfl (Nat.le_of_ble_eq_true rfl) ing11 tyok11 nm11 rfl rfl rfl rfl rfl (Town_dyn hk0 _) mw_140 (inr_c rfl) d_Town_clear_17 (fun H locs hS => ?_)
  obtain ⟨M4, eM4⟩ : ∃ q, q = (setI M3 k0 15 0) := ⟨_, rfl⟩
  replace hS : St b C n M4 s H locs := by rw [eM4]; exact hS
  replace hT := qlet_eq hT eM4
  refine lv_aload_n F.hx F.hb d_Town_clear_20 rfl (lv_at hl 0 rfl) ?_
  refine r_iconst F.hx F.hb d_Town_clear_21 ?_
  refine r_putI (N := 20) (T := T11) (j := 16) F hS (Town_lt hk0) (Town_sh hk0) (Town_N hk0) rfl (Nat.le_of_ble_eq_true rfl) ing11 tyok11 nm11 rfl rfl rfl rfl rfl (Town_dyn hk0 _) mw_145 (inr_c rfl) d_Town_clear_22 (fun H locs hS => ?_)
  obtain ⟨M5, eM5⟩ : ∃ q, q = (setI M4 k0 16 0) := ⟨_, rfl⟩
  replace hS : St b C n M5 s H locs := by rw [eM5]; exact hS
  replace hT := qlet_eq hT eM5
  refine lv_aload_n F.hx F.hb d_Town_clear_25 rfl (lv_at hl 0 rfl) ?_
  refine r_iconst F.hx F.hb d_Town_clear_26 ?_
  refine r_putI (N := 20) (T := T11) (j := 17) F hS (Town_lt hk0) (Town_sh hk0) (Town_N hk0) rfl (Nat.le_of_ble_eq_true rfl) ing11 tyok11 nm11 rfl rfl rfl rfl rfl (Town_dyn hk0 _) mw_149 (inr_c rfl) d_Town_clear_27 (fun H locs hS => ?_)
  obtain ⟨M6, eM6⟩ : ∃ q, q = (setI M5 k0 17 0) := ⟨_, rfl⟩
  replace hS : St b C n M6 s H locs := by rw [eM6]; exact hS
  replace hT := qlet_eq hT eM6
  refine lv_aload_n F.hx F.hb d_Town_clear_30 rfl (lv_at hl 0 rfl) ?_
  refine lv_lconst (v := 0) F.hx F.hb d_Town_clear_31 rfl ?_
  refine r_putL (N := 20) (T := T11) (j := 18) F hS (Town_lt hk0) (Town_sh hk0) (Town_N hk0) rfl (Nat.le_of_ble_eq_true rfl) ing11 tyok11 nm11 rfl rfl rfl mw_151 d_Town_clear_32 (fun H locs hS => ?_)
  obtain ⟨M7, eM7⟩ : ∃ q, q = (setL M6 k0 18 0) := ⟨_, rfl⟩
  replace hS : St b C n M7 s H locs := by rw [eM7]; exact hS
  replace hT := qlet_eq hT eM7
  refine lv_aload_n F.hx F.hb d_Town_clear_35 rfl (lv_at hl 0 rfl) ?_
  refine lv_lconst (v := 0) F.hx F.hb d_Town_clear_36 rfl ?_
  refine r_putL (N := 20) (T := T11) (j := 19) F hS (Town_lt hk0) (Town_sh hk0) (Town_N hk0) rfl (Nat.le_of_ble_eq_true rfl) ing11 tyok11 nm11 rfl rfl rfl mw_154 d_Town_clear_37 (fun H locs hS => ?_)
  obtain ⟨M8, eM8⟩ : ∃ q, q = (setL M7 k0 19 0) := ⟨_, rfl⟩
  replace hS : St b C n M8 s H locs := by rw [eM8]; exact hS
  replace hT := qlet_eq hT eM8
  refine lv_aload_n F.hx F.hb d_Town_clear_40 rfl (lv_at hl 0 rfl) ?_
  refine r_get (v := .ref (b + (k0 + 10))) (N := 20) (T := T11) (j := 9) F hS (Town_lt hk0) (Town_sh hk0) (Town_N hk0) rfl (Nat.le_of_ble_eq_true rfl) ing11 mw_115 (Town_g9 hk0 _) d_Town_clear_41 ?_
  obtain ⟨q9, hq9⟩ : ∃ q, q = (t_Formula_clear M8 (k0 + 10)) := ⟨_, rfl⟩
  replace hT := qlet_eq hT hq9
  refine r_backV F hS (r_runV (k := (k0 + 10)) (N := 12) (T := T3) (As := []) F hS (Formula_lt (Town_f9 hk0)) (Formula_sh (Town_f9 hk0)) rfl (c_Formula_clear l F.2.2.1 M8 (k0 + 10) (Town_f9 hk0) _ hq9.symm) gs_Town_75 hd_Formula_clear ⟨Nat.le_of_ble_eq_true rfl, Nat.le_of_ble_eq_true rfl⟩ rfl hl.1 (Nat.le_of_ble_eq_true rfl) ⟨Nat.zero_le _, Nat.zero_le _⟩ rfl d_Town_clear_44) (fun H locs hS => ?_)
  refine lv_aload_n F.hx F.hb d_Town_clear_47 rfl (lv_at hl 0 rfl) ?_
  refine r_get (v := .ref (b + (k0 + 15))) (N := 20) (T := T11) (j := 10) F hS (Town_lt hk0) (Town_sh hk0) (Town_N hk0) rfl (Nat.le_of_ble_eq_true rfl) ing11 mw_118 (Town_g10 hk0 _) d_Town_clear_48 ?_
  obtain ⟨q11, hq11⟩ : ∃ q, q = (t_Formula_clear q9 (k0 + 15)) := ⟨_, rfl⟩
  replace hT := qlet_eq hT hq11
  refine r_backV F hS (r_runV (k := (k0 + 15)) (N := 12) (T := T3) (As := []) F hS (Formula_lt (Town_f10 hk0)) (Formula_sh (Town_f10 hk0)) rfl (c_Formula_clear l F.2.2.1 q9 (k0 + 15) (Town_f10 hk0) _ hq11.symm) gs_Town_75 hd_Formula_clear ⟨Nat.le_of_ble_eq_true rfl, Nat.le_of_ble_eq_true rfl⟩ rfl hl.1 (Nat.le_of_ble_eq_true rfl) ⟨Nat.zero_le _, Nat.zero_le _⟩ rfl d_Town_clear_51) (fun H locs hS => ?_)
  refine lv_aload_n F.hx F.hb d_Town_clear_54 rfl (lv_at hl 0 rfl) ?_
  refine r_get (v := .ref (b + (k0 + 8))) (N := 20) (T := T11) (j := 7) F hS (Town_lt hk0) (Town_sh hk0) (Town_N hk0) rfl (Nat.le_of_ble_eq_true rfl) ing11 mw_111 (Town_g7 hk0 _) d_Town_clear_55 ?_
  refine r_iconst F.hx F.hb d_Town_clear_58 ?_
  obtain ⟨q13, hq13, hT⟩ := q_obind hT
  refine r_backV F hS (r_runS (As := [.ref (b + (k0 + 8)), vI (-1)]) F hS (c_Arrays_fill l F.2.2.1 q11 (k0 + 8) 48 (-1) (Town_f7 hk0) (inr_c rfl) _ hq13) gs_Town_78 hd_Arrays_fill ⟨Nat.le_of_ble_eq_true rfl, Nat.le_of_ble_eq_true rfl⟩ rfl hl.1 (Nat.le_of_ble_eq_true rfl) ⟨Nat.zero_le _, Nat.zero_le _⟩ rfl d_Town_clear_59) (fun H locs hS => ?_)
  cases hT
  exact r_vret F hlk hr hS d_Town_clear_62
theorem d_WF_put_0 : decode b_WF_put 0 = .ok (.iload_n 1, 1) := dc_27 (by decide +kernel)
theorem d_WF_put_1 : decode b_WF_put 1 = .ok (.ifCond .lt 13, 3) := dc_155 (by decide +kernel)
theorem d_WF_put_4 : decode b_WF_put 4 = .ok (.iload_n 1, 1) := dc_27 (by decide +kernel)
theorem d_WF_put_5 : decode b_WF_put 5 = .ok (.aload_n 0, 1) := dc_42 (by decide +kernel)
theorem d_WF_put_6 : decode b_WF_put 6 = .ok (.arraylength, 1) := dc_190 (by decide +kernel)
theorem d_WF_put_7 : decode b_WF_put 7 = .ok (.if_icmp .ge 7, 3) := dc_162 (by decide +kernel)
theorem d_WF_put_10 : decode b_WF_put 10 = .ok (.aload_n 0, 1) := dc_42 (by decide +kernel)
theorem d_WF_put_11 : decode b_WF_put 11 = .ok (.iload_n 1, 1) := dc_27 (by decide +kernel)
theorem d_WF_put_12 : decode b_WF_put 12 = .ok (.iload_n 2, 1) := dc_28 (by decide +kernel)
theorem d_WF_put_13 : decode b_WF_put 13 = .ok (.iastore, 1) := dc_79 (by decide +kernel)
theorem d_WF_put_14 : decode b_WF_put 14 = .ok (.return_, 1) := dc_177 (by decide +kernel)
def t_WF_put (M : Mem) (r1 : Nat) (N1 : Nat) (x2 : Int) (x3 : Int) : Mem := (if x2 < 0 then M else (if (N1 : Int) ≤ x2 then M else (qlet (setI M r1 x2 x3) fun M3 => M3)))
set_option maxHeartbeats 4000000 in
set_option maxRecDepth 100000 in
theorem c_WF_put (l : Launch) {b n : Nat} {C : CT} (hlo : 191 ≤ n) (M : Mem) (r1 : Nat) (N1 : Nat) (x2 : Int) (x3 : Int) (hr1 : arrP 0 r1 N1 191) (hx2 : InR x2) (hx3 : InR x3) (res : Mem) (hT : t_WF_put M r1 N1 x2 x3 = res) : CM l b C n 0 y_WF_put b_WF_put 3 (none) [.ref (b + r1), vI x2, vI x3] M (QV b C n res) := by
  refine CM.of (lo := 191) (ow := "WardFalls") (by decide) rfl (Nat.le_of_ble_eq_true rfl) hlo (fun p e s m below meth c F hlk hr hS ls hl => ?_)
  have hl : lv_has ls 3 [(0, .ref (b + r1)), (1, vI x2), (2, vI x3)] := hl
  unfold t_WF_put at hT
  refine lv_iload_n F.hx F.hb d_WF_put_0 rfl (lv_at hl 1 rfl) ?_
  refine r_if_lt (tgt := 14) F.hx F.hb hx2 d_WF_put_1 (by decide) (fun c1 => ?_) (fun c1 => ?_)
  · replace hT := (if_pos c1).symm.trans hT
    subst hT
    exact r_vret F hlk hr hS d_WF_put_14
  · replace hT := (if_neg c1).symm.trans hT
    refine lv_iload_n F.hx F.hb d_WF_put_4 rfl (lv_at hl 1 rfl) ?_
    refine lv_aload_n F.hx F.hb d_WF_put_5 rfl (lv_at hl 0 rfl) ?_
    refine r_alen F hS hr1.2.2 (by rw [hr1.1]; decide) hr1.2.1 d_WF_put_6 rfl ?_
    refine r_icmp_ge (tgt := 14) F.hx F.hb hx2 (inr_len hr1) d_WF_put_7 (by decide) (fun c2 => ?_) (fun c2 => ?_)
    · replace hT := (if_pos c2).symm.trans hT
      subst hT
      exact r_vret F hlk hr hS d_WF_put_14
    · replace hT := (if_neg c2).symm.trans hT
      refine lv_aload_n F.hx F.hb d_WF_put_10 rfl (lv_at hl 0 rfl) ?_
      refine lv_iload_n F.hx F.hb d_WF_put_11 rfl (lv_at hl 1 rfl) ?_
      refine lv_iload_n F.hx F.hb d_WF_put_12 rfl (lv_at hl 2 rfl) ?_
      refine r_iast F hS hr1.2.2 hr1.1 hr1.2.1 hx2 hx3 (by omega) (by omega) d_WF_put_13 (fun H locs hS => ?_)
      obtain ⟨M3, eM3⟩ : ∃ q, q = (setI M r1 x2 x3) := ⟨_, rfl⟩
      replace hS : St b C n M3 s H locs := by rw [eM3]; exact hS
      replace hT := qlet_eq hT eM3
      subst hT
      exact r_vret F hlk hr hS d_WF_put_14
theorem d_WF_look_0 : decode b_WF_look 0 = .ok (.iload_n 1, 1) := dc_27 (by decide +kernel)
theorem d_WF_look_1 : decode b_WF_look 1 = .ok (.ifCond .lt 15, 3) := dc_155 (by decide +kernel)
theorem d_WF_look_4 : decode b_WF_look 4 = .ok (.iload_n 1, 1) := dc_27 (by decide +kernel)
theorem d_WF_look_5 : decode b_WF_look 5 = .ok (.aload_n 0, 1) := dc_42 (by decide +kernel)
theorem d_WF_look_6 : decode b_WF_look 6 = .ok (.arraylength, 1) := dc_190 (by decide +kernel)
theorem d_WF_look_7 : decode b_WF_look 7 = .ok (.if_icmp .ge 9, 3) := dc_162 (by decide +kernel)
theorem d_WF_look_10 : decode b_WF_look 10 = .ok (.aload_n 0, 1) := dc_42 (by decide +kernel)
theorem d_WF_look_11 : decode b_WF_look 11 = .ok (.iload_n 1, 1) := dc_27 (by decide +kernel)
theorem d_WF_look_12 : decode b_WF_look 12 = .ok (.iaload, 1) := dc_46 (by decide +kernel)
theorem d_WF_look_13 : decode b_WF_look 13 = .ok (.goto 4, 3) := dc_167 (by decide +kernel)
theorem d_WF_look_16 : decode b_WF_look 16 = .ok (.iconst (-1), 1) := dc_2 (by decide +kernel)
theorem d_WF_look_17 : decode b_WF_look 17 = .ok (.ireturn, 1) := dc_172 (by decide +kernel)
def t_WF_look (M : Mem) (r1 : Nat) (N1 : Nat) (x2 : Int) : Int := (if x2 < 0 then (-1) else (if (N1 : Int) ≤ x2 then (-1) else (M.1 r1 x2)))
set_option maxHeartbeats 4000000 in
set_option maxRecDepth 100000 in
theorem c_WF_look (l : Launch) {b n : Nat} {C : CT} (hlo : 191 ≤ n) (M : Mem) (r1 : Nat) (N1 : Nat) (x2 : Int) (hr1 : arrP 0 r1 N1 191) (hx2 : InR x2) (res : Int) (hT : t_WF_look M r1 N1 x2 = res) : CM l b C n 0 y_WF_look b_WF_look 2 (some .int) [.ref (b + r1), vI x2] M (QI b C n M res) := by
  refine CM.of (lo := 191) (ow := "WardFalls") (by decide) rfl (Nat.le_of_ble_eq_true rfl) hlo (fun p e s m below meth c F hlk hr hS ls hl => ?_)
  have hl : lv_has ls 2 [(0, .ref (b + r1)), (1, vI x2)] := hl
  unfold t_WF_look at hT
  refine lv_iload_n F.hx F.hb d_WF_look_0 rfl (lv_at hl 1 rfl) ?_
  refine r_if_lt (tgt := 16) F.hx F.hb hx2 d_WF_look_1 (by decide) (fun c1 => ?_) (fun c1 => ?_)
  · replace hT := (if_pos c1).symm.trans hT
    refine r_iconst F.hx F.hb d_WF_look_16 ?_
    subst hT
    exact r_iret F hlk hr rfl hS (inr_c rfl) d_WF_look_17
  · replace hT := (if_neg c1).symm.trans hT
    refine lv_iload_n F.hx F.hb d_WF_look_4 rfl (lv_at hl 1 rfl) ?_
    refine lv_aload_n F.hx F.hb d_WF_look_5 rfl (lv_at hl 0 rfl) ?_
    refine r_alen F hS hr1.2.2 (by rw [hr1.1]; decide) hr1.2.1 d_WF_look_6 rfl ?_
    refine r_icmp_ge (tgt := 16) F.hx F.hb hx2 (inr_len hr1) d_WF_look_7 (by decide) (fun c2 => ?_) (fun c2 => ?_)
    · replace hT := (if_pos c2).symm.trans hT
      refine r_iconst F.hx F.hb d_WF_look_16 ?_
      subst hT
      exact r_iret F hlk hr rfl hS (inr_c rfl) d_WF_look_17
    · replace hT := (if_neg c2).symm.trans hT
      refine lv_aload_n F.hx F.hb d_WF_look_10 rfl (lv_at hl 0 rfl) ?_
      refine lv_iload_n F.hx F.hb d_WF_look_11 rfl (lv_at hl 1 rfl) ?_
      refine r_iald F hS hr1.2.2 hr1.1 hr1.2.1 hx2 (by omega) (by omega) d_WF_look_12 ?_
      have i3 := hS.rng r1 x2
      refine lv_goto (tgt := 17) F.hx F.hb d_WF_look_13 (by decide) ?_
      subst hT
      exact r_iret F hlk hr rfl hS i3 d_WF_look_17
theorem d_Town_ownerOf_0 : decode b_Town_ownerOf 0 = .ok (.aload_n 0, 1) := dc_42 (by decide +kernel)
theorem d_Town_ownerOf_1 : decode b_Town_ownerOf 1 = .ok (.getfield 33, 3) := dc_180 (by decide +kernel)
theorem d_Town_ownerOf_4 : decode b_Town_ownerOf 4 = .ok (.iload_n 1, 1) := dc_27 (by decide +kernel)
theorem d_Town_ownerOf_5 : decode b_Town_ownerOf 5 = .ok (.invokestatic 95, 3) := dc_184 (by decide +kernel)
theorem d_Town_ownerOf_8 : decode b_Town_ownerOf 8 = .ok (.ireturn, 1) := dc_172 (by decide +kernel)
def t_Town_ownerOf (M : Mem) (k0 : Nat) (x1 : Int) : Int := (qlet (t_WF_look M (k0 + 8) 48 x1) fun q1 => q1)
set_option maxHeartbeats 4000000 in
set_option maxRecDepth 100000 in
theorem c_Town_ownerOf (l : Launch) {b n : Nat} {C : CT} (hlo : 191 ≤ n) (M : Mem) (k0 : Nat) (x1 : Int) (hk0 : isTown k0) (hx1 : InR x1) (res : Int) (hT : t_Town_ownerOf M k0 x1 = res) : CM l b C n 1 y_Town_ownerOf b_Town_ownerOf 2 (some .int) [.ref (b + k0), vI x1] M (QI b C n M res) := by
  refine CM.of (lo := 191) (ow := "WardFalls$Town") (by decide) rfl (Nat.le_of_ble_eq_true rfl) hlo (fun p e s m below meth c F hlk hr hS ls hl => ?_)
  have hl : lv_has ls 2 [(0, .ref (b + k0)), (1, vI x1)] := hl
  unfold t_Town_ownerOf at hT
  refine lv_aload_n F.hx F.hb d_Town_ownerOf_0 rfl (lv_at hl 0 rfl) ?_
  refine r_get (v := .ref (b + (k0 + 8))) (N := 20) (T := T11) (j := 7) F hS (Town_lt hk0) (Town_sh hk0) (Town_N hk0) rfl (Nat.le_of_ble_eq_true rfl) ing11 mw_111 (Town_g7 hk0 _) d_Town_ownerOf_1 ?_
  refine lv_iload_n F.hx F.hb d_Town_ownerOf_4 rfl (lv_at hl 1 rfl) ?_
  obtain ⟨q1, hq1⟩ : ∃ q, q = (t_WF_look M (k0 + 8) 48 x1) := ⟨_, rfl⟩
  replace hT := qlet_eq hT hq1
  refine r_backI F hS (r_runSN (As := [.ref (b + (k0 + 8)), vI x1]) F hS (c_WF_look l F.2.2.1 M (k0 + 8) 48 x1 (Town_f7 hk0) hx1 _ hq1.symm) mw_519 mw_518 mw_1 gs_Town_95 hd_WF_look ⟨Nat.le_of_ble_eq_true rfl, Nat.le_of_ble_eq_true rfl⟩ rfl hl.1 (Nat.le_of_ble_eq_true rfl) ⟨Nat.zero_le _, Nat.zero_le _⟩ rfl d_Town_ownerOf_5) (fun H locs hS h2 => ?_)
  subst hT
  exact r_iret F hlk hr rfl hS h2 d_Town_ownerOf_8
theorem wn_Town_settle_0 : ∀ i, i < 96 → bA b_Town_settle (0 + i) = wB [42, 42, 180, 0, 49, 42, 180, 0, 53, 104, 181, 0, 84, 42, 180, 0, 21, 3, 184, 0, 78, 3, 60, 27, 42, 180, 0, 53, 162, 0, 169, 3, 61, 28, 42, 180, 0, 49, 162, 0, 153, 27, 42, 180, 0, 49, 104, 28, 96, 62, 42, 180, 0, 36, 29, 7, 104, 27, 158, 0, 12, 29, 42, 180, 0, 49, 100, 167, 0, 4, 2, 184, 0, 87, 42, 180, 0, 36, 29, 7, 104, 4, 96, 28, 42, 180, 0, 49, 4, 100, 162, 0, 9, 29, 4, 96] i := wB_of (by decide +kernel)
theorem d_Town_settle_0 : decode b_Town_settle 0 = .ok (.aload_n 0, 1) := dc_42 (q0_win (r := 0) wn_Town_settle_0 (by decide +kernel))
theorem d_Town_settle_1 : decode b_Town_settle 1 = .ok (.aload_n 0, 1) := dc_42 (q0_win (r := 1) wn_Town_settle_0 (by decide +kernel))
theorem d_Town_settle_2 : decode b_Town_settle 2 = .ok (.getfield 49, 3) := dc_180 (qU2_win (r := 2) wn_Town_settle_0 (by decide +kernel))
theorem d_Town_settle_5 : decode b_Town_settle 5 = .ok (.aload_n 0, 1) := dc_42 (q0_win (r := 5) wn_Town_settle_0 (by decide +kernel))
theorem d_Town_settle_6 : decode b_Town_settle 6 = .ok (.getfield 53, 3) := dc_180 (qU2_win (r := 6) wn_Town_settle_0 (by decide +kernel))
theorem d_Town_settle_9 : decode b_Town_settle 9 = .ok (.imul, 1) := dc_104 (q0_win (r := 9) wn_Town_settle_0 (by decide +kernel))
theorem d_Town_settle_10 : decode b_Town_settle 10 = .ok (.putfield 84, 3) := dc_181 (qU2_win (r := 10) wn_Town_settle_0 (by decide +kernel))
theorem d_Town_settle_13 : decode b_Town_settle 13 = .ok (.aload_n 0, 1) := dc_42 (q0_win (r := 13) wn_Town_settle_0 (by decide +kernel))
theorem d_Town_settle_14 : decode b_Town_settle 14 = .ok (.getfield 21, 3) := dc_180 (qU2_win (r := 14) wn_Town_settle_0 (by decide +kernel))
theorem d_Town_settle_17 : decode b_Town_settle 17 = .ok (.iconst 0, 1) := dc_3 (q0_win (r := 17) wn_Town_settle_0 (by decide +kernel))
theorem d_Town_settle_18 : decode b_Town_settle 18 = .ok (.invokestatic 78, 3) := dc_184 (qU2_win (r := 18) wn_Town_settle_0 (by decide +kernel))
theorem d_Town_settle_21 : decode b_Town_settle 21 = .ok (.iconst 0, 1) := dc_3 (q0_win (r := 21) wn_Town_settle_0 (by decide +kernel))
theorem d_Town_settle_22 : decode b_Town_settle 22 = .ok (.istore_n 1, 1) := dc_60 (q0_win (r := 22) wn_Town_settle_0 (by decide +kernel))
theorem d_Town_settle_23 : decode b_Town_settle 23 = .ok (.iload_n 1, 1) := dc_27 (q0_win (r := 23) wn_Town_settle_0 (by decide +kernel))
theorem d_Town_settle_24 : decode b_Town_settle 24 = .ok (.aload_n 0, 1) := dc_42 (q0_win (r := 24) wn_Town_settle_0 (by decide +kernel))
theorem d_Town_settle_25 : decode b_Town_settle 25 = .ok (.getfield 53, 3) := dc_180 (qU2_win (r := 25) wn_Town_settle_0 (by decide +kernel))
theorem d_Town_settle_28 : decode b_Town_settle 28 = .ok (.if_icmp .ge 169, 3) := dc_162 (qS2_win (r := 28) wn_Town_settle_0 (by decide +kernel))
theorem d_Town_settle_31 : decode b_Town_settle 31 = .ok (.iconst 0, 1) := dc_3 (q0_win (r := 31) wn_Town_settle_0 (by decide +kernel))
theorem d_Town_settle_32 : decode b_Town_settle 32 = .ok (.istore_n 2, 1) := dc_61 (q0_win (r := 32) wn_Town_settle_0 (by decide +kernel))
theorem d_Town_settle_33 : decode b_Town_settle 33 = .ok (.iload_n 2, 1) := dc_28 (q0_win (r := 33) wn_Town_settle_0 (by decide +kernel))
theorem d_Town_settle_34 : decode b_Town_settle 34 = .ok (.aload_n 0, 1) := dc_42 (q0_win (r := 34) wn_Town_settle_0 (by decide +kernel))
theorem d_Town_settle_35 : decode b_Town_settle 35 = .ok (.getfield 49, 3) := dc_180 (qU2_win (r := 35) wn_Town_settle_0 (by decide +kernel))
theorem d_Town_settle_38 : decode b_Town_settle 38 = .ok (.if_icmp .ge 153, 3) := dc_162 (qS2_win (r := 38) wn_Town_settle_0 (by decide +kernel))
theorem d_Town_settle_41 : decode b_Town_settle 41 = .ok (.iload_n 1, 1) := dc_27 (q0_win (r := 41) wn_Town_settle_0 (by decide +kernel))
theorem d_Town_settle_42 : decode b_Town_settle 42 = .ok (.aload_n 0, 1) := dc_42 (q0_win (r := 42) wn_Town_settle_0 (by decide +kernel))
theorem d_Town_settle_43 : decode b_Town_settle 43 = .ok (.getfield 49, 3) := dc_180 (qU2_win (r := 43) wn_Town_settle_0 (by decide +kernel))
theorem d_Town_settle_46 : decode b_Town_settle 46 = .ok (.imul, 1) := dc_104 (q0_win (r := 46) wn_Town_settle_0 (by decide +kernel))
theorem d_Town_settle_47 : decode b_Town_settle 47 = .ok (.iload_n 2, 1) := dc_28 (q0_win (r := 47) wn_Town_settle_0 (by decide +kernel))
theorem d_Town_settle_48 : decode b_Town_settle 48 = .ok (.iadd, 1) := dc_96 (q0_win (r := 48) wn_Town_settle_0 (by decide +kernel))
theorem d_Town_settle_49 : decode b_Town_settle 49 = .ok (.istore_n 3, 1) := dc_62 (q0_win (r := 49) wn_Town_settle_0 (by decide +kernel))
theorem d_Town_settle_50 : decode b_Town_settle 50 = .ok (.aload_n 0, 1) := dc_42 (q0_win (r := 50) wn_Town_settle_0 (by decide +kernel))
theorem d_Town_settle_51 : decode b_Town_settle 51 = .ok (.getfield 36, 3) := dc_180 (qU2_win (r := 51) wn_Town_settle_0 (by decide +kernel))
theorem d_Town_settle_54 : decode b_Town_settle 54 = .ok (.iload_n 3, 1) := dc_29 (q0_win (r := 54) wn_Town_settle_0 (by decide +kernel))
theorem d_Town_settle_55 : decode b_Town_settle 55 = .ok (.iconst 4, 1) := dc_7 (q0_win (r := 55) wn_Town_settle_0 (by decide +kernel))
theorem d_Town_settle_56 : decode b_Town_settle 56 = .ok (.imul, 1) := dc_104 (q0_win (r := 56) wn_Town_settle_0 (by decide +kernel))
theorem d_Town_settle_57 : decode b_Town_settle 57 = .ok (.iload_n 1, 1) := dc_27 (q0_win (r := 57) wn_Town_settle_0 (by decide +kernel))
theorem d_Town_settle_58 : decode b_Town_settle 58 = .ok (.ifCond .le 12, 3) := dc_158 (qS2_win (r := 58) wn_Town_settle_0 (by decide +kernel))
theorem d_Town_settle_61 : decode b_Town_settle 61 = .ok (.iload_n 3, 1) := dc_29 (q0_win (r := 61) wn_Town_settle_0 (by decide +kernel))
theorem d_Town_settle_62 : decode b_Town_settle 62 = .ok (.aload_n 0, 1) := dc_42 (q0_win (r := 62) wn_Town_settle_0 (by decide +kernel))
theorem d_Town_settle_63 : decode b_Town_settle 63 = .ok (.getfield 49, 3) := dc_180 (qU2_win (r := 63) wn_Town_settle_0 (by decide +kernel))
theorem d_Town_settle_66 : decode b_Town_settle 66 = .ok (.isub, 1) := dc_100 (q0_win (r := 66) wn_Town_settle_0 (by decide +kernel))
theorem d_Town_settle_67 : decode b_Town_settle 67 = .ok (.goto 4, 3) := dc_167 (qS2_win (r := 67) wn_Town_settle_0 (by decide +kernel))
theorem d_Town_settle_70 : decode b_Town_settle 70 = .ok (.iconst (-1), 1) := dc_2 (q0_win (r := 70) wn_Town_settle_0 (by decide +kernel))
theorem d_Town_settle_71 : decode b_Town_settle 71 = .ok (.invokestatic 87, 3) := dc_184 (qU2_win (r := 71) wn_Town_settle_0 (by decide +kernel))
theorem d_Town_settle_74 : decode b_Town_settle 74 = .ok (.aload_n 0, 1) := dc_42 (q0_win (r := 74) wn_Town_settle_0 (by decide +kernel))
theorem d_Town_settle_75 : decode b_Town_settle 75 = .ok (.getfield 36, 3) := dc_180 (qU2_win (r := 75) wn_Town_settle_0 (by decide +kernel))
theorem d_Town_settle_78 : decode b_Town_settle 78 = .ok (.iload_n 3, 1) := dc_29 (q0_win (r := 78) wn_Town_settle_0 (by decide +kernel))
theorem d_Town_settle_79 : decode b_Town_settle 79 = .ok (.iconst 4, 1) := dc_7 (q0_win (r := 79) wn_Town_settle_0 (by decide +kernel))
theorem d_Town_settle_80 : decode b_Town_settle 80 = .ok (.imul, 1) := dc_104 (q0_win (r := 80) wn_Town_settle_0 (by decide +kernel))
theorem d_Town_settle_81 : decode b_Town_settle 81 = .ok (.iconst 1, 1) := dc_4 (q0_win (r := 81) wn_Town_settle_0 (by decide +kernel))
theorem d_Town_settle_82 : decode b_Town_settle 82 = .ok (.iadd, 1) := dc_96 (q0_win (r := 82) wn_Town_settle_0 (by decide +kernel))
theorem d_Town_settle_83 : decode b_Town_settle 83 = .ok (.iload_n 2, 1) := dc_28 (q0_win (r := 83) wn_Town_settle_0 (by decide +kernel))
theorem d_Town_settle_84 : decode b_Town_settle 84 = .ok (.aload_n 0, 1) := dc_42 (q0_win (r := 84) wn_Town_settle_0 (by decide +kernel))
theorem d_Town_settle_85 : decode b_Town_settle 85 = .ok (.getfield 49, 3) := dc_180 (qU2_win (r := 85) wn_Town_settle_0 (by decide +kernel))
theorem d_Town_settle_88 : decode b_Town_settle 88 = .ok (.iconst 1, 1) := dc_4 (q0_win (r := 88) wn_Town_settle_0 (by decide +kernel))
theorem d_Town_settle_89 : decode b_Town_settle 89 = .ok (.isub, 1) := dc_100 (q0_win (r := 89) wn_Town_settle_0 (by decide +kernel))
theorem d_Town_settle_90 : decode b_Town_settle 90 = .ok (.if_icmp .ge 9, 3) := dc_162 (qS2_win (r := 90) wn_Town_settle_0 (by decide +kernel))
theorem d_Town_settle_93 : decode b_Town_settle 93 = .ok (.iload_n 3, 1) := dc_29 (q0_win (r := 93) wn_Town_settle_0 (by decide +kernel))
theorem d_Town_settle_94 : decode b_Town_settle 94 = .ok (.iconst 1, 1) := dc_4 (q0_win (r := 94) wn_Town_settle_0 (by decide +kernel))
theorem d_Town_settle_95 : decode b_Town_settle 95 = .ok (.iadd, 1) := dc_96 (q0_win (r := 95) wn_Town_settle_0 (by decide +kernel))
theorem wn_Town_settle_96 : ∀ i, i < 95 → bA b_Town_settle (96 + i) = wB [167, 0, 4, 2, 184, 0, 87, 42, 180, 0, 36, 29, 7, 104, 5, 96, 27, 42, 180, 0, 53, 4, 100, 162, 0, 12, 29, 42, 180, 0, 49, 96, 167, 0, 4, 2, 184, 0, 87, 42, 180, 0, 36, 29, 7, 104, 6, 96, 28, 158, 0, 9, 29, 4, 100, 167, 0, 4, 2, 184, 0, 87, 42, 29, 182, 0, 91, 54, 4, 42, 180, 0, 21, 21, 4, 42, 180, 0, 21, 21, 4, 184, 0, 95, 4, 96, 184, 0, 87, 132, 2, 1, 167, 255, 101] i := wB_of (by decide +kernel)
theorem d_Town_settle_96 : decode b_Town_settle 96 = .ok (.goto 4, 3) := dc_167 (qS2_win (r := 0) wn_Town_settle_96 (by decide +kernel))
theorem d_Town_settle_99 : decode b_Town_settle 99 = .ok (.iconst (-1), 1) := dc_2 (q0_win (r := 3) wn_Town_settle_96 (by decide +kernel))
theorem d_Town_settle_100 : decode b_Town_settle 100 = .ok (.invokestatic 87, 3) := dc_184 (qU2_win (r := 4) wn_Town_settle_96 (by decide +kernel))
theorem d_Town_settle_103 : decode b_Town_settle 103 = .ok (.aload_n 0, 1) := dc_42 (q0_win (r := 7) wn_Town_settle_96 (by decide +kernel))
theorem d_Town_settle_104 : decode b_Town_settle 104 = .ok (.getfield 36, 3) := dc_180 (qU2_win (r := 8) wn_Town_settle_96 (by decide +kernel))
theorem d_Town_settle_107 : decode b_Town_settle 107 = .ok (.iload_n 3, 1) := dc_29 (q0_win (r := 11) wn_Town_settle_96 (by decide +kernel))
theorem d_Town_settle_108 : decode b_Town_settle 108 = .ok (.iconst 4, 1) := dc_7 (q0_win (r := 12) wn_Town_settle_96 (by decide +kernel))
theorem d_Town_settle_109 : decode b_Town_settle 109 = .ok (.imul, 1) := dc_104 (q0_win (r := 13) wn_Town_settle_96 (by decide +kernel))
theorem d_Town_settle_110 : decode b_Town_settle 110 = .ok (.iconst 2, 1) := dc_5 (q0_win (r := 14) wn_Town_settle_96 (by decide +kernel))
theorem d_Town_settle_111 : decode b_Town_settle 111 = .ok (.iadd, 1) := dc_96 (q0_win (r := 15) wn_Town_settle_96 (by decide +kernel))
theorem d_Town_settle_112 : decode b_Town_settle 112 = .ok (.iload_n 1, 1) := dc_27 (q0_win (r := 16) wn_Town_settle_96 (by decide +kernel))
theorem d_Town_settle_113 : decode b_Town_settle 113 = .ok (.aload_n 0, 1) := dc_42 (q0_win (r := 17) wn_Town_settle_96 (by decide +kernel))
theorem d_Town_settle_114 : decode b_Town_settle 114 = .ok (.getfield 53, 3) := dc_180 (qU2_win (r := 18) wn_Town_settle_96 (by decide +kernel))
theorem d_Town_settle_117 : decode b_Town_settle 117 = .ok (.iconst 1, 1) := dc_4 (q0_win (r := 21) wn_Town_settle_96 (by decide +kernel))
theorem d_Town_settle_118 : decode b_Town_settle 118 = .ok (.isub, 1) := dc_100 (q0_win (r := 22) wn_Town_settle_96 (by decide +kernel))
theorem d_Town_settle_119 : decode b_Town_settle 119 = .ok (.if_icmp .ge 12, 3) := dc_162 (qS2_win (r := 23) wn_Town_settle_96 (by decide +kernel))
theorem d_Town_settle_122 : decode b_Town_settle 122 = .ok (.iload_n 3, 1) := dc_29 (q0_win (r := 26) wn_Town_settle_96 (by decide +kernel))
theorem d_Town_settle_123 : decode b_Town_settle 123 = .ok (.aload_n 0, 1) := dc_42 (q0_win (r := 27) wn_Town_settle_96 (by decide +kernel))
theorem d_Town_settle_124 : decode b_Town_settle 124 = .ok (.getfield 49, 3) := dc_180 (qU2_win (r := 28) wn_Town_settle_96 (by decide +kernel))
theorem d_Town_settle_127 : decode b_Town_settle 127 = .ok (.iadd, 1) := dc_96 (q0_win (r := 31) wn_Town_settle_96 (by decide +kernel))
theorem d_Town_settle_128 : decode b_Town_settle 128 = .ok (.goto 4, 3) := dc_167 (qS2_win (r := 32) wn_Town_settle_96 (by decide +kernel))
theorem d_Town_settle_131 : decode b_Town_settle 131 = .ok (.iconst (-1), 1) := dc_2 (q0_win (r := 35) wn_Town_settle_96 (by decide +kernel))
theorem d_Town_settle_132 : decode b_Town_settle 132 = .ok (.invokestatic 87, 3) := dc_184 (qU2_win (r := 36) wn_Town_settle_96 (by decide +kernel))
theorem d_Town_settle_135 : decode b_Town_settle 135 = .ok (.aload_n 0, 1) := dc_42 (q0_win (r := 39) wn_Town_settle_96 (by decide +kernel))
theorem d_Town_settle_136 : decode b_Town_settle 136 = .ok (.getfield 36, 3) := dc_180 (qU2_win (r := 40) wn_Town_settle_96 (by decide +kernel))
theorem d_Town_settle_139 : decode b_Town_settle 139 = .ok (.iload_n 3, 1) := dc_29 (q0_win (r := 43) wn_Town_settle_96 (by decide +kernel))
theorem d_Town_settle_140 : decode b_Town_settle 140 = .ok (.iconst 4, 1) := dc_7 (q0_win (r := 44) wn_Town_settle_96 (by decide +kernel))
theorem d_Town_settle_141 : decode b_Town_settle 141 = .ok (.imul, 1) := dc_104 (q0_win (r := 45) wn_Town_settle_96 (by decide +kernel))
theorem d_Town_settle_142 : decode b_Town_settle 142 = .ok (.iconst 3, 1) := dc_6 (q0_win (r := 46) wn_Town_settle_96 (by decide +kernel))
theorem d_Town_settle_143 : decode b_Town_settle 143 = .ok (.iadd, 1) := dc_96 (q0_win (r := 47) wn_Town_settle_96 (by decide +kernel))
theorem d_Town_settle_144 : decode b_Town_settle 144 = .ok (.iload_n 2, 1) := dc_28 (q0_win (r := 48) wn_Town_settle_96 (by decide +kernel))
theorem d_Town_settle_145 : decode b_Town_settle 145 = .ok (.ifCond .le 9, 3) := dc_158 (qS2_win (r := 49) wn_Town_settle_96 (by decide +kernel))
theorem d_Town_settle_148 : decode b_Town_settle 148 = .ok (.iload_n 3, 1) := dc_29 (q0_win (r := 52) wn_Town_settle_96 (by decide +kernel))
theorem d_Town_settle_149 : decode b_Town_settle 149 = .ok (.iconst 1, 1) := dc_4 (q0_win (r := 53) wn_Town_settle_96 (by decide +kernel))
theorem d_Town_settle_150 : decode b_Town_settle 150 = .ok (.isub, 1) := dc_100 (q0_win (r := 54) wn_Town_settle_96 (by decide +kernel))
theorem d_Town_settle_151 : decode b_Town_settle 151 = .ok (.goto 4, 3) := dc_167 (qS2_win (r := 55) wn_Town_settle_96 (by decide +kernel))
theorem d_Town_settle_154 : decode b_Town_settle 154 = .ok (.iconst (-1), 1) := dc_2 (q0_win (r := 58) wn_Town_settle_96 (by decide +kernel))
theorem d_Town_settle_155 : decode b_Town_settle 155 = .ok (.invokestatic 87, 3) := dc_184 (qU2_win (r := 59) wn_Town_settle_96 (by decide +kernel))
theorem d_Town_settle_158 : decode b_Town_settle 158 = .ok (.aload_n 0, 1) := dc_42 (q0_win (r := 62) wn_Town_settle_96 (by decide +kernel))
theorem d_Town_settle_159 : decode b_Town_settle 159 = .ok (.iload_n 3, 1) := dc_29 (q0_win (r := 63) wn_Town_settle_96 (by decide +kernel))
theorem d_Town_settle_160 : decode b_Town_settle 160 = .ok (.invokevirtual 91, 3) := dc_182 (qU2_win (r := 64) wn_Town_settle_96 (by decide +kernel))
theorem d_Town_settle_163 : decode b_Town_settle 163 = .ok (.istore 4, 2) := dc_54 (qU1_win (r := 67) wn_Town_settle_96 (by decide +kernel))
theorem d_Town_settle_165 : decode b_Town_settle 165 = .ok (.aload_n 0, 1) := dc_42 (q0_win (r := 69) wn_Town_settle_96 (by decide +kernel))
theorem d_Town_settle_166 : decode b_Town_settle 166 = .ok (.getfield 21, 3) := dc_180 (qU2_win (r := 70) wn_Town_settle_96 (by decide +kernel))
theorem d_Town_settle_169 : decode b_Town_settle 169 = .ok (.iload 4, 2) := dc_21 (qU1_win (r := 73) wn_Town_settle_96 (by decide +kernel))
theorem d_Town_settle_171 : decode b_Town_settle 171 = .ok (.aload_n 0, 1) := dc_42 (q0_win (r := 75) wn_Town_settle_96 (by decide +kernel))
theorem d_Town_settle_172 : decode b_Town_settle 172 = .ok (.getfield 21, 3) := dc_180 (qU2_win (r := 76) wn_Town_settle_96 (by decide +kernel))
theorem d_Town_settle_175 : decode b_Town_settle 175 = .ok (.iload 4, 2) := dc_21 (qU1_win (r := 79) wn_Town_settle_96 (by decide +kernel))
theorem d_Town_settle_177 : decode b_Town_settle 177 = .ok (.invokestatic 95, 3) := dc_184 (qU2_win (r := 81) wn_Town_settle_96 (by decide +kernel))
theorem d_Town_settle_180 : decode b_Town_settle 180 = .ok (.iconst 1, 1) := dc_4 (q0_win (r := 84) wn_Town_settle_96 (by decide +kernel))
theorem d_Town_settle_181 : decode b_Town_settle 181 = .ok (.iadd, 1) := dc_96 (q0_win (r := 85) wn_Town_settle_96 (by decide +kernel))
theorem d_Town_settle_182 : decode b_Town_settle 182 = .ok (.invokestatic 87, 3) := dc_184 (qU2_win (r := 86) wn_Town_settle_96 (by decide +kernel))
theorem d_Town_settle_185 : decode b_Town_settle 185 = .ok (.iinc 2 1, 3) := dc_132 (qI_win (r := 89) wn_Town_settle_96 (by decide +kernel))
theorem d_Town_settle_188 : decode b_Town_settle 188 = .ok (.goto (-155), 3) := dc_167 (qS2_win (r := 92) wn_Town_settle_96 (by decide +kernel))
theorem wn_Town_settle_191 : ∀ i, i < 7 → bA b_Town_settle (191 + i) = wB [132, 1, 1, 167, 255, 85, 177] i := wB_of (by decide +kernel)
theorem d_Town_settle_191 : decode b_Town_settle 191 = .ok (.iinc 1 1, 3) := dc_132 (qI_win (r := 0) wn_Town_settle_191 (by decide +kernel))
theorem d_Town_settle_194 : decode b_Town_settle 194 = .ok (.goto (-171), 3) := dc_167 (qS2_win (r := 3) wn_Town_settle_191 (by decide +kernel))
theorem d_Town_settle_197 : decode b_Town_settle 197 = .ok (.return_, 1) := dc_177 (q0_win (r := 6) wn_Town_settle_191 (by decide +kernel))
def t_Town_settle_L155 (k0 : Nat) (bk23 : Mem → Int → Option (Mem)) (bk33 : Mem → Int → Int → Option (Mem)) (M : Mem) (v1_ : Int) (v2_ : Int) (v3_ : Int) (v5_ : Int) (v6_ : Int) : Option (Mem) := (qlet (t_WF_put M (k0 + 9) 192 v5_ v6_) fun q25 => (qlet (t_Town_ownerOf q25 k0 v3_) fun q27 => (qlet (t_WF_look q25 (k0 + 4) 4 q27) fun q29 => (qlet (t_WF_put q25 (k0 + 4) 4 q27 (w32 (q29 + 1))) fun q31 => (bk33 q31 v1_ (w32 (v2_ + 1)))))))
def t_Town_settle_L132 (k0 : Nat) (bk23 : Mem → Int → Option (Mem)) (bk33 : Mem → Int → Int → Option (Mem)) (M : Mem) (v1_ : Int) (v2_ : Int) (v3_ : Int) (v5_ : Int) (v6_ : Int) : Option (Mem) := (qlet (t_WF_put M (k0 + 9) 192 v5_ v6_) fun q22 => (if v2_ ≤ 0 then (t_Town_settle_L155 k0 bk23 bk33 q22 v1_ v2_ v3_ (w32 ((w32 (v3_ * 4)) + 3)) (-1)) else (t_Town_settle_L155 k0 bk23 bk33 q22 v1_ v2_ v3_ (w32 ((w32 (v3_ * 4)) + 3)) (w32 (v3_ - 1)))))
def t_Town_settle_L100 (k0 : Nat) (bk23 : Mem → Int → Option (Mem)) (bk33 : Mem → Int → Int → Option (Mem)) (M : Mem) (v1_ : Int) (v2_ : Int) (v3_ : Int) (v5_ : Int) (v6_ : Int) : Option (Mem) := (qlet (t_WF_put M (k0 + 9) 192 v5_ v6_) fun q17 => (if (w32 ((q17.1 k0 12) - 1)) ≤ v1_ then (t_Town_settle_L132 k0 bk23 bk33 q17 v1_ v2_ v3_ (w32 ((w32 (v3_ * 4)) + 2)) (-1)) else (t_Town_settle_L132 k0 bk23 bk33 q17 v1_ v2_ v3_ (w32 ((w32 (v3_ * 4)) + 2)) (w32 (v3_ + (q17.1 k0 11))))))
def t_Town_settle_L71 (k0 : Nat) (bk23 : Mem → Int → Option (Mem)) (bk33 : Mem → Int → Int → Option (Mem)) (M : Mem) (v1_ : Int) (v2_ : Int) (v3_ : Int) (v5_ : Int) (v6_ : Int) : Option (Mem) := (qlet (t_WF_put M (k0 + 9) 192 v5_ v6_) fun q13 => (if (w32 ((q13.1 k0 11) - 1)) ≤ v2_ then (t_Town_settle_L100 k0 bk23 bk33 q13 v1_ v2_ v3_ (w32 ((w32 (v3_ * 4)) + 1)) (-1)) else (t_Town_settle_L100 k0 bk23 bk33 q13 v1_ v2_ v3_ (w32 ((w32 (v3_ * 4)) + 1)) (w32 (v3_ + 1)))))
def t_Town_settle_L33 (k0 : Nat) (bk23 : Mem → Int → Option (Mem)) : Nat → Mem → Int → Int → Option (Mem)
  | 0, _, _, _ => none
  | fu + 1, M, v1_, v2_ => (if (M.1 k0 11) ≤ v2_ then (bk23 M (w32 (v1_ + 1))) else (if v1_ ≤ 0 then (t_Town_settle_L71 k0 bk23 (fun a0_ a1_ a2_ => t_Town_settle_L33 k0 bk23 fu a0_ a1_ a2_) M v1_ v2_ (w32 ((w32 (v1_ * (M.1 k0 11))) + v2_)) (w32 ((w32 ((w32 (v1_ * (M.1 k0 11))) + v2_)) * 4)) (-1)) else (t_Town_settle_L71 k0 bk23 (fun a0_ a1_ a2_ => t_Town_settle_L33 k0 bk23 fu a0_ a1_ a2_) M v1_ v2_ (w32 ((w32 (v1_ * (M.1 k0 11))) + v2_)) (w32 ((w32 ((w32 (v1_ * (M.1 k0 11))) + v2_)) * 4)) (w32 ((w32 ((w32 (v1_ * (M.1 k0 11))) + v2_)) - (M.1 k0 11))))))
def t_Town_settle_L23 (k0 : Nat)  : Nat → Mem → Int → Option (Mem)
  | 0, _, _ => none
  | fu + 1, M, v1_ => (if (M.1 k0 12) ≤ v1_ then (some M) else (t_Town_settle_L33 k0 (fun a0_ a1_ => t_Town_settle_L23 k0 fu a0_ a1_) FU M v1_ 0))
def t_Town_settle (M : Mem) (k0 : Nat) : Option (Mem) := (qlet (setI M k0 13 (w32 ((M.1 k0 11) * (M.1 k0 12)))) fun M3 => (obind (t_Arrays_fill M3 (k0 + 4) 4 0) fun q4 => (t_Town_settle_L23 k0 FU q4 0)))
set_option maxHeartbeats 4000000 in
set_option maxRecDepth 100000 in
theorem k_Town_settle_L155 (l : Launch) {p : Program} {e : Env} {s : State} {m : MethodId} {below : List Frame} {meth : Method} {c : Code} {b n : Nat} {C : CT} (hlo : 191 ≤ n) (k0 : Nat) (hk0 : isTown k0) (F : Cx b p m c b_Town_settle 5 s ([.ref (b + k0)] : List Value).toArray "WardFalls$Town" C n 191) (hlk : meth.locks = false) (hr : meth.sig.returnType = none) {res : Mem} (bk23 : Mem → Int → Option (Mem)) (hbk23 : ∀ (M : Mem) (v1_ : Int) (hv1_ : InR v1_) (H : Heap) (locs : List Loc) (ls : Array Slot), St b C n M s H locs → lv_has ls 5 [(0, .ref (b + k0)), (1, vI v1_)] → bk23 M v1_ = some res → W p l e (headSpec (wsM y_Town_settle b_Town_settle 5 (none)) (rmD 2)).room s m ([.ref (b + k0)] : List Value).toArray below meth c H locs 0 0 (MQ below (QV b C n res) ([.ref (b + k0)] : List Value).toArray s 0 0 (frb b)) (F0 m 23 ls [])) (bk33 : Mem → Int → Int → Option (Mem)) (hbk33 : ∀ (M : Mem) (v1_ : Int) (hv1_ : InR v1_) (v2_ : Int) (hv2_ : InR v2_) (H : Heap) (locs : List Loc) (ls : Array Slot), St b C n M s H locs → lv_has ls 5 [(0, .ref (b + k0)), (1, vI v1_), (2, vI v2_)] → bk33 M v1_ v2_ = some res → W p l e (headSpec (wsM y_Town_settle b_Town_settle 5 (none)) (rmD 2)).room s m ([.ref (b + k0)] : List Value).toArray below meth c H locs 0 0 (MQ below (QV b C n res) ([.ref (b + k0)] : List Value).toArray s 0 0 (frb b)) (F0 m 33 ls [])) (M : Mem) (v1_ : Int) (hv1_ : InR v1_) (v2_ : Int) (hv2_ : InR v2_) (v3_ : Int) (hv3_ : InR v3_) (v5_ : Int) (hv5_ : InR v5_) (v6_ : Int) (hv6_ : InR v6_) (H : Heap) (locs : List Loc) (ls : Array Slot) (hS : St b C n M s H locs) (hl : lv_has ls 5 [(0, .ref (b + k0)), (1, vI v1_), (2, vI v2_), (3, vI v3_)]) (hT : t_Town_settle_L155 k0 bk23 bk33 M v1_ v2_ v3_ v5_ v6_ = some res) : W p l e (headSpec (wsM y_Town_settle b_Town_settle 5 (none)) (rmD 2)).room s m ([.ref (b + k0)] : List Value).toArray below meth c H locs 0 0 (MQ below (QV b C n res) ([.ref (b + k0)] : List Value).toArray s 0 0 (frb b)) (F0 m 155 ls [vI v6_, vI v5_, .ref (b + (k0 + 9))]) := by
  unfold t_Town_settle_L155 at hT
  obtain ⟨q25, hq25⟩ : ∃ q, q = (t_WF_put M (k0 + 9) 192 v5_ v6_) := ⟨_, rfl⟩
  replace hT := qlet_eq hT hq25
  refine r_backV F hS (r_runSN (As := [.ref (b + (k0 + 9)), vI v5_, vI v6_]) F hS (c_WF_put l F.2.2.1 M (k0 + 9) 192 v5_ v6_ (Town_f8 hk0) hv5_ hv6_ _ hq25.symm) mw_512 mw_511 mw_1 gs_Town_87 hd_WF_put ⟨Nat.le_of_ble_eq_true rfl, Nat.le_of_ble_eq_true rfl⟩ rfl hl.1 (Nat.le_of_ble_eq_true rfl) ⟨Nat.zero_le _, Nat.zero_le _⟩ rfl d_Town_settle_155) (fun H locs hS => ?_)
  refine lv_aload_n F.hx F.hb d_Town_settle_158 rfl (lv_at hl 0 rfl) ?_
  refine lv_iload_n F.hx F.hb d_Town_settle_159 rfl (lv_at hl 3 rfl) ?_
  obtain ⟨q27, hq27⟩ : ∃ q, q = (t_Town_ownerOf q25 k0 v3_) := ⟨_, rfl⟩
  replace hT := qlet_eq hT hq27
  refine r_backI F hS (r_runV (k := k0) (N := 20) (T := T11) (As := [vI v3_]) F hS (Town_lt hk0) (Town_sh hk0) rfl (c_Town_ownerOf l F.2.2.1 q25 k0 v3_ hk0 hv3_ _ hq27.symm) gs_Town_91 hd_Town_ownerOf ⟨Nat.le_of_ble_eq_true rfl, Nat.le_of_ble_eq_true rfl⟩ rfl hl.1 (Nat.le_of_ble_eq_true rfl) ⟨Nat.zero_le _, Nat.zero_le _⟩ rfl d_Town_settle_160) (fun H locs hS h28 => ?_)
  refine lv_istore (lv' := [(4, vI q27), (0, .ref (b + k0)), (1, vI v1_), (2, vI v2_), (3, vI v3_)]) F.hx F.hb d_Town_settle_163 hl (Nat.le_of_ble_eq_true rfl) rfl (fun ls hl => ?_)
  refine lv_aload_n F.hx F.hb d_Town_settle_165 rfl (lv_at hl 1 rfl) ?_
  refine r_get (v := .ref (b + (k0 + 4))) (N := 20) (T := T11) (j := 3) F hS (Town_lt hk0) (Town_sh hk0) (Town_N hk0) rfl (Nat.le_of_ble_eq_true rfl) ing11 mw_98 (Town_g3 hk0 _) d_Town_settle_166 ?_
  refine lv_iload F.hx F.hb d_Town_settle_169 (lv_at hl 0 rfl) ?_
  refine lv_aload_n F.hx F.hb d_Town_settle_171 rfl (lv_at hl 1 rfl) ?_
  refine r_get (v := .ref (b + (k0 + 4))) (N := 20) (T := T11) (j := 3) F hS (Town_lt hk0) (Town_sh hk0) (Town_N hk0) rfl (Nat.le_of_ble_eq_true rfl) ing11 mw_98 (Town_g3 hk0 _) d_Town_settle_172 ?_
  refine lv_iload F.hx F.hb d_Town_settle_175 (lv_at hl 0 rfl) ?_
  obtain ⟨q29, hq29⟩ : ∃ q, q = (t_WF_look q25 (k0 + 4) 4 q27) := ⟨_, rfl⟩
  replace hT := qlet_eq hT hq29
  refine r_backI F hS (r_runSN (As := [.ref (b + (k0 + 4)), vI q27]) F hS (c_WF_look l F.2.2.1 q25 (k0 + 4) 4 q27 (Town_f3 hk0) h28 _ hq29.symm) mw_519 mw_518 mw_1 gs_Town_95 hd_WF_look ⟨Nat.le_of_ble_eq_true rfl, Nat.le_of_ble_eq_true rfl⟩ rfl hl.1 (Nat.le_of_ble_eq_true rfl) ⟨Nat.zero_le _, Nat.zero_le _⟩ rfl d_Town_settle_177) (fun H locs hS h30 => ?_)
  refine r_iconst F.hx F.hb d_Town_settle_180 ?_
  refine r_iadd F.hx F.hb d_Town_settle_181 ?_
  obtain ⟨q31, hq31⟩ : ∃ q, q = (t_WF_put q25 (k0 + 4) 4 q27 (w32 (q29 + 1))) := ⟨_, rfl⟩
  replace hT := qlet_eq hT hq31
  refine r_backV F hS (r_runSN (As := [.ref (b + (k0 + 4)), vI q27, vI (w32 (q29 + 1))]) F hS (c_WF_put l F.2.2.1 q25 (k0 + 4) 4 q27 (w32 (q29 + 1)) (Town_f3 hk0) h28 (inr_w32 _) _ hq31.symm) mw_512 mw_511 mw_1 gs_Town_87 hd_WF_put ⟨Nat.le_of_ble_eq_true rfl, Nat.le_of_ble_eq_true rfl⟩ rfl hl.1 (Nat.le_of_ble_eq_true rfl) ⟨Nat.zero_le _, Nat.zero_le _⟩ rfl d_Town_settle_182) (fun H locs hS => ?_)
  refine lv_iinc (v := Int32.ofInt (w32 (v2_ + 1))) (lv' := [(2, vI (w32 (v2_ + 1))), (4, vI q27), (0, .ref (b + k0)), (1, vI v1_), (3, vI v3_)]) F.hx F.hb d_Town_settle_185 hl (k := 3) rfl (q_of_add _ _) (Nat.le_of_ble_eq_true rfl) rfl (fun ls hl => ?_)
  refine lv_goto (tgt := 33) F.hx F.hb d_Town_settle_188 (by decide) ?_
  exact hbk33 q31 v1_ hv1_ (w32 (v2_ + 1)) (inr_w32 _) _ _ _ hS (lv_sub hl [2, 3, 0] rfl) hT
set_option maxHeartbeats 4000000 in
set_option maxRecDepth 100000 in
theorem k_Town_settle_L132 (l : Launch) {p : Program} {e : Env} {s : State} {m : MethodId} {below : List Frame} {meth : Method} {c : Code} {b n : Nat} {C : CT} (hlo : 191 ≤ n) (k0 : Nat) (hk0 : isTown k0) (F : Cx b p m c b_Town_settle 5 s ([.ref (b + k0)] : List Value).toArray "WardFalls$Town" C n 191) (hlk : meth.locks = false) (hr : meth.sig.returnType = none) {res : Mem} (bk23 : Mem → Int → Option (Mem)) (hbk23 : ∀ (M : Mem) (v1_ : Int) (hv1_ : InR v1_) (H : Heap) (locs : List Loc) (ls : Array Slot), St b C n M s H locs → lv_has ls 5 [(0, .ref (b + k0)), (1, vI v1_)] → bk23 M v1_ = some res → W p l e (headSpec (wsM y_Town_settle b_Town_settle 5 (none)) (rmD 2)).room s m ([.ref (b + k0)] : List Value).toArray below meth c H locs 0 0 (MQ below (QV b C n res) ([.ref (b + k0)] : List Value).toArray s 0 0 (frb b)) (F0 m 23 ls [])) (bk33 : Mem → Int → Int → Option (Mem)) (hbk33 : ∀ (M : Mem) (v1_ : Int) (hv1_ : InR v1_) (v2_ : Int) (hv2_ : InR v2_) (H : Heap) (locs : List Loc) (ls : Array Slot), St b C n M s H locs → lv_has ls 5 [(0, .ref (b + k0)), (1, vI v1_), (2, vI v2_)] → bk33 M v1_ v2_ = some res → W p l e (headSpec (wsM y_Town_settle b_Town_settle 5 (none)) (rmD 2)).room s m ([.ref (b + k0)] : List Value).toArray below meth c H locs 0 0 (MQ below (QV b C n res) ([.ref (b + k0)] : List Value).toArray s 0 0 (frb b)) (F0 m 33 ls [])) (M : Mem) (v1_ : Int) (hv1_ : InR v1_) (v2_ : Int) (hv2_ : InR v2_) (v3_ : Int) (hv3_ : InR v3_) (v5_ : Int) (hv5_ : InR v5_) (v6_ : Int) (hv6_ : InR v6_) (H : Heap) (locs : List Loc) (ls : Array Slot) (hS : St b C n M s H locs) (hl : lv_has ls 5 [(0, .ref (b + k0)), (1, vI v1_), (2, vI v2_), (3, vI v3_)]) (hT : t_Town_settle_L132 k0 bk23 bk33 M v1_ v2_ v3_ v5_ v6_ = some res) : W p l e (headSpec (wsM y_Town_settle b_Town_settle 5 (none)) (rmD 2)).room s m ([.ref (b + k0)] : List Value).toArray below meth c H locs 0 0 (MQ below (QV b C n res) ([.ref (b + k0)] : List Value).toArray s 0 0 (frb b)) (F0 m 132 ls [vI v6_, vI v5_, .ref (b + (k0 + 9))]) := by
  unfold t_Town_settle_L132 at hT
  obtain ⟨q22, hq22⟩ : ∃ q, q = (t_WF_put M (k0 + 9) 192 v5_ v6_) := ⟨_, rfl⟩
  replace hT := qlet_eq hT hq22
  refine r_backV F hS (r_runSN (As := [.ref (b + (k0 + 9)), vI v5_, vI v6_]) F hS (c_WF_put l F.2.2.1 M (k0 + 9) 192 v5_ v6_ (Town_f8 hk0) hv5_ hv6_ _ hq22.symm) mw_512 mw_511 mw_1 gs_Town_87 hd_WF_put ⟨Nat.le_of_ble_eq_true rfl, Nat.le_of_ble_eq_true rfl⟩ rfl hl.1 (Nat.le_of_ble_eq_true rfl) ⟨Nat.zero_le _, Nat.zero_le _⟩ rfl d_Town_settle_132) (fun H locs hS => ?_)
  refine lv_aload_n F.hx F.hb d_Town_settle_135 rfl (lv_at hl 0 rfl) ?_
  refine r_get (v := .ref (b + (k0 + 9))) (N := 20) (T := T11) (j := 8) F hS (Town_lt hk0) (Town_sh hk0) (Town_N hk0) rfl (Nat.le_of_ble_eq_true rfl) ing11 mw_114 (Town_g8 hk0 _) d_Town_settle_136 ?_
  refine lv_iload_n F.hx F.hb d_Town_settle_139 rfl (lv_at hl 3 rfl) ?_
  refine r_iconst F.hx F.hb d_Town_settle_140 ?_
  refine r_imul F.hx F.hb d_Town_settle_141 ?_
  refine r_iconst F.hx F.hb d_Town_settle_142 ?_
  refine r_iadd F.hx F.hb d_Town_settle_143 ?_
  refine lv_iload_n F.hx F.hb d_Town_settle_144 rfl (lv_at hl 2 rfl) ?_
  refine r_if_le (tgt := 154) F.hx F.hb hv2_ d_Town_settle_145 (by decide) (fun c24 => ?_) (fun c24 => ?_)
  · replace hT := (if_pos c24).symm.trans hT
    refine r_iconst F.hx F.hb d_Town_settle_154 ?_
    exact k_Town_settle_L155 l hlo k0 hk0 F hlk hr bk23 hbk23 bk33 hbk33 q22 v1_ hv1_ v2_ hv2_ v3_ hv3_ (w32 ((w32 (v3_ * 4)) + 3)) (inr_w32 _) (-1) (inr_c rfl) _ _ _ hS (lv_sub hl [0, 1, 2, 3] rfl) hT
  · replace hT := (if_neg c24).symm.trans hT
    refine lv_iload_n F.hx F.hb d_Town_settle_148 rfl (lv_at hl 3 rfl) ?_
    refine r_iconst F.hx F.hb d_Town_settle_149 ?_
    refine r_isub F.hx F.hb d_Town_settle_150 ?_
    refine lv_goto (tgt := 155) F.hx F.hb d_Town_settle_151 (by decide) ?_
    exact k_Town_settle_L155 l hlo k0 hk0 F hlk hr bk23 hbk23 bk33 hbk33 q22 v1_ hv1_ v2_ hv2_ v3_ hv3_ (w32 ((w32 (v3_ * 4)) + 3)) (inr_w32 _) (w32 (v3_ - 1)) (inr_w32 _) _ _ _ hS (lv_sub hl [0, 1, 2, 3] rfl) hT
set_option maxHeartbeats 4000000 in
set_option maxRecDepth 100000 in
theorem k_Town_settle_L100 (l : Launch) {p : Program} {e : Env} {s : State} {m : MethodId} {below : List Frame} {meth : Method} {c : Code} {b n : Nat} {C : CT} (hlo : 191 ≤ n) (k0 : Nat) (hk0 : isTown k0) (F : Cx b p m c b_Town_settle 5 s ([.ref (b + k0)] : List Value).toArray "WardFalls$Town" C n 191) (hlk : meth.locks = false) (hr : meth.sig.returnType = none) {res : Mem} (bk23 : Mem → Int → Option (Mem)) (hbk23 : ∀ (M : Mem) (v1_ : Int) (hv1_ : InR v1_) (H : Heap) (locs : List Loc) (ls : Array Slot), St b C n M s H locs → lv_has ls 5 [(0, .ref (b + k0)), (1, vI v1_)] → bk23 M v1_ = some res → W p l e (headSpec (wsM y_Town_settle b_Town_settle 5 (none)) (rmD 2)).room s m ([.ref (b + k0)] : List Value).toArray below meth c H locs 0 0 (MQ below (QV b C n res) ([.ref (b + k0)] : List Value).toArray s 0 0 (frb b)) (F0 m 23 ls [])) (bk33 : Mem → Int → Int → Option (Mem)) (hbk33 : ∀ (M : Mem) (v1_ : Int) (hv1_ : InR v1_) (v2_ : Int) (hv2_ : InR v2_) (H : Heap) (locs : List Loc) (ls : Array Slot), St b C n M s H locs → lv_has ls 5 [(0, .ref (b + k0)), (1, vI v1_), (2, vI v2_)] → bk33 M v1_ v2_ = some res → W p l e (headSpec (wsM y_Town_settle b_Town_settle 5 (none)) (rmD 2)).room s m ([.ref (b + k0)] : List Value).toArray below meth c H locs 0 0 (MQ below (QV b C n res) ([.ref (b + k0)] : List Value).toArray s 0 0 (frb b)) (F0 m 33 ls [])) (M : Mem) (v1_ : Int) (hv1_ : InR v1_) (v2_ : Int) (hv2_ : InR v2_) (v3_ : Int) (hv3_ : InR v3_) (v5_ : Int) (hv5_ : InR v5_) (v6_ : Int) (hv6_ : InR v6_) (H : Heap) (locs : List Loc) (ls : Array Slot) (hS : St b C n M s H locs) (hl : lv_has ls 5 [(0, .ref (b + k0)), (1, vI v1_), (2, vI v2_), (3, vI v3_)]) (hT : t_Town_settle_L100 k0 bk23 bk33 M v1_ v2_ v3_ v5_ v6_ = some res) : W p l e (headSpec (wsM y_Town_settle b_Town_settle 5 (none)) (rmD 2)).room s m ([.ref (b + k0)] : List Value).toArray below meth c H locs 0 0 (MQ below (QV b C n res) ([.ref (b + k0)] : List Value).toArray s 0 0 (frb b)) (F0 m 100 ls [vI v6_, vI v5_, .ref (b + (k0 + 9))]) := by
  unfold t_Town_settle_L100 at hT
  obtain ⟨q17, hq17⟩ : ∃ q, q = (t_WF_put M (k0 + 9) 192 v5_ v6_) := ⟨_, rfl⟩
  replace hT := qlet_eq hT hq17
  refine r_backV F hS (r_runSN (As := [.ref (b + (k0 + 9)), vI v5_, vI v6_]) F hS (c_WF_put l F.2.2.1 M (k0 + 9) 192 v5_ v6_ (Town_f8 hk0) hv5_ hv6_ _ hq17.symm) mw_512 mw_511 mw_1 gs_Town_87 hd_WF_put ⟨Nat.le_of_ble_eq_true rfl, Nat.le_of_ble_eq_true rfl⟩ rfl hl.1 (Nat.le_of_ble_eq_true rfl) ⟨Nat.zero_le _, Nat.zero_le _⟩ rfl d_Town_settle_100) (fun H locs hS => ?_)
  refine lv_aload_n F.hx F.hb d_Town_settle_103 rfl (lv_at hl 0 rfl) ?_
  refine r_get (v := .ref (b + (k0 + 9))) (N := 20) (T := T11) (j := 8) F hS (Town_lt hk0) (Town_sh hk0) (Town_N hk0) rfl (Nat.le_of_ble_eq_true rfl) ing11 mw_114 (Town_g8 hk0 _) d_Town_settle_104 ?_
  refine lv_iload_n F.hx F.hb d_Town_settle_107 rfl (lv_at hl 3 rfl) ?_
  refine r_iconst F.hx F.hb d_Town_settle_108 ?_
  refine r_imul F.hx F.hb d_Town_settle_109 ?_
  refine r_iconst F.hx F.hb d_Town_settle_110 ?_
  refine r_iadd F.hx F.hb d_Town_settle_111 ?_
  refine lv_iload_n F.hx F.hb d_Town_settle_112 rfl (lv_at hl 1 rfl) ?_
  refine lv_aload_n F.hx F.hb d_Town_settle_113 rfl (lv_at hl 0 rfl) ?_
  refine r_get (v := vI (q17.1 k0 12)) (N := 20) (T := T11) (j := 12) F hS (Town_lt hk0) (Town_sh hk0) (Town_N hk0) rfl (Nat.le_of_ble_eq_true rfl) ing11 mw_124 (fv_int rfl) d_Town_settle_114 ?_
  have i19 := hS.rng k0 12
  refine r_iconst F.hx F.hb d_Town_settle_117 ?_
  refine r_isub F.hx F.hb d_Town_settle_118 ?_
  refine r_icmp_ge (tgt := 131) F.hx F.hb hv1_ (inr_w32 _) d_Town_settle_119 (by decide) (fun c20 => ?_) (fun c20 => ?_)
  · replace hT := (if_pos c20).symm.trans hT
    refine r_iconst F.hx F.hb d_Town_settle_131 ?_
    exact k_Town_settle_L132 l hlo k0 hk0 F hlk hr bk23 hbk23 bk33 hbk33 q17 v1_ hv1_ v2_ hv2_ v3_ hv3_ (w32 ((w32 (v3_ * 4)) + 2)) (inr_w32 _) (-1) (inr_c rfl) _ _ _ hS (lv_sub hl [0, 1, 2, 3] rfl) hT
  · replace hT := (if_neg c20).symm.trans hT
    refine lv_iload_n F.hx F.hb d_Town_settle_122 rfl (lv_at hl 3 rfl) ?_
    refine lv_aload_n F.hx F.hb d_Town_settle_123 rfl (lv_at hl 0 rfl) ?_
    refine r_get (v := vI (q17.1 k0 11)) (N := 20) (T := T11) (j := 11) F hS (Town_lt hk0) (Town_sh hk0) (Town_N hk0) rfl (Nat.le_of_ble_eq_true rfl) ing11 mw_121 (fv_int rfl) d_Town_settle_124 ?_
    have i21 := hS.rng k0 11
    refine r_iadd F.hx F.hb d_Town_settle_127 ?_
    refine lv_goto (tgt := 132) F.hx F.hb d_Town_settle_128 (by decide) ?_
    exact k_Town_settle_L132 l hlo k0 hk0 F hlk hr bk23 hbk23 bk33 hbk33 q17 v1_ hv1_ v2_ hv2_ v3_ hv3_ (w32 ((w32 (v3_ * 4)) + 2)) (inr_w32 _) (w32 (v3_ + (q17.1 k0 11))) (inr_w32 _) _ _ _ hS (lv_sub hl [0, 1, 2, 3] rfl) hT
set_option maxHeartbeats 4000000 in
set_option maxRecDepth 100000 in
theorem k_Town_settle_L71 (l : Launch) {p : Program} {e : Env} {s : State} {m : MethodId} {below : List Frame} {meth : Method} {c : Code} {b n : Nat} {C : CT} (hlo : 191 ≤ n) (k0 : Nat) (hk0 : isTown k0) (F : Cx b p m c b_Town_settle 5 s ([.ref (b + k0)] : List Value).toArray "WardFalls$Town" C n 191) (hlk : meth.locks = false) (hr : meth.sig.returnType = none) {res : Mem} (bk23 : Mem → Int → Option (Mem)) (hbk23 : ∀ (M : Mem) (v1_ : Int) (hv1_ : InR v1_) (H : Heap) (locs : List Loc) (ls : Array Slot), St b C n M s H locs → lv_has ls 5 [(0, .ref (b + k0)), (1, vI v1_)] → bk23 M v1_ = some res → W p l e (headSpec (wsM y_Town_settle b_Town_settle 5 (none)) (rmD 2)).room s m ([.ref (b + k0)] : List Value).toArray below meth c H locs 0 0 (MQ below (QV b C n res) ([.ref (b + k0)] : List Value).toArray s 0 0 (frb b)) (F0 m 23 ls [])) (bk33 : Mem → Int → Int → Option (Mem)) (hbk33 : ∀ (M : Mem) (v1_ : Int) (hv1_ : InR v1_) (v2_ : Int) (hv2_ : InR v2_) (H : Heap) (locs : List Loc) (ls : Array Slot), St b C n M s H locs → lv_has ls 5 [(0, .ref (b + k0)), (1, vI v1_), (2, vI v2_)] → bk33 M v1_ v2_ = some res → W p l e (headSpec (wsM y_Town_settle b_Town_settle 5 (none)) (rmD 2)).room s m ([.ref (b + k0)] : List Value).toArray below meth c H locs 0 0 (MQ below (QV b C n res) ([.ref (b + k0)] : List Value).toArray s 0 0 (frb b)) (F0 m 33 ls [])) (M : Mem) (v1_ : Int) (hv1_ : InR v1_) (v2_ : Int) (hv2_ : InR v2_) (v3_ : Int) (hv3_ : InR v3_) (v5_ : Int) (hv5_ : InR v5_) (v6_ : Int) (hv6_ : InR v6_) (H : Heap) (locs : List Loc) (ls : Array Slot) (hS : St b C n M s H locs) (hl : lv_has ls 5 [(0, .ref (b + k0)), (1, vI v1_), (2, vI v2_), (3, vI v3_)]) (hT : t_Town_settle_L71 k0 bk23 bk33 M v1_ v2_ v3_ v5_ v6_ = some res) : W p l e (headSpec (wsM y_Town_settle b_Town_settle 5 (none)) (rmD 2)).room s m ([.ref (b + k0)] : List Value).toArray below meth c H locs 0 0 (MQ below (QV b C n res) ([.ref (b + k0)] : List Value).toArray s 0 0 (frb b)) (F0 m 71 ls [vI v6_, vI v5_, .ref (b + (k0 + 9))]) := by
  unfold t_Town_settle_L71 at hT
  obtain ⟨q13, hq13⟩ : ∃ q, q = (t_WF_put M (k0 + 9) 192 v5_ v6_) := ⟨_, rfl⟩
  replace hT := qlet_eq hT hq13
  refine r_backV F hS (r_runSN (As := [.ref (b + (k0 + 9)), vI v5_, vI v6_]) F hS (c_WF_put l F.2.2.1 M (k0 + 9) 192 v5_ v6_ (Town_f8 hk0) hv5_ hv6_ _ hq13.symm) mw_512 mw_511 mw_1 gs_Town_87 hd_WF_put ⟨Nat.le_of_ble_eq_true rfl, Nat.le_of_ble_eq_true rfl⟩ rfl hl.1 (Nat.le_of_ble_eq_true rfl) ⟨Nat.zero_le _, Nat.zero_le _⟩ rfl d_Town_settle_71) (fun H locs hS => ?_)
  refine lv_aload_n F.hx F.hb d_Town_settle_74 rfl (lv_at hl 0 rfl) ?_
  refine r_get (v := .ref (b + (k0 + 9))) (N := 20) (T := T11) (j := 8) F hS (Town_lt hk0) (Town_sh hk0) (Town_N hk0) rfl (Nat.le_of_ble_eq_true rfl) ing11 mw_114 (Town_g8 hk0 _) d_Town_settle_75 ?_
  refine lv_iload_n F.hx F.hb d_Town_settle_78 rfl (lv_at hl 3 rfl) ?_
  refine r_iconst F.hx F.hb d_Town_settle_79 ?_
  refine r_imul F.hx F.hb d_Town_settle_80 ?_
  refine r_iconst F.hx F.hb d_Town_settle_81 ?_
  refine r_iadd F.hx F.hb d_Town_settle_82 ?_
  refine lv_iload_n F.hx F.hb d_Town_settle_83 rfl (lv_at hl 2 rfl) ?_
  refine lv_aload_n F.hx F.hb d_Town_settle_84 rfl (lv_at hl 0 rfl) ?_
  refine r_get (v := vI (q13.1 k0 11)) (N := 20) (T := T11) (j := 11) F hS (Town_lt hk0) (Town_sh hk0) (Town_N hk0) rfl (Nat.le_of_ble_eq_true rfl) ing11 mw_121 (fv_int rfl) d_Town_settle_85 ?_
  have i15 := hS.rng k0 11
  refine r_iconst F.hx F.hb d_Town_settle_88 ?_
  refine r_isub F.hx F.hb d_Town_settle_89 ?_
  refine r_icmp_ge (tgt := 99) F.hx F.hb hv2_ (inr_w32 _) d_Town_settle_90 (by decide) (fun c16 => ?_) (fun c16 => ?_)
  · replace hT := (if_pos c16).symm.trans hT
    refine r_iconst F.hx F.hb d_Town_settle_99 ?_
    exact k_Town_settle_L100 l hlo k0 hk0 F hlk hr bk23 hbk23 bk33 hbk33 q13 v1_ hv1_ v2_ hv2_ v3_ hv3_ (w32 ((w32 (v3_ * 4)) + 1)) (inr_w32 _) (-1) (inr_c rfl) _ _ _ hS (lv_sub hl [0, 1, 2, 3] rfl) hT
  · replace hT := (if_neg c16).symm.trans hT
    refine lv_iload_n F.hx F.hb d_Town_settle_93 rfl (lv_at hl 3 rfl) ?_
    refine r_iconst F.hx F.hb d_Town_settle_94 ?_
    refine r_iadd F.hx F.hb d_Town_settle_95 ?_
    refine lv_goto (tgt := 100) F.hx F.hb d_Town_settle_96 (by decide) ?_
    exact k_Town_settle_L100 l hlo k0 hk0 F hlk hr bk23 hbk23 bk33 hbk33 q13 v1_ hv1_ v2_ hv2_ v3_ hv3_ (w32 ((w32 (v3_ * 4)) + 1)) (inr_w32 _) (w32 (v3_ + 1)) (inr_w32 _) _ _ _ hS (lv_sub hl [0, 1, 2, 3] rfl) hT
set_option maxHeartbeats 4000000 in
set_option maxRecDepth 100000 in
theorem k_Town_settle_L33 (l : Launch) {p : Program} {e : Env} {s : State} {m : MethodId} {below : List Frame} {meth : Method} {c : Code} {b n : Nat} {C : CT} (hlo : 191 ≤ n) (k0 : Nat) (hk0 : isTown k0) (F : Cx b p m c b_Town_settle 5 s ([.ref (b + k0)] : List Value).toArray "WardFalls$Town" C n 191) (hlk : meth.locks = false) (hr : meth.sig.returnType = none) {res : Mem} (bk23 : Mem → Int → Option (Mem)) (hbk23 : ∀ (M : Mem) (v1_ : Int) (hv1_ : InR v1_) (H : Heap) (locs : List Loc) (ls : Array Slot), St b C n M s H locs → lv_has ls 5 [(0, .ref (b + k0)), (1, vI v1_)] → bk23 M v1_ = some res → W p l e (headSpec (wsM y_Town_settle b_Town_settle 5 (none)) (rmD 2)).room s m ([.ref (b + k0)] : List Value).toArray below meth c H locs 0 0 (MQ below (QV b C n res) ([.ref (b + k0)] : List Value).toArray s 0 0 (frb b)) (F0 m 23 ls [])) : ∀ (fu : Nat) (M : Mem) (v1_ : Int) (hv1_ : InR v1_) (v2_ : Int) (hv2_ : InR v2_) (H : Heap) (locs : List Loc) (ls : Array Slot), St b C n M s H locs → lv_has ls 5 [(0, .ref (b + k0)), (1, vI v1_), (2, vI v2_)] → t_Town_settle_L33 k0 bk23 fu M v1_ v2_ = some res → W p l e (headSpec (wsM y_Town_settle b_Town_settle 5 (none)) (rmD 2)).room s m ([.ref (b + k0)] : List Value).toArray below meth c H locs 0 0 (MQ below (QV b C n res) ([.ref (b + k0)] : List Value).toArray s 0 0 (frb b)) (F0 m 33 ls []) := by
  intro fu
  induction fu with
  | zero => intro M v1_ hv1_ v2_ hv2_ H locs ls hS hl hT; exact absurd hT (by simp [t_Town_settle_L33])
  | succ fu ih =>
    intro M v1_ hv1_ v2_ hv2_ H locs ls hS hl hT
    rw [t_Town_settle_L33] at hT
    refine lv_iload_n F.hx F.hb d_Town_settle_33 rfl (lv_at hl 2 rfl) ?_
    refine lv_aload_n F.hx F.hb d_Town_settle_34 rfl (lv_at hl 0 rfl) ?_
    refine r_get (v := vI (M.1 k0 11)) (N := 20) (T := T11) (j := 11) F hS (Town_lt hk0) (Town_sh hk0) (Town_N hk0) rfl (Nat.le_of_ble_eq_true rfl) ing11 mw_121 (fv_int rfl) d_Town_settle_35 ?_
    have i8 := hS.rng k0 11
    refine r_icmp_ge (tgt := 191) F.hx F.hb hv2_ i8 d_Town_settle_38 (by decide) (fun c9 => ?_) (fun c9 => ?_)
    · replace hT := (if_pos c9).symm.trans hT
      refine lv_iinc (v := Int32.ofInt (w32 (v1_ + 1))) (lv' := [(1, vI (w32 (v1_ + 1))), (0, .ref (b + k0)), (2, vI v2_)]) F.hx F.hb d_Town_settle_191 hl (k := 1) rfl (q_of_add _ _) (Nat.le_of_ble_eq_true rfl) rfl (fun ls hl => ?_)
      refine lv_goto (tgt := 23) F.hx F.hb d_Town_settle_194 (by decide) ?_
      exact hbk23 M (w32 (v1_ + 1)) (inr_w32 _) _ _ _ hS (lv_sub hl [1, 0] rfl) hT
    · replace hT := (if_neg c9).symm.trans hT
      refine lv_iload_n F.hx F.hb d_Town_settle_41 rfl (lv_at hl 1 rfl) ?_
      refine lv_aload_n F.hx F.hb d_Town_settle_42 rfl (lv_at hl 0 rfl) ?_
      refine r_get (v := vI (M.1 k0 11)) (N := 20) (T := T11) (j := 11) F hS (Town_lt hk0) (Town_sh hk0) (Town_N hk0) rfl (Nat.le_of_ble_eq_true rfl) ing11 mw_121 (fv_int rfl) d_Town_settle_43 ?_
      have i10 := hS.rng k0 11
      refine r_imul F.hx F.hb d_Town_settle_46 ?_
      refine lv_iload_n F.hx F.hb d_Town_settle_47 rfl (lv_at hl 2 rfl) ?_
      refine r_iadd F.hx F.hb d_Town_settle_48 ?_
      refine lv_istore_n (lv' := [(3, vI (w32 ((w32 (v1_ * (M.1 k0 11))) + v2_))), (0, .ref (b + k0)), (1, vI v1_), (2, vI v2_)]) F.hx F.hb d_Town_settle_49 rfl hl (Nat.le_of_ble_eq_true rfl) rfl (fun ls hl => ?_)
      refine lv_aload_n F.hx F.hb d_Town_settle_50 rfl (lv_at hl 1 rfl) ?_
      refine r_get (v := .ref (b + (k0 + 9))) (N := 20) (T := T11) (j := 8) F hS (Town_lt hk0) (Town_sh hk0) (Town_N hk0) rfl (Nat.le_of_ble_eq_true rfl) ing11 mw_114 (Town_g8 hk0 _) d_Town_settle_51 ?_
      refine lv_iload_n F.hx F.hb d_Town_settle_54 rfl (lv_at hl 0 rfl) ?_
      refine r_iconst F.hx F.hb d_Town_settle_55 ?_
      refine r_imul F.hx F.hb d_Town_settle_56 ?_
      refine lv_iload_n F.hx F.hb d_Town_settle_57 rfl (lv_at hl 2 rfl) ?_
      refine r_if_le (tgt := 70) F.hx F.hb hv1_ d_Town_settle_58 (by decide) (fun c11 => ?_) (fun c11 => ?_)
      · replace hT := (if_pos c11).symm.trans hT
        refine r_iconst F.hx F.hb d_Town_settle_70 ?_
        exact k_Town_settle_L71 l hlo k0 hk0 F hlk hr bk23 hbk23 (fun a0_ a1_ a2_ => t_Town_settle_L33 k0 bk23 fu a0_ a1_ a2_) ih M v1_ hv1_ v2_ hv2_ (w32 ((w32 (v1_ * (M.1 k0 11))) + v2_)) (inr_w32 _) (w32 ((w32 ((w32 (v1_ * (M.1 k0 11))) + v2_)) * 4)) (inr_w32 _) (-1) (inr_c rfl) _ _ _ hS (lv_sub hl [1, 2, 3, 0] rfl) hT
      · replace hT := (if_neg c11).symm.trans hT
        refine lv_iload_n F.hx F.hb d_Town_settle_61 rfl (lv_at hl 0 rfl) ?_
        refine lv_aload_n F.hx F.hb d_Town_settle_62 rfl (lv_at hl 1 rfl) ?_
        refine r_get (v := vI (M.1 k0 11)) (N := 20) (T := T11) (j := 11) F hS (Town_lt hk0) (Town_sh hk0) (Town_N hk0) rfl (Nat.le_of_ble_eq_true rfl) ing11 mw_121 (fv_int rfl) d_Town_settle_63 ?_
        have i12 := hS.rng k0 11
        refine r_isub F.hx F.hb d_Town_settle_66 ?_
        refine lv_goto (tgt := 71) F.hx F.hb d_Town_settle_67 (by decide) ?_
        exact k_Town_settle_L71 l hlo k0 hk0 F hlk hr bk23 hbk23 (fun a0_ a1_ a2_ => t_Town_settle_L33 k0 bk23 fu a0_ a1_ a2_) ih M v1_ hv1_ v2_ hv2_ (w32 ((w32 (v1_ * (M.1 k0 11))) + v2_)) (inr_w32 _) (w32 ((w32 ((w32 (v1_ * (M.1 k0 11))) + v2_)) * 4)) (inr_w32 _) (w32 ((w32 ((w32 (v1_ * (M.1 k0 11))) + v2_)) - (M.1 k0 11))) (inr_w32 _) _ _ _ hS (lv_sub hl [1, 2, 3, 0] rfl) hT
set_option maxHeartbeats 4000000 in
set_option maxRecDepth 100000 in
theorem k_Town_settle_L23 (l : Launch) {p : Program} {e : Env} {s : State} {m : MethodId} {below : List Frame} {meth : Method} {c : Code} {b n : Nat} {C : CT} (hlo : 191 ≤ n) (k0 : Nat) (hk0 : isTown k0) (F : Cx b p m c b_Town_settle 5 s ([.ref (b + k0)] : List Value).toArray "WardFalls$Town" C n 191) (hlk : meth.locks = false) (hr : meth.sig.returnType = none) {res : Mem} : ∀ (fu : Nat) (M : Mem) (v1_ : Int) (hv1_ : InR v1_) (H : Heap) (locs : List Loc) (ls : Array Slot), St b C n M s H locs → lv_has ls 5 [(0, .ref (b + k0)), (1, vI v1_)] → t_Town_settle_L23 k0 fu M v1_ = some res → W p l e (headSpec (wsM y_Town_settle b_Town_settle 5 (none)) (rmD 2)).room s m ([.ref (b + k0)] : List Value).toArray below meth c H locs 0 0 (MQ below (QV b C n res) ([.ref (b + k0)] : List Value).toArray s 0 0 (frb b)) (F0 m 23 ls []) := by
  intro fu
  induction fu with
  | zero => intro M v1_ hv1_ H locs ls hS hl hT; exact absurd hT (by simp [t_Town_settle_L23])
  | succ fu ih =>
    intro M v1_ hv1_ H locs ls hS hl hT
    rw [t_Town_settle_L23] at hT
    refine lv_iload_n F.hx F.hb d_Town_settle_23 rfl (lv_at hl 1 rfl) ?_
    refine lv_aload_n F.hx F.hb d_Town_settle_24 rfl (lv_at hl 0 rfl) ?_
    refine r_get (v := vI (M.1 k0 12)) (N := 20) (T := T11) (j := 12) F hS (Town_lt hk0) (Town_sh hk0) (Town_N hk0) rfl (Nat.le_of_ble_eq_true rfl) ing11 mw_124 (fv_int rfl) d_Town_settle_25 ?_
    have i6 := hS.rng k0 12
    refine r_icmp_ge (tgt := 197) F.hx F.hb hv1_ i6 d_Town_settle_28 (by decide) (fun c7 => ?_) (fun c7 => ?_)
    · replace hT := (if_pos c7).symm.trans hT
      cases hT
      exact r_vret F hlk hr hS d_Town_settle_197
    · replace hT := (if_neg c7).symm.trans hT
      refine r_iconst F.hx F.hb d_Town_settle_31 ?_
      refine lv_istore_n (lv' := [(2, vI 0), (0, .ref (b + k0)), (1, vI v1_)]) F.hx F.hb d_Town_settle_32 rfl hl (Nat.le_of_ble_eq_true rfl) rfl (fun ls hl => ?_)
      exact k_Town_settle_L33 l hlo k0 hk0 F hlk hr (fun a0_ a1_ => t_Town_settle_L23 k0 fu a0_ a1_) ih FU M v1_ hv1_ 0 (inr_c rfl) _ _ _ hS (lv_sub hl [1, 2, 0] rfl) hT
set_option maxHeartbeats 4000000 in
set_option maxRecDepth 100000 in
theorem c_Town_settle (l : Launch) {b n : Nat} {C : CT} (hlo : 191 ≤ n) (M : Mem) (k0 : Nat) (hk0 : isTown k0) (res : Mem) (hT : t_Town_settle M k0 = some res) : CM l b C n 2 y_Town_settle b_Town_settle 5 (none) [.ref (b + k0)] M (QV b C n res) := by
  refine CM.of (lo := 191) (ow := "WardFalls$Town") (by decide) rfl (Nat.le_of_ble_eq_true rfl) hlo (fun p e s m below meth c F hlk hr hS ls hl => ?_)
  have hl : lv_has ls 5 [(0, .ref (b + k0))] := hl
  unfold t_Town_settle at hT
  refine lv_aload_n F.hx F.hb d_Town_settle_0 rfl (lv_at hl 0 rfl) ?_
  refine lv_aload_n F.hx F.hb d_Town_settle_1 rfl (lv_at hl 0 rfl) ?_
  refine r_get (v := vI (M.1 k0 11)) (N := 20) (T := T11) (j := 11) F hS (Town_lt hk0) (Town_sh hk0) (Town_N hk0) rfl (Nat.le_of_ble_eq_true rfl) ing11 mw_121 (fv_int rfl) d_Town_settle_2 ?_
  have i1 := hS.rng k0 11
  refine lv_aload_n F.hx F.hb d_Town_settle_5 rfl (lv_at hl 0 rfl) ?_
  refine r_get (v := vI (M.1 k0 12)) (N := 20) (T := T11) (j := 12) F hS (Town_lt hk0) (Town_sh hk0) (Town_N hk0) rfl (Nat.le_of_ble_eq_true rfl) ing11 mw_124 (fv_int rfl) d_Town_settle_6 ?_
  have i2 := hS.rng k0 12
  refine r_imul F.hx F.hb d_Town_settle_9 ?_
  refine r_putI (N := 20) (T := T11) (j := 13) F hS (Town_lt hk0) (Town_sh hk0) (Town_N hk0) rfl (Nat.le_of_ble_eq_true rfl) ing11 tyok11 nm11 rfl rfl rfl rfl rfl (Town_dyn hk0 _) mw_128 (inr_w32 _) d_Town_settle_10 (fun H locs hS => ?_)
  obtain ⟨M3, eM3⟩ : ∃ q, q = (setI M k0 13 (w32 ((M.1 k0 11) * (M.1 k0 12)))) := ⟨_, rfl⟩
  replace hS : St b C n M3 s H locs := by rw [eM3]; exact hS
  replace hT := qlet_eq hT eM3
  refine lv_aload_n F.hx F.hb d_Town_settle_13 rfl (lv_at hl 0 rfl) ?_
  refine r_get (v := .ref (b + (k0 + 4))) (N := 20) (T := T11) (j := 3) F hS (Town_lt hk0) (Town_sh hk0) (Town_N hk0) rfl (Nat.le_of_ble_eq_true rfl) ing11 mw_98 (Town_g3 hk0 _) d_Town_settle_14 ?_
  refine r_iconst F.hx F.hb d_Town_settle_17 ?_
  obtain ⟨q4, hq4, hT⟩ := q_obind hT
  refine r_backV F hS (r_runS (As := [.ref (b + (k0 + 4)), vI 0]) F hS (c_Arrays_fill l F.2.2.1 M3 (k0 + 4) 4 0 (Town_f3 hk0) (inr_c rfl) _ hq4) gs_Town_78 hd_Arrays_fill ⟨Nat.le_of_ble_eq_true rfl, Nat.le_of_ble_eq_true rfl⟩ rfl hl.1 (Nat.le_of_ble_eq_true rfl) ⟨Nat.zero_le _, Nat.zero_le _⟩ rfl d_Town_settle_18) (fun H locs hS => ?_)
  refine r_iconst F.hx F.hb d_Town_settle_21 ?_
  refine lv_istore_n (lv' := [(1, vI 0), (0, .ref (b + k0))]) F.hx F.hb d_Town_settle_22 rfl hl (Nat.le_of_ble_eq_true rfl) rfl (fun ls hl => ?_)
  exact k_Town_settle_L23 l hlo k0 hk0 F hlk hr FU q4 0 (inr_c rfl) _ _ _ hS (lv_sub hl [1, 0] rfl) hT
theorem d_WF_copyRow_0 : decode b_WF_copyRow 0 = .ok (.aload_n 0, 1) := dc_42 (by decide +kernel)
theorem d_WF_copyRow_1 : decode b_WF_copyRow 1 = .ok (.iconst 0, 1) := dc_3 (by decide +kernel)
theorem d_WF_copyRow_2 : decode b_WF_copyRow 2 = .ok (.aload_n 1, 1) := dc_43 (by decide +kernel)
theorem d_WF_copyRow_3 : decode b_WF_copyRow 3 = .ok (.iconst 0, 1) := dc_3 (by decide +kernel)
theorem d_WF_copyRow_4 : decode b_WF_copyRow 4 = .ok (.aload_n 0, 1) := dc_42 (by decide +kernel)
theorem d_WF_copyRow_5 : decode b_WF_copyRow 5 = .ok (.arraylength, 1) := dc_190 (by decide +kernel)
theorem d_WF_copyRow_6 : decode b_WF_copyRow 6 = .ok (.aload_n 1, 1) := dc_43 (by decide +kernel)
theorem d_WF_copyRow_7 : decode b_WF_copyRow 7 = .ok (.arraylength, 1) := dc_190 (by decide +kernel)
theorem d_WF_copyRow_8 : decode b_WF_copyRow 8 = .ok (.invokestatic 449, 3) := dc_184 (by decide +kernel)
theorem d_WF_copyRow_11 : decode b_WF_copyRow 11 = .ok (.invokestatic 454, 3) := dc_184 (by decide +kernel)
theorem d_WF_copyRow_14 : decode b_WF_copyRow 14 = .ok (.return_, 1) := dc_177 (by decide +kernel)
def cpyM (M : Mem) (r1 r2 : Nat) (n9 : Int) : Mem := (fun k j => if k = r2 ∧ 0 ≤ j ∧ j < n9 then M.1 r1 j else M.1 k j, M.2)
theorem St_cpy {b n : Nat} {C : CT} {M : Mem} {s : State} {H H1 : Heap} {locs : List Loc} {r1 r2 N2 : Nat} {n9 : Int} (hS : St b C n M s H locs) (hrn : r2 < n) (h2 : shK r2 = 0) (hN2 : shN r2 = N2) (L : List Loc) (hL : ∀ q ∈ L, q.base = b + r2) (z : H1.size = H.size) (oq : ∀ q : Nat, q ≠ b + r2 → H1[q]? = H[q]?)
    (hc : H1[b + r2]? = some (arrV (C.2.2.1 0) N2 (fun j => vI ((cpyM M r1 r2 n9).1 r2 (j : Int))))) : St b C n (cpyM M r1 r2 n9) s H1 (locs ++ L) := by
  obtain ⟨g1, g2, g3, g4, g5⟩ := hS
  have hne : ∀ k' j', k' ≠ r2 → (cpyM M r1 r2 n9).1 k' j' = M.1 k' j' := fun k' j' h => if_neg (fun q => h q.1)
  have h0 : (0 : Nat) ≠ r2 := fun e => by rw [← e] at h2; exact absurd h2 (by decide)
  have h46 : (46 : Nat) ≠ r2 := fun e => by rw [← e] at h2; exact absurd h2 (by decide)
  have hGM : ∀ k' j', GM (cpyM M r1 r2 n9) k' j' = GM M k' j' := fun k' j' => by
    unfold GM
    by_cases hd : dyn k' j' = true
    · rw [if_pos hd, if_pos hd]
      refine hne _ _ (fun e => ?_)
      rw [e, dyn_lo (by omega)] at hd
      cases hd
    · rw [if_neg hd, if_neg hd]
  refine ⟨by rw [z]; exact g1, ?_, fun q hq => (oq q (Nat.ne_of_lt (Nat.lt_of_lt_of_le hq (Nat.le_add_right b r2)))).trans (g3 q hq), ⟨?_, ?_, ?_, ?_⟩, ?_⟩
  · refine HP_put g2 (fun k' j' h => ⟨hne _ _ h, rfl⟩) (fun k' j' _ => hGM k' j') oq (fun _ => ?_)
    refine cell_lo (a := 0) (by omega) h2 ?_
    rw [hc, hN2]
    rfl
  · intro k j
    show InR (if _ then _ else _)
    split
    · exact g4.1 _ _
    · exact g4.1 _ _
  · unfold DynOK
    rw [hne _ _ h0, hne _ _ h0, hne _ _ h46]
    exact g4.2.1
  · intro k j hk
    rw [hne _ _ (fun e => by rw [e, h2] at hk; cases hk)]
    exact g4.2.2.1 k j hk
  · intro k j hk hd
    rw [hne _ _ (by omega)]
    exact g4.2.2.2 k j hk hd
  · refine ⟨by rw [z]; exact g5.1, fun q q1 q2 => (oq q (fun e => q2 (by rw [e]; show b ≤ b + r2; omega))).trans (g5.2.1 q q1 q2), fun q hq => ?_⟩
    rcases List.mem_append.mp hq with h | h
    · exact g5.2.2 q h
    · show b ≤ q.base
      rw [hL q h]
      omega
section RCP
variable {p : Program} {l : Launch} {e : Env} {R : Room} {s : State} {m : MethodId} {args : Array Value} {below : List Frame} {meth : Method} {c : Code} {H : Heap} {locs : List Loc} {cells slots : Nat} {Q : State → Prop}
variable {cc : ByteArray} {pc nL lo : Nat} {ls : Array Slot} {rest : List Value} {own : String} {b n : Nat} {C : CT} {M : Mem}
theorem r_copyI {index r1 N1 r2 N2 : Nat} {n9 : Int} (F : Cx b p m c cc nL s args own C n lo) (hsz : ls.size = nL) (hS : St b C n M s H locs) (h1 : arrP 0 r1 N1 lo) (h2 : arrP 0 r2 N2 lo) (hr : InR n9) (hn0 : 0 ≤ n9) (hn1 : n9 ≤ (N1 : Int)) (hn2 : n9 ≤ (N2 : Int))
    (hlink : Cond.methodLink own index arraycopyName ∈ lw_good) (hnat : Cond.native arraycopyName ∈ lw_good) (hstat : Cond.static arraycopyName ∈ lw_good) (hini : Cond.initialized "java/lang/System" ∈ lw_good)
    (hframes : 1 ≤ R.frames) (hlocals : (rest.map fun v => v.category).sum + (nativeFrameWords "java/lang/System" "arraycopy" 5 + 11) ≤ R.locals) (hdg : decode cc pc = .ok (.invokestatic index, 3))
    (kk : ∀ (H1 : Heap) (locs1 : List Loc), St b C n (cpyM M r1 r2 n9) s H1 locs1 → W p l e R s m args below meth c H1 locs1 cells slots Q (F0 m (pc + 3) ls rest)) : W p l e R s m args below meth c H locs cells slots Q (F0 m pc ls (vI n9 :: vI 0 :: .ref (b + r2) :: vI 0 :: .ref (b + r1) :: rest)) := by
  obtain ⟨hx, hb, hml, hown, hts⟩ := F.1
  have z0 : (Int32.ofInt 0).toNatClampNeg = 0 := rfl
  have zn : (Int32.ofInt n9).toNatClampNeg = n9.toNat := q_nn_of hr
  have nneg : ¬ Int32.ofInt n9 < 0 := fun q => by
    rw [show (0 : Int32) = Int32.ofInt 0 from rfl, q_of_lt hr (inr_c rfl)] at q
    omega
  have c1 := (hS.2.1 r1 (F.lt h1.2.2)).1 h1.1
  have c2 := (hS.2.1 r2 (F.lt h2.2.2)).1 h2.1
  rw [h1.2.1] at c1
  rw [h2.2.1] at c2
  intro T hT X
  obtain ⟨-, k0, hk0, cm0, hkk0⟩ := (F.2.1.2 0 _ rfl).1 N1 (fun j => vI (M.1 r1 j))
  obtain ⟨-, k1, hk1, cm1, hkk1⟩ := (F.2.1.2 0 _ rfl).1 N2 (fun j => vI (M.1 r2 j))
  have hti : (Int32.ofInt n9).toInt = n9 := q_toInt_of hr
  have hti0 : (Int32.ofInt 0).toInt = 0 := rfl
  obtain ⟨vm', X', step⟩ := X.arraycopy hx hown (F.hts hlink) (F.hts hnat) (F.hts hstat) (F.hts hini) (src := b + r1) (dst := b + r2) (cs := arrV (C.2.2.1 0) N1 (fun j => vI (M.1 r1 j))) (cd := arrV (C.2.2.1 0) N2 (fun j => vI (M.1 r2 j))) (srcPos := Int32.ofInt 0) (destPos := Int32.ofInt 0) (n := Int32.ofInt n9) (by rw [hT]; exact c1) (by rw [hT]; exact c2)
    (fun _ h => by cases h) (fun _ h => by cases h) (fun h => by cases h) (fun h => by cases h) hk0 hk1 hkk0 hkk1 (by simp [show refKind FieldType.int = false from rfl]) (by decide) (by decide) nneg
    (by rw [hti, hti0]; show ¬ _ > ((arrV _ N1 _).slots.size : Int); rw [arrV_size]; omega)
    (by rw [hti, hti0]; show ¬ _ > ((arrV _ N2 _).slots.size : Int); rw [arrV_size]; omega)
    (fun vm₁ _ i hi => by
      have hi2 : i < n9.toNat := by rw [← zn]; exact hi
      have e : (arrV (C.2.2.1 0) N1 (fun j => vI (M.1 r1 j))).slots.getD ((Int32.ofInt 0).toNatClampNeg + i) .null = vI (M.1 r1 ((0 + i : Nat) : Int)) := by
        rw [Array.getD_eq_getD_getElem?, z0, arrV_read _ _ (by omega)]
        rfl
      refine ⟨?_, ?_⟩
      · rw [e]; rfl
      · rw [e]; exact trivial)
    (g := F0 m pc ls (vI n9 :: vI 0 :: .ref (b + r2) :: vI 0 :: .ref (b + r1) :: rest)) rfl (by rw [hml]; exact hsz) (rest := rest) rfl (by rw [hb]; exact hdg) hframes (by show 2 * 0 + _ + _ ≤ _; omega)
  have e1 : copied (arrV (C.2.2.1 0) N1 (fun j => vI (M.1 r1 j))) (arrV (C.2.2.1 0) N2 (fun j => vI (M.1 r2 j))) (Int32.ofInt 0) (Int32.ofInt 0) (Int32.ofInt n9) = arrV (C.2.2.1 0) N2 (fun j => vI ((cpyM M r1 r2 n9).1 r2 (j : Int))) := by
    refine (va_copied (sp := (Int32.ofInt 0).toNatClampNeg) (dp := (Int32.ofInt 0).toNatClampNeg) (n := (Int32.ofInt n9).toNatClampNeg) (fun z => vI z) (C.2.2.1 0) (C.2.2.1 0) (fun j : Nat => M.1 r1 (j : Int)) (fun j : Nat => M.1 r2 (j : Int)) (by rw [zn, z0]; omega)).trans ?_
    congr 1
    funext j
    rw [zn, z0]
    unfold va_cpy cpyM
    by_cases hj : j < n9.toNat
    · rw [if_pos ⟨by omega, by omega⟩]
      show vI (M.1 r1 ((0 + (j - 0) : Nat) : Int)) = vI (if _ then _ else _)
      rw [if_pos ⟨rfl, by omega, by omega⟩]
      simp
    · rw [if_neg (by omega)]
      show vI (M.1 r2 (j : Int)) = vI (if _ then _ else _)
      rw [if_neg (by omega)]
  rw [e1] at X' step
  have hl : b + r2 < H.size := (Array.getElem?_eq_some_iff.mp c2).1
  have hheap : ((T.setVm vm').setCell (b + r2) (arrV (C.2.2.1 0) N2 (fun j => vI ((cpyM M r1 r2 n9).1 r2 (j : Int))))).heap = H.setIfInBounds (b + r2) (arrV (C.2.2.1 0) N2 (fun j => vI ((cpyM M r1 r2 n9).1 r2 (j : Int)))) := by rw [← hT]; rfl
  have oq : ∀ q : Nat, q ≠ b + r2 → (H.setIfInBounds (b + r2) (arrV (C.2.2.1 0) N2 (fun j => vI ((cpyM M r1 r2 n9).1 r2 (j : Int)))))[q]? = H[q]? := fun q hq => by simp [Array.getElem?_setIfInBounds, Ne.symm hq]
  obtain ⟨t, a1, b1⟩ := kk _ _ (St_cpy (N2 := N2) hS (F.lt h2.2.2) h2.1 h2.2.1 _ (fun q hq => by
      obtain ⟨z, -, hz⟩ := List.mem_map.mp hq
      rw [← hz]) (by simp) oq (by simp [Array.getElem?_setIfInBounds, hl])) _ hheap X'
  exact ⟨t, step t a1, b1⟩
end RCP
def t_WF_copyRow (M : Mem) (r1 N1 r2 N2 : Nat) : Mem := cpyM M r1 r2 (q_min (N1 : Int) (N2 : Int))
set_option maxHeartbeats 4000000 in
theorem c_WF_copyRow (l : Launch) {b n : Nat} {C : CT} (hlo : 191 ≤ n) (M : Mem) (r1 : Nat) (N1 : Nat) (r2 : Nat) (N2 : Nat) (hr1 : arrP 0 r1 N1 191) (hr2 : arrP 0 r2 N2 191) (res : Mem) (hT : t_WF_copyRow M r1 N1 r2 N2 = res) : CM l b C n 2 y_WF_copyRow b_WF_copyRow 2 (none) [.ref (b + r1), .ref (b + r2)] M (QV b C n res) := by
  refine CM.of (lo := 191) (ow := "WardFalls") (by decide) rfl (Nat.le_of_ble_eq_true rfl) hlo (fun p e s m below meth c F hlk hr hS ls hl => ?_)
  have hl : lv_has ls 2 [(0, .ref (b + r1)), (1, .ref (b + r2))] := hl
  refine lv_aload_n F.hx F.hb d_WF_copyRow_0 rfl (lv_at hl 0 rfl) ?_
  refine r_iconst F.hx F.hb d_WF_copyRow_1 ?_
  refine lv_aload_n F.hx F.hb d_WF_copyRow_2 rfl (lv_at hl 1 rfl) ?_
  refine r_iconst F.hx F.hb d_WF_copyRow_3 ?_
  refine lv_aload_n F.hx F.hb d_WF_copyRow_4 rfl (lv_at hl 0 rfl) ?_
  refine r_alen F hS hr1.2.2 (by rw [hr1.1]; decide) hr1.2.1 d_WF_copyRow_5 rfl ?_
  refine lv_aload_n F.hx F.hb d_WF_copyRow_6 rfl (lv_at hl 1 rfl) ?_
  refine r_alen F hS hr2.2.2 (by rw [hr2.1]; decide) hr2.2.1 d_WF_copyRow_7 rfl ?_
  refine r_mmin F hl.1 mw_531 mw_532 mw_14 mw_533 ⟨Nat.le_of_ble_eq_true rfl, Nat.le_of_ble_eq_true rfl⟩ (Nat.le_of_ble_eq_true rfl) ⟨Nat.zero_le _, Nat.zero_le _⟩ (inr_len hr1) (inr_len hr2) d_WF_copyRow_8 ?_
  have hq : 0 ≤ q_min (N1 : Int) (N2 : Int) ∧ q_min (N1 : Int) (N2 : Int) ≤ (N1 : Int) ∧ q_min (N1 : Int) (N2 : Int) ≤ (N2 : Int) := by
    unfold q_min
    split <;> omega
  refine r_copyI F hl.1 hS hr1 hr2 (inr_min (inr_len hr1) (inr_len hr2)) hq.1 hq.2.1 hq.2.2 mw_534 mw_536 mw_535 mw_15 (Nat.le_of_ble_eq_true rfl) (Nat.le_of_ble_eq_true rfl) d_WF_copyRow_11 (fun H locs hS => ?_)
  subst hT
  exact r_vret F hlk hr hS d_WF_copyRow_14

theorem d_Scene_begin_0 : decode b_Scene_begin 0 = .ok (.aload_n 1, 1) := dc_43 (by decide +kernel)
theorem d_Scene_begin_1 : decode b_Scene_begin 1 = .ok (.getfield 24, 3) := dc_180 (by decide +kernel)
theorem d_Scene_begin_4 : decode b_Scene_begin 4 = .ok (.aload_n 0, 1) := dc_42 (by decide +kernel)
theorem d_Scene_begin_5 : decode b_Scene_begin 5 = .ok (.getfield 9, 3) := dc_180 (by decide +kernel)
theorem d_Scene_begin_8 : decode b_Scene_begin 8 = .ok (.invokestatic 29, 3) := dc_184 (by decide +kernel)
theorem d_Scene_begin_11 : decode b_Scene_begin 11 = .ok (.aload_n 1, 1) := dc_43 (by decide +kernel)
theorem d_Scene_begin_12 : decode b_Scene_begin 12 = .ok (.getfield 33, 3) := dc_180 (by decide +kernel)
theorem d_Scene_begin_15 : decode b_Scene_begin 15 = .ok (.aload_n 0, 1) := dc_42 (by decide +kernel)
theorem d_Scene_begin_16 : decode b_Scene_begin 16 = .ok (.getfield 15, 3) := dc_180 (by decide +kernel)
theorem d_Scene_begin_19 : decode b_Scene_begin 19 = .ok (.invokestatic 29, 3) := dc_184 (by decide +kernel)
theorem d_Scene_begin_22 : decode b_Scene_begin 22 = .ok (.aload_n 0, 1) := dc_42 (by decide +kernel)
theorem d_Scene_begin_23 : decode b_Scene_begin 23 = .ok (.getfield 18, 3) := dc_180 (by decide +kernel)
theorem d_Scene_begin_26 : decode b_Scene_begin 26 = .ok (.iconst 0, 1) := dc_3 (by decide +kernel)
theorem d_Scene_begin_27 : decode b_Scene_begin 27 = .ok (.invokestatic 36, 3) := dc_184 (by decide +kernel)
theorem d_Scene_begin_30 : decode b_Scene_begin 30 = .ok (.aload_n 0, 1) := dc_42 (by decide +kernel)
theorem d_Scene_begin_31 : decode b_Scene_begin 31 = .ok (.getfield 21, 3) := dc_180 (by decide +kernel)
theorem d_Scene_begin_34 : decode b_Scene_begin 34 = .ok (.iconst 0, 1) := dc_3 (by decide +kernel)
theorem d_Scene_begin_35 : decode b_Scene_begin 35 = .ok (.invokestatic 36, 3) := dc_184 (by decide +kernel)
theorem d_Scene_begin_38 : decode b_Scene_begin 38 = .ok (.aload_n 0, 1) := dc_42 (by decide +kernel)
theorem d_Scene_begin_39 : decode b_Scene_begin 39 = .ok (.aload_n 1, 1) := dc_43 (by decide +kernel)
theorem d_Scene_begin_40 : decode b_Scene_begin 40 = .ok (.getfield 42, 3) := dc_180 (by decide +kernel)
theorem d_Scene_begin_43 : decode b_Scene_begin 43 = .ok (.putfield 46, 3) := dc_181 (by decide +kernel)
theorem d_Scene_begin_46 : decode b_Scene_begin 46 = .ok (.aload_n 0, 1) := dc_42 (by decide +kernel)
theorem d_Scene_begin_47 : decode b_Scene_begin 47 = .ok (.lconst 0, 1) := dc_9 (by decide +kernel)
theorem d_Scene_begin_48 : decode b_Scene_begin 48 = .ok (.putfield 47, 3) := dc_181 (by decide +kernel)
theorem d_Scene_begin_51 : decode b_Scene_begin 51 = .ok (.aload_n 0, 1) := dc_42 (by decide +kernel)
theorem d_Scene_begin_52 : decode b_Scene_begin 52 = .ok (.lconst 0, 1) := dc_9 (by decide +kernel)
theorem d_Scene_begin_53 : decode b_Scene_begin 53 = .ok (.putfield 50, 3) := dc_181 (by decide +kernel)
theorem d_Scene_begin_56 : decode b_Scene_begin 56 = .ok (.return_, 1) := dc_177 (by decide +kernel)
def t_Scene_begin (M : Mem) (k0 : Nat) (k1 : Nat) : Option (Mem) := (qlet (t_WF_copyRow M (k1 + 2) 4 (k0 + 1) 4) fun q1 => (qlet (t_WF_copyRow q1 (k1 + 7) 8 (k0 + 2) 8) fun q3 => (obind (t_Arrays_fill q3 (k0 + 3) 8 0) fun q5 => (obind (t_Arrays_fill q5 (k0 + 4) 8 0) fun q7 => (qlet (setL q7 k0 4 (q7.2 k1 18)) fun M9 => (qlet (setL M9 k0 5 0) fun M10 => (qlet (setL M10 k0 6 0) fun M11 => (some M11))))))))
set_option maxHeartbeats 4000000 in
set_option maxRecDepth 100000 in
theorem c_Scene_begin (l : Launch) {b n : Nat} {C : CT} (hlo : 191 ≤ n) (M : Mem) (k0 : Nat) (k1 : Nat) (hk0 : isScene k0) (hk1 : isTown k1) (res : Mem) (hT : t_Scene_begin M k0 k1 = some res) : CM l b C n 3 y_Scene_begin b_Scene_begin 2 (none) [.ref (b + k0), .ref (b + k1)] M (QV b C n res) := by
  refine CM.of (lo := 191) (ow := "WardFalls$Scene") (by decide) rfl (Nat.le_of_ble_eq_true rfl) hlo (fun p e s m below meth c F hlk hr hS ls hl => ?_)
  have hl : lv_has ls 2 [(0, .ref (b + k0)), (1, .ref (b + k1))] := hl
  unfold t_Scene_begin at hT
  refine lv_aload_n F.hx F.hb d_Scene_begin_0 rfl (lv_at hl 1 rfl) ?_
  refine r_get (v := .ref (b + (k1 + 2))) (N := 20) (T := T11) (j := 1) F hS (Town_lt hk1) (Town_sh hk1) (Town_N hk1) rfl (Nat.le_of_ble_eq_true rfl) ing11 mw_92 (Town_g1 hk1 _) d_Scene_begin_1 ?_
  refine lv_aload_n F.hx F.hb d_Scene_begin_4 rfl (lv_at hl 0 rfl) ?_
  refine r_get (v := .ref (b + (k0 + 1))) (N := 7) (T := T9) (j := 0) F hS (Scene_lt hk0) (Scene_sh hk0) (Scene_N hk0) rfl (Nat.le_of_ble_eq_true rfl) ing9 mw_272 (Scene_g0 hk0 _) d_Scene_begin_5 ?_
  obtain ⟨q1, hq1⟩ : ∃ q, q = (t_WF_copyRow M (k1 + 2) 4 (k0 + 1) 4) := ⟨_, rfl⟩
  replace hT := qlet_eq hT hq1
  refine r_backV F hS (r_runSN (As := [.ref (b + (k1 + 2)), .ref (b + (k0 + 1))]) F hS (c_WF_copyRow l F.2.2.1 M (k1 + 2) 4 (k0 + 1) 4 (Town_f1 hk1) (Scene_f0 hk0) _ hq1.symm) mw_530 mw_529 mw_1 gs_Scene_29 hd_WF_copyRow ⟨Nat.le_of_ble_eq_true rfl, Nat.le_of_ble_eq_true rfl⟩ rfl hl.1 (Nat.le_of_ble_eq_true rfl) ⟨Nat.zero_le _, Nat.zero_le _⟩ rfl d_Scene_begin_8) (fun H locs hS => ?_)
  refine lv_aload_n F.hx F.hb d_Scene_begin_11 rfl (lv_at hl 1 rfl) ?_
  refine r_get (v := .ref (b + (k1 + 7))) (N := 20) (T := T11) (j := 6) F hS (Town_lt hk1) (Town_sh hk1) (Town_N hk1) rfl (Nat.le_of_ble_eq_true rfl) ing11 mw_109 (Town_g6 hk1 _) d_Scene_begin_12 ?_
  refine lv_aload_n F.hx F.hb d_Scene_begin_15 rfl (lv_at hl 0 rfl) ?_
  refine r_get (v := .ref (b + (k0 + 2))) (N := 7) (T := T9) (j := 1) F hS (Scene_lt hk0) (Scene_sh hk0) (Scene_N hk0) rfl (Nat.le_of_ble_eq_true rfl) ing9 mw_278 (Scene_g1 hk0 _) d_Scene_begin_16 ?_
  obtain ⟨q3, hq3⟩ : ∃ q, q = (t_WF_copyRow q1 (k1 + 7) 8 (k0 + 2) 8) := ⟨_, rfl⟩
  replace hT := qlet_eq hT hq3
  refine r_backV F hS (r_runSN (As := [.ref (b + (k1 + 7)), .ref (b + (k0 + 2))]) F hS (c_WF_copyRow l F.2.2.1 q1 (k1 + 7) 8 (k0 + 2) 8 (Town_f6 hk1) (Scene_f1 hk0) _ hq3.symm) mw_530 mw_529 mw_1 gs_Scene_29 hd_WF_copyRow ⟨Nat.le_of_ble_eq_true rfl, Nat.le_of_ble_eq_true rfl⟩ rfl hl.1 (Nat.le_of_ble_eq_true rfl) ⟨Nat.zero_le _, Nat.zero_le _⟩ rfl d_Scene_begin_19) (fun H locs hS => ?_)
  refine lv_aload_n F.hx F.hb d_Scene_begin_22 rfl (lv_at hl 0 rfl) ?_
  refine r_get (v := .ref (b + (k0 + 3))) (N := 7) (T := T9) (j := 2) F hS (Scene_lt hk0) (Scene_sh hk0) (Scene_N hk0) rfl (Nat.le_of_ble_eq_true rfl) ing9 mw_281 (Scene_g2 hk0 _) d_Scene_begin_23 ?_
  refine r_iconst F.hx F.hb d_Scene_begin_26 ?_
  obtain ⟨q5, hq5, hT⟩ := q_obind hT
  refine r_backV F hS (r_runS (As := [.ref (b + (k0 + 3)), vI 0]) F hS (c_Arrays_fill l F.2.2.1 q3 (k0 + 3) 8 0 (Scene_f2 hk0) (inr_c rfl) _ hq5) gs_Scene_36 hd_Arrays_fill ⟨Nat.le_of_ble_eq_true rfl, Nat.le_of_ble_eq_true rfl⟩ rfl hl.1 (Nat.le_of_ble_eq_true rfl) ⟨Nat.zero_le _, Nat.zero_le _⟩ rfl d_Scene_begin_27) (fun H locs hS => ?_)
  refine lv_aload_n F.hx F.hb d_Scene_begin_30 rfl (lv_at hl 0 rfl) ?_
  refine r_get (v := .ref (b + (k0 + 4))) (N := 7) (T := T9) (j := 3) F hS (Scene_lt hk0) (Scene_sh hk0) (Scene_N hk0) rfl (Nat.le_of_ble_eq_true rfl) ing9 mw_283 (Scene_g3 hk0 _) d_Scene_begin_31 ?_
  refine r_iconst F.hx F.hb d_Scene_begin_34 ?_
  obtain ⟨q7, hq7, hT⟩ := q_obind hT
  refine r_backV F hS (r_runS (As := [.ref (b + (k0 + 4)), vI 0]) F hS (c_Arrays_fill l F.2.2.1 q5 (k0 + 4) 8 0 (Scene_f3 hk0) (inr_c rfl) _ hq7) gs_Scene_36 hd_Arrays_fill ⟨Nat.le_of_ble_eq_true rfl, Nat.le_of_ble_eq_true rfl⟩ rfl hl.1 (Nat.le_of_ble_eq_true rfl) ⟨Nat.zero_le _, Nat.zero_le _⟩ rfl d_Scene_begin_35) (fun H locs hS => ?_)
  refine lv_aload_n F.hx F.hb d_Scene_begin_38 rfl (lv_at hl 0 rfl) ?_
  refine lv_aload_n F.hx F.hb d_Scene_begin_39 rfl (lv_at hl 1 rfl) ?_
  refine r_get (v := .long (q7.2 k1 18)) (N := 20) (T := T11) (j := 18) F hS (Town_lt hk1) (Town_sh hk1) (Town_N hk1) rfl (Nat.le_of_ble_eq_true rfl) ing11 mw_152 (fv_long rfl) d_Scene_begin_40 ?_
  refine r_putL (N := 7) (T := T9) (j := 4) F hS (Scene_lt hk0) (Scene_sh hk0) (Scene_N hk0) rfl (Nat.le_of_ble_eq_true rfl) ing9 tyok9 nm9 rfl rfl rfl mw_285 d_Scene_begin_43 (fun H locs hS => ?_)
  obtain ⟨M9, eM9⟩ : ∃ q, q = (setL q7 k0 4 (q7.2 k1 18)) := ⟨_, rfl⟩
  replace hS : St b C n M9 s H locs := by rw [eM9]; exact hS
  replace hT := qlet_eq hT eM9
  refine lv_aload_n F.hx F.hb d_Scene_begin_46 rfl (lv_at hl 0 rfl) ?_
  refine lv_lconst (v := 0) F.hx F.hb d_Scene_begin_47 rfl ?_
  refine r_putL (N := 7) (T := T9) (j := 5) F hS (Scene_lt hk0) (Scene_sh hk0) (Scene_N hk0) rfl (Nat.le_of_ble_eq_true rfl) ing9 tyok9 nm9 rfl rfl rfl mw_289 d_Scene_begin_48 (fun H locs hS => ?_)
  obtain ⟨M10, eM10⟩ : ∃ q, q = (setL M9 k0 5 0) := ⟨_, rfl⟩
  replace hS : St b C n M10 s H locs := by rw [eM10]; exact hS
  replace hT := qlet_eq hT eM10
  refine lv_aload_n F.hx F.hb d_Scene_begin_51 rfl (lv_at hl 0 rfl) ?_
  refine lv_lconst (v := 0) F.hx F.hb d_Scene_begin_52 rfl ?_
  refine r_putL (N := 7) (T := T9) (j := 6) F hS (Scene_lt hk0) (Scene_sh hk0) (Scene_N hk0) rfl (Nat.le_of_ble_eq_true rfl) ing9 tyok9 nm9 rfl rfl rfl mw_291 d_Scene_begin_53 (fun H locs hS => ?_)
  obtain ⟨M11, eM11⟩ : ∃ q, q = (setL M10 k0 6 0) := ⟨_, rfl⟩
  replace hS : St b C n M11 s H locs := by rw [eM11]; exact hS
  replace hT := qlet_eq hT eM11
  cases hT
  exact r_vret F hlk hr hS d_Scene_begin_56
theorem d_Chronicle_begin_0 : decode b_Chronicle_begin 0 = .ok (.aload_n 0, 1) := dc_42 (by decide +kernel)
theorem d_Chronicle_begin_1 : decode b_Chronicle_begin 1 = .ok (.iconst 0, 1) := dc_3 (by decide +kernel)
theorem d_Chronicle_begin_2 : decode b_Chronicle_begin 2 = .ok (.putfield 21, 3) := dc_181 (by decide +kernel)
theorem d_Chronicle_begin_5 : decode b_Chronicle_begin 5 = .ok (.aload_n 0, 1) := dc_42 (by decide +kernel)
theorem d_Chronicle_begin_6 : decode b_Chronicle_begin 6 = .ok (.iconst 0, 1) := dc_3 (by decide +kernel)
theorem d_Chronicle_begin_7 : decode b_Chronicle_begin 7 = .ok (.putfield 25, 3) := dc_181 (by decide +kernel)
theorem d_Chronicle_begin_10 : decode b_Chronicle_begin 10 = .ok (.aload_n 0, 1) := dc_42 (by decide +kernel)
theorem d_Chronicle_begin_11 : decode b_Chronicle_begin 11 = .ok (.aload_n 1, 1) := dc_43 (by decide +kernel)
theorem d_Chronicle_begin_12 : decode b_Chronicle_begin 12 = .ok (.getfield 28, 3) := dc_180 (by decide +kernel)
theorem d_Chronicle_begin_15 : decode b_Chronicle_begin 15 = .ok (.i2l, 1) := dc_133 (by decide +kernel)
theorem d_Chronicle_begin_16 : decode b_Chronicle_begin 16 = .ok (.putfield 33, 3) := dc_181 (by decide +kernel)
theorem d_Chronicle_begin_19 : decode b_Chronicle_begin 19 = .ok (.return_, 1) := dc_177 (by decide +kernel)
def t_Chronicle_begin (M : Mem) (k0 : Nat) (k1 : Nat) : Mem := (qlet (setI M k0 3 0) fun M1 => (qlet (setI M1 k0 4 0) fun M2 => (qlet (setL M2 k0 5 (q_i2l (M2.1 k1 17))) fun M4 => M4)))
set_option maxHeartbeats 4000000 in
set_option maxRecDepth 100000 in
theorem c_Chronicle_begin (l : Launch) {b n : Nat} {C : CT} (hlo : 191 ≤ n) (M : Mem) (k0 : Nat) (k1 : Nat) (hk0 : isChronicle k0) (hk1 : isTown k1) (res : Mem) (hT : t_Chronicle_begin M k0 k1 = res) : CM l b C n 0 y_Chronicle_begin b_Chronicle_begin 2 (none) [.ref (b + k0), .ref (b + k1)] M (QV b C n res) := by
  refine CM.of (lo := 191) (ow := "WardFalls$Chronicle") (by decide) rfl (Nat.le_of_ble_eq_true rfl) hlo (fun p e s m below meth c F hlk hr hS ls hl => ?_)
  have hl : lv_has ls 2 [(0, .ref (b + k0)), (1, .ref (b + k1))] := hl
  unfold t_Chronicle_begin at hT
  refine lv_aload_n F.hx F.hb d_Chronicle_begin_0 rfl (lv_at hl 0 rfl) ?_
  refine r_iconst F.hx F.hb d_Chronicle_begin_1 ?_
  refine r_putI (N := 6) (T := T2) (j := 3) F hS (Chronicle_lt hk0) (Chronicle_sh hk0) (Chronicle_N hk0) rfl (Nat.le_of_ble_eq_true rfl) ing2 tyok2 nm2 rfl rfl rfl rfl rfl (Chronicle_dyn hk0 _) mw_320 (inr_c rfl) d_Chronicle_begin_2 (fun H locs hS => ?_)
  obtain ⟨M1, eM1⟩ : ∃ q, q = (setI M k0 3 0) := ⟨_, rfl⟩
  replace hS : St b C n M1 s H locs := by rw [eM1]; exact hS
  replace hT := qlet_eq hT eM1
  refine lv_aload_n F.hx F.hb d_Chronicle_begin_5 rfl (lv_at hl 0 rfl) ?_
  refine r_iconst F.hx F.hb d_Chronicle_begin_6 ?_
  refine r_putI (N := 6) (T := T2) (j := 4) F hS (Chronicle_lt hk0) (Chronicle_sh hk0) (Chronicle_N hk0) rfl (Nat.le_of_ble_eq_true rfl) ing2 tyok2 nm2 rfl rfl rfl rfl rfl (Chronicle_dyn hk0 _) mw_322 (inr_c rfl) d_Chronicle_begin_7 (fun H locs hS => ?_)
  obtain ⟨M2, eM2⟩ : ∃ q, q = (setI M1 k0 4 0) := ⟨_, rfl⟩
  replace hS : St b C n M2 s H locs := by rw [eM2]; exact hS
  replace hT := qlet_eq hT eM2
  refine lv_aload_n F.hx F.hb d_Chronicle_begin_10 rfl (lv_at hl 0 rfl) ?_
  refine lv_aload_n F.hx F.hb d_Chronicle_begin_11 rfl (lv_at hl 1 rfl) ?_
  refine r_get (v := vI (M2.1 k1 17)) (N := 20) (T := T11) (j := 17) F hS (Town_lt hk1) (Town_sh hk1) (Town_N hk1) rfl (Nat.le_of_ble_eq_true rfl) ing11 mw_148 (fv_int rfl) d_Chronicle_begin_12 ?_
  have i3 := hS.rng k1 17
  refine r_i2l F.hx F.hb d_Chronicle_begin_15 ?_
  refine r_putL (N := 6) (T := T2) (j := 5) F hS (Chronicle_lt hk0) (Chronicle_sh hk0) (Chronicle_N hk0) rfl (Nat.le_of_ble_eq_true rfl) ing2 tyok2 nm2 rfl rfl rfl mw_324 d_Chronicle_begin_16 (fun H locs hS => ?_)
  obtain ⟨M4, eM4⟩ : ∃ q, q = (setL M2 k0 5 (q_i2l (M2.1 k1 17))) := ⟨_, rfl⟩
  replace hS : St b C n M4 s H locs := by rw [eM4]; exact hS
  replace hT := qlet_eq hT eM4
  subst hT
  exact r_vret F hlk hr hS d_Chronicle_begin_19
theorem d_Past_clear_0 : decode b_Past_clear 0 = .ok (.aload_n 0, 1) := dc_42 (by decide +kernel)
theorem d_Past_clear_1 : decode b_Past_clear 1 = .ok (.iconst 0, 1) := dc_3 (by decide +kernel)
theorem d_Past_clear_2 : decode b_Past_clear 2 = .ok (.putfield 18, 3) := dc_181 (by decide +kernel)
theorem d_Past_clear_5 : decode b_Past_clear 5 = .ok (.return_, 1) := dc_177 (by decide +kernel)
def t_Past_clear (M : Mem)  : Mem := (qlet (setI M 70 2 0) fun M1 => M1)
set_option maxHeartbeats 4000000 in
set_option maxRecDepth 100000 in
theorem c_Past_clear (l : Launch) {b n : Nat} {C : CT} (hlo : 191 ≤ n) (M : Mem)   (res : Mem) (hT : t_Past_clear M  = res) : CM l b C n 0 y_Past_clear b_Past_clear 1 (none) [.ref (b + 70)] M (QV b C n res) := by
  refine CM.of (lo := 191) (ow := "WardFalls$Past") (by decide) rfl (Nat.le_of_ble_eq_true rfl) hlo (fun p e s m below meth c F hlk hr hS ls hl => ?_)
  have hl : lv_has ls 1 [(0, .ref (b + 70))] := hl
  unfold t_Past_clear at hT
  refine lv_aload_n F.hx F.hb d_Past_clear_0 rfl (lv_at hl 0 rfl) ?_
  refine r_iconst F.hx F.hb d_Past_clear_1 ?_
  refine r_putI (N := 3) (T := T6) (j := 2) F hS (show 70 < 191 by decide) (show shK 70 = 10 from rfl) (show shN 70 = 3 from rfl) rfl (Nat.le_of_ble_eq_true rfl) ing6 tyok6 nm6 rfl rfl rfl rfl rfl rfl mw_349 (inr_c rfl) d_Past_clear_2 (fun H locs hS => ?_)
  obtain ⟨M1, eM1⟩ : ∃ q, q = (setI M 70 2 0) := ⟨_, rfl⟩
  replace hS : St b C n M1 s H locs := by rw [eM1]; exact hS
  replace hT := qlet_eq hT eM1
  subst hT
  exact r_vret F hlk hr hS d_Past_clear_5
theorem d_Notes_clear_0 : decode b_Notes_clear 0 = .ok (.aload_n 0, 1) := dc_42 (by decide +kernel)
theorem d_Notes_clear_1 : decode b_Notes_clear 1 = .ok (.iconst 0, 1) := dc_3 (by decide +kernel)
theorem d_Notes_clear_2 : decode b_Notes_clear 2 = .ok (.putfield 24, 3) := dc_181 (by decide +kernel)
theorem d_Notes_clear_5 : decode b_Notes_clear 5 = .ok (.aload_n 0, 1) := dc_42 (by decide +kernel)
theorem d_Notes_clear_6 : decode b_Notes_clear 6 = .ok (.iconst (-1), 1) := dc_2 (by decide +kernel)
theorem d_Notes_clear_7 : decode b_Notes_clear 7 = .ok (.putfield 28, 3) := dc_181 (by decide +kernel)
theorem d_Notes_clear_10 : decode b_Notes_clear 10 = .ok (.return_, 1) := dc_177 (by decide +kernel)
def t_Notes_clear (M : Mem)  : Mem := (qlet (setI M 172 5 0) fun M1 => (qlet (setI M1 172 6 (-1)) fun M2 => M2))
set_option maxHeartbeats 4000000 in
set_option maxRecDepth 100000 in
theorem c_Notes_clear (l : Launch) {b n : Nat} {C : CT} (hlo : 191 ≤ n) (M : Mem)   (res : Mem) (hT : t_Notes_clear M  = res) : CM l b C n 0 y_Notes_clear b_Notes_clear 1 (none) [.ref (b + 172)] M (QV b C n res) := by
  refine CM.of (lo := 191) (ow := "WardFalls$Notes") (by decide) rfl (Nat.le_of_ble_eq_true rfl) hlo (fun p e s m below meth c F hlk hr hS ls hl => ?_)
  have hl : lv_has ls 1 [(0, .ref (b + 172))] := hl
  unfold t_Notes_clear at hT
  refine lv_aload_n F.hx F.hb d_Notes_clear_0 rfl (lv_at hl 0 rfl) ?_
  refine r_iconst F.hx F.hb d_Notes_clear_1 ?_
  refine r_putI (N := 7) (T := T5) (j := 5) F hS (show 172 < 191 by decide) (show shK 172 = 9 from rfl) (show shN 172 = 7 from rfl) rfl (Nat.le_of_ble_eq_true rfl) ing5 tyok5 nm5 rfl rfl rfl rfl rfl rfl mw_371 (inr_c rfl) d_Notes_clear_2 (fun H locs hS => ?_)
  obtain ⟨M1, eM1⟩ : ∃ q, q = (setI M 172 5 0) := ⟨_, rfl⟩
  replace hS : St b C n M1 s H locs := by rw [eM1]; exact hS
  replace hT := qlet_eq hT eM1
  refine lv_aload_n F.hx F.hb d_Notes_clear_5 rfl (lv_at hl 0 rfl) ?_
  refine r_iconst F.hx F.hb d_Notes_clear_6 ?_
  refine r_putI (N := 7) (T := T5) (j := 6) F hS (show 172 < 191 by decide) (show shK 172 = 9 from rfl) (show shN 172 = 7 from rfl) rfl (Nat.le_of_ble_eq_true rfl) ing5 tyok5 nm5 rfl rfl rfl rfl rfl rfl mw_373 (inr_c rfl) d_Notes_clear_7 (fun H locs hS => ?_)
  obtain ⟨M2, eM2⟩ : ∃ q, q = (setI M1 172 6 (-1)) := ⟨_, rfl⟩
  replace hS : St b C n M2 s H locs := by rw [eM2]; exact hS
  replace hT := qlet_eq hT eM2
  subst hT
  exact r_vret F hlk hr hS d_Notes_clear_10
theorem d_WF_startAnew_0 : decode b_WF_startAnew 0 = .ok (.aload_n 0, 1) := dc_42 (by decide +kernel)
theorem d_WF_startAnew_1 : decode b_WF_startAnew 1 = .ok (.getfield 46, 3) := dc_180 (by decide +kernel)
theorem d_WF_startAnew_4 : decode b_WF_startAnew 4 = .ok (.aload_n 0, 1) := dc_42 (by decide +kernel)
theorem d_WF_startAnew_5 : decode b_WF_startAnew 5 = .ok (.getfield 22, 3) := dc_180 (by decide +kernel)
theorem d_WF_startAnew_8 : decode b_WF_startAnew 8 = .ok (.invokevirtual 429, 3) := dc_182 (by decide +kernel)
theorem d_WF_startAnew_11 : decode b_WF_startAnew 11 = .ok (.aload_n 0, 1) := dc_42 (by decide +kernel)
theorem d_WF_startAnew_12 : decode b_WF_startAnew 12 = .ok (.getfield 59, 3) := dc_180 (by decide +kernel)
theorem d_WF_startAnew_15 : decode b_WF_startAnew 15 = .ok (.aload_n 0, 1) := dc_42 (by decide +kernel)
theorem d_WF_startAnew_16 : decode b_WF_startAnew 16 = .ok (.getfield 22, 3) := dc_180 (by decide +kernel)
theorem d_WF_startAnew_19 : decode b_WF_startAnew 19 = .ok (.invokevirtual 432, 3) := dc_182 (by decide +kernel)
theorem d_WF_startAnew_22 : decode b_WF_startAnew 22 = .ok (.aload_n 0, 1) := dc_42 (by decide +kernel)
theorem d_WF_startAnew_23 : decode b_WF_startAnew 23 = .ok (.iconst 0, 1) := dc_3 (by decide +kernel)
theorem d_WF_startAnew_24 : decode b_WF_startAnew 24 = .ok (.putfield 411, 3) := dc_181 (by decide +kernel)
theorem d_WF_startAnew_27 : decode b_WF_startAnew 27 = .ok (.aload_n 0, 1) := dc_42 (by decide +kernel)
theorem d_WF_startAnew_28 : decode b_WF_startAnew 28 = .ok (.getfield 69, 3) := dc_180 (by decide +kernel)
theorem d_WF_startAnew_31 : decode b_WF_startAnew 31 = .ok (.invokevirtual 279, 3) := dc_182 (by decide +kernel)
theorem d_WF_startAnew_34 : decode b_WF_startAnew 34 = .ok (.aload_n 0, 1) := dc_42 (by decide +kernel)
theorem d_WF_startAnew_35 : decode b_WF_startAnew 35 = .ok (.getfield 76, 3) := dc_180 (by decide +kernel)
theorem d_WF_startAnew_38 : decode b_WF_startAnew 38 = .ok (.invokevirtual 433, 3) := dc_182 (by decide +kernel)
theorem d_WF_startAnew_41 : decode b_WF_startAnew 41 = .ok (.aload_n 0, 1) := dc_42 (by decide +kernel)
theorem d_WF_startAnew_42 : decode b_WF_startAnew 42 = .ok (.getfield 83, 3) := dc_180 (by decide +kernel)
theorem d_WF_startAnew_45 : decode b_WF_startAnew 45 = .ok (.iconst 0, 1) := dc_3 (by decide +kernel)
theorem d_WF_startAnew_46 : decode b_WF_startAnew 46 = .ok (.putfield 280, 3) := dc_181 (by decide +kernel)
theorem d_WF_startAnew_49 : decode b_WF_startAnew 49 = .ok (.return_, 1) := dc_177 (by decide +kernel)
def t_WF_startAnew (M : Mem)  : Option (Mem) := (obind (t_Scene_begin M 47 ((M.1 0 4).toNat)) fun q2 => (qlet (t_Chronicle_begin q2 62 ((q2.1 0 4).toNat)) fun q5 => (qlet (setI q5 0 13 0) fun M7 => (qlet (t_Past_clear M7) fun q8 => (qlet (t_Notes_clear q8) fun q10 => (qlet (setI q10 177 8 0) fun M12 => (some M12)))))))
set_option maxHeartbeats 4000000 in
set_option maxRecDepth 100000 in
theorem c_WF_startAnew (l : Launch) {b n : Nat} {C : CT} (hlo : 191 ≤ n) (M : Mem)   (res : Mem) (hT : t_WF_startAnew M  = some res) : CM l b C n 4 y_WF_startAnew b_WF_startAnew 1 (none) [.ref (b + 0)] M (QV b C n res) := by
  refine CM.of (lo := 191) (ow := "WardFalls") (by decide) rfl (Nat.le_of_ble_eq_true rfl) hlo (fun p e s m below meth c F hlk hr hS ls hl => ?_)
  have hl : lv_has ls 1 [(0, .ref (b + 0))] := hl
  unfold t_WF_startAnew at hT
  refine lv_aload_n F.hx F.hb d_WF_startAnew_0 rfl (lv_at hl 0 rfl) ?_
  refine r_get (v := .ref (b + 47)) (N := 19) (T := T0) (j := 8) F hS (show 0 < 191 by decide) (show shK 0 = 4 from rfl) (show shN 0 = 19 from rfl) rfl (Nat.le_of_ble_eq_true rfl) ing0 mw_558 (fv_sg rfl rfl rfl) d_WF_startAnew_1 ?_
  refine lv_aload_n F.hx F.hb d_WF_startAnew_4 rfl (lv_at hl 0 rfl) ?_
  have h1 := St_town hS
  refine r_get (v := .ref (b + ((M.1 0 4).toNat))) (N := 19) (T := T0) (j := 4) F hS (show 0 < 191 by decide) (show shK 0 = 4 from rfl) (show shN 0 = 19 from rfl) rfl (Nat.le_of_ble_eq_true rfl) ing0 mw_554 (fv_town hS) d_WF_startAnew_5 ?_
  obtain ⟨q2, hq2, hT⟩ := q_obind hT
  refine r_backV F hS (r_runV (k := 47) (N := 7) (T := T9) (As := [.ref (b + ((M.1 0 4).toNat))]) F hS (show 47 < 191 by decide) (show shK 47 = 13 from rfl) rfl (c_Scene_begin l F.2.2.1 M 47 ((M.1 0 4).toNat) (by decide : isScene 47) h1 _ hq2) gs_WF_429 hd_Scene_begin ⟨Nat.le_of_ble_eq_true rfl, Nat.le_of_ble_eq_true rfl⟩ rfl hl.1 (Nat.le_of_ble_eq_true rfl) ⟨Nat.zero_le _, Nat.zero_le _⟩ rfl d_WF_startAnew_8) (fun H locs hS => ?_)
  refine lv_aload_n F.hx F.hb d_WF_startAnew_11 rfl (lv_at hl 0 rfl) ?_
  refine r_get (v := .ref (b + 62)) (N := 19) (T := T0) (j := 11) F hS (show 0 < 191 by decide) (show shK 0 = 4 from rfl) (show shN 0 = 19 from rfl) rfl (Nat.le_of_ble_eq_true rfl) ing0 mw_561 (fv_sg rfl rfl rfl) d_WF_startAnew_12 ?_
  refine lv_aload_n F.hx F.hb d_WF_startAnew_15 rfl (lv_at hl 0 rfl) ?_
  have h4 := St_town hS
  refine r_get (v := .ref (b + ((q2.1 0 4).toNat))) (N := 19) (T := T0) (j := 4) F hS (show 0 < 191 by decide) (show shK 0 = 4 from rfl) (show shN 0 = 19 from rfl) rfl (Nat.le_of_ble_eq_true rfl) ing0 mw_554 (fv_town hS) d_WF_startAnew_16 ?_
  obtain ⟨q5, hq5⟩ : ∃ q, q = (t_Chronicle_begin q2 62 ((q2.1 0 4).toNat)) := ⟨_, rfl⟩
  replace hT := qlet_eq hT hq5
  refine r_backV F hS (r_runV (k := 62) (N := 6) (T := T2) (As := [.ref (b + ((q2.1 0 4).toNat))]) F hS (show 62 < 191 by decide) (show shK 62 = 6 from rfl) rfl (c_Chronicle_begin l F.2.2.1 q2 62 ((q2.1 0 4).toNat) (by decide : isChronicle 62) h4 _ hq5.symm) gs_WF_432 hd_Chronicle_begin ⟨Nat.le_of_ble_eq_true rfl, Nat.le_of_ble_eq_true rfl⟩ rfl hl.1 (Nat.le_of_ble_eq_true rfl) ⟨Nat.zero_le _, Nat.zero_le _⟩ rfl d_WF_startAnew_19) (fun H locs hS => ?_)
  refine lv_aload_n F.hx F.hb d_WF_startAnew_22 rfl (lv_at hl 0 rfl) ?_
  refine r_iconst F.hx F.hb d_WF_startAnew_23 ?_
  refine r_putI (N := 19) (T := T0) (j := 13) F hS (show 0 < 191 by decide) (show shK 0 = 4 from rfl) (show shN 0 = 19 from rfl) rfl (Nat.le_of_ble_eq_true rfl) ing0 tyok0 nm0 rfl rfl (nar_z (Or.inl rfl)) (fit_z (Or.inl rfl)) rfl rfl mw_563 (inr_c rfl) d_WF_startAnew_24 (fun H locs hS => ?_)
  obtain ⟨M7, eM7⟩ : ∃ q, q = (setI q5 0 13 0) := ⟨_, rfl⟩
  replace hS : St b C n M7 s H locs := by rw [eM7]; exact hS
  replace hT := qlet_eq hT eM7
  refine lv_aload_n F.hx F.hb d_WF_startAnew_27 rfl (lv_at hl 0 rfl) ?_
  refine r_get (v := .ref (b + 70)) (N := 19) (T := T0) (j := 14) F hS (show 0 < 191 by decide) (show shK 0 = 4 from rfl) (show shN 0 = 19 from rfl) rfl (Nat.le_of_ble_eq_true rfl) ing0 mw_564 (fv_sg rfl rfl rfl) d_WF_startAnew_28 ?_
  obtain ⟨q8, hq8⟩ : ∃ q, q = (t_Past_clear M7) := ⟨_, rfl⟩
  replace hT := qlet_eq hT hq8
  refine r_backV F hS (r_runV (k := 70) (N := 3) (T := T6) (As := []) F hS (show 70 < 191 by decide) (show shK 70 = 10 from rfl) rfl (c_Past_clear l F.2.2.1 M7 _ hq8.symm) gs_WF_279 hd_Past_clear ⟨Nat.le_of_ble_eq_true rfl, Nat.le_of_ble_eq_true rfl⟩ rfl hl.1 (Nat.le_of_ble_eq_true rfl) ⟨Nat.zero_le _, Nat.zero_le _⟩ rfl d_WF_startAnew_31) (fun H locs hS => ?_)
  refine lv_aload_n F.hx F.hb d_WF_startAnew_34 rfl (lv_at hl 0 rfl) ?_
  refine r_get (v := .ref (b + 172)) (N := 19) (T := T0) (j := 15) F hS (show 0 < 191 by decide) (show shK 0 = 4 from rfl) (show shN 0 = 19 from rfl) rfl (Nat.le_of_ble_eq_true rfl) ing0 mw_565 (fv_sg rfl rfl rfl) d_WF_startAnew_35 ?_
  obtain ⟨q10, hq10⟩ : ∃ q, q = (t_Notes_clear q8) := ⟨_, rfl⟩
  replace hT := qlet_eq hT hq10
  refine r_backV F hS (r_runV (k := 172) (N := 7) (T := T5) (As := []) F hS (show 172 < 191 by decide) (show shK 172 = 9 from rfl) rfl (c_Notes_clear l F.2.2.1 q8 _ hq10.symm) gs_WF_433 hd_Notes_clear ⟨Nat.le_of_ble_eq_true rfl, Nat.le_of_ble_eq_true rfl⟩ rfl hl.1 (Nat.le_of_ble_eq_true rfl) ⟨Nat.zero_le _, Nat.zero_le _⟩ rfl d_WF_startAnew_38) (fun H locs hS => ?_)
  refine lv_aload_n F.hx F.hb d_WF_startAnew_41 rfl (lv_at hl 0 rfl) ?_
  refine r_get (v := .ref (b + 177)) (N := 19) (T := T0) (j := 16) F hS (show 0 < 191 by decide) (show shK 0 = 4 from rfl) (show shN 0 = 19 from rfl) rfl (Nat.le_of_ble_eq_true rfl) ing0 mw_566 (fv_sg rfl rfl rfl) d_WF_startAnew_42 ?_
  refine r_iconst F.hx F.hb d_WF_startAnew_45 ?_
  refine r_putI (N := 9) (T := T4) (j := 8) F hS (show 177 < 191 by decide) (show shK 177 = 8 from rfl) (show shN 177 = 9 from rfl) rfl (Nat.le_of_ble_eq_true rfl) ing4 tyok4 nm4 rfl rfl (nar_z (Or.inl rfl)) (fit_z (Or.inl rfl)) rfl rfl mw_448 (inr_c rfl) d_WF_startAnew_46 (fun H locs hS => ?_)
  obtain ⟨M12, eM12⟩ : ∃ q, q = (setI q10 177 8 0) := ⟨_, rfl⟩
  replace hS : St b C n M12 s H locs := by rw [eM12]; exact hS
  replace hT := qlet_eq hT eM12
  cases hT
  exact r_vret F hlk hr hS d_WF_startAnew_49
theorem d_WF_feedFour_0 : decode b_WF_feedFour 0 = .ok (.bipush 24, 2) := dc_16 (by decide +kernel)
theorem d_WF_feedFour_2 : decode b_WF_feedFour 2 = .ok (.istore_n 2, 1) := dc_61 (by decide +kernel)
theorem d_WF_feedFour_3 : decode b_WF_feedFour 3 = .ok (.iload_n 2, 1) := dc_28 (by decide +kernel)
theorem d_WF_feedFour_4 : decode b_WF_feedFour 4 = .ok (.ifCond .lt 37, 3) := dc_155 (by decide +kernel)
theorem d_WF_feedFour_7 : decode b_WF_feedFour 7 = .ok (.aload_n 0, 1) := dc_42 (by decide +kernel)
theorem d_WF_feedFour_8 : decode b_WF_feedFour 8 = .ok (.getfield 11, 3) := dc_180 (by decide +kernel)
theorem d_WF_feedFour_11 : decode b_WF_feedFour 11 = .ok (.aload_n 0, 1) := dc_42 (by decide +kernel)
theorem d_WF_feedFour_12 : decode b_WF_feedFour 12 = .ok (.getfield 110, 3) := dc_180 (by decide +kernel)
theorem d_WF_feedFour_15 : decode b_WF_feedFour 15 = .ok (.iload_n 1, 1) := dc_27 (by decide +kernel)
theorem d_WF_feedFour_16 : decode b_WF_feedFour 16 = .ok (.iload_n 2, 1) := dc_28 (by decide +kernel)
theorem d_WF_feedFour_17 : decode b_WF_feedFour 17 = .ok (.iushr, 1) := dc_124 (by decide +kernel)
theorem d_WF_feedFour_18 : decode b_WF_feedFour 18 = .ok (.sipush 255, 3) := dc_17 (by decide +kernel)
theorem d_WF_feedFour_21 : decode b_WF_feedFour 21 = .ok (.iand, 1) := dc_126 (by decide +kernel)
theorem d_WF_feedFour_22 : decode b_WF_feedFour 22 = .ok (.invokestatic 291, 3) := dc_184 (by decide +kernel)
theorem d_WF_feedFour_25 : decode b_WF_feedFour 25 = .ok (.aload_n 0, 1) := dc_42 (by decide +kernel)
theorem d_WF_feedFour_26 : decode b_WF_feedFour 26 = .ok (.dup, 1) := dc_89 (by decide +kernel)
theorem d_WF_feedFour_27 : decode b_WF_feedFour 27 = .ok (.getfield 110, 3) := dc_180 (by decide +kernel)
theorem d_WF_feedFour_30 : decode b_WF_feedFour 30 = .ok (.iconst 1, 1) := dc_4 (by decide +kernel)
theorem d_WF_feedFour_31 : decode b_WF_feedFour 31 = .ok (.iadd, 1) := dc_96 (by decide +kernel)
theorem d_WF_feedFour_32 : decode b_WF_feedFour 32 = .ok (.putfield 110, 3) := dc_181 (by decide +kernel)
theorem d_WF_feedFour_35 : decode b_WF_feedFour 35 = .ok (.iinc 2 (-8), 3) := dc_132 (by decide +kernel)
theorem d_WF_feedFour_38 : decode b_WF_feedFour 38 = .ok (.goto (-35), 3) := dc_167 (by decide +kernel)
theorem d_WF_feedFour_41 : decode b_WF_feedFour 41 = .ok (.return_, 1) := dc_177 (by decide +kernel)
def t_WF_feedFour_L3 (x1 : Int)  : Nat → Mem → Int → Option (Mem)
  | 0, _, _ => none
  | fu + 1, M, v2_ => (if v2_ < 0 then (some M) else (qlet (t_WF_put M 1 700 (M.1 0 1) (q_and (q_ushr x1 v2_) 255)) fun q3 => (qlet (setI q3 0 1 (w32 ((q3.1 0 1) + 1))) fun M6 => (t_WF_feedFour_L3 x1 fu M6 (w32 (v2_ + (-8)))))))
def t_WF_feedFour (M : Mem) (x1 : Int) : Option (Mem) := (t_WF_feedFour_L3 x1 FU M 24)
set_option maxHeartbeats 4000000 in
set_option maxRecDepth 100000 in
theorem k_WF_feedFour_L3 (l : Launch) {p : Program} {e : Env} {s : State} {m : MethodId} {below : List Frame} {meth : Method} {c : Code} {b n : Nat} {C : CT} (hlo : 191 ≤ n) (x1 : Int) (hx1 : InR x1) (F : Cx b p m c b_WF_feedFour 3 s ([.ref (b + 0), vI x1] : List Value).toArray "WardFalls" C n 191) (hlk : meth.locks = false) (hr : meth.sig.returnType = none) {res : Mem} : ∀ (fu : Nat) (M : Mem) (v2_ : Int) (hv2_ : InR v2_) (H : Heap) (locs : List Loc) (ls : Array Slot), St b C n M s H locs → lv_has ls 3 [(0, .ref (b + 0)), (1, vI x1), (2, vI v2_)] → t_WF_feedFour_L3 x1 fu M v2_ = some res → W p l e (headSpec (wsM y_WF_feedFour b_WF_feedFour 3 (none)) (rmD 1)).room s m ([.ref (b + 0), vI x1] : List Value).toArray below meth c H locs 0 0 (MQ below (QV b C n res) ([.ref (b + 0), vI x1] : List Value).toArray s 0 0 (frb b)) (F0 m 3 ls []) := by
  intro fu
  induction fu with
  | zero => intro M v2_ hv2_ H locs ls hS hl hT; exact absurd hT (by simp [t_WF_feedFour_L3])
  | succ fu ih =>
    intro M v2_ hv2_ H locs ls hS hl hT
    rw [t_WF_feedFour_L3] at hT
    refine lv_iload_n F.hx F.hb d_WF_feedFour_3 rfl (lv_at hl 2 rfl) ?_
    refine r_if_lt (tgt := 41) F.hx F.hb hv2_ d_WF_feedFour_4 (by decide) (fun c1 => ?_) (fun c1 => ?_)
    · replace hT := (if_pos c1).symm.trans hT
      cases hT
      exact r_vret F hlk hr hS d_WF_feedFour_41
    · replace hT := (if_neg c1).symm.trans hT
      refine lv_aload_n F.hx F.hb d_WF_feedFour_7 rfl (lv_at hl 0 rfl) ?_
      refine r_get (v := .ref (b + 1)) (N := 19) (T := T0) (j := 0) F hS (show 0 < 191 by decide) (show shK 0 = 4 from rfl) (show shN 0 = 19 from rfl) rfl (Nat.le_of_ble_eq_true rfl) ing0 mw_550 (fv_sg rfl rfl rfl) d_WF_feedFour_8 ?_
      refine lv_aload_n F.hx F.hb d_WF_feedFour_11 rfl (lv_at hl 0 rfl) ?_
      refine r_get (v := vI (M.1 0 1)) (N := 19) (T := T0) (j := 1) F hS (show 0 < 191 by decide) (show shK 0 = 4 from rfl) (show shN 0 = 19 from rfl) rfl (Nat.le_of_ble_eq_true rfl) ing0 mw_551 (fv_int rfl) d_WF_feedFour_12 ?_
      have i2 := hS.rng 0 1
      refine lv_iload_n F.hx F.hb d_WF_feedFour_15 rfl (lv_at hl 1 rfl) ?_
      refine lv_iload_n F.hx F.hb d_WF_feedFour_16 rfl (lv_at hl 2 rfl) ?_
      refine r_iushr F.hx F.hb d_WF_feedFour_17 ?_
      refine r_sipush F.hx F.hb d_WF_feedFour_18 rfl ?_
      refine r_iand F.hx F.hb d_WF_feedFour_21 ?_
      obtain ⟨q3, hq3⟩ : ∃ q, q = (t_WF_put M 1 700 (M.1 0 1) (q_and (q_ushr x1 v2_) 255)) := ⟨_, rfl⟩
      replace hT := qlet_eq hT hq3
      refine r_backV F hS (r_runS (As := [.ref (b + 1), vI (M.1 0 1), vI (q_and (q_ushr x1 v2_) 255)]) F hS (c_WF_put l F.2.2.1 M 1 700 (M.1 0 1) (q_and (q_ushr x1 v2_) 255) (show arrP 0 1 700 191 from ⟨rfl, rfl, by decide⟩) i2 (q_inr_toInt _) _ hq3.symm) gs_WF_291 hd_WF_put ⟨Nat.le_of_ble_eq_true rfl, Nat.le_of_ble_eq_true rfl⟩ rfl hl.1 (Nat.le_of_ble_eq_true rfl) ⟨Nat.zero_le _, Nat.zero_le _⟩ rfl d_WF_feedFour_22) (fun H locs hS => ?_)
      refine lv_aload_n F.hx F.hb d_WF_feedFour_25 rfl (lv_at hl 0 rfl) ?_
      refine lv_dup F.hx F.hb d_WF_feedFour_26 rfl ?_
      refine r_get (v := vI (q3.1 0 1)) (N := 19) (T := T0) (j := 1) F hS (show 0 < 191 by decide) (show shK 0 = 4 from rfl) (show shN 0 = 19 from rfl) rfl (Nat.le_of_ble_eq_true rfl) ing0 mw_551 (fv_int rfl) d_WF_feedFour_27 ?_
      have i5 := hS.rng 0 1
      refine r_iconst F.hx F.hb d_WF_feedFour_30 ?_
      refine r_iadd F.hx F.hb d_WF_feedFour_31 ?_
      refine r_putI (N := 19) (T := T0) (j := 1) F hS (show 0 < 191 by decide) (show shK 0 = 4 from rfl) (show shN 0 = 19 from rfl) rfl (Nat.le_of_ble_eq_true rfl) ing0 tyok0 nm0 rfl rfl rfl rfl rfl rfl mw_551 (inr_w32 _) d_WF_feedFour_32 (fun H locs hS => ?_)
      obtain ⟨M6, eM6⟩ : ∃ q, q = (setI q3 0 1 (w32 ((q3.1 0 1) + 1))) := ⟨_, rfl⟩
      replace hS : St b C n M6 s H locs := by rw [eM6]; exact hS
      replace hT := qlet_eq hT eM6
      refine lv_iinc (v := Int32.ofInt (w32 (v2_ + (-8)))) (lv' := [(2, vI (w32 (v2_ + (-8)))), (0, .ref (b + 0)), (1, vI x1)]) F.hx F.hb d_WF_feedFour_35 hl (k := 2) rfl (q_of_add _ _) (Nat.le_of_ble_eq_true rfl) rfl (fun ls hl => ?_)
      refine lv_goto (tgt := 3) F.hx F.hb d_WF_feedFour_38 (by decide) ?_
      exact ih M6 (w32 (v2_ + (-8))) (inr_w32 _) _ _ _ hS (lv_sub hl [1, 2, 0] rfl) hT
set_option maxHeartbeats 4000000 in
set_option maxRecDepth 100000 in
theorem c_WF_feedFour (l : Launch) {b n : Nat} {C : CT} (hlo : 191 ≤ n) (M : Mem) (x1 : Int) (hx1 : InR x1) (res : Mem) (hT : t_WF_feedFour M x1 = some res) : CM l b C n 1 y_WF_feedFour b_WF_feedFour 3 (none) [.ref (b + 0), vI x1] M (QV b C n res) := by
  refine CM.of (lo := 191) (ow := "WardFalls") (by decide) rfl (Nat.le_of_ble_eq_true rfl) hlo (fun p e s m below meth c F hlk hr hS ls hl => ?_)
  have hl : lv_has ls 3 [(0, .ref (b + 0)), (1, vI x1)] := hl
  unfold t_WF_feedFour at hT
  refine r_bipush F.hx F.hb d_WF_feedFour_0 rfl ?_
  refine lv_istore_n (lv' := [(2, vI 24), (0, .ref (b + 0)), (1, vI x1)]) F.hx F.hb d_WF_feedFour_2 rfl hl (Nat.le_of_ble_eq_true rfl) rfl (fun ls hl => ?_)
  exact k_WF_feedFour_L3 l hlo x1 hx1 F hlk hr FU M 24 (inr_c rfl) _ _ _ hS (lv_sub hl [1, 2, 0] rfl) hT
theorem d_WF_feed_0 : decode b_WF_feed 0 = .ok (.aload_n 0, 1) := dc_42 (by decide +kernel)
theorem d_WF_feed_1 : decode b_WF_feed 1 = .ok (.getfield 110, 3) := dc_180 (by decide +kernel)
theorem d_WF_feed_4 : decode b_WF_feed 4 = .ok (.bipush 20, 2) := dc_16 (by decide +kernel)
theorem d_WF_feed_6 : decode b_WF_feed 6 = .ok (.iadd, 1) := dc_96 (by decide +kernel)
theorem d_WF_feed_7 : decode b_WF_feed 7 = .ok (.sipush 700, 3) := dc_17 (by decide +kernel)
theorem d_WF_feed_10 : decode b_WF_feed 10 = .ok (.if_icmp .le 5, 3) := dc_164 (by decide +kernel)
theorem d_WF_feed_13 : decode b_WF_feed 13 = .ok (.iconst (-1), 1) := dc_2 (by decide +kernel)
theorem d_WF_feed_14 : decode b_WF_feed 14 = .ok (.ireturn, 1) := dc_172 (by decide +kernel)
theorem d_WF_feed_15 : decode b_WF_feed 15 = .ok (.aload_n 0, 1) := dc_42 (by decide +kernel)
theorem d_WF_feed_16 : decode b_WF_feed 16 = .ok (.iload_n 1, 1) := dc_27 (by decide +kernel)
theorem d_WF_feed_17 : decode b_WF_feed 17 = .ok (.invokevirtual 113, 3) := dc_182 (by decide +kernel)
theorem d_WF_feed_20 : decode b_WF_feed 20 = .ok (.aload_n 0, 1) := dc_42 (by decide +kernel)
theorem d_WF_feed_21 : decode b_WF_feed 21 = .ok (.iload_n 2, 1) := dc_28 (by decide +kernel)
theorem d_WF_feed_22 : decode b_WF_feed 22 = .ok (.invokevirtual 113, 3) := dc_182 (by decide +kernel)
theorem d_WF_feed_25 : decode b_WF_feed 25 = .ok (.aload_n 0, 1) := dc_42 (by decide +kernel)
theorem d_WF_feed_26 : decode b_WF_feed 26 = .ok (.iload_n 3, 1) := dc_29 (by decide +kernel)
theorem d_WF_feed_27 : decode b_WF_feed 27 = .ok (.invokevirtual 113, 3) := dc_182 (by decide +kernel)
theorem d_WF_feed_30 : decode b_WF_feed 30 = .ok (.aload_n 0, 1) := dc_42 (by decide +kernel)
theorem d_WF_feed_31 : decode b_WF_feed 31 = .ok (.iload 4, 2) := dc_21 (by decide +kernel)
theorem d_WF_feed_33 : decode b_WF_feed 33 = .ok (.invokevirtual 113, 3) := dc_182 (by decide +kernel)
theorem d_WF_feed_36 : decode b_WF_feed 36 = .ok (.aload_n 0, 1) := dc_42 (by decide +kernel)
theorem d_WF_feed_37 : decode b_WF_feed 37 = .ok (.iload 5, 2) := dc_21 (by decide +kernel)
theorem d_WF_feed_39 : decode b_WF_feed 39 = .ok (.invokevirtual 113, 3) := dc_182 (by decide +kernel)
theorem d_WF_feed_42 : decode b_WF_feed 42 = .ok (.aload_n 0, 1) := dc_42 (by decide +kernel)
theorem d_WF_feed_43 : decode b_WF_feed 43 = .ok (.getfield 110, 3) := dc_180 (by decide +kernel)
theorem d_WF_feed_46 : decode b_WF_feed 46 = .ok (.ireturn, 1) := dc_172 (by decide +kernel)
def t_WF_feed (M : Mem) (x1 : Int) (x2 : Int) (x3 : Int) (x4 : Int) (x5 : Int) : Option (Mem × Int) := (if (w32 ((M.1 0 1) + 20)) ≤ 700 then (obind (t_WF_feedFour M x1) fun q3 => (obind (t_WF_feedFour q3 x2) fun q5 => (obind (t_WF_feedFour q5 x3) fun q7 => (obind (t_WF_feedFour q7 x4) fun q9 => (obind (t_WF_feedFour q9 x5) fun q11 => (some (q11, (q11.1 0 1)))))))) else (some (M, (-1))))
set_option maxHeartbeats 4000000 in
set_option maxRecDepth 100000 in
theorem c_WF_feed (l : Launch) {b n : Nat} {C : CT} (hlo : 191 ≤ n) (M : Mem) (x1 : Int) (x2 : Int) (x3 : Int) (x4 : Int) (x5 : Int) (hx1 : InR x1) (hx2 : InR x2) (hx3 : InR x3) (hx4 : InR x4) (hx5 : InR x5) (res : Mem × Int) (hT : t_WF_feed M x1 x2 x3 x4 x5 = some res) : CM l b C n 2 y_WF_feed b_WF_feed 6 (some .int) [.ref (b + 0), vI x1, vI x2, vI x3, vI x4, vI x5] M (QI b C n res.1 res.2) := by
  refine CM.of (lo := 191) (ow := "WardFalls") (by decide) rfl (Nat.le_of_ble_eq_true rfl) hlo (fun p e s m below meth c F hlk hr hS ls hl => ?_)
  have hl : lv_has ls 6 [(0, .ref (b + 0)), (1, vI x1), (2, vI x2), (3, vI x3), (4, vI x4), (5, vI x5)] := hl
  unfold t_WF_feed at hT
  refine lv_aload_n F.hx F.hb d_WF_feed_0 rfl (lv_at hl 0 rfl) ?_
  refine r_get (v := vI (M.1 0 1)) (N := 19) (T := T0) (j := 1) F hS (show 0 < 191 by decide) (show shK 0 = 4 from rfl) (show shN 0 = 19 from rfl) rfl (Nat.le_of_ble_eq_true rfl) ing0 mw_551 (fv_int rfl) d_WF_feed_1 ?_
  have i1 := hS.rng 0 1
  refine r_bipush F.hx F.hb d_WF_feed_4 rfl ?_
  refine r_iadd F.hx F.hb d_WF_feed_6 ?_
  refine r_sipush F.hx F.hb d_WF_feed_7 rfl ?_
  refine r_icmp_le (tgt := 15) F.hx F.hb (inr_w32 _) (inr_c rfl) d_WF_feed_10 (by decide) (fun c2 => ?_) (fun c2 => ?_)
  · replace hT := (if_pos c2).symm.trans hT
    refine lv_aload_n F.hx F.hb d_WF_feed_15 rfl (lv_at hl 0 rfl) ?_
    refine lv_iload_n F.hx F.hb d_WF_feed_16 rfl (lv_at hl 1 rfl) ?_
    obtain ⟨q3, hq3, hT⟩ := q_obind hT
    refine r_backV F hS (r_runV (k := 0) (N := 19) (T := T0) (As := [vI x1]) F hS (show 0 < 191 by decide) (show shK 0 = 4 from rfl) rfl (c_WF_feedFour l F.2.2.1 M x1 hx1 _ hq3) gs_WF_113 hd_WF_feedFour ⟨Nat.le_of_ble_eq_true rfl, Nat.le_of_ble_eq_true rfl⟩ rfl hl.1 (Nat.le_of_ble_eq_true rfl) ⟨Nat.zero_le _, Nat.zero_le _⟩ rfl d_WF_feed_17) (fun H locs hS => ?_)
    refine lv_aload_n F.hx F.hb d_WF_feed_20 rfl (lv_at hl 0 rfl) ?_
    refine lv_iload_n F.hx F.hb d_WF_feed_21 rfl (lv_at hl 2 rfl) ?_
    obtain ⟨q5, hq5, hT⟩ := q_obind hT
    refine r_backV F hS (r_runV (k := 0) (N := 19) (T := T0) (As := [vI x2]) F hS (show 0 < 191 by decide) (show shK 0 = 4 from rfl) rfl (c_WF_feedFour l F.2.2.1 q3 x2 hx2 _ hq5) gs_WF_113 hd_WF_feedFour ⟨Nat.le_of_ble_eq_true rfl, Nat.le_of_ble_eq_true rfl⟩ rfl hl.1 (Nat.le_of_ble_eq_true rfl) ⟨Nat.zero_le _, Nat.zero_le _⟩ rfl d_WF_feed_22) (fun H locs hS => ?_)
    refine lv_aload_n F.hx F.hb d_WF_feed_25 rfl (lv_at hl 0 rfl) ?_
    refine lv_iload_n F.hx F.hb d_WF_feed_26 rfl (lv_at hl 3 rfl) ?_
    obtain ⟨q7, hq7, hT⟩ := q_obind hT
    refine r_backV F hS (r_runV (k := 0) (N := 19) (T := T0) (As := [vI x3]) F hS (show 0 < 191 by decide) (show shK 0 = 4 from rfl) rfl (c_WF_feedFour l F.2.2.1 q5 x3 hx3 _ hq7) gs_WF_113 hd_WF_feedFour ⟨Nat.le_of_ble_eq_true rfl, Nat.le_of_ble_eq_true rfl⟩ rfl hl.1 (Nat.le_of_ble_eq_true rfl) ⟨Nat.zero_le _, Nat.zero_le _⟩ rfl d_WF_feed_27) (fun H locs hS => ?_)
    refine lv_aload_n F.hx F.hb d_WF_feed_30 rfl (lv_at hl 0 rfl) ?_
    refine lv_iload F.hx F.hb d_WF_feed_31 (lv_at hl 4 rfl) ?_
    obtain ⟨q9, hq9, hT⟩ := q_obind hT
    refine r_backV F hS (r_runV (k := 0) (N := 19) (T := T0) (As := [vI x4]) F hS (show 0 < 191 by decide) (show shK 0 = 4 from rfl) rfl (c_WF_feedFour l F.2.2.1 q7 x4 hx4 _ hq9) gs_WF_113 hd_WF_feedFour ⟨Nat.le_of_ble_eq_true rfl, Nat.le_of_ble_eq_true rfl⟩ rfl hl.1 (Nat.le_of_ble_eq_true rfl) ⟨Nat.zero_le _, Nat.zero_le _⟩ rfl d_WF_feed_33) (fun H locs hS => ?_)
    refine lv_aload_n F.hx F.hb d_WF_feed_36 rfl (lv_at hl 0 rfl) ?_
    refine lv_iload F.hx F.hb d_WF_feed_37 (lv_at hl 5 rfl) ?_
    obtain ⟨q11, hq11, hT⟩ := q_obind hT
    refine r_backV F hS (r_runV (k := 0) (N := 19) (T := T0) (As := [vI x5]) F hS (show 0 < 191 by decide) (show shK 0 = 4 from rfl) rfl (c_WF_feedFour l F.2.2.1 q9 x5 hx5 _ hq11) gs_WF_113 hd_WF_feedFour ⟨Nat.le_of_ble_eq_true rfl, Nat.le_of_ble_eq_true rfl⟩ rfl hl.1 (Nat.le_of_ble_eq_true rfl) ⟨Nat.zero_le _, Nat.zero_le _⟩ rfl d_WF_feed_39) (fun H locs hS => ?_)
    refine lv_aload_n F.hx F.hb d_WF_feed_42 rfl (lv_at hl 0 rfl) ?_
    refine r_get (v := vI (q11.1 0 1)) (N := 19) (T := T0) (j := 1) F hS (show 0 < 191 by decide) (show shK 0 = 4 from rfl) (show shN 0 = 19 from rfl) rfl (Nat.le_of_ble_eq_true rfl) ing0 mw_551 (fv_int rfl) d_WF_feed_43 ?_
    have i13 := hS.rng 0 1
    cases hT
    exact r_iret F hlk hr rfl hS i13 d_WF_feed_46
  · replace hT := (if_neg c2).symm.trans hT
    refine r_iconst F.hx F.hb d_WF_feed_13 ?_
    cases hT
    exact r_iret F hlk hr rfl hS (inr_c rfl) d_WF_feed_14
theorem d_Tokens_isLetter_0 : decode b_Tokens_isLetter 0 = .ok (.iload_n 0, 1) := dc_26 (by decide +kernel)
theorem d_Tokens_isLetter_1 : decode b_Tokens_isLetter 1 = .ok (.bipush 97, 2) := dc_16 (by decide +kernel)
theorem d_Tokens_isLetter_3 : decode b_Tokens_isLetter 3 = .ok (.if_icmp .lt 13, 3) := dc_161 (by decide +kernel)
theorem d_Tokens_isLetter_6 : decode b_Tokens_isLetter 6 = .ok (.iload_n 0, 1) := dc_26 (by decide +kernel)
theorem d_Tokens_isLetter_7 : decode b_Tokens_isLetter 7 = .ok (.bipush 122, 2) := dc_16 (by decide +kernel)
theorem d_Tokens_isLetter_9 : decode b_Tokens_isLetter 9 = .ok (.if_icmp .gt 7, 3) := dc_163 (by decide +kernel)
theorem d_Tokens_isLetter_12 : decode b_Tokens_isLetter 12 = .ok (.iconst 1, 1) := dc_4 (by decide +kernel)
theorem d_Tokens_isLetter_13 : decode b_Tokens_isLetter 13 = .ok (.goto 4, 3) := dc_167 (by decide +kernel)
theorem d_Tokens_isLetter_16 : decode b_Tokens_isLetter 16 = .ok (.iconst 0, 1) := dc_3 (by decide +kernel)
theorem d_Tokens_isLetter_17 : decode b_Tokens_isLetter 17 = .ok (.ireturn, 1) := dc_172 (by decide +kernel)
def t_Tokens_isLetter (M : Mem) (x1 : Int) : Int := (if x1 < 97 then 0 else (if 122 < x1 then 0 else 1))
set_option maxHeartbeats 4000000 in
set_option maxRecDepth 100000 in
theorem c_Tokens_isLetter (l : Launch) {b n : Nat} {C : CT} (hlo : 191 ≤ n) (M : Mem) (x1 : Int) (hx1 : InR x1) (res : Int) (hT : t_Tokens_isLetter M x1 = res) : CM l b C n 0 y_Tokens_isLetter b_Tokens_isLetter 1 (some .boolean) [vI x1] M (QZ b C n M res) := by
  refine CM.of (lo := 191) (ow := "WardFalls$Tokens") (by decide) rfl (Nat.le_of_ble_eq_true rfl) hlo (fun p e s m below meth c F hlk hr hS ls hl => ?_)
  have hl : lv_has ls 1 [(0, vI x1)] := hl
  unfold t_Tokens_isLetter at hT
  refine lv_iload_n F.hx F.hb d_Tokens_isLetter_0 rfl (lv_at hl 0 rfl) ?_
  refine r_bipush F.hx F.hb d_Tokens_isLetter_1 rfl ?_
  refine r_icmp_lt (tgt := 16) F.hx F.hb hx1 (inr_c rfl) d_Tokens_isLetter_3 (by decide) (fun c1 => ?_) (fun c1 => ?_)
  · replace hT := (if_pos c1).symm.trans hT
    refine r_iconst F.hx F.hb d_Tokens_isLetter_16 ?_
    subst hT
    exact r_zret F hlk hr hS (Or.inl rfl) d_Tokens_isLetter_17
  · replace hT := (if_neg c1).symm.trans hT
    refine lv_iload_n F.hx F.hb d_Tokens_isLetter_6 rfl (lv_at hl 0 rfl) ?_
    refine r_bipush F.hx F.hb d_Tokens_isLetter_7 rfl ?_
    refine r_icmp_gt (tgt := 16) F.hx F.hb hx1 (inr_c rfl) d_Tokens_isLetter_9 (by decide) (fun c2 => ?_) (fun c2 => ?_)
    · replace hT := (if_pos c2).symm.trans hT
      refine r_iconst F.hx F.hb d_Tokens_isLetter_16 ?_
      subst hT
      exact r_zret F hlk hr hS (Or.inl rfl) d_Tokens_isLetter_17
    · replace hT := (if_neg c2).symm.trans hT
      refine r_iconst F.hx F.hb d_Tokens_isLetter_12 ?_
      refine lv_goto (tgt := 17) F.hx F.hb d_Tokens_isLetter_13 (by decide) ?_
      subst hT
      exact r_zret F hlk hr hS (Or.inr rfl) d_Tokens_isLetter_17
theorem d_Tokens_isWord_0 : decode b_Tokens_isWord 0 = .ok (.iconst 0, 1) := dc_3 (by decide +kernel)
theorem d_Tokens_isWord_1 : decode b_Tokens_isWord 1 = .ok (.istore 4, 2) := dc_54 (by decide +kernel)
theorem d_Tokens_isWord_3 : decode b_Tokens_isWord 3 = .ok (.iload 4, 2) := dc_21 (by decide +kernel)
theorem d_Tokens_isWord_5 : decode b_Tokens_isWord 5 = .ok (.iload_n 3, 1) := dc_29 (by decide +kernel)
theorem d_Tokens_isWord_6 : decode b_Tokens_isWord 6 = .ok (.if_icmp .ge 43, 3) := dc_162 (by decide +kernel)
theorem d_Tokens_isWord_9 : decode b_Tokens_isWord 9 = .ok (.iload_n 0, 1) := dc_26 (by decide +kernel)
theorem d_Tokens_isWord_10 : decode b_Tokens_isWord 10 = .ok (.iload 4, 2) := dc_21 (by decide +kernel)
theorem d_Tokens_isWord_12 : decode b_Tokens_isWord 12 = .ok (.iadd, 1) := dc_96 (by decide +kernel)
theorem d_Tokens_isWord_13 : decode b_Tokens_isWord 13 = .ok (.ldc 69, 2) := dc_18 (by decide +kernel)
theorem d_Tokens_isWord_15 : decode b_Tokens_isWord 15 = .ok (.invokevirtual 71, 3) := dc_182 (by decide +kernel)
theorem d_Tokens_isWord_18 : decode b_Tokens_isWord 18 = .ok (.if_icmp .ge 31, 3) := dc_162 (by decide +kernel)
theorem d_Tokens_isWord_21 : decode b_Tokens_isWord 21 = .ok (.ldc 69, 2) := dc_18 (by decide +kernel)
theorem d_Tokens_isWord_23 : decode b_Tokens_isWord 23 = .ok (.iload_n 0, 1) := dc_26 (by decide +kernel)
theorem d_Tokens_isWord_24 : decode b_Tokens_isWord 24 = .ok (.iload 4, 2) := dc_21 (by decide +kernel)
theorem d_Tokens_isWord_26 : decode b_Tokens_isWord 26 = .ok (.iadd, 1) := dc_96 (by decide +kernel)
theorem d_Tokens_isWord_27 : decode b_Tokens_isWord 27 = .ok (.invokevirtual 77, 3) := dc_182 (by decide +kernel)
theorem d_Tokens_isWord_30 : decode b_Tokens_isWord 30 = .ok (.aload_n 1, 1) := dc_43 (by decide +kernel)
theorem d_Tokens_isWord_31 : decode b_Tokens_isWord 31 = .ok (.iload_n 2, 1) := dc_28 (by decide +kernel)
theorem d_Tokens_isWord_32 : decode b_Tokens_isWord 32 = .ok (.iload 4, 2) := dc_21 (by decide +kernel)
theorem d_Tokens_isWord_34 : decode b_Tokens_isWord 34 = .ok (.iadd, 1) := dc_96 (by decide +kernel)
theorem d_Tokens_isWord_35 : decode b_Tokens_isWord 35 = .ok (.invokestatic 25, 3) := dc_184 (by decide +kernel)
theorem d_Tokens_isWord_38 : decode b_Tokens_isWord 38 = .ok (.if_icmp .eq 5, 3) := dc_159 (by decide +kernel)
theorem d_Tokens_isWord_41 : decode b_Tokens_isWord 41 = .ok (.iconst 0, 1) := dc_3 (by decide +kernel)
theorem d_Tokens_isWord_42 : decode b_Tokens_isWord 42 = .ok (.ireturn, 1) := dc_172 (by decide +kernel)
theorem d_Tokens_isWord_43 : decode b_Tokens_isWord 43 = .ok (.iinc 4 1, 3) := dc_132 (by decide +kernel)
theorem d_Tokens_isWord_46 : decode b_Tokens_isWord 46 = .ok (.goto (-43), 3) := dc_167 (by decide +kernel)
theorem d_Tokens_isWord_49 : decode b_Tokens_isWord 49 = .ok (.iconst 1, 1) := dc_4 (by decide +kernel)
theorem d_Tokens_isWord_50 : decode b_Tokens_isWord 50 = .ok (.ireturn, 1) := dc_172 (by decide +kernel)
def t_Tokens_isWord_L3 (x1 : Int) (r2 : Nat) (N2 : Nat) (x3 : Int) (x4 : Int)  : Nat → Mem → Int → Option (Int)
  | 0, _, _ => none
  | fu + 1, M, v4_ => (if x4 ≤ v4_ then (some 1) else (if 126 ≤ (w32 (x1 + v4_)) then (some 1) else (qguard (0 ≤ (w32 (x1 + v4_)) ∧ (w32 (x1 + v4_)) < 126) (qlet (t_WF_look M r2 N2 (w32 (x3 + v4_))) fun q6 => (if (chW (w32 (x1 + v4_))) = q6 then (t_Tokens_isWord_L3 x1 r2 N2 x3 x4 fu M (w32 (v4_ + 1))) else (some 0))))))
def t_Tokens_isWord (M : Mem) (x1 : Int) (r2 : Nat) (N2 : Nat) (x3 : Int) (x4 : Int) : Option (Int) := (t_Tokens_isWord_L3 x1 r2 N2 x3 x4 FU M 0)
set_option maxHeartbeats 4000000 in
set_option maxRecDepth 100000 in
theorem k_Tokens_isWord_L3 (l : Launch) {p : Program} {e : Env} {s : State} {m : MethodId} {below : List Frame} {meth : Method} {c : Code} {b n : Nat} {C : CT} (hlo : 191 ≤ n) (x1 : Int) (r2 : Nat) (N2 : Nat) (x3 : Int) (x4 : Int) (hx1 : InR x1) (hr2 : arrP 0 r2 N2 191) (hx3 : InR x3) (hx4 : InR x4) (F : Cx b p m c b_Tokens_isWord 5 s ([vI x1, .ref (b + r2), vI x3, vI x4] : List Value).toArray "WardFalls$Tokens" C n 191) (hlk : meth.locks = false) (hr : meth.sig.returnType = some .boolean) {res : Int} : ∀ (fu : Nat) (M : Mem) (v4_ : Int) (hv4_ : InR v4_) (H : Heap) (locs : List Loc) (ls : Array Slot), St b C n M s H locs → lv_has ls 5 [(0, vI x1), (1, .ref (b + r2)), (2, vI x3), (3, vI x4), (4, vI v4_)] → t_Tokens_isWord_L3 x1 r2 N2 x3 x4 fu M v4_ = some res → W p l e (headSpec (wsM y_Tokens_isWord b_Tokens_isWord 5 (some .boolean)) (rmD 4)).room s m ([vI x1, .ref (b + r2), vI x3, vI x4] : List Value).toArray below meth c H locs 0 0 (MQ below (QZ b C n M res) ([vI x1, .ref (b + r2), vI x3, vI x4] : List Value).toArray s 0 0 (frb b)) (F0 m 3 ls []) := by
  intro fu
  induction fu with
  | zero => intro M v4_ hv4_ H locs ls hS hl hT; exact absurd hT (by simp [t_Tokens_isWord_L3])
  | succ fu ih =>
    intro M v4_ hv4_ H locs ls hS hl hT
    rw [t_Tokens_isWord_L3] at hT
    refine lv_iload F.hx F.hb d_Tokens_isWord_3 (lv_at hl 4 rfl) ?_
    refine lv_iload_n F.hx F.hb d_Tokens_isWord_5 rfl (lv_at hl 3 rfl) ?_
    refine r_icmp_ge (tgt := 49) F.hx F.hb hv4_ hx4 d_Tokens_isWord_6 (by decide) (fun c1 => ?_) (fun c1 => ?_)
    · replace hT := (if_pos c1).symm.trans hT
      refine r_iconst F.hx F.hb d_Tokens_isWord_49 ?_
      cases hT
      exact r_zret F hlk hr hS (Or.inr rfl) d_Tokens_isWord_50
    · replace hT := (if_neg c1).symm.trans hT
      refine lv_iload_n F.hx F.hb d_Tokens_isWord_9 rfl (lv_at hl 0 rfl) ?_
      refine lv_iload F.hx F.hb d_Tokens_isWord_10 (lv_at hl 4 rfl) ?_
      refine r_iadd F.hx F.hb d_Tokens_isWord_12 ?_
      refine va_ldcS F.hx F.hb F.hown F.2.2.2.2.1.1 d_Tokens_isWord_13 ?_
      refine r_backI F hS (r_runVT (As := []) F hS (isStr1 (C := C)) rfl (c_Str_length l _ (isStr1 (C := C))) gs_Tokens_71 hd_Str_length ⟨Nat.le_of_ble_eq_true rfl, Nat.le_of_ble_eq_true rfl⟩ rfl hl.1 (Nat.le_of_ble_eq_true rfl) ⟨Nat.zero_le _, Nat.zero_le _⟩ rfl d_Tokens_isWord_15) (fun H locs hS h2 => ?_)
      refine r_icmp_ge (tgt := 49) F.hx F.hb (inr_w32 _) h2 d_Tokens_isWord_18 (by decide) (fun c3 => ?_) (fun c3 => ?_)
      · replace hT := (if_pos c3).symm.trans hT
        refine r_iconst F.hx F.hb d_Tokens_isWord_49 ?_
        cases hT
        exact r_zret F hlk hr hS (Or.inr rfl) d_Tokens_isWord_50
      · replace hT := (if_neg c3).symm.trans hT
        refine va_ldcS F.hx F.hb F.hown F.2.2.2.2.1.1 d_Tokens_isWord_21 ?_
        refine lv_iload_n F.hx F.hb d_Tokens_isWord_23 rfl (lv_at hl 0 rfl) ?_
        refine lv_iload F.hx F.hb d_Tokens_isWord_24 (lv_at hl 4 rfl) ?_
        refine r_iadd F.hx F.hb d_Tokens_isWord_26 ?_
        obtain ⟨⟨g4a, g4b⟩, hT⟩ := q_guard hT
        refine r_backI F hS (r_runVT (As := [vI (w32 (x1 + v4_))]) F hS (isStr1 (C := C)) rfl (c_Str_charAt l _ (isStr1 (C := C)) (inr_w32 _) g4a g4b) gs_Tokens_77 hd_Str_charAt ⟨Nat.le_of_ble_eq_true rfl, Nat.le_of_ble_eq_true rfl⟩ rfl hl.1 (Nat.le_of_ble_eq_true rfl) ⟨Nat.zero_le _, Nat.zero_le _⟩ rfl d_Tokens_isWord_27) (fun H locs hS h5 => ?_)
        refine lv_aload_n F.hx F.hb d_Tokens_isWord_30 rfl (lv_at hl 1 rfl) ?_
        refine lv_iload_n F.hx F.hb d_Tokens_isWord_31 rfl (lv_at hl 2 rfl) ?_
        refine lv_iload F.hx F.hb d_Tokens_isWord_32 (lv_at hl 4 rfl) ?_
        refine r_iadd F.hx F.hb d_Tokens_isWord_34 ?_
        obtain ⟨q6, hq6⟩ : ∃ q, q = (t_WF_look M r2 N2 (w32 (x3 + v4_))) := ⟨_, rfl⟩
        replace hT := qlet_eq hT hq6
        refine r_backI F hS (r_runSN (As := [.ref (b + r2), vI (w32 (x3 + v4_))]) F hS (c_WF_look l F.2.2.1 M r2 N2 (w32 (x3 + v4_)) hr2 (inr_w32 _) _ hq6.symm) mw_519 mw_518 mw_1 gs_Tokens_25 hd_WF_look ⟨Nat.le_of_ble_eq_true rfl, Nat.le_of_ble_eq_true rfl⟩ rfl hl.1 (Nat.le_of_ble_eq_true rfl) ⟨Nat.zero_le _, Nat.zero_le _⟩ rfl d_Tokens_isWord_35) (fun H locs hS h7 => ?_)
        refine r_icmp_eq (tgt := 43) F.hx F.hb h5 h7 d_Tokens_isWord_38 (by decide) (fun c8 => ?_) (fun c8 => ?_)
        · replace hT := (if_pos c8).symm.trans hT
          refine lv_iinc (v := Int32.ofInt (w32 (v4_ + 1))) (lv' := [(4, vI (w32 (v4_ + 1))), (0, vI x1), (1, .ref (b + r2)), (2, vI x3), (3, vI x4)]) F.hx F.hb d_Tokens_isWord_43 hl (k := 4) rfl (q_of_add _ _) (Nat.le_of_ble_eq_true rfl) rfl (fun ls hl => ?_)
          refine lv_goto (tgt := 3) F.hx F.hb d_Tokens_isWord_46 (by decide) ?_
          exact ih M (w32 (v4_ + 1)) (inr_w32 _) _ _ _ hS (lv_sub hl [1, 2, 3, 4, 0] rfl) hT
        · replace hT := (if_neg c8).symm.trans hT
          refine r_iconst F.hx F.hb d_Tokens_isWord_41 ?_
          cases hT
          exact r_zret F hlk hr hS (Or.inl rfl) d_Tokens_isWord_42
set_option maxHeartbeats 4000000 in
set_option maxRecDepth 100000 in
theorem c_Tokens_isWord (l : Launch) {b n : Nat} {C : CT} (hlo : 191 ≤ n) (M : Mem) (x1 : Int) (r2 : Nat) (N2 : Nat) (x3 : Int) (x4 : Int) (hx1 : InR x1) (hr2 : arrP 0 r2 N2 191) (hx3 : InR x3) (hx4 : InR x4) (res : Int) (hT : t_Tokens_isWord M x1 r2 N2 x3 x4 = some res) : CM l b C n 4 y_Tokens_isWord b_Tokens_isWord 5 (some .boolean) [vI x1, .ref (b + r2), vI x3, vI x4] M (QZ b C n M res) := by
  refine CM.of (lo := 191) (ow := "WardFalls$Tokens") (by decide) rfl (Nat.le_of_ble_eq_true rfl) hlo (fun p e s m below meth c F hlk hr hS ls hl => ?_)
  have hl : lv_has ls 5 [(0, vI x1), (1, .ref (b + r2)), (2, vI x3), (3, vI x4)] := hl
  unfold t_Tokens_isWord at hT
  refine r_iconst F.hx F.hb d_Tokens_isWord_0 ?_
  refine lv_istore (lv' := [(4, vI 0), (0, vI x1), (1, .ref (b + r2)), (2, vI x3), (3, vI x4)]) F.hx F.hb d_Tokens_isWord_1 hl (Nat.le_of_ble_eq_true rfl) rfl (fun ls hl => ?_)
  exact k_Tokens_isWord_L3 l hlo x1 r2 N2 x3 x4 hx1 hr2 hx3 hx4 F hlk hr FU M 0 (inr_c rfl) _ _ _ hS (lv_sub hl [1, 2, 3, 4, 0] rfl) hT
end
section
theorem d_Tokens_wordOf_0 : decode b_Tokens_wordOf 0 = .ok (.iconst 0, 1) := dc_3 (by decide +kernel)
theorem d_Tokens_wordOf_1 : decode b_Tokens_wordOf 1 = .ok (.istore_n 3, 1) := dc_62 (by decide +kernel)
theorem d_Tokens_wordOf_2 : decode b_Tokens_wordOf 2 = .ok (.iconst 0, 1) := dc_3 (by decide +kernel)
theorem d_Tokens_wordOf_3 : decode b_Tokens_wordOf 3 = .ok (.istore 4, 2) := dc_54 (by decide +kernel)
theorem d_Tokens_wordOf_5 : decode b_Tokens_wordOf 5 = .ok (.iconst 0, 1) := dc_3 (by decide +kernel)
theorem d_Tokens_wordOf_6 : decode b_Tokens_wordOf 6 = .ok (.istore 5, 2) := dc_54 (by decide +kernel)
theorem d_Tokens_wordOf_8 : decode b_Tokens_wordOf 8 = .ok (.iload 5, 2) := dc_21 (by decide +kernel)
theorem d_Tokens_wordOf_10 : decode b_Tokens_wordOf 10 = .ok (.ldc 69, 2) := dc_18 (by decide +kernel)
theorem d_Tokens_wordOf_12 : decode b_Tokens_wordOf 12 = .ok (.invokevirtual 71, 3) := dc_182 (by decide +kernel)
theorem d_Tokens_wordOf_15 : decode b_Tokens_wordOf 15 = .ok (.if_icmp .ge 52, 3) := dc_162 (by decide +kernel)
theorem d_Tokens_wordOf_18 : decode b_Tokens_wordOf 18 = .ok (.ldc 69, 2) := dc_18 (by decide +kernel)
theorem d_Tokens_wordOf_20 : decode b_Tokens_wordOf 20 = .ok (.iload 5, 2) := dc_21 (by decide +kernel)
theorem d_Tokens_wordOf_22 : decode b_Tokens_wordOf 22 = .ok (.invokevirtual 77, 3) := dc_182 (by decide +kernel)
theorem d_Tokens_wordOf_25 : decode b_Tokens_wordOf 25 = .ok (.bipush 32, 2) := dc_16 (by decide +kernel)
theorem d_Tokens_wordOf_27 : decode b_Tokens_wordOf 27 = .ok (.if_icmp .ne 34, 3) := dc_160 (by decide +kernel)
theorem d_Tokens_wordOf_30 : decode b_Tokens_wordOf 30 = .ok (.iload 5, 2) := dc_21 (by decide +kernel)
theorem d_Tokens_wordOf_32 : decode b_Tokens_wordOf 32 = .ok (.iload 4, 2) := dc_21 (by decide +kernel)
theorem d_Tokens_wordOf_34 : decode b_Tokens_wordOf 34 = .ok (.isub, 1) := dc_100 (by decide +kernel)
theorem d_Tokens_wordOf_35 : decode b_Tokens_wordOf 35 = .ok (.iload_n 2, 1) := dc_28 (by decide +kernel)
theorem d_Tokens_wordOf_36 : decode b_Tokens_wordOf 36 = .ok (.if_icmp .ne 16, 3) := dc_160 (by decide +kernel)
theorem d_Tokens_wordOf_39 : decode b_Tokens_wordOf 39 = .ok (.iload 4, 2) := dc_21 (by decide +kernel)
theorem d_Tokens_wordOf_41 : decode b_Tokens_wordOf 41 = .ok (.aload_n 0, 1) := dc_42 (by decide +kernel)
theorem d_Tokens_wordOf_42 : decode b_Tokens_wordOf 42 = .ok (.iload_n 1, 1) := dc_27 (by decide +kernel)
theorem d_Tokens_wordOf_43 : decode b_Tokens_wordOf 43 = .ok (.iload_n 2, 1) := dc_28 (by decide +kernel)
theorem d_Tokens_wordOf_44 : decode b_Tokens_wordOf 44 = .ok (.invokestatic 81, 3) := dc_184 (by decide +kernel)
theorem d_Tokens_wordOf_47 : decode b_Tokens_wordOf 47 = .ok (.ifCond .eq 5, 3) := dc_153 (by decide +kernel)
theorem d_Tokens_wordOf_50 : decode b_Tokens_wordOf 50 = .ok (.iload_n 3, 1) := dc_29 (by decide +kernel)
theorem d_Tokens_wordOf_51 : decode b_Tokens_wordOf 51 = .ok (.ireturn, 1) := dc_172 (by decide +kernel)
theorem d_Tokens_wordOf_52 : decode b_Tokens_wordOf 52 = .ok (.iinc 3 1, 3) := dc_132 (by decide +kernel)
theorem d_Tokens_wordOf_55 : decode b_Tokens_wordOf 55 = .ok (.iload 5, 2) := dc_21 (by decide +kernel)
theorem d_Tokens_wordOf_57 : decode b_Tokens_wordOf 57 = .ok (.iconst 1, 1) := dc_4 (by decide +kernel)
theorem d_Tokens_wordOf_58 : decode b_Tokens_wordOf 58 = .ok (.iadd, 1) := dc_96 (by decide +kernel)
theorem d_Tokens_wordOf_59 : decode b_Tokens_wordOf 59 = .ok (.istore 4, 2) := dc_54 (by decide +kernel)
theorem d_Tokens_wordOf_61 : decode b_Tokens_wordOf 61 = .ok (.iinc 5 1, 3) := dc_132 (by decide +kernel)
theorem d_Tokens_wordOf_64 : decode b_Tokens_wordOf 64 = .ok (.goto (-56), 3) := dc_167 (by decide +kernel)
theorem d_Tokens_wordOf_67 : decode b_Tokens_wordOf 67 = .ok (.iconst (-1), 1) := dc_2 (by decide +kernel)
theorem d_Tokens_wordOf_68 : decode b_Tokens_wordOf 68 = .ok (.ireturn, 1) := dc_172 (by decide +kernel)
def t_Tokens_wordOf_L61 (r1 : Nat) (N1 : Nat) (x2 : Int) (x3 : Int) (bk8 : Mem → Int → Int → Int → Option (Int)) (M : Mem) (v3_ : Int) (v4_ : Int) (v5_ : Int) : Option (Int) := (bk8 M v3_ v4_ (w32 (v5_ + 1)))
def t_Tokens_wordOf_L52 (r1 : Nat) (N1 : Nat) (x2 : Int) (x3 : Int) (bk8 : Mem → Int → Int → Int → Option (Int)) (M : Mem) (v3_ : Int) (v4_ : Int) : Option (Int) := (t_Tokens_wordOf_L61 r1 N1 x2 x3 bk8 M (w32 (v3_ + 1)) (w32 (v4_ + 1)) v4_)
def t_Tokens_wordOf_L8 (r1 : Nat) (N1 : Nat) (x2 : Int) (x3 : Int)  : Nat → Mem → Int → Int → Int → Option (Int)
  | 0, _, _, _, _ => none
  | fu + 1, M, v3_, v4_, v5_ => (if 126 ≤ v5_ then (some (-1)) else (qguard (0 ≤ v5_ ∧ v5_ < 126) (if (chW v5_) = 32 then (if (w32 (v5_ - v4_)) = x3 then (obind (t_Tokens_isWord M v4_ r1 N1 x2 x3) fun q7 => (if q7 = 0 then (t_Tokens_wordOf_L52 r1 N1 x2 x3 (fun a0_ a1_ a2_ a3_ => t_Tokens_wordOf_L8 r1 N1 x2 x3 fu a0_ a1_ a2_ a3_) M v3_ v5_) else (some v3_))) else (t_Tokens_wordOf_L52 r1 N1 x2 x3 (fun a0_ a1_ a2_ a3_ => t_Tokens_wordOf_L8 r1 N1 x2 x3 fu a0_ a1_ a2_ a3_) M v3_ v5_)) else (t_Tokens_wordOf_L61 r1 N1 x2 x3 (fun a0_ a1_ a2_ a3_ => t_Tokens_wordOf_L8 r1 N1 x2 x3 fu a0_ a1_ a2_ a3_) M v3_ v4_ v5_))))
def t_Tokens_wordOf (M : Mem) (r1 : Nat) (N1 : Nat) (x2 : Int) (x3 : Int) : Option (Int) := (t_Tokens_wordOf_L8 r1 N1 x2 x3 FU M 0 0 0)
set_option maxHeartbeats 4000000 in
set_option maxRecDepth 100000 in
theorem k_Tokens_wordOf_L61 (l : Launch) {p : Program} {e : Env} {s : State} {m : MethodId} {below : List Frame} {meth : Method} {c : Code} {b n : Nat} {C : CT} (hlo : 191 ≤ n) (r1 : Nat) (N1 : Nat) (x2 : Int) (x3 : Int) (hr1 : arrP 0 r1 N1 191) (hx2 : InR x2) (hx3 : InR x3) (F : Cx b p m c b_Tokens_wordOf 6 s ([.ref (b + r1), vI x2, vI x3] : List Value).toArray "WardFalls$Tokens" C n 191) (hlk : meth.locks = false) (hr : meth.sig.returnType = some .int) {res : Int} (bk8 : Mem → Int → Int → Int → Option (Int)) (hbk8 : ∀ (M : Mem) (v3_ : Int) (hv3_ : InR v3_) (v4_ : Int) (hv4_ : InR v4_) (v5_ : Int) (hv5_ : InR v5_) (H : Heap) (locs : List Loc) (ls : Array Slot), St b C n M s H locs → lv_has ls 6 [(0, .ref (b + r1)), (1, vI x2), (2, vI x3), (3, vI v3_), (4, vI v4_), (5, vI v5_)] → bk8 M v3_ v4_ v5_ = some res → W p l e (headSpec (wsM y_Tokens_wordOf b_Tokens_wordOf 6 (some .int)) (rmD 5)).room s m ([.ref (b + r1), vI x2, vI x3] : List Value).toArray below meth c H locs 0 0 (MQ below (QI b C n M res) ([.ref (b + r1), vI x2, vI x3] : List Value).toArray s 0 0 (frb b)) (F0 m 8 ls [])) (M : Mem) (v3_ : Int) (hv3_ : InR v3_) (v4_ : Int) (hv4_ : InR v4_) (v5_ : Int) (hv5_ : InR v5_) (H : Heap) (locs : List Loc) (ls : Array Slot) (hS : St b C n M s H locs) (hl : lv_has ls 6 [(0, .ref (b + r1)), (1, vI x2), (2, vI x3), (3, vI v3_), (4, vI v4_), (5, vI v5_)]) (hT : t_Tokens_wordOf_L61 r1 N1 x2 x3 bk8 M v3_ v4_ v5_ = some res) : W p l e (headSpec (wsM y_Tokens_wordOf b_Tokens_wordOf 6 (some .int)) (rmD 5)).room s m ([.ref (b + r1), vI x2, vI x3] : List Value).toArray below meth c H locs 0 0 (MQ below (QI b C n M res) ([.ref (b + r1), vI x2, vI x3] : List Value).toArray s 0 0 (frb b)) (F0 m 61 ls []) := by
  unfold t_Tokens_wordOf_L61 at hT
  refine lv_iinc (v := Int32.ofInt (w32 (v5_ + 1))) (lv' := [(5, vI (w32 (v5_ + 1))), (0, .ref (b + r1)), (1, vI x2), (2, vI x3), (3, vI v3_), (4, vI v4_)]) F.hx F.hb d_Tokens_wordOf_61 hl (k := 5) rfl (q_of_add _ _) (Nat.le_of_ble_eq_true rfl) rfl (fun ls hl => ?_)
  refine lv_goto (tgt := 8) F.hx F.hb d_Tokens_wordOf_64 (by decide) ?_
  exact hbk8 M v3_ hv3_ v4_ hv4_ (w32 (v5_ + 1)) (inr_w32 _) _ _ _ hS (lv_sub hl [1, 2, 3, 4, 5, 0] rfl) hT
set_option maxHeartbeats 4000000 in
set_option maxRecDepth 100000 in
theorem k_Tokens_wordOf_L52 (l : Launch) {p : Program} {e : Env} {s : State} {m : MethodId} {below : List Frame} {meth : Method} {c : Code} {b n : Nat} {C : CT} (hlo : 191 ≤ n) (r1 : Nat) (N1 : Nat) (x2 : Int) (x3 : Int) (hr1 : arrP 0 r1 N1 191) (hx2 : InR x2) (hx3 : InR x3) (F : Cx b p m c b_Tokens_wordOf 6 s ([.ref (b + r1), vI x2, vI x3] : List Value).toArray "WardFalls$Tokens" C n 191) (hlk : meth.locks = false) (hr : meth.sig.returnType = some .int) {res : Int} (bk8 : Mem → Int → Int → Int → Option (Int)) (hbk8 : ∀ (M : Mem) (v3_ : Int) (hv3_ : InR v3_) (v4_ : Int) (hv4_ : InR v4_) (v5_ : Int) (hv5_ : InR v5_) (H : Heap) (locs : List Loc) (ls : Array Slot), St b C n M s H locs → lv_has ls 6 [(0, .ref (b + r1)), (1, vI x2), (2, vI x3), (3, vI v3_), (4, vI v4_), (5, vI v5_)] → bk8 M v3_ v4_ v5_ = some res → W p l e (headSpec (wsM y_Tokens_wordOf b_Tokens_wordOf 6 (some .int)) (rmD 5)).room s m ([.ref (b + r1), vI x2, vI x3] : List Value).toArray below meth c H locs 0 0 (MQ below (QI b C n M res) ([.ref (b + r1), vI x2, vI x3] : List Value).toArray s 0 0 (frb b)) (F0 m 8 ls [])) (M : Mem) (v3_ : Int) (hv3_ : InR v3_) (v4_ : Int) (hv4_ : InR v4_) (H : Heap) (locs : List Loc) (ls : Array Slot) (hS : St b C n M s H locs) (hl : lv_has ls 6 [(0, .ref (b + r1)), (1, vI x2), (2, vI x3), (3, vI v3_), (5, vI v4_)]) (hT : t_Tokens_wordOf_L52 r1 N1 x2 x3 bk8 M v3_ v4_ = some res) : W p l e (headSpec (wsM y_Tokens_wordOf b_Tokens_wordOf 6 (some .int)) (rmD 5)).room s m ([.ref (b + r1), vI x2, vI x3] : List Value).toArray below meth c H locs 0 0 (MQ below (QI b C n M res) ([.ref (b + r1), vI x2, vI x3] : List Value).toArray s 0 0 (frb b)) (F0 m 52 ls []) := by
  unfold t_Tokens_wordOf_L52 at hT
  refine lv_iinc (v := Int32.ofInt (w32 (v3_ + 1))) (lv' := [(3, vI (w32 (v3_ + 1))), (0, .ref (b + r1)), (1, vI x2), (2, vI x3), (5, vI v4_)]) F.hx F.hb d_Tokens_wordOf_52 hl (k := 3) rfl (q_of_add _ _) (Nat.le_of_ble_eq_true rfl) rfl (fun ls hl => ?_)
  refine lv_iload F.hx F.hb d_Tokens_wordOf_55 (lv_at hl 4 rfl) ?_
  refine r_iconst F.hx F.hb d_Tokens_wordOf_57 ?_
  refine r_iadd F.hx F.hb d_Tokens_wordOf_58 ?_
  refine lv_istore (lv' := [(4, vI (w32 (v4_ + 1))), (3, vI (w32 (v3_ + 1))), (0, .ref (b + r1)), (1, vI x2), (2, vI x3), (5, vI v4_)]) F.hx F.hb d_Tokens_wordOf_59 hl (Nat.le_of_ble_eq_true rfl) rfl (fun ls hl => ?_)
  exact k_Tokens_wordOf_L61 l hlo r1 N1 x2 x3 hr1 hx2 hx3 F hlk hr bk8 hbk8 M (w32 (v3_ + 1)) (inr_w32 _) (w32 (v4_ + 1)) (inr_w32 _) v4_ hv4_ _ _ _ hS (lv_sub hl [2, 3, 4, 1, 0, 5] rfl) hT
set_option maxHeartbeats 4000000 in
set_option maxRecDepth 100000 in
theorem k_Tokens_wordOf_L8 (l : Launch) {p : Program} {e : Env} {s : State} {m : MethodId} {below : List Frame} {meth : Method} {c : Code} {b n : Nat} {C : CT} (hlo : 191 ≤ n) (r1 : Nat) (N1 : Nat) (x2 : Int) (x3 : Int) (hr1 : arrP 0 r1 N1 191) (hx2 : InR x2) (hx3 : InR x3) (F : Cx b p m c b_Tokens_wordOf 6 s ([.ref (b + r1), vI x2, vI x3] : List Value).toArray "WardFalls$Tokens" C n 191) (hlk : meth.locks = false) (hr : meth.sig.returnType = some .int) {res : Int} : ∀ (fu : Nat) (M : Mem) (v3_ : Int) (hv3_ : InR v3_) (v4_ : Int) (hv4_ : InR v4_) (v5_ : Int) (hv5_ : InR v5_) (H : Heap) (locs : List Loc) (ls : Array Slot), St b C n M s H locs → lv_has ls 6 [(0, .ref (b + r1)), (1, vI x2), (2, vI x3), (3, vI v3_), (4, vI v4_), (5, vI v5_)] → t_Tokens_wordOf_L8 r1 N1 x2 x3 fu M v3_ v4_ v5_ = some res → W p l e (headSpec (wsM y_Tokens_wordOf b_Tokens_wordOf 6 (some .int)) (rmD 5)).room s m ([.ref (b + r1), vI x2, vI x3] : List Value).toArray below meth c H locs 0 0 (MQ below (QI b C n M res) ([.ref (b + r1), vI x2, vI x3] : List Value).toArray s 0 0 (frb b)) (F0 m 8 ls []) := by
  intro fu
  induction fu with
  | zero => intro M v3_ hv3_ v4_ hv4_ v5_ hv5_ H locs ls hS hl hT; exact absurd hT (by simp [t_Tokens_wordOf_L8])
  | succ fu ih =>
    intro M v3_ hv3_ v4_ hv4_ v5_ hv5_ H locs ls hS hl hT
    rw [t_Tokens_wordOf_L8] at hT
    refine lv_iload F.hx F.hb d_Tokens_wordOf_8 (lv_at hl 5 rfl) ?_
    refine va_ldcS F.hx F.hb F.hown F.2.2.2.2.1.1 d_Tokens_wordOf_10 ?_
    refine r_backI F hS (r_runVT (As := []) F hS (isStr1 (C := C)) rfl (c_Str_length l _ (isStr1 (C := C))) gs_Tokens_71 hd_Str_length ⟨Nat.le_of_ble_eq_true rfl, Nat.le_of_ble_eq_true rfl⟩ rfl hl.1 (Nat.le_of_ble_eq_true rfl) ⟨Nat.zero_le _, Nat.zero_le _⟩ rfl d_Tokens_wordOf_12) (fun H locs hS h1 => ?_)
    refine r_icmp_ge (tgt := 67) F.hx F.hb hv5_ h1 d_Tokens_wordOf_15 (by decide) (fun c2 => ?_) (fun c2 => ?_)
    · replace hT := (if_pos c2).symm.trans hT
      refine r_iconst F.hx F.hb d_Tokens_wordOf_67 ?_
      cases hT
      exact r_iret F hlk hr rfl hS (inr_c rfl) d_Tokens_wordOf_68
    · replace hT := (if_neg c2).symm.trans hT
      refine va_ldcS F.hx F.hb F.hown F.2.2.2.2.1.1 d_Tokens_wordOf_18 ?_
      refine lv_iload F.hx F.hb d_Tokens_wordOf_20 (lv_at hl 5 rfl) ?_
      obtain ⟨⟨g3a, g3b⟩, hT⟩ := q_guard hT
      refine r_backI F hS (r_runVT (As := [vI v5_]) F hS (isStr1 (C := C)) rfl (c_Str_charAt l _ (isStr1 (C := C)) hv5_ g3a g3b) gs_Tokens_77 hd_Str_charAt ⟨Nat.le_of_ble_eq_true rfl, Nat.le_of_ble_eq_true rfl⟩ rfl hl.1 (Nat.le_of_ble_eq_true rfl) ⟨Nat.zero_le _, Nat.zero_le _⟩ rfl d_Tokens_wordOf_22) (fun H locs hS h4 => ?_)
      refine r_bipush F.hx F.hb d_Tokens_wordOf_25 rfl ?_
      refine r_icmp_ne (tgt := 61) F.hx F.hb h4 (inr_c rfl) d_Tokens_wordOf_27 (by decide) (fun c5 => ?_) (fun c5 => ?_)
      · replace hT := (if_neg c5).symm.trans hT
        exact k_Tokens_wordOf_L61 l hlo r1 N1 x2 x3 hr1 hx2 hx3 F hlk hr (fun a0_ a1_ a2_ a3_ => t_Tokens_wordOf_L8 r1 N1 x2 x3 fu a0_ a1_ a2_ a3_) ih M v3_ hv3_ v4_ hv4_ v5_ hv5_ _ _ _ hS (lv_sub hl [0, 1, 2, 3, 4, 5] rfl) hT
      · replace hT := (if_pos c5).symm.trans hT
        refine lv_iload F.hx F.hb d_Tokens_wordOf_30 (lv_at hl 5 rfl) ?_
        refine lv_iload F.hx F.hb d_Tokens_wordOf_32 (lv_at hl 4 rfl) ?_
        refine r_isub F.hx F.hb d_Tokens_wordOf_34 ?_
        refine lv_iload_n F.hx F.hb d_Tokens_wordOf_35 rfl (lv_at hl 2 rfl) ?_
        refine r_icmp_ne (tgt := 52) F.hx F.hb (inr_w32 _) hx3 d_Tokens_wordOf_36 (by decide) (fun c6 => ?_) (fun c6 => ?_)
        · replace hT := (if_neg c6).symm.trans hT
          exact k_Tokens_wordOf_L52 l hlo r1 N1 x2 x3 hr1 hx2 hx3 F hlk hr (fun a0_ a1_ a2_ a3_ => t_Tokens_wordOf_L8 r1 N1 x2 x3 fu a0_ a1_ a2_ a3_) ih M v3_ hv3_ v5_ hv5_ _ _ _ hS (lv_sub hl [0, 1, 2, 3, 5] rfl) hT
        · replace hT := (if_pos c6).symm.trans hT
          refine lv_iload F.hx F.hb d_Tokens_wordOf_39 (lv_at hl 4 rfl) ?_
          refine lv_aload_n F.hx F.hb d_Tokens_wordOf_41 rfl (lv_at hl 0 rfl) ?_
          refine lv_iload_n F.hx F.hb d_Tokens_wordOf_42 rfl (lv_at hl 1 rfl) ?_
          refine lv_iload_n F.hx F.hb d_Tokens_wordOf_43 rfl (lv_at hl 2 rfl) ?_
          obtain ⟨q7, hq7, hT⟩ := q_obind hT
          refine r_backZ F hS (r_runS (As := [vI v4_, .ref (b + r1), vI x2, vI x3]) F hS (c_Tokens_isWord l F.2.2.1 M v4_ r1 N1 x2 x3 hv4_ hr1 hx2 hx3 _ hq7) gs_Tokens_81 hd_Tokens_isWord ⟨Nat.le_of_ble_eq_true rfl, Nat.le_of_ble_eq_true rfl⟩ rfl hl.1 (Nat.le_of_ble_eq_true rfl) ⟨Nat.zero_le _, Nat.zero_le _⟩ rfl d_Tokens_wordOf_44) (fun H locs hS h8 => ?_)
          refine r_if_eq (tgt := 52) F.hx F.hb (inr_z h8) d_Tokens_wordOf_47 (by decide) (fun c9 => ?_) (fun c9 => ?_)
          · replace hT := (if_pos c9).symm.trans hT
            exact k_Tokens_wordOf_L52 l hlo r1 N1 x2 x3 hr1 hx2 hx3 F hlk hr (fun a0_ a1_ a2_ a3_ => t_Tokens_wordOf_L8 r1 N1 x2 x3 fu a0_ a1_ a2_ a3_) ih M v3_ hv3_ v5_ hv5_ _ _ _ hS (lv_sub hl [0, 1, 2, 3, 5] rfl) hT
          · replace hT := (if_neg c9).symm.trans hT
            refine lv_iload_n F.hx F.hb d_Tokens_wordOf_50 rfl (lv_at hl 3 rfl) ?_
            cases hT
            exact r_iret F hlk hr rfl hS hv3_ d_Tokens_wordOf_51
set_option maxHeartbeats 4000000 in
set_option maxRecDepth 100000 in
theorem c_Tokens_wordOf (l : Launch) {b n : Nat} {C : CT} (hlo : 191 ≤ n) (M : Mem) (r1 : Nat) (N1 : Nat) (x2 : Int) (x3 : Int) (hr1 : arrP 0 r1 N1 191) (hx2 : InR x2) (hx3 : InR x3) (res : Int) (hT : t_Tokens_wordOf M r1 N1 x2 x3 = some res) : CM l b C n 5 y_Tokens_wordOf b_Tokens_wordOf 6 (some .int) [.ref (b + r1), vI x2, vI x3] M (QI b C n M res) := by
  refine CM.of (lo := 191) (ow := "WardFalls$Tokens") (by decide) rfl (Nat.le_of_ble_eq_true rfl) hlo (fun p e s m below meth c F hlk hr hS ls hl => ?_)
  have hl : lv_has ls 6 [(0, .ref (b + r1)), (1, vI x2), (2, vI x3)] := hl
  unfold t_Tokens_wordOf at hT
  refine r_iconst F.hx F.hb d_Tokens_wordOf_0 ?_
  refine lv_istore_n (lv' := [(3, vI 0), (0, .ref (b + r1)), (1, vI x2), (2, vI x3)]) F.hx F.hb d_Tokens_wordOf_1 rfl hl (Nat.le_of_ble_eq_true rfl) rfl (fun ls hl => ?_)
  refine r_iconst F.hx F.hb d_Tokens_wordOf_2 ?_
  refine lv_istore (lv' := [(4, vI 0), (3, vI 0), (0, .ref (b + r1)), (1, vI x2), (2, vI x3)]) F.hx F.hb d_Tokens_wordOf_3 hl (Nat.le_of_ble_eq_true rfl) rfl (fun ls hl => ?_)
  refine r_iconst F.hx F.hb d_Tokens_wordOf_5 ?_
  refine lv_istore (lv' := [(5, vI 0), (4, vI 0), (3, vI 0), (0, .ref (b + r1)), (1, vI x2), (2, vI x3)]) F.hx F.hb d_Tokens_wordOf_6 hl (Nat.le_of_ble_eq_true rfl) rfl (fun ls hl => ?_)
  exact k_Tokens_wordOf_L8 l hlo r1 N1 x2 x3 hr1 hx2 hx3 F hlk hr FU M 0 (inr_c rfl) 0 (inr_c rfl) 0 (inr_c rfl) _ _ _ hS (lv_sub hl [3, 4, 5, 2, 1, 0] rfl) hT
theorem d_Tokens_add_0 : decode b_Tokens_add 0 = .ok (.aload_n 0, 1) := dc_42 (by decide +kernel)
theorem d_Tokens_add_1 : decode b_Tokens_add 1 = .ok (.getfield 9, 3) := dc_180 (by decide +kernel)
theorem d_Tokens_add_4 : decode b_Tokens_add 4 = .ok (.aload_n 0, 1) := dc_42 (by decide +kernel)
theorem d_Tokens_add_5 : decode b_Tokens_add 5 = .ok (.getfield 21, 3) := dc_180 (by decide +kernel)
theorem d_Tokens_add_8 : decode b_Tokens_add 8 = .ok (.iload_n 1, 1) := dc_27 (by decide +kernel)
theorem d_Tokens_add_9 : decode b_Tokens_add 9 = .ok (.invokestatic 51, 3) := dc_184 (by decide +kernel)
theorem d_Tokens_add_12 : decode b_Tokens_add 12 = .ok (.aload_n 0, 1) := dc_42 (by decide +kernel)
theorem d_Tokens_add_13 : decode b_Tokens_add 13 = .ok (.getfield 15, 3) := dc_180 (by decide +kernel)
theorem d_Tokens_add_16 : decode b_Tokens_add 16 = .ok (.aload_n 0, 1) := dc_42 (by decide +kernel)
theorem d_Tokens_add_17 : decode b_Tokens_add 17 = .ok (.getfield 21, 3) := dc_180 (by decide +kernel)
theorem d_Tokens_add_20 : decode b_Tokens_add 20 = .ok (.iload_n 2, 1) := dc_28 (by decide +kernel)
theorem d_Tokens_add_21 : decode b_Tokens_add 21 = .ok (.invokestatic 51, 3) := dc_184 (by decide +kernel)
theorem d_Tokens_add_24 : decode b_Tokens_add 24 = .ok (.aload_n 0, 1) := dc_42 (by decide +kernel)
theorem d_Tokens_add_25 : decode b_Tokens_add 25 = .ok (.getfield 18, 3) := dc_180 (by decide +kernel)
theorem d_Tokens_add_28 : decode b_Tokens_add 28 = .ok (.aload_n 0, 1) := dc_42 (by decide +kernel)
theorem d_Tokens_add_29 : decode b_Tokens_add 29 = .ok (.getfield 21, 3) := dc_180 (by decide +kernel)
theorem d_Tokens_add_32 : decode b_Tokens_add 32 = .ok (.iload_n 3, 1) := dc_29 (by decide +kernel)
theorem d_Tokens_add_33 : decode b_Tokens_add 33 = .ok (.invokestatic 51, 3) := dc_184 (by decide +kernel)
theorem d_Tokens_add_36 : decode b_Tokens_add 36 = .ok (.aload_n 0, 1) := dc_42 (by decide +kernel)
theorem d_Tokens_add_37 : decode b_Tokens_add 37 = .ok (.dup, 1) := dc_89 (by decide +kernel)
theorem d_Tokens_add_38 : decode b_Tokens_add 38 = .ok (.getfield 21, 3) := dc_180 (by decide +kernel)
theorem d_Tokens_add_41 : decode b_Tokens_add 41 = .ok (.iconst 1, 1) := dc_4 (by decide +kernel)
theorem d_Tokens_add_42 : decode b_Tokens_add 42 = .ok (.iadd, 1) := dc_96 (by decide +kernel)
theorem d_Tokens_add_43 : decode b_Tokens_add 43 = .ok (.putfield 21, 3) := dc_181 (by decide +kernel)
theorem d_Tokens_add_46 : decode b_Tokens_add 46 = .ok (.return_, 1) := dc_177 (by decide +kernel)
def t_Tokens_add (M : Mem) (x1 : Int) (x2 : Int) (x3 : Int) : Mem := (qlet (t_WF_put M 43 701 (M.1 42 3) x1) fun q2 => (qlet (t_WF_put q2 44 701 (q2.1 42 3) x2) fun q5 => (qlet (t_WF_put q5 45 701 (q5.1 42 3) x3) fun q8 => (qlet (setI q8 42 3 (w32 ((q8.1 42 3) + 1))) fun M11 => M11))))
set_option maxHeartbeats 4000000 in
set_option maxRecDepth 100000 in
theorem c_Tokens_add (l : Launch) {b n : Nat} {C : CT} (hlo : 191 ≤ n) (M : Mem) (x1 : Int) (x2 : Int) (x3 : Int) (hx1 : InR x1) (hx2 : InR x2) (hx3 : InR x3) (res : Mem) (hT : t_Tokens_add M x1 x2 x3 = res) : CM l b C n 1 y_Tokens_add b_Tokens_add 4 (none) [.ref (b + 42), vI x1, vI x2, vI x3] M (QV b C n res) := by
  refine CM.of (lo := 191) (ow := "WardFalls$Tokens") (by decide) rfl (Nat.le_of_ble_eq_true rfl) hlo (fun p e s m below meth c F hlk hr hS ls hl => ?_)
  have hl : lv_has ls 4 [(0, .ref (b + 42)), (1, vI x1), (2, vI x2), (3, vI x3)] := hl
  unfold t_Tokens_add at hT
  refine lv_aload_n F.hx F.hb d_Tokens_add_0 rfl (lv_at hl 0 rfl) ?_
  refine r_get (v := .ref (b + 43)) (N := 4) (T := T10) (j := 0) F hS (show 42 < 191 by decide) (show shK 42 = 14 from rfl) (show shN 42 = 4 from rfl) rfl (Nat.le_of_ble_eq_true rfl) ing10 mw_206 (fv_sg rfl rfl rfl) d_Tokens_add_1 ?_
  refine lv_aload_n F.hx F.hb d_Tokens_add_4 rfl (lv_at hl 0 rfl) ?_
  refine r_get (v := vI (M.1 42 3)) (N := 4) (T := T10) (j := 3) F hS (show 42 < 191 by decide) (show shK 42 = 14 from rfl) (show shN 42 = 4 from rfl) rfl (Nat.le_of_ble_eq_true rfl) ing10 mw_214 (fv_int rfl) d_Tokens_add_5 ?_
  have i1 := hS.rng 42 3
  refine lv_iload_n F.hx F.hb d_Tokens_add_8 rfl (lv_at hl 1 rfl) ?_
  obtain ⟨q2, hq2⟩ : ∃ q, q = (t_WF_put M 43 701 (M.1 42 3) x1) := ⟨_, rfl⟩
  replace hT := qlet_eq hT hq2
  refine r_backV F hS (r_runSN (As := [.ref (b + 43), vI (M.1 42 3), vI x1]) F hS (c_WF_put l F.2.2.1 M 43 701 (M.1 42 3) x1 (show arrP 0 43 701 191 from ⟨rfl, rfl, by decide⟩) i1 hx1 _ hq2.symm) mw_512 mw_511 mw_1 gs_Tokens_51 hd_WF_put ⟨Nat.le_of_ble_eq_true rfl, Nat.le_of_ble_eq_true rfl⟩ rfl hl.1 (Nat.le_of_ble_eq_true rfl) ⟨Nat.zero_le _, Nat.zero_le _⟩ rfl d_Tokens_add_9) (fun H locs hS => ?_)
  refine lv_aload_n F.hx F.hb d_Tokens_add_12 rfl (lv_at hl 0 rfl) ?_
  refine r_get (v := .ref (b + 44)) (N := 4) (T := T10) (j := 1) F hS (show 42 < 191 by decide) (show shK 42 = 14 from rfl) (show shN 42 = 4 from rfl) rfl (Nat.le_of_ble_eq_true rfl) ing10 mw_209 (fv_sg rfl rfl rfl) d_Tokens_add_13 ?_
  refine lv_aload_n F.hx F.hb d_Tokens_add_16 rfl (lv_at hl 0 rfl) ?_
  refine r_get (v := vI (q2.1 42 3)) (N := 4) (T := T10) (j := 3) F hS (show 42 < 191 by decide) (show shK 42 = 14 from rfl) (show shN 42 = 4 from rfl) rfl (Nat.le_of_ble_eq_true rfl) ing10 mw_214 (fv_int rfl) d_Tokens_add_17 ?_
  have i4 := hS.rng 42 3
  refine lv_iload_n F.hx F.hb d_Tokens_add_20 rfl (lv_at hl 2 rfl) ?_
  obtain ⟨q5, hq5⟩ : ∃ q, q = (t_WF_put q2 44 701 (q2.1 42 3) x2) := ⟨_, rfl⟩
  replace hT := qlet_eq hT hq5
  refine r_backV F hS (r_runSN (As := [.ref (b + 44), vI (q2.1 42 3), vI x2]) F hS (c_WF_put l F.2.2.1 q2 44 701 (q2.1 42 3) x2 (show arrP 0 44 701 191 from ⟨rfl, rfl, by decide⟩) i4 hx2 _ hq5.symm) mw_512 mw_511 mw_1 gs_Tokens_51 hd_WF_put ⟨Nat.le_of_ble_eq_true rfl, Nat.le_of_ble_eq_true rfl⟩ rfl hl.1 (Nat.le_of_ble_eq_true rfl) ⟨Nat.zero_le _, Nat.zero_le _⟩ rfl d_Tokens_add_21) (fun H locs hS => ?_)
  refine lv_aload_n F.hx F.hb d_Tokens_add_24 rfl (lv_at hl 0 rfl) ?_
  refine r_get (v := .ref (b + 45)) (N := 4) (T := T10) (j := 2) F hS (show 42 < 191 by decide) (show shK 42 = 14 from rfl) (show shN 42 = 4 from rfl) rfl (Nat.le_of_ble_eq_true rfl) ing10 mw_212 (fv_sg rfl rfl rfl) d_Tokens_add_25 ?_
  refine lv_aload_n F.hx F.hb d_Tokens_add_28 rfl (lv_at hl 0 rfl) ?_
  refine r_get (v := vI (q5.1 42 3)) (N := 4) (T := T10) (j := 3) F hS (show 42 < 191 by decide) (show shK 42 = 14 from rfl) (show shN 42 = 4 from rfl) rfl (Nat.le_of_ble_eq_true rfl) ing10 mw_214 (fv_int rfl) d_Tokens_add_29 ?_
  have i7 := hS.rng 42 3
  refine lv_iload_n F.hx F.hb d_Tokens_add_32 rfl (lv_at hl 3 rfl) ?_
  obtain ⟨q8, hq8⟩ : ∃ q, q = (t_WF_put q5 45 701 (q5.1 42 3) x3) := ⟨_, rfl⟩
  replace hT := qlet_eq hT hq8
  refine r_backV F hS (r_runSN (As := [.ref (b + 45), vI (q5.1 42 3), vI x3]) F hS (c_WF_put l F.2.2.1 q5 45 701 (q5.1 42 3) x3 (show arrP 0 45 701 191 from ⟨rfl, rfl, by decide⟩) i7 hx3 _ hq8.symm) mw_512 mw_511 mw_1 gs_Tokens_51 hd_WF_put ⟨Nat.le_of_ble_eq_true rfl, Nat.le_of_ble_eq_true rfl⟩ rfl hl.1 (Nat.le_of_ble_eq_true rfl) ⟨Nat.zero_le _, Nat.zero_le _⟩ rfl d_Tokens_add_33) (fun H locs hS => ?_)
  refine lv_aload_n F.hx F.hb d_Tokens_add_36 rfl (lv_at hl 0 rfl) ?_
  refine lv_dup F.hx F.hb d_Tokens_add_37 rfl ?_
  refine r_get (v := vI (q8.1 42 3)) (N := 4) (T := T10) (j := 3) F hS (show 42 < 191 by decide) (show shK 42 = 14 from rfl) (show shN 42 = 4 from rfl) rfl (Nat.le_of_ble_eq_true rfl) ing10 mw_214 (fv_int rfl) d_Tokens_add_38 ?_
  have i10 := hS.rng 42 3
  refine r_iconst F.hx F.hb d_Tokens_add_41 ?_
  refine r_iadd F.hx F.hb d_Tokens_add_42 ?_
  refine r_putI (N := 4) (T := T10) (j := 3) F hS (show 42 < 191 by decide) (show shK 42 = 14 from rfl) (show shN 42 = 4 from rfl) rfl (Nat.le_of_ble_eq_true rfl) ing10 tyok10 nm10 rfl rfl rfl rfl rfl rfl mw_214 (inr_w32 _) d_Tokens_add_43 (fun H locs hS => ?_)
  obtain ⟨M11, eM11⟩ : ∃ q, q = (setI q8 42 3 (w32 ((q8.1 42 3) + 1))) := ⟨_, rfl⟩
  replace hS : St b C n M11 s H locs := by rw [eM11]; exact hS
  replace hT := qlet_eq hT eM11
  subst hT
  exact r_vret F hlk hr hS d_Tokens_add_46
theorem d_Tokens_scanWord_0 : decode b_Tokens_scanWord 0 = .ok (.iconst 0, 1) := dc_3 (by decide +kernel)
theorem d_Tokens_scanWord_1 : decode b_Tokens_scanWord 1 = .ok (.istore 4, 2) := dc_54 (by decide +kernel)
theorem d_Tokens_scanWord_3 : decode b_Tokens_scanWord 3 = .ok (.iload_n 2, 1) := dc_28 (by decide +kernel)
theorem d_Tokens_scanWord_4 : decode b_Tokens_scanWord 4 = .ok (.istore 5, 2) := dc_54 (by decide +kernel)
theorem d_Tokens_scanWord_6 : decode b_Tokens_scanWord 6 = .ok (.iload 5, 2) := dc_21 (by decide +kernel)
theorem d_Tokens_scanWord_8 : decode b_Tokens_scanWord 8 = .ok (.iload_n 3, 1) := dc_29 (by decide +kernel)
theorem d_Tokens_scanWord_9 : decode b_Tokens_scanWord 9 = .ok (.if_icmp .ge 55, 3) := dc_162 (by decide +kernel)
theorem d_Tokens_scanWord_12 : decode b_Tokens_scanWord 12 = .ok (.aload_n 1, 1) := dc_43 (by decide +kernel)
theorem d_Tokens_scanWord_13 : decode b_Tokens_scanWord 13 = .ok (.iload 5, 2) := dc_21 (by decide +kernel)
theorem d_Tokens_scanWord_15 : decode b_Tokens_scanWord 15 = .ok (.invokestatic 25, 3) := dc_184 (by decide +kernel)
theorem d_Tokens_scanWord_18 : decode b_Tokens_scanWord 18 = .ok (.invokestatic 29, 3) := dc_184 (by decide +kernel)
theorem d_Tokens_scanWord_21 : decode b_Tokens_scanWord 21 = .ok (.ifCond .eq 43, 3) := dc_153 (by decide +kernel)
theorem d_Tokens_scanWord_24 : decode b_Tokens_scanWord 24 = .ok (.iload 5, 2) := dc_21 (by decide +kernel)
theorem d_Tokens_scanWord_26 : decode b_Tokens_scanWord 26 = .ok (.iload_n 2, 1) := dc_28 (by decide +kernel)
theorem d_Tokens_scanWord_27 : decode b_Tokens_scanWord 27 = .ok (.isub, 1) := dc_100 (by decide +kernel)
theorem d_Tokens_scanWord_28 : decode b_Tokens_scanWord 28 = .ok (.bipush 6, 2) := dc_16 (by decide +kernel)
theorem d_Tokens_scanWord_30 : decode b_Tokens_scanWord 30 = .ok (.if_icmp .ge 28, 3) := dc_162 (by decide +kernel)
theorem d_Tokens_scanWord_33 : decode b_Tokens_scanWord 33 = .ok (.iload 4, 2) := dc_21 (by decide +kernel)
theorem d_Tokens_scanWord_35 : decode b_Tokens_scanWord 35 = .ok (.aload_n 1, 1) := dc_43 (by decide +kernel)
theorem d_Tokens_scanWord_36 : decode b_Tokens_scanWord 36 = .ok (.iload 5, 2) := dc_21 (by decide +kernel)
theorem d_Tokens_scanWord_38 : decode b_Tokens_scanWord 38 = .ok (.invokestatic 25, 3) := dc_184 (by decide +kernel)
theorem d_Tokens_scanWord_41 : decode b_Tokens_scanWord 41 = .ok (.bipush 97, 2) := dc_16 (by decide +kernel)
theorem d_Tokens_scanWord_43 : decode b_Tokens_scanWord 43 = .ok (.isub, 1) := dc_100 (by decide +kernel)
theorem d_Tokens_scanWord_44 : decode b_Tokens_scanWord 44 = .ok (.iconst 1, 1) := dc_4 (by decide +kernel)
theorem d_Tokens_scanWord_45 : decode b_Tokens_scanWord 45 = .ok (.iadd, 1) := dc_96 (by decide +kernel)
theorem d_Tokens_scanWord_46 : decode b_Tokens_scanWord 46 = .ok (.iconst 5, 1) := dc_8 (by decide +kernel)
theorem d_Tokens_scanWord_47 : decode b_Tokens_scanWord 47 = .ok (.iconst 5, 1) := dc_8 (by decide +kernel)
theorem d_Tokens_scanWord_48 : decode b_Tokens_scanWord 48 = .ok (.iload 5, 2) := dc_21 (by decide +kernel)
theorem d_Tokens_scanWord_50 : decode b_Tokens_scanWord 50 = .ok (.iload_n 2, 1) := dc_28 (by decide +kernel)
theorem d_Tokens_scanWord_51 : decode b_Tokens_scanWord 51 = .ok (.isub, 1) := dc_100 (by decide +kernel)
theorem d_Tokens_scanWord_52 : decode b_Tokens_scanWord 52 = .ok (.isub, 1) := dc_100 (by decide +kernel)
theorem d_Tokens_scanWord_53 : decode b_Tokens_scanWord 53 = .ok (.imul, 1) := dc_104 (by decide +kernel)
theorem d_Tokens_scanWord_54 : decode b_Tokens_scanWord 54 = .ok (.ishl, 1) := dc_120 (by decide +kernel)
theorem d_Tokens_scanWord_55 : decode b_Tokens_scanWord 55 = .ok (.ior, 1) := dc_128 (by decide +kernel)
theorem d_Tokens_scanWord_56 : decode b_Tokens_scanWord 56 = .ok (.istore 4, 2) := dc_54 (by decide +kernel)
theorem d_Tokens_scanWord_58 : decode b_Tokens_scanWord 58 = .ok (.iinc 5 1, 3) := dc_132 (by decide +kernel)
theorem d_Tokens_scanWord_61 : decode b_Tokens_scanWord 61 = .ok (.goto (-55), 3) := dc_167 (by decide +kernel)
theorem d_Tokens_scanWord_64 : decode b_Tokens_scanWord 64 = .ok (.aload_n 1, 1) := dc_43 (by decide +kernel)
theorem d_Tokens_scanWord_65 : decode b_Tokens_scanWord 65 = .ok (.iload_n 2, 1) := dc_28 (by decide +kernel)
theorem d_Tokens_scanWord_66 : decode b_Tokens_scanWord 66 = .ok (.iload 5, 2) := dc_21 (by decide +kernel)
theorem d_Tokens_scanWord_68 : decode b_Tokens_scanWord 68 = .ok (.iload_n 2, 1) := dc_28 (by decide +kernel)
theorem d_Tokens_scanWord_69 : decode b_Tokens_scanWord 69 = .ok (.isub, 1) := dc_100 (by decide +kernel)
theorem d_Tokens_scanWord_70 : decode b_Tokens_scanWord 70 = .ok (.invokestatic 55, 3) := dc_184 (by decide +kernel)
theorem d_Tokens_scanWord_73 : decode b_Tokens_scanWord 73 = .ok (.istore 6, 2) := dc_54 (by decide +kernel)
theorem d_Tokens_scanWord_75 : decode b_Tokens_scanWord 75 = .ok (.iload 6, 2) := dc_21 (by decide +kernel)
theorem d_Tokens_scanWord_77 : decode b_Tokens_scanWord 77 = .ok (.ifCond .lt 14, 3) := dc_155 (by decide +kernel)
theorem d_Tokens_scanWord_80 : decode b_Tokens_scanWord 80 = .ok (.aload_n 0, 1) := dc_42 (by decide +kernel)
theorem d_Tokens_scanWord_81 : decode b_Tokens_scanWord 81 = .ok (.iload 6, 2) := dc_21 (by decide +kernel)
theorem d_Tokens_scanWord_83 : decode b_Tokens_scanWord 83 = .ok (.iconst 0, 1) := dc_3 (by decide +kernel)
theorem d_Tokens_scanWord_84 : decode b_Tokens_scanWord 84 = .ok (.iload_n 2, 1) := dc_28 (by decide +kernel)
theorem d_Tokens_scanWord_85 : decode b_Tokens_scanWord 85 = .ok (.invokevirtual 47, 3) := dc_182 (by decide +kernel)
theorem d_Tokens_scanWord_88 : decode b_Tokens_scanWord 88 = .ok (.goto 26, 3) := dc_167 (by decide +kernel)
theorem d_Tokens_scanWord_91 : decode b_Tokens_scanWord 91 = .ok (.aload_n 0, 1) := dc_42 (by decide +kernel)
theorem d_Tokens_scanWord_92 : decode b_Tokens_scanWord 92 = .ok (.iload 5, 2) := dc_21 (by decide +kernel)
theorem d_Tokens_scanWord_94 : decode b_Tokens_scanWord 94 = .ok (.iload_n 2, 1) := dc_28 (by decide +kernel)
theorem d_Tokens_scanWord_95 : decode b_Tokens_scanWord 95 = .ok (.isub, 1) := dc_100 (by decide +kernel)
theorem d_Tokens_scanWord_96 : decode b_Tokens_scanWord 96 = .ok (.bipush 6, 2) := dc_16 (by decide +kernel)
theorem d_Tokens_scanWord_98 : decode b_Tokens_scanWord 98 = .ok (.if_icmp .le 8, 3) := dc_164 (by decide +kernel)
theorem d_Tokens_scanWord_101 : decode b_Tokens_scanWord 101 = .ok (.bipush 33, 2) := dc_16 (by decide +kernel)
theorem d_Tokens_scanWord_103 : decode b_Tokens_scanWord 103 = .ok (.goto 5, 3) := dc_167 (by decide +kernel)
theorem d_Tokens_scanWord_106 : decode b_Tokens_scanWord 106 = .ok (.bipush 30, 2) := dc_16 (by decide +kernel)
theorem d_Tokens_scanWord_108 : decode b_Tokens_scanWord 108 = .ok (.iload 4, 2) := dc_21 (by decide +kernel)
theorem d_Tokens_scanWord_110 : decode b_Tokens_scanWord 110 = .ok (.iload_n 2, 1) := dc_28 (by decide +kernel)
theorem d_Tokens_scanWord_111 : decode b_Tokens_scanWord 111 = .ok (.invokevirtual 47, 3) := dc_182 (by decide +kernel)
theorem d_Tokens_scanWord_114 : decode b_Tokens_scanWord 114 = .ok (.iload 5, 2) := dc_21 (by decide +kernel)
theorem d_Tokens_scanWord_116 : decode b_Tokens_scanWord 116 = .ok (.ireturn, 1) := dc_172 (by decide +kernel)
def t_Tokens_scanWord_L58 (r1 : Nat) (N1 : Nat) (x2 : Int) (x3 : Int) (bk6 : Mem → Int → Int → Option (Mem × Int)) (M : Mem) (v4_ : Int) (v5_ : Int) : Option (Mem × Int) := (bk6 M v4_ (w32 (v5_ + 1)))
def t_Tokens_scanWord_L108 (r1 : Nat) (N1 : Nat) (x2 : Int) (x3 : Int)  (M : Mem) (v1_ : Int) (v2_ : Int) (v4_ : Int) : Option (Mem × Int) := (qlet (t_Tokens_add M v4_ v1_ x2) fun q16 => (some (q16, v2_)))
def t_Tokens_scanWord_L64 (r1 : Nat) (N1 : Nat) (x2 : Int) (x3 : Int)  (M : Mem) (v3_ : Int) (v4_ : Int) : Option (Mem × Int) := (obind (t_Tokens_wordOf M r1 N1 x2 (w32 (v4_ - x2))) fun q10 => (if q10 < 0 then (if (w32 (v4_ - x2)) ≤ 6 then (t_Tokens_scanWord_L108 r1 N1 x2 x3 M v3_ v4_ 30) else (t_Tokens_scanWord_L108 r1 N1 x2 x3 M v3_ v4_ 33)) else (qlet (t_Tokens_add M q10 0 x2) fun q14 => (some (q14, v4_)))))
def t_Tokens_scanWord_L6 (r1 : Nat) (N1 : Nat) (x2 : Int) (x3 : Int)  : Nat → Mem → Int → Int → Option (Mem × Int)
  | 0, _, _, _ => none
  | fu + 1, M, v4_, v5_ => (if x3 ≤ v5_ then (t_Tokens_scanWord_L64 r1 N1 x2 x3 M v4_ v5_) else (qlet (t_WF_look M r1 N1 v5_) fun q2 => (qlet (t_Tokens_isLetter M q2) fun q4 => (if q4 = 0 then (t_Tokens_scanWord_L64 r1 N1 x2 x3 M v4_ v5_) else (if 6 ≤ (w32 (v5_ - x2)) then (t_Tokens_scanWord_L58 r1 N1 x2 x3 (fun a0_ a1_ a2_ => t_Tokens_scanWord_L6 r1 N1 x2 x3 fu a0_ a1_ a2_) M v4_ v5_) else (qlet (t_WF_look M r1 N1 v5_) fun q8 => (t_Tokens_scanWord_L58 r1 N1 x2 x3 (fun a0_ a1_ a2_ => t_Tokens_scanWord_L6 r1 N1 x2 x3 fu a0_ a1_ a2_) M (q_or v4_ (q_shl (w32 ((w32 (q8 - 97)) + 1)) (w32 (5 * (w32 (5 - (w32 (v5_ - x2)))))))) v5_)))))))
def t_Tokens_scanWord (M : Mem) (r1 : Nat) (N1 : Nat) (x2 : Int) (x3 : Int) : Option (Mem × Int) := (t_Tokens_scanWord_L6 r1 N1 x2 x3 FU M 0 x2)
set_option maxHeartbeats 4000000 in
set_option maxRecDepth 100000 in
theorem k_Tokens_scanWord_L58 (l : Launch) {p : Program} {e : Env} {s : State} {m : MethodId} {below : List Frame} {meth : Method} {c : Code} {b n : Nat} {C : CT} (hlo : 191 ≤ n) (r1 : Nat) (N1 : Nat) (x2 : Int) (x3 : Int) (hr1 : arrP 0 r1 N1 191) (hx2 : InR x2) (hx3 : InR x3) (F : Cx b p m c b_Tokens_scanWord 7 s ([.ref (b + 42), .ref (b + r1), vI x2, vI x3] : List Value).toArray "WardFalls$Tokens" C n 191) (hlk : meth.locks = false) (hr : meth.sig.returnType = some .int) {res : Mem × Int} (bk6 : Mem → Int → Int → Option (Mem × Int)) (hbk6 : ∀ (M : Mem) (v4_ : Int) (hv4_ : InR v4_) (v5_ : Int) (hv5_ : InR v5_) (H : Heap) (locs : List Loc) (ls : Array Slot), St b C n M s H locs → lv_has ls 7 [(0, .ref (b + 42)), (1, .ref (b + r1)), (2, vI x2), (3, vI x3), (4, vI v4_), (5, vI v5_)] → bk6 M v4_ v5_ = some res → W p l e (headSpec (wsM y_Tokens_scanWord b_Tokens_scanWord 7 (some .int)) (rmD 6)).room s m ([.ref (b + 42), .ref (b + r1), vI x2, vI x3] : List Value).toArray below meth c H locs 0 0 (MQ below (QI b C n res.1 res.2) ([.ref (b + 42), .ref (b + r1), vI x2, vI x3] : List Value).toArray s 0 0 (frb b)) (F0 m 6 ls [])) (M : Mem) (v4_ : Int) (hv4_ : InR v4_) (v5_ : Int) (hv5_ : InR v5_) (H : Heap) (locs : List Loc) (ls : Array Slot) (hS : St b C n M s H locs) (hl : lv_has ls 7 [(0, .ref (b + 42)), (1, .ref (b + r1)), (2, vI x2), (3, vI x3), (4, vI v4_), (5, vI v5_)]) (hT : t_Tokens_scanWord_L58 r1 N1 x2 x3 bk6 M v4_ v5_ = some res) : W p l e (headSpec (wsM y_Tokens_scanWord b_Tokens_scanWord 7 (some .int)) (rmD 6)).room s m ([.ref (b + 42), .ref (b + r1), vI x2, vI x3] : List Value).toArray below meth c H locs 0 0 (MQ below (QI b C n res.1 res.2) ([.ref (b + 42), .ref (b + r1), vI x2, vI x3] : List Value).toArray s 0 0 (frb b)) (F0 m 58 ls []) := by
  unfold t_Tokens_scanWord_L58 at hT
  refine lv_iinc (v := Int32.ofInt (w32 (v5_ + 1))) (lv' := [(5, vI (w32 (v5_ + 1))), (0, .ref (b + 42)), (1, .ref (b + r1)), (2, vI x2), (3, vI x3), (4, vI v4_)]) F.hx F.hb d_Tokens_scanWord_58 hl (k := 5) rfl (q_of_add _ _) (Nat.le_of_ble_eq_true rfl) rfl (fun ls hl => ?_)
  refine lv_goto (tgt := 6) F.hx F.hb d_Tokens_scanWord_61 (by decide) ?_
  exact hbk6 M v4_ hv4_ (w32 (v5_ + 1)) (inr_w32 _) _ _ _ hS (lv_sub hl [1, 2, 3, 4, 5, 0] rfl) hT
set_option maxHeartbeats 4000000 in
set_option maxRecDepth 100000 in
theorem k_Tokens_scanWord_L108 (l : Launch) {p : Program} {e : Env} {s : State} {m : MethodId} {below : List Frame} {meth : Method} {c : Code} {b n : Nat} {C : CT} (hlo : 191 ≤ n) (r1 : Nat) (N1 : Nat) (x2 : Int) (x3 : Int) (hr1 : arrP 0 r1 N1 191) (hx2 : InR x2) (hx3 : InR x3) (F : Cx b p m c b_Tokens_scanWord 7 s ([.ref (b + 42), .ref (b + r1), vI x2, vI x3] : List Value).toArray "WardFalls$Tokens" C n 191) (hlk : meth.locks = false) (hr : meth.sig.returnType = some .int) {res : Mem × Int} (M : Mem) (v1_ : Int) (hv1_ : InR v1_) (v2_ : Int) (hv2_ : InR v2_) (v4_ : Int) (hv4_ : InR v4_) (H : Heap) (locs : List Loc) (ls : Array Slot) (hS : St b C n M s H locs) (hl : lv_has ls 7 [(2, vI x2), (4, vI v1_), (5, vI v2_)]) (hT : t_Tokens_scanWord_L108 r1 N1 x2 x3 M v1_ v2_ v4_ = some res) : W p l e (headSpec (wsM y_Tokens_scanWord b_Tokens_scanWord 7 (some .int)) (rmD 6)).room s m ([.ref (b + 42), .ref (b + r1), vI x2, vI x3] : List Value).toArray below meth c H locs 0 0 (MQ below (QI b C n res.1 res.2) ([.ref (b + 42), .ref (b + r1), vI x2, vI x3] : List Value).toArray s 0 0 (frb b)) (F0 m 108 ls [vI v4_, .ref (b + 42)]) := by
  unfold t_Tokens_scanWord_L108 at hT
  refine lv_iload F.hx F.hb d_Tokens_scanWord_108 (lv_at hl 1 rfl) ?_
  refine lv_iload_n F.hx F.hb d_Tokens_scanWord_110 rfl (lv_at hl 0 rfl) ?_
  obtain ⟨q16, hq16⟩ : ∃ q, q = (t_Tokens_add M v4_ v1_ x2) := ⟨_, rfl⟩
  replace hT := qlet_eq hT hq16
  refine r_backV F hS (r_runV (k := 42) (N := 4) (T := T10) (As := [vI v4_, vI v1_, vI x2]) F hS (show 42 < 191 by decide) (show shK 42 = 14 from rfl) rfl (c_Tokens_add l F.2.2.1 M v4_ v1_ x2 hv4_ hv1_ hx2 _ hq16.symm) gs_Tokens_47 hd_Tokens_add ⟨Nat.le_of_ble_eq_true rfl, Nat.le_of_ble_eq_true rfl⟩ rfl hl.1 (Nat.le_of_ble_eq_true rfl) ⟨Nat.zero_le _, Nat.zero_le _⟩ rfl d_Tokens_scanWord_111) (fun H locs hS => ?_)
  refine lv_iload F.hx F.hb d_Tokens_scanWord_114 (lv_at hl 2 rfl) ?_
  cases hT
  exact r_iret F hlk hr rfl hS hv2_ d_Tokens_scanWord_116
set_option maxHeartbeats 4000000 in
set_option maxRecDepth 100000 in
theorem k_Tokens_scanWord_L64 (l : Launch) {p : Program} {e : Env} {s : State} {m : MethodId} {below : List Frame} {meth : Method} {c : Code} {b n : Nat} {C : CT} (hlo : 191 ≤ n) (r1 : Nat) (N1 : Nat) (x2 : Int) (x3 : Int) (hr1 : arrP 0 r1 N1 191) (hx2 : InR x2) (hx3 : InR x3) (F : Cx b p m c b_Tokens_scanWord 7 s ([.ref (b + 42), .ref (b + r1), vI x2, vI x3] : List Value).toArray "WardFalls$Tokens" C n 191) (hlk : meth.locks = false) (hr : meth.sig.returnType = some .int) {res : Mem × Int} (M : Mem) (v3_ : Int) (hv3_ : InR v3_) (v4_ : Int) (hv4_ : InR v4_) (H : Heap) (locs : List Loc) (ls : Array Slot) (hS : St b C n M s H locs) (hl : lv_has ls 7 [(0, .ref (b + 42)), (1, .ref (b + r1)), (2, vI x2), (4, vI v3_), (5, vI v4_)]) (hT : t_Tokens_scanWord_L64 r1 N1 x2 x3 M v3_ v4_ = some res) : W p l e (headSpec (wsM y_Tokens_scanWord b_Tokens_scanWord 7 (some .int)) (rmD 6)).room s m ([.ref (b + 42), .ref (b + r1), vI x2, vI x3] : List Value).toArray below meth c H locs 0 0 (MQ below (QI b C n res.1 res.2) ([.ref (b + 42), .ref (b + r1), vI x2, vI x3] : List Value).toArray s 0 0 (frb b)) (F0 m 64 ls []) := by
  unfold t_Tokens_scanWord_L64 at hT
  refine lv_aload_n F.hx F.hb d_Tokens_scanWord_64 rfl (lv_at hl 1 rfl) ?_
  refine lv_iload_n F.hx F.hb d_Tokens_scanWord_65 rfl (lv_at hl 2 rfl) ?_
  refine lv_iload F.hx F.hb d_Tokens_scanWord_66 (lv_at hl 4 rfl) ?_
  refine lv_iload_n F.hx F.hb d_Tokens_scanWord_68 rfl (lv_at hl 2 rfl) ?_
  refine r_isub F.hx F.hb d_Tokens_scanWord_69 ?_
  obtain ⟨q10, hq10, hT⟩ := q_obind hT
  refine r_backI F hS (r_runS (As := [.ref (b + r1), vI x2, vI (w32 (v4_ - x2))]) F hS (c_Tokens_wordOf l F.2.2.1 M r1 N1 x2 (w32 (v4_ - x2)) hr1 hx2 (inr_w32 _) _ hq10) gs_Tokens_55 hd_Tokens_wordOf ⟨Nat.le_of_ble_eq_true rfl, Nat.le_of_ble_eq_true rfl⟩ rfl hl.1 (Nat.le_of_ble_eq_true rfl) ⟨Nat.zero_le _, Nat.zero_le _⟩ rfl d_Tokens_scanWord_70) (fun H locs hS h11 => ?_)
  refine lv_istore (lv' := [(6, vI q10), (0, .ref (b + 42)), (1, .ref (b + r1)), (2, vI x2), (4, vI v3_), (5, vI v4_)]) F.hx F.hb d_Tokens_scanWord_73 hl (Nat.le_of_ble_eq_true rfl) rfl (fun ls hl => ?_)
  refine lv_iload F.hx F.hb d_Tokens_scanWord_75 (lv_at hl 0 rfl) ?_
  refine r_if_lt (tgt := 91) F.hx F.hb h11 d_Tokens_scanWord_77 (by decide) (fun c12 => ?_) (fun c12 => ?_)
  · replace hT := (if_pos c12).symm.trans hT
    refine lv_aload_n F.hx F.hb d_Tokens_scanWord_91 rfl (lv_at hl 1 rfl) ?_
    refine lv_iload F.hx F.hb d_Tokens_scanWord_92 (lv_at hl 5 rfl) ?_
    refine lv_iload_n F.hx F.hb d_Tokens_scanWord_94 rfl (lv_at hl 3 rfl) ?_
    refine r_isub F.hx F.hb d_Tokens_scanWord_95 ?_
    refine r_bipush F.hx F.hb d_Tokens_scanWord_96 rfl ?_
    refine r_icmp_le (tgt := 106) F.hx F.hb (inr_w32 _) (inr_c rfl) d_Tokens_scanWord_98 (by decide) (fun c13 => ?_) (fun c13 => ?_)
    · replace hT := (if_pos c13).symm.trans hT
      refine r_bipush F.hx F.hb d_Tokens_scanWord_106 rfl ?_
      exact k_Tokens_scanWord_L108 l hlo r1 N1 x2 x3 hr1 hx2 hx3 F hlk hr M v3_ hv3_ v4_ hv4_ 30 (inr_c rfl) _ _ _ hS (lv_sub hl [3, 4, 5] rfl) hT
    · replace hT := (if_neg c13).symm.trans hT
      refine r_bipush F.hx F.hb d_Tokens_scanWord_101 rfl ?_
      refine lv_goto (tgt := 108) F.hx F.hb d_Tokens_scanWord_103 (by decide) ?_
      exact k_Tokens_scanWord_L108 l hlo r1 N1 x2 x3 hr1 hx2 hx3 F hlk hr M v3_ hv3_ v4_ hv4_ 33 (inr_c rfl) _ _ _ hS (lv_sub hl [3, 4, 5] rfl) hT
  · replace hT := (if_neg c12).symm.trans hT
    refine lv_aload_n F.hx F.hb d_Tokens_scanWord_80 rfl (lv_at hl 1 rfl) ?_
    refine lv_iload F.hx F.hb d_Tokens_scanWord_81 (lv_at hl 0 rfl) ?_
    refine r_iconst F.hx F.hb d_Tokens_scanWord_83 ?_
    refine lv_iload_n F.hx F.hb d_Tokens_scanWord_84 rfl (lv_at hl 3 rfl) ?_
    obtain ⟨q14, hq14⟩ : ∃ q, q = (t_Tokens_add M q10 0 x2) := ⟨_, rfl⟩
    replace hT := qlet_eq hT hq14
    refine r_backV F hS (r_runV (k := 42) (N := 4) (T := T10) (As := [vI q10, vI 0, vI x2]) F hS (show 42 < 191 by decide) (show shK 42 = 14 from rfl) rfl (c_Tokens_add l F.2.2.1 M q10 0 x2 h11 (inr_c rfl) hx2 _ hq14.symm) gs_Tokens_47 hd_Tokens_add ⟨Nat.le_of_ble_eq_true rfl, Nat.le_of_ble_eq_true rfl⟩ rfl hl.1 (Nat.le_of_ble_eq_true rfl) ⟨Nat.zero_le _, Nat.zero_le _⟩ rfl d_Tokens_scanWord_85) (fun H locs hS => ?_)
    refine lv_goto (tgt := 114) F.hx F.hb d_Tokens_scanWord_88 (by decide) ?_
    refine lv_iload F.hx F.hb d_Tokens_scanWord_114 (lv_at hl 5 rfl) ?_
    cases hT
    exact r_iret F hlk hr rfl hS hv4_ d_Tokens_scanWord_116
set_option maxHeartbeats 4000000 in
set_option maxRecDepth 100000 in
theorem k_Tokens_scanWord_L6 (l : Launch) {p : Program} {e : Env} {s : State} {m : MethodId} {below : List Frame} {meth : Method} {c : Code} {b n : Nat} {C : CT} (hlo : 191 ≤ n) (r1 : Nat) (N1 : Nat) (x2 : Int) (x3 : Int) (hr1 : arrP 0 r1 N1 191) (hx2 : InR x2) (hx3 : InR x3) (F : Cx b p m c b_Tokens_scanWord 7 s ([.ref (b + 42), .ref (b + r1), vI x2, vI x3] : List Value).toArray "WardFalls$Tokens" C n 191) (hlk : meth.locks = false) (hr : meth.sig.returnType = some .int) {res : Mem × Int} : ∀ (fu : Nat) (M : Mem) (v4_ : Int) (hv4_ : InR v4_) (v5_ : Int) (hv5_ : InR v5_) (H : Heap) (locs : List Loc) (ls : Array Slot), St b C n M s H locs → lv_has ls 7 [(0, .ref (b + 42)), (1, .ref (b + r1)), (2, vI x2), (3, vI x3), (4, vI v4_), (5, vI v5_)] → t_Tokens_scanWord_L6 r1 N1 x2 x3 fu M v4_ v5_ = some res → W p l e (headSpec (wsM y_Tokens_scanWord b_Tokens_scanWord 7 (some .int)) (rmD 6)).room s m ([.ref (b + 42), .ref (b + r1), vI x2, vI x3] : List Value).toArray below meth c H locs 0 0 (MQ below (QI b C n res.1 res.2) ([.ref (b + 42), .ref (b + r1), vI x2, vI x3] : List Value).toArray s 0 0 (frb b)) (F0 m 6 ls []) := by
  intro fu
  induction fu with
  | zero => intro M v4_ hv4_ v5_ hv5_ H locs ls hS hl hT; exact absurd hT (by simp [t_Tokens_scanWord_L6])
  | succ fu ih =>
    intro M v4_ hv4_ v5_ hv5_ H locs ls hS hl hT
    rw [t_Tokens_scanWord_L6] at hT
    refine lv_iload F.hx F.hb d_Tokens_scanWord_6 (lv_at hl 5 rfl) ?_
    refine lv_iload_n F.hx F.hb d_Tokens_scanWord_8 rfl (lv_at hl 3 rfl) ?_
    refine r_icmp_ge (tgt := 64) F.hx F.hb hv5_ hx3 d_Tokens_scanWord_9 (by decide) (fun c1 => ?_) (fun c1 => ?_)
    · replace hT := (if_pos c1).symm.trans hT
      exact k_Tokens_scanWord_L64 l hlo r1 N1 x2 x3 hr1 hx2 hx3 F hlk hr M v4_ hv4_ v5_ hv5_ _ _ _ hS (lv_sub hl [0, 1, 2, 4, 5] rfl) hT
    · replace hT := (if_neg c1).symm.trans hT
      refine lv_aload_n F.hx F.hb d_Tokens_scanWord_12 rfl (lv_at hl 1 rfl) ?_
      refine lv_iload F.hx F.hb d_Tokens_scanWord_13 (lv_at hl 5 rfl) ?_
      obtain ⟨q2, hq2⟩ : ∃ q, q = (t_WF_look M r1 N1 v5_) := ⟨_, rfl⟩
      replace hT := qlet_eq hT hq2
      refine r_backI F hS (r_runSN (As := [.ref (b + r1), vI v5_]) F hS (c_WF_look l F.2.2.1 M r1 N1 v5_ hr1 hv5_ _ hq2.symm) mw_519 mw_518 mw_1 gs_Tokens_25 hd_WF_look ⟨Nat.le_of_ble_eq_true rfl, Nat.le_of_ble_eq_true rfl⟩ rfl hl.1 (Nat.le_of_ble_eq_true rfl) ⟨Nat.zero_le _, Nat.zero_le _⟩ rfl d_Tokens_scanWord_15) (fun H locs hS h3 => ?_)
      obtain ⟨q4, hq4⟩ : ∃ q, q = (t_Tokens_isLetter M q2) := ⟨_, rfl⟩
      replace hT := qlet_eq hT hq4
      refine r_backZ F hS (r_runS (As := [vI q2]) F hS (c_Tokens_isLetter l F.2.2.1 M q2 h3 _ hq4.symm) gs_Tokens_29 hd_Tokens_isLetter ⟨Nat.le_of_ble_eq_true rfl, Nat.le_of_ble_eq_true rfl⟩ rfl hl.1 (Nat.le_of_ble_eq_true rfl) ⟨Nat.zero_le _, Nat.zero_le _⟩ rfl d_Tokens_scanWord_18) (fun H locs hS h5 => ?_)
      refine r_if_eq (tgt := 64) F.hx F.hb (inr_z h5) d_Tokens_scanWord_21 (by decide) (fun c6 => ?_) (fun c6 => ?_)
      · replace hT := (if_pos c6).symm.trans hT
        exact k_Tokens_scanWord_L64 l hlo r1 N1 x2 x3 hr1 hx2 hx3 F hlk hr M v4_ hv4_ v5_ hv5_ _ _ _ hS (lv_sub hl [0, 1, 2, 4, 5] rfl) hT
      · replace hT := (if_neg c6).symm.trans hT
        refine lv_iload F.hx F.hb d_Tokens_scanWord_24 (lv_at hl 5 rfl) ?_
        refine lv_iload_n F.hx F.hb d_Tokens_scanWord_26 rfl (lv_at hl 2 rfl) ?_
        refine r_isub F.hx F.hb d_Tokens_scanWord_27 ?_
        refine r_bipush F.hx F.hb d_Tokens_scanWord_28 rfl ?_
        refine r_icmp_ge (tgt := 58) F.hx F.hb (inr_w32 _) (inr_c rfl) d_Tokens_scanWord_30 (by decide) (fun c7 => ?_) (fun c7 => ?_)
        · replace hT := (if_pos c7).symm.trans hT
          exact k_Tokens_scanWord_L58 l hlo r1 N1 x2 x3 hr1 hx2 hx3 F hlk hr (fun a0_ a1_ a2_ => t_Tokens_scanWord_L6 r1 N1 x2 x3 fu a0_ a1_ a2_) ih M v4_ hv4_ v5_ hv5_ _ _ _ hS (lv_sub hl [0, 1, 2, 3, 4, 5] rfl) hT
        · replace hT := (if_neg c7).symm.trans hT
          refine lv_iload F.hx F.hb d_Tokens_scanWord_33 (lv_at hl 4 rfl) ?_
          refine lv_aload_n F.hx F.hb d_Tokens_scanWord_35 rfl (lv_at hl 1 rfl) ?_
          refine lv_iload F.hx F.hb d_Tokens_scanWord_36 (lv_at hl 5 rfl) ?_
          obtain ⟨q8, hq8⟩ : ∃ q, q = (t_WF_look M r1 N1 v5_) := ⟨_, rfl⟩
          replace hT := qlet_eq hT hq8
          refine r_backI F hS (r_runSN (As := [.ref (b + r1), vI v5_]) F hS (c_WF_look l F.2.2.1 M r1 N1 v5_ hr1 hv5_ _ hq8.symm) mw_519 mw_518 mw_1 gs_Tokens_25 hd_WF_look ⟨Nat.le_of_ble_eq_true rfl, Nat.le_of_ble_eq_true rfl⟩ rfl hl.1 (Nat.le_of_ble_eq_true rfl) ⟨Nat.zero_le _, Nat.zero_le _⟩ rfl d_Tokens_scanWord_38) (fun H locs hS h9 => ?_)
          refine r_bipush F.hx F.hb d_Tokens_scanWord_41 rfl ?_
          refine r_isub F.hx F.hb d_Tokens_scanWord_43 ?_
          refine r_iconst F.hx F.hb d_Tokens_scanWord_44 ?_
          refine r_iadd F.hx F.hb d_Tokens_scanWord_45 ?_
          refine r_iconst F.hx F.hb d_Tokens_scanWord_46 ?_
          refine r_iconst F.hx F.hb d_Tokens_scanWord_47 ?_
          refine lv_iload F.hx F.hb d_Tokens_scanWord_48 (lv_at hl 5 rfl) ?_
          refine lv_iload_n F.hx F.hb d_Tokens_scanWord_50 rfl (lv_at hl 2 rfl) ?_
          refine r_isub F.hx F.hb d_Tokens_scanWord_51 ?_
          refine r_isub F.hx F.hb d_Tokens_scanWord_52 ?_
          refine r_imul F.hx F.hb d_Tokens_scanWord_53 ?_
          refine r_ishl F.hx F.hb d_Tokens_scanWord_54 ?_
          refine r_ior F.hx F.hb d_Tokens_scanWord_55 ?_
          refine lv_istore (lv' := [(4, vI (q_or v4_ (q_shl (w32 ((w32 (q8 - 97)) + 1)) (w32 (5 * (w32 (5 - (w32 (v5_ - x2))))))))), (0, .ref (b + 42)), (1, .ref (b + r1)), (2, vI x2), (3, vI x3), (5, vI v5_)]) F.hx F.hb d_Tokens_scanWord_56 hl (Nat.le_of_ble_eq_true rfl) rfl (fun ls hl => ?_)
          exact k_Tokens_scanWord_L58 l hlo r1 N1 x2 x3 hr1 hx2 hx3 F hlk hr (fun a0_ a1_ a2_ => t_Tokens_scanWord_L6 r1 N1 x2 x3 fu a0_ a1_ a2_) ih M (q_or v4_ (q_shl (w32 ((w32 (q8 - 97)) + 1)) (w32 (5 * (w32 (5 - (w32 (v5_ - x2)))))))) (q_inr_toInt _) v5_ hv5_ _ _ _ hS (lv_sub hl [1, 2, 3, 4, 0, 5] rfl) hT
set_option maxHeartbeats 4000000 in
set_option maxRecDepth 100000 in
theorem c_Tokens_scanWord (l : Launch) {b n : Nat} {C : CT} (hlo : 191 ≤ n) (M : Mem) (r1 : Nat) (N1 : Nat) (x2 : Int) (x3 : Int) (hr1 : arrP 0 r1 N1 191) (hx2 : InR x2) (hx3 : InR x3) (res : Mem × Int) (hT : t_Tokens_scanWord M r1 N1 x2 x3 = some res) : CM l b C n 6 y_Tokens_scanWord b_Tokens_scanWord 7 (some .int) [.ref (b + 42), .ref (b + r1), vI x2, vI x3] M (QI b C n res.1 res.2) := by
  refine CM.of (lo := 191) (ow := "WardFalls$Tokens") (by decide) rfl (Nat.le_of_ble_eq_true rfl) hlo (fun p e s m below meth c F hlk hr hS ls hl => ?_)
  have hl : lv_has ls 7 [(0, .ref (b + 42)), (1, .ref (b + r1)), (2, vI x2), (3, vI x3)] := hl
  unfold t_Tokens_scanWord at hT
  refine r_iconst F.hx F.hb d_Tokens_scanWord_0 ?_
  refine lv_istore (lv' := [(4, vI 0), (0, .ref (b + 42)), (1, .ref (b + r1)), (2, vI x2), (3, vI x3)]) F.hx F.hb d_Tokens_scanWord_1 hl (Nat.le_of_ble_eq_true rfl) rfl (fun ls hl => ?_)
  refine lv_iload_n F.hx F.hb d_Tokens_scanWord_3 rfl (lv_at hl 3 rfl) ?_
  refine lv_istore (lv' := [(5, vI x2), (4, vI 0), (0, .ref (b + 42)), (1, .ref (b + r1)), (2, vI x2), (3, vI x3)]) F.hx F.hb d_Tokens_scanWord_4 hl (Nat.le_of_ble_eq_true rfl) rfl (fun ls hl => ?_)
  exact k_Tokens_scanWord_L6 l hlo r1 N1 x2 x3 hr1 hx2 hx3 F hlk hr FU M 0 (inr_c rfl) x2 hx2 _ _ _ hS (lv_sub hl [2, 3, 4, 5, 1, 0] rfl) hT
theorem d_Tokens_isDigit_0 : decode b_Tokens_isDigit 0 = .ok (.iload_n 0, 1) := dc_26 (by decide +kernel)
theorem d_Tokens_isDigit_1 : decode b_Tokens_isDigit 1 = .ok (.bipush 48, 2) := dc_16 (by decide +kernel)
theorem d_Tokens_isDigit_3 : decode b_Tokens_isDigit 3 = .ok (.if_icmp .lt 13, 3) := dc_161 (by decide +kernel)
theorem d_Tokens_isDigit_6 : decode b_Tokens_isDigit 6 = .ok (.iload_n 0, 1) := dc_26 (by decide +kernel)
theorem d_Tokens_isDigit_7 : decode b_Tokens_isDigit 7 = .ok (.bipush 57, 2) := dc_16 (by decide +kernel)
theorem d_Tokens_isDigit_9 : decode b_Tokens_isDigit 9 = .ok (.if_icmp .gt 7, 3) := dc_163 (by decide +kernel)
theorem d_Tokens_isDigit_12 : decode b_Tokens_isDigit 12 = .ok (.iconst 1, 1) := dc_4 (by decide +kernel)
theorem d_Tokens_isDigit_13 : decode b_Tokens_isDigit 13 = .ok (.goto 4, 3) := dc_167 (by decide +kernel)
theorem d_Tokens_isDigit_16 : decode b_Tokens_isDigit 16 = .ok (.iconst 0, 1) := dc_3 (by decide +kernel)
theorem d_Tokens_isDigit_17 : decode b_Tokens_isDigit 17 = .ok (.ireturn, 1) := dc_172 (by decide +kernel)
def t_Tokens_isDigit (M : Mem) (x1 : Int) : Int := (if x1 < 48 then 0 else (if 57 < x1 then 0 else 1))
set_option maxHeartbeats 4000000 in
set_option maxRecDepth 100000 in
theorem c_Tokens_isDigit (l : Launch) {b n : Nat} {C : CT} (hlo : 191 ≤ n) (M : Mem) (x1 : Int) (hx1 : InR x1) (res : Int) (hT : t_Tokens_isDigit M x1 = res) : CM l b C n 0 y_Tokens_isDigit b_Tokens_isDigit 1 (some .boolean) [vI x1] M (QZ b C n M res) := by
  refine CM.of (lo := 191) (ow := "WardFalls$Tokens") (by decide) rfl (Nat.le_of_ble_eq_true rfl) hlo (fun p e s m below meth c F hlk hr hS ls hl => ?_)
  have hl : lv_has ls 1 [(0, vI x1)] := hl
  unfold t_Tokens_isDigit at hT
  refine lv_iload_n F.hx F.hb d_Tokens_isDigit_0 rfl (lv_at hl 0 rfl) ?_
  refine r_bipush F.hx F.hb d_Tokens_isDigit_1 rfl ?_
  refine r_icmp_lt (tgt := 16) F.hx F.hb hx1 (inr_c rfl) d_Tokens_isDigit_3 (by decide) (fun c1 => ?_) (fun c1 => ?_)
  · replace hT := (if_pos c1).symm.trans hT
    refine r_iconst F.hx F.hb d_Tokens_isDigit_16 ?_
    subst hT
    exact r_zret F hlk hr hS (Or.inl rfl) d_Tokens_isDigit_17
  · replace hT := (if_neg c1).symm.trans hT
    refine lv_iload_n F.hx F.hb d_Tokens_isDigit_6 rfl (lv_at hl 0 rfl) ?_
    refine r_bipush F.hx F.hb d_Tokens_isDigit_7 rfl ?_
    refine r_icmp_gt (tgt := 16) F.hx F.hb hx1 (inr_c rfl) d_Tokens_isDigit_9 (by decide) (fun c2 => ?_) (fun c2 => ?_)
    · replace hT := (if_pos c2).symm.trans hT
      refine r_iconst F.hx F.hb d_Tokens_isDigit_16 ?_
      subst hT
      exact r_zret F hlk hr hS (Or.inl rfl) d_Tokens_isDigit_17
    · replace hT := (if_neg c2).symm.trans hT
      refine r_iconst F.hx F.hb d_Tokens_isDigit_12 ?_
      refine lv_goto (tgt := 17) F.hx F.hb d_Tokens_isDigit_13 (by decide) ?_
      subst hT
      exact r_zret F hlk hr hS (Or.inr rfl) d_Tokens_isDigit_17
theorem d_Tokens_scanNumber_0 : decode b_Tokens_scanNumber 0 = .ok (.iconst 0, 1) := dc_3 (by decide +kernel)
theorem d_Tokens_scanNumber_1 : decode b_Tokens_scanNumber 1 = .ok (.istore 4, 2) := dc_54 (by decide +kernel)
theorem d_Tokens_scanNumber_3 : decode b_Tokens_scanNumber 3 = .ok (.iload_n 2, 1) := dc_28 (by decide +kernel)
theorem d_Tokens_scanNumber_4 : decode b_Tokens_scanNumber 4 = .ok (.istore 5, 2) := dc_54 (by decide +kernel)
theorem d_Tokens_scanNumber_6 : decode b_Tokens_scanNumber 6 = .ok (.iload 5, 2) := dc_21 (by decide +kernel)
theorem d_Tokens_scanNumber_8 : decode b_Tokens_scanNumber 8 = .ok (.iload_n 3, 1) := dc_29 (by decide +kernel)
theorem d_Tokens_scanNumber_9 : decode b_Tokens_scanNumber 9 = .ok (.if_icmp .ge 43, 3) := dc_162 (by decide +kernel)
theorem d_Tokens_scanNumber_12 : decode b_Tokens_scanNumber 12 = .ok (.aload_n 1, 1) := dc_43 (by decide +kernel)
theorem d_Tokens_scanNumber_13 : decode b_Tokens_scanNumber 13 = .ok (.iload 5, 2) := dc_21 (by decide +kernel)
theorem d_Tokens_scanNumber_15 : decode b_Tokens_scanNumber 15 = .ok (.invokestatic 25, 3) := dc_184 (by decide +kernel)
theorem d_Tokens_scanNumber_18 : decode b_Tokens_scanNumber 18 = .ok (.invokestatic 37, 3) := dc_184 (by decide +kernel)
theorem d_Tokens_scanNumber_21 : decode b_Tokens_scanNumber 21 = .ok (.ifCond .eq 31, 3) := dc_153 (by decide +kernel)
theorem d_Tokens_scanNumber_24 : decode b_Tokens_scanNumber 24 = .ok (.iload 4, 2) := dc_21 (by decide +kernel)
theorem d_Tokens_scanNumber_26 : decode b_Tokens_scanNumber 26 = .ok (.bipush 10, 2) := dc_16 (by decide +kernel)
theorem d_Tokens_scanNumber_28 : decode b_Tokens_scanNumber 28 = .ok (.imul, 1) := dc_104 (by decide +kernel)
theorem d_Tokens_scanNumber_29 : decode b_Tokens_scanNumber 29 = .ok (.aload_n 1, 1) := dc_43 (by decide +kernel)
theorem d_Tokens_scanNumber_30 : decode b_Tokens_scanNumber 30 = .ok (.iload 5, 2) := dc_21 (by decide +kernel)
theorem d_Tokens_scanNumber_32 : decode b_Tokens_scanNumber 32 = .ok (.invokestatic 25, 3) := dc_184 (by decide +kernel)
theorem d_Tokens_scanNumber_35 : decode b_Tokens_scanNumber 35 = .ok (.iadd, 1) := dc_96 (by decide +kernel)
theorem d_Tokens_scanNumber_36 : decode b_Tokens_scanNumber 36 = .ok (.bipush 48, 2) := dc_16 (by decide +kernel)
theorem d_Tokens_scanNumber_38 : decode b_Tokens_scanNumber 38 = .ok (.isub, 1) := dc_100 (by decide +kernel)
theorem d_Tokens_scanNumber_39 : decode b_Tokens_scanNumber 39 = .ok (.ldc 58, 2) := dc_18 (by decide +kernel)
theorem d_Tokens_scanNumber_41 : decode b_Tokens_scanNumber 41 = .ok (.invokestatic 59, 3) := dc_184 (by decide +kernel)
theorem d_Tokens_scanNumber_44 : decode b_Tokens_scanNumber 44 = .ok (.istore 4, 2) := dc_54 (by decide +kernel)
theorem d_Tokens_scanNumber_46 : decode b_Tokens_scanNumber 46 = .ok (.iinc 5 1, 3) := dc_132 (by decide +kernel)
theorem d_Tokens_scanNumber_49 : decode b_Tokens_scanNumber 49 = .ok (.goto (-43), 3) := dc_167 (by decide +kernel)
theorem d_Tokens_scanNumber_52 : decode b_Tokens_scanNumber 52 = .ok (.aload_n 0, 1) := dc_42 (by decide +kernel)
theorem d_Tokens_scanNumber_53 : decode b_Tokens_scanNumber 53 = .ok (.bipush 31, 2) := dc_16 (by decide +kernel)
theorem d_Tokens_scanNumber_55 : decode b_Tokens_scanNumber 55 = .ok (.iload 4, 2) := dc_21 (by decide +kernel)
theorem d_Tokens_scanNumber_57 : decode b_Tokens_scanNumber 57 = .ok (.iload_n 2, 1) := dc_28 (by decide +kernel)
theorem d_Tokens_scanNumber_58 : decode b_Tokens_scanNumber 58 = .ok (.invokevirtual 47, 3) := dc_182 (by decide +kernel)
theorem d_Tokens_scanNumber_61 : decode b_Tokens_scanNumber 61 = .ok (.iload 5, 2) := dc_21 (by decide +kernel)
theorem d_Tokens_scanNumber_63 : decode b_Tokens_scanNumber 63 = .ok (.ireturn, 1) := dc_172 (by decide +kernel)
def t_Tokens_scanNumber_L52 (r1 : Nat) (N1 : Nat) (x2 : Int) (x3 : Int)  (M : Mem) (v2_ : Int) (v3_ : Int) : Option (Mem × Int) := (qlet (t_Tokens_add M 31 v2_ x2) fun q9 => (some (q9, v3_)))
def t_Tokens_scanNumber_L6 (r1 : Nat) (N1 : Nat) (x2 : Int) (x3 : Int)  : Nat → Mem → Int → Int → Option (Mem × Int)
  | 0, _, _, _ => none
  | fu + 1, M, v4_, v5_ => (if x3 ≤ v5_ then (t_Tokens_scanNumber_L52 r1 N1 x2 x3 M v4_ v5_) else (qlet (t_WF_look M r1 N1 v5_) fun q2 => (qlet (t_Tokens_isDigit M q2) fun q4 => (if q4 = 0 then (t_Tokens_scanNumber_L52 r1 N1 x2 x3 M v4_ v5_) else (qlet (t_WF_look M r1 N1 v5_) fun q7 => (t_Tokens_scanNumber_L6 r1 N1 x2 x3 fu M (q_min (w32 ((w32 ((w32 (v4_ * 10)) + q7)) - 48)) 1000000) (w32 (v5_ + 1))))))))
def t_Tokens_scanNumber (M : Mem) (r1 : Nat) (N1 : Nat) (x2 : Int) (x3 : Int) : Option (Mem × Int) := (t_Tokens_scanNumber_L6 r1 N1 x2 x3 FU M 0 x2)
set_option maxHeartbeats 4000000 in
set_option maxRecDepth 100000 in
theorem k_Tokens_scanNumber_L52 (l : Launch) {p : Program} {e : Env} {s : State} {m : MethodId} {below : List Frame} {meth : Method} {c : Code} {b n : Nat} {C : CT} (hlo : 191 ≤ n) (r1 : Nat) (N1 : Nat) (x2 : Int) (x3 : Int) (hr1 : arrP 0 r1 N1 191) (hx2 : InR x2) (hx3 : InR x3) (F : Cx b p m c b_Tokens_scanNumber 6 s ([.ref (b + 42), .ref (b + r1), vI x2, vI x3] : List Value).toArray "WardFalls$Tokens" C n 191) (hlk : meth.locks = false) (hr : meth.sig.returnType = some .int) {res : Mem × Int} (M : Mem) (v2_ : Int) (hv2_ : InR v2_) (v3_ : Int) (hv3_ : InR v3_) (H : Heap) (locs : List Loc) (ls : Array Slot) (hS : St b C n M s H locs) (hl : lv_has ls 6 [(0, .ref (b + 42)), (2, vI x2), (4, vI v2_), (5, vI v3_)]) (hT : t_Tokens_scanNumber_L52 r1 N1 x2 x3 M v2_ v3_ = some res) : W p l e (headSpec (wsM y_Tokens_scanNumber b_Tokens_scanNumber 6 (some .int)) (rmD 2)).room s m ([.ref (b + 42), .ref (b + r1), vI x2, vI x3] : List Value).toArray below meth c H locs 0 0 (MQ below (QI b C n res.1 res.2) ([.ref (b + 42), .ref (b + r1), vI x2, vI x3] : List Value).toArray s 0 0 (frb b)) (F0 m 52 ls []) := by
  unfold t_Tokens_scanNumber_L52 at hT
  refine lv_aload_n F.hx F.hb d_Tokens_scanNumber_52 rfl (lv_at hl 0 rfl) ?_
  refine r_bipush F.hx F.hb d_Tokens_scanNumber_53 rfl ?_
  refine lv_iload F.hx F.hb d_Tokens_scanNumber_55 (lv_at hl 2 rfl) ?_
  refine lv_iload_n F.hx F.hb d_Tokens_scanNumber_57 rfl (lv_at hl 1 rfl) ?_
  obtain ⟨q9, hq9⟩ : ∃ q, q = (t_Tokens_add M 31 v2_ x2) := ⟨_, rfl⟩
  replace hT := qlet_eq hT hq9
  refine r_backV F hS (r_runV (k := 42) (N := 4) (T := T10) (As := [vI 31, vI v2_, vI x2]) F hS (show 42 < 191 by decide) (show shK 42 = 14 from rfl) rfl (c_Tokens_add l F.2.2.1 M 31 v2_ x2 (inr_c rfl) hv2_ hx2 _ hq9.symm) gs_Tokens_47 hd_Tokens_add ⟨Nat.le_of_ble_eq_true rfl, Nat.le_of_ble_eq_true rfl⟩ rfl hl.1 (Nat.le_of_ble_eq_true rfl) ⟨Nat.zero_le _, Nat.zero_le _⟩ rfl d_Tokens_scanNumber_58) (fun H locs hS => ?_)
  refine lv_iload F.hx F.hb d_Tokens_scanNumber_61 (lv_at hl 3 rfl) ?_
  cases hT
  exact r_iret F hlk hr rfl hS hv3_ d_Tokens_scanNumber_63
set_option maxHeartbeats 4000000 in
set_option maxRecDepth 100000 in
theorem k_Tokens_scanNumber_L6 (l : Launch) {p : Program} {e : Env} {s : State} {m : MethodId} {below : List Frame} {meth : Method} {c : Code} {b n : Nat} {C : CT} (hlo : 191 ≤ n) (r1 : Nat) (N1 : Nat) (x2 : Int) (x3 : Int) (hr1 : arrP 0 r1 N1 191) (hx2 : InR x2) (hx3 : InR x3) (F : Cx b p m c b_Tokens_scanNumber 6 s ([.ref (b + 42), .ref (b + r1), vI x2, vI x3] : List Value).toArray "WardFalls$Tokens" C n 191) (hlk : meth.locks = false) (hr : meth.sig.returnType = some .int) {res : Mem × Int} : ∀ (fu : Nat) (M : Mem) (v4_ : Int) (hv4_ : InR v4_) (v5_ : Int) (hv5_ : InR v5_) (H : Heap) (locs : List Loc) (ls : Array Slot), St b C n M s H locs → lv_has ls 6 [(0, .ref (b + 42)), (1, .ref (b + r1)), (2, vI x2), (3, vI x3), (4, vI v4_), (5, vI v5_)] → t_Tokens_scanNumber_L6 r1 N1 x2 x3 fu M v4_ v5_ = some res → W p l e (headSpec (wsM y_Tokens_scanNumber b_Tokens_scanNumber 6 (some .int)) (rmD 2)).room s m ([.ref (b + 42), .ref (b + r1), vI x2, vI x3] : List Value).toArray below meth c H locs 0 0 (MQ below (QI b C n res.1 res.2) ([.ref (b + 42), .ref (b + r1), vI x2, vI x3] : List Value).toArray s 0 0 (frb b)) (F0 m 6 ls []) := by
  intro fu
  induction fu with
  | zero => intro M v4_ hv4_ v5_ hv5_ H locs ls hS hl hT; exact absurd hT (by simp [t_Tokens_scanNumber_L6])
  | succ fu ih =>
    intro M v4_ hv4_ v5_ hv5_ H locs ls hS hl hT
    rw [t_Tokens_scanNumber_L6] at hT
    refine lv_iload F.hx F.hb d_Tokens_scanNumber_6 (lv_at hl 5 rfl) ?_
    refine lv_iload_n F.hx F.hb d_Tokens_scanNumber_8 rfl (lv_at hl 3 rfl) ?_
    refine r_icmp_ge (tgt := 52) F.hx F.hb hv5_ hx3 d_Tokens_scanNumber_9 (by decide) (fun c1 => ?_) (fun c1 => ?_)
    · replace hT := (if_pos c1).symm.trans hT
      exact k_Tokens_scanNumber_L52 l hlo r1 N1 x2 x3 hr1 hx2 hx3 F hlk hr M v4_ hv4_ v5_ hv5_ _ _ _ hS (lv_sub hl [0, 2, 4, 5] rfl) hT
    · replace hT := (if_neg c1).symm.trans hT
      refine lv_aload_n F.hx F.hb d_Tokens_scanNumber_12 rfl (lv_at hl 1 rfl) ?_
      refine lv_iload F.hx F.hb d_Tokens_scanNumber_13 (lv_at hl 5 rfl) ?_
      obtain ⟨q2, hq2⟩ : ∃ q, q = (t_WF_look M r1 N1 v5_) := ⟨_, rfl⟩
      replace hT := qlet_eq hT hq2
      refine r_backI F hS (r_runSN (As := [.ref (b + r1), vI v5_]) F hS (c_WF_look l F.2.2.1 M r1 N1 v5_ hr1 hv5_ _ hq2.symm) mw_519 mw_518 mw_1 gs_Tokens_25 hd_WF_look ⟨Nat.le_of_ble_eq_true rfl, Nat.le_of_ble_eq_true rfl⟩ rfl hl.1 (Nat.le_of_ble_eq_true rfl) ⟨Nat.zero_le _, Nat.zero_le _⟩ rfl d_Tokens_scanNumber_15) (fun H locs hS h3 => ?_)
      obtain ⟨q4, hq4⟩ : ∃ q, q = (t_Tokens_isDigit M q2) := ⟨_, rfl⟩
      replace hT := qlet_eq hT hq4
      refine r_backZ F hS (r_runS (As := [vI q2]) F hS (c_Tokens_isDigit l F.2.2.1 M q2 h3 _ hq4.symm) gs_Tokens_37 hd_Tokens_isDigit ⟨Nat.le_of_ble_eq_true rfl, Nat.le_of_ble_eq_true rfl⟩ rfl hl.1 (Nat.le_of_ble_eq_true rfl) ⟨Nat.zero_le _, Nat.zero_le _⟩ rfl d_Tokens_scanNumber_18) (fun H locs hS h5 => ?_)
      refine r_if_eq (tgt := 52) F.hx F.hb (inr_z h5) d_Tokens_scanNumber_21 (by decide) (fun c6 => ?_) (fun c6 => ?_)
      · replace hT := (if_pos c6).symm.trans hT
        exact k_Tokens_scanNumber_L52 l hlo r1 N1 x2 x3 hr1 hx2 hx3 F hlk hr M v4_ hv4_ v5_ hv5_ _ _ _ hS (lv_sub hl [0, 2, 4, 5] rfl) hT
      · replace hT := (if_neg c6).symm.trans hT
        refine lv_iload F.hx F.hb d_Tokens_scanNumber_24 (lv_at hl 4 rfl) ?_
        refine r_bipush F.hx F.hb d_Tokens_scanNumber_26 rfl ?_
        refine r_imul F.hx F.hb d_Tokens_scanNumber_28 ?_
        refine lv_aload_n F.hx F.hb d_Tokens_scanNumber_29 rfl (lv_at hl 1 rfl) ?_
        refine lv_iload F.hx F.hb d_Tokens_scanNumber_30 (lv_at hl 5 rfl) ?_
        obtain ⟨q7, hq7⟩ : ∃ q, q = (t_WF_look M r1 N1 v5_) := ⟨_, rfl⟩
        replace hT := qlet_eq hT hq7
        refine r_backI F hS (r_runSN (As := [.ref (b + r1), vI v5_]) F hS (c_WF_look l F.2.2.1 M r1 N1 v5_ hr1 hv5_ _ hq7.symm) mw_519 mw_518 mw_1 gs_Tokens_25 hd_WF_look ⟨Nat.le_of_ble_eq_true rfl, Nat.le_of_ble_eq_true rfl⟩ rfl hl.1 (Nat.le_of_ble_eq_true rfl) ⟨Nat.zero_le _, Nat.zero_le _⟩ rfl d_Tokens_scanNumber_32) (fun H locs hS h8 => ?_)
        refine r_iadd F.hx F.hb d_Tokens_scanNumber_35 ?_
        refine r_bipush F.hx F.hb d_Tokens_scanNumber_36 rfl ?_
        refine r_isub F.hx F.hb d_Tokens_scanNumber_38 ?_
        refine lv_ldc (v := Int32.ofInt 1000000) F.hx F.hb F.hown (F.hts mw_700) d_Tokens_scanNumber_39 ?_
        refine r_mmin F hl.1 mw_701 mw_532 mw_14 mw_533 ⟨Nat.le_of_ble_eq_true rfl, Nat.le_of_ble_eq_true rfl⟩ (Nat.le_of_ble_eq_true rfl) ⟨Nat.zero_le _, Nat.zero_le _⟩ (inr_w32 _) (inr_c rfl) d_Tokens_scanNumber_41 ?_
        refine lv_istore (lv' := [(4, vI (q_min (w32 ((w32 ((w32 (v4_ * 10)) + q7)) - 48)) 1000000)), (0, .ref (b + 42)), (1, .ref (b + r1)), (2, vI x2), (3, vI x3), (5, vI v5_)]) F.hx F.hb d_Tokens_scanNumber_44 hl (Nat.le_of_ble_eq_true rfl) rfl (fun ls hl => ?_)
        refine lv_iinc (v := Int32.ofInt (w32 (v5_ + 1))) (lv' := [(5, vI (w32 (v5_ + 1))), (4, vI (q_min (w32 ((w32 ((w32 (v4_ * 10)) + q7)) - 48)) 1000000)), (0, .ref (b + 42)), (1, .ref (b + r1)), (2, vI x2), (3, vI x3)]) F.hx F.hb d_Tokens_scanNumber_46 hl (k := 5) rfl (q_of_add _ _) (Nat.le_of_ble_eq_true rfl) rfl (fun ls hl => ?_)
        refine lv_goto (tgt := 6) F.hx F.hb d_Tokens_scanNumber_49 (by decide) ?_
        exact ih M (q_min (w32 ((w32 ((w32 (v4_ * 10)) + q7)) - 48)) 1000000) (inr_min (inr_w32 _) (inr_c rfl)) (w32 (v5_ + 1)) (inr_w32 _) _ _ _ hS (lv_sub hl [2, 3, 4, 5, 1, 0] rfl) hT
set_option maxHeartbeats 4000000 in
set_option maxRecDepth 100000 in
theorem c_Tokens_scanNumber (l : Launch) {b n : Nat} {C : CT} (hlo : 191 ≤ n) (M : Mem) (r1 : Nat) (N1 : Nat) (x2 : Int) (x3 : Int) (hr1 : arrP 0 r1 N1 191) (hx2 : InR x2) (hx3 : InR x3) (res : Mem × Int) (hT : t_Tokens_scanNumber M r1 N1 x2 x3 = some res) : CM l b C n 2 y_Tokens_scanNumber b_Tokens_scanNumber 6 (some .int) [.ref (b + 42), .ref (b + r1), vI x2, vI x3] M (QI b C n res.1 res.2) := by
  refine CM.of (lo := 191) (ow := "WardFalls$Tokens") (by decide) rfl (Nat.le_of_ble_eq_true rfl) hlo (fun p e s m below meth c F hlk hr hS ls hl => ?_)
  have hl : lv_has ls 6 [(0, .ref (b + 42)), (1, .ref (b + r1)), (2, vI x2), (3, vI x3)] := hl
  unfold t_Tokens_scanNumber at hT
  refine r_iconst F.hx F.hb d_Tokens_scanNumber_0 ?_
  refine lv_istore (lv' := [(4, vI 0), (0, .ref (b + 42)), (1, .ref (b + r1)), (2, vI x2), (3, vI x3)]) F.hx F.hb d_Tokens_scanNumber_1 hl (Nat.le_of_ble_eq_true rfl) rfl (fun ls hl => ?_)
  refine lv_iload_n F.hx F.hb d_Tokens_scanNumber_3 rfl (lv_at hl 3 rfl) ?_
  refine lv_istore (lv' := [(5, vI x2), (4, vI 0), (0, .ref (b + 42)), (1, .ref (b + r1)), (2, vI x2), (3, vI x3)]) F.hx F.hb d_Tokens_scanNumber_4 hl (Nat.le_of_ble_eq_true rfl) rfl (fun ls hl => ?_)
  exact k_Tokens_scanNumber_L6 l hlo r1 N1 x2 x3 hr1 hx2 hx3 F hlk hr FU M 0 (inr_c rfl) x2 hx2 _ _ _ hS (lv_sub hl [2, 3, 4, 5, 1, 0] rfl) hT
theorem wn_Tokens_signOf_0 : ∀ i, i < 1 → bA b_Tokens_signOf (0 + i) = wB [26] i := wB_of (by decide +kernel)
theorem d_Tokens_signOf_0 : decode b_Tokens_signOf 0 = .ok (.iload_n 0, 1) := dc_26 (q0_win (r := 0) wn_Tokens_signOf_0 (by decide +kernel))
theorem d_Tokens_signOf_1 : decode b_Tokens_signOf 1 = .ok (.tableswitch 137 40 62 #[110, 113, 122, 116, 137, 119, 137, 125, 137, 137, 137, 137, 137, 137, 137, 137, 137, 137, 137, 107, 128, 131, 134], 107) := by decide +kernel
theorem wn_Tokens_signOf_108 : ∀ i, i < 33 → bA b_Tokens_signOf (108 + i) = wB [16, 40, 172, 16, 41, 172, 16, 42, 172, 16, 43, 172, 16, 44, 172, 16, 45, 172, 16, 46, 172, 16, 47, 172, 16, 49, 172, 16, 52, 172, 16, 33, 172] i := wB_of (by decide +kernel)
theorem d_Tokens_signOf_108 : decode b_Tokens_signOf 108 = .ok (.bipush 40, 2) := dc_16 (qS1_win (r := 0) wn_Tokens_signOf_108 (by decide +kernel))
theorem d_Tokens_signOf_110 : decode b_Tokens_signOf 110 = .ok (.ireturn, 1) := dc_172 (q0_win (r := 2) wn_Tokens_signOf_108 (by decide +kernel))
theorem d_Tokens_signOf_111 : decode b_Tokens_signOf 111 = .ok (.bipush 41, 2) := dc_16 (qS1_win (r := 3) wn_Tokens_signOf_108 (by decide +kernel))
theorem d_Tokens_signOf_113 : decode b_Tokens_signOf 113 = .ok (.ireturn, 1) := dc_172 (q0_win (r := 5) wn_Tokens_signOf_108 (by decide +kernel))
theorem d_Tokens_signOf_114 : decode b_Tokens_signOf 114 = .ok (.bipush 42, 2) := dc_16 (qS1_win (r := 6) wn_Tokens_signOf_108 (by decide +kernel))
theorem d_Tokens_signOf_116 : decode b_Tokens_signOf 116 = .ok (.ireturn, 1) := dc_172 (q0_win (r := 8) wn_Tokens_signOf_108 (by decide +kernel))
theorem d_Tokens_signOf_117 : decode b_Tokens_signOf 117 = .ok (.bipush 43, 2) := dc_16 (qS1_win (r := 9) wn_Tokens_signOf_108 (by decide +kernel))
theorem d_Tokens_signOf_119 : decode b_Tokens_signOf 119 = .ok (.ireturn, 1) := dc_172 (q0_win (r := 11) wn_Tokens_signOf_108 (by decide +kernel))
theorem d_Tokens_signOf_120 : decode b_Tokens_signOf 120 = .ok (.bipush 44, 2) := dc_16 (qS1_win (r := 12) wn_Tokens_signOf_108 (by decide +kernel))
theorem d_Tokens_signOf_122 : decode b_Tokens_signOf 122 = .ok (.ireturn, 1) := dc_172 (q0_win (r := 14) wn_Tokens_signOf_108 (by decide +kernel))
theorem d_Tokens_signOf_123 : decode b_Tokens_signOf 123 = .ok (.bipush 45, 2) := dc_16 (qS1_win (r := 15) wn_Tokens_signOf_108 (by decide +kernel))
theorem d_Tokens_signOf_125 : decode b_Tokens_signOf 125 = .ok (.ireturn, 1) := dc_172 (q0_win (r := 17) wn_Tokens_signOf_108 (by decide +kernel))
theorem d_Tokens_signOf_126 : decode b_Tokens_signOf 126 = .ok (.bipush 46, 2) := dc_16 (qS1_win (r := 18) wn_Tokens_signOf_108 (by decide +kernel))
theorem d_Tokens_signOf_128 : decode b_Tokens_signOf 128 = .ok (.ireturn, 1) := dc_172 (q0_win (r := 20) wn_Tokens_signOf_108 (by decide +kernel))
theorem d_Tokens_signOf_129 : decode b_Tokens_signOf 129 = .ok (.bipush 47, 2) := dc_16 (qS1_win (r := 21) wn_Tokens_signOf_108 (by decide +kernel))
theorem d_Tokens_signOf_131 : decode b_Tokens_signOf 131 = .ok (.ireturn, 1) := dc_172 (q0_win (r := 23) wn_Tokens_signOf_108 (by decide +kernel))
theorem d_Tokens_signOf_132 : decode b_Tokens_signOf 132 = .ok (.bipush 49, 2) := dc_16 (qS1_win (r := 24) wn_Tokens_signOf_108 (by decide +kernel))
theorem d_Tokens_signOf_134 : decode b_Tokens_signOf 134 = .ok (.ireturn, 1) := dc_172 (q0_win (r := 26) wn_Tokens_signOf_108 (by decide +kernel))
theorem d_Tokens_signOf_135 : decode b_Tokens_signOf 135 = .ok (.bipush 52, 2) := dc_16 (qS1_win (r := 27) wn_Tokens_signOf_108 (by decide +kernel))
theorem d_Tokens_signOf_137 : decode b_Tokens_signOf 137 = .ok (.ireturn, 1) := dc_172 (q0_win (r := 29) wn_Tokens_signOf_108 (by decide +kernel))
theorem d_Tokens_signOf_138 : decode b_Tokens_signOf 138 = .ok (.bipush 33, 2) := dc_16 (qS1_win (r := 30) wn_Tokens_signOf_108 (by decide +kernel))
theorem d_Tokens_signOf_140 : decode b_Tokens_signOf 140 = .ok (.ireturn, 1) := dc_172 (q0_win (r := 32) wn_Tokens_signOf_108 (by decide +kernel))
def t_Tokens_signOf (M : Mem) (x1 : Int) : Int := (if x1 = 40 then 41 else (if x1 = 41 then 42 else (if x1 = 42 then 45 else (if x1 = 43 then 43 else (if x1 = 44 then 33 else (if x1 = 45 then 44 else (if x1 = 46 then 33 else (if x1 = 47 then 46 else (if x1 = 48 then 33 else (if x1 = 49 then 33 else (if x1 = 50 then 33 else (if x1 = 51 then 33 else (if x1 = 52 then 33 else (if x1 = 53 then 33 else (if x1 = 54 then 33 else (if x1 = 55 then 33 else (if x1 = 56 then 33 else (if x1 = 57 then 33 else (if x1 = 58 then 33 else (if x1 = 59 then 40 else (if x1 = 60 then 47 else (if x1 = 61 then 49 else (if x1 = 62 then 52 else 33)))))))))))))))))))))))
set_option maxHeartbeats 4000000 in
set_option maxRecDepth 100000 in
theorem c_Tokens_signOf (l : Launch) {b n : Nat} {C : CT} (hlo : 191 ≤ n) (M : Mem) (x1 : Int) (hx1 : InR x1) (res : Int) (hT : t_Tokens_signOf M x1 = res) : CM l b C n 0 y_Tokens_signOf b_Tokens_signOf 1 (some .int) [vI x1] M (QI b C n M res) := by
  refine CM.of (lo := 191) (ow := "WardFalls$Tokens") (by decide) rfl (Nat.le_of_ble_eq_true rfl) hlo (fun p e s m below meth c F hlk hr hS ls hl => ?_)
  have hl : lv_has ls 1 [(0, vI x1)] := hl
  unfold t_Tokens_signOf at hT
  refine lv_iload_n F.hx F.hb d_Tokens_signOf_0 rfl (lv_at hl 0 rfl) ?_
  rcases q_ite hT with ⟨c1, hT⟩ | ⟨c1, hT⟩
  · refine r_tableIn (i := 40) (tgt := 111) F.hx F.hb hx1 c1 d_Tokens_signOf_1 (by decide) (by decide) rfl (by decide) ?_
    refine r_bipush F.hx F.hb d_Tokens_signOf_111 rfl ?_
    subst hT
    exact r_iret F hlk hr rfl hS (inr_c rfl) d_Tokens_signOf_113
  ·
    rcases q_ite hT with ⟨c2, hT⟩ | ⟨c2, hT⟩
    · refine r_tableIn (i := 41) (tgt := 114) F.hx F.hb hx1 c2 d_Tokens_signOf_1 (by decide) (by decide) rfl (by decide) ?_
      refine r_bipush F.hx F.hb d_Tokens_signOf_114 rfl ?_
      subst hT
      exact r_iret F hlk hr rfl hS (inr_c rfl) d_Tokens_signOf_116
    ·
      rcases q_ite hT with ⟨c3, hT⟩ | ⟨c3, hT⟩
      · refine r_tableIn (i := 42) (tgt := 123) F.hx F.hb hx1 c3 d_Tokens_signOf_1 (by decide) (by decide) rfl (by decide) ?_
        refine r_bipush F.hx F.hb d_Tokens_signOf_123 rfl ?_
        subst hT
        exact r_iret F hlk hr rfl hS (inr_c rfl) d_Tokens_signOf_125
      ·
        rcases q_ite hT with ⟨c4, hT⟩ | ⟨c4, hT⟩
        · refine r_tableIn (i := 43) (tgt := 117) F.hx F.hb hx1 c4 d_Tokens_signOf_1 (by decide) (by decide) rfl (by decide) ?_
          refine r_bipush F.hx F.hb d_Tokens_signOf_117 rfl ?_
          subst hT
          exact r_iret F hlk hr rfl hS (inr_c rfl) d_Tokens_signOf_119
        ·
          rcases q_ite hT with ⟨c5, hT⟩ | ⟨c5, hT⟩
          · refine r_tableIn (i := 44) (tgt := 138) F.hx F.hb hx1 c5 d_Tokens_signOf_1 (by decide) (by decide) rfl (by decide) ?_
            refine r_bipush F.hx F.hb d_Tokens_signOf_138 rfl ?_
            subst hT
            exact r_iret F hlk hr rfl hS (inr_c rfl) d_Tokens_signOf_140
          ·
            rcases q_ite hT with ⟨c6, hT⟩ | ⟨c6, hT⟩
            · refine r_tableIn (i := 45) (tgt := 120) F.hx F.hb hx1 c6 d_Tokens_signOf_1 (by decide) (by decide) rfl (by decide) ?_
              refine r_bipush F.hx F.hb d_Tokens_signOf_120 rfl ?_
              subst hT
              exact r_iret F hlk hr rfl hS (inr_c rfl) d_Tokens_signOf_122
            ·
              rcases q_ite hT with ⟨c7, hT⟩ | ⟨c7, hT⟩
              · refine r_tableIn (i := 46) (tgt := 138) F.hx F.hb hx1 c7 d_Tokens_signOf_1 (by decide) (by decide) rfl (by decide) ?_
                refine r_bipush F.hx F.hb d_Tokens_signOf_138 rfl ?_
                subst hT
                exact r_iret F hlk hr rfl hS (inr_c rfl) d_Tokens_signOf_140
              ·
                rcases q_ite hT with ⟨c8, hT⟩ | ⟨c8, hT⟩
                · refine r_tableIn (i := 47) (tgt := 126) F.hx F.hb hx1 c8 d_Tokens_signOf_1 (by decide) (by decide) rfl (by decide) ?_
                  refine r_bipush F.hx F.hb d_Tokens_signOf_126 rfl ?_
                  subst hT
                  exact r_iret F hlk hr rfl hS (inr_c rfl) d_Tokens_signOf_128
                ·
                  rcases q_ite hT with ⟨c9, hT⟩ | ⟨c9, hT⟩
                  · refine r_tableIn (i := 48) (tgt := 138) F.hx F.hb hx1 c9 d_Tokens_signOf_1 (by decide) (by decide) rfl (by decide) ?_
                    refine r_bipush F.hx F.hb d_Tokens_signOf_138 rfl ?_
                    subst hT
                    exact r_iret F hlk hr rfl hS (inr_c rfl) d_Tokens_signOf_140
                  ·
                    rcases q_ite hT with ⟨c10, hT⟩ | ⟨c10, hT⟩
                    · refine r_tableIn (i := 49) (tgt := 138) F.hx F.hb hx1 c10 d_Tokens_signOf_1 (by decide) (by decide) rfl (by decide) ?_
                      refine r_bipush F.hx F.hb d_Tokens_signOf_138 rfl ?_
                      subst hT
                      exact r_iret F hlk hr rfl hS (inr_c rfl) d_Tokens_signOf_140
                    ·
                      rcases q_ite hT with ⟨c11, hT⟩ | ⟨c11, hT⟩
                      · refine r_tableIn (i := 50) (tgt := 138) F.hx F.hb hx1 c11 d_Tokens_signOf_1 (by decide) (by decide) rfl (by decide) ?_
                        refine r_bipush F.hx F.hb d_Tokens_signOf_138 rfl ?_
                        subst hT
                        exact r_iret F hlk hr rfl hS (inr_c rfl) d_Tokens_signOf_140
                      ·
                        rcases q_ite hT with ⟨c12, hT⟩ | ⟨c12, hT⟩
                        · refine r_tableIn (i := 51) (tgt := 138) F.hx F.hb hx1 c12 d_Tokens_signOf_1 (by decide) (by decide) rfl (by decide) ?_
                          refine r_bipush F.hx F.hb d_Tokens_signOf_138 rfl ?_
                          subst hT
                          exact r_iret F hlk hr rfl hS (inr_c rfl) d_Tokens_signOf_140
                        ·
                          rcases q_ite hT with ⟨c13, hT⟩ | ⟨c13, hT⟩
                          · refine r_tableIn (i := 52) (tgt := 138) F.hx F.hb hx1 c13 d_Tokens_signOf_1 (by decide) (by decide) rfl (by decide) ?_
                            refine r_bipush F.hx F.hb d_Tokens_signOf_138 rfl ?_
                            subst hT
                            exact r_iret F hlk hr rfl hS (inr_c rfl) d_Tokens_signOf_140
                          ·
                            rcases q_ite hT with ⟨c14, hT⟩ | ⟨c14, hT⟩
                            · refine r_tableIn (i := 53) (tgt := 138) F.hx F.hb hx1 c14 d_Tokens_signOf_1 (by decide) (by decide) rfl (by decide) ?_
                              refine r_bipush F.hx F.hb d_Tokens_signOf_138 rfl ?_
                              subst hT
                              exact r_iret F hlk hr rfl hS (inr_c rfl) d_Tokens_signOf_140
                            ·
                              rcases q_ite hT with ⟨c15, hT⟩ | ⟨c15, hT⟩
                              · refine r_tableIn (i := 54) (tgt := 138) F.hx F.hb hx1 c15 d_Tokens_signOf_1 (by decide) (by decide) rfl (by decide) ?_
                                refine r_bipush F.hx F.hb d_Tokens_signOf_138 rfl ?_
                                subst hT
                                exact r_iret F hlk hr rfl hS (inr_c rfl) d_Tokens_signOf_140
                              ·
                                rcases q_ite hT with ⟨c16, hT⟩ | ⟨c16, hT⟩
                                · refine r_tableIn (i := 55) (tgt := 138) F.hx F.hb hx1 c16 d_Tokens_signOf_1 (by decide) (by decide) rfl (by decide) ?_
                                  refine r_bipush F.hx F.hb d_Tokens_signOf_138 rfl ?_
                                  subst hT
                                  exact r_iret F hlk hr rfl hS (inr_c rfl) d_Tokens_signOf_140
                                ·
                                  rcases q_ite hT with ⟨c17, hT⟩ | ⟨c17, hT⟩
                                  · refine r_tableIn (i := 56) (tgt := 138) F.hx F.hb hx1 c17 d_Tokens_signOf_1 (by decide) (by decide) rfl (by decide) ?_
                                    refine r_bipush F.hx F.hb d_Tokens_signOf_138 rfl ?_
                                    subst hT
                                    exact r_iret F hlk hr rfl hS (inr_c rfl) d_Tokens_signOf_140
                                  ·
                                    rcases q_ite hT with ⟨c18, hT⟩ | ⟨c18, hT⟩
                                    · refine r_tableIn (i := 57) (tgt := 138) F.hx F.hb hx1 c18 d_Tokens_signOf_1 (by decide) (by decide) rfl (by decide) ?_
                                      refine r_bipush F.hx F.hb d_Tokens_signOf_138 rfl ?_
                                      subst hT
                                      exact r_iret F hlk hr rfl hS (inr_c rfl) d_Tokens_signOf_140
                                    ·
                                      rcases q_ite hT with ⟨c19, hT⟩ | ⟨c19, hT⟩
                                      · refine r_tableIn (i := 58) (tgt := 138) F.hx F.hb hx1 c19 d_Tokens_signOf_1 (by decide) (by decide) rfl (by decide) ?_
                                        refine r_bipush F.hx F.hb d_Tokens_signOf_138 rfl ?_
                                        subst hT
                                        exact r_iret F hlk hr rfl hS (inr_c rfl) d_Tokens_signOf_140
                                      ·
                                        rcases q_ite hT with ⟨c20, hT⟩ | ⟨c20, hT⟩
                                        · refine r_tableIn (i := 59) (tgt := 108) F.hx F.hb hx1 c20 d_Tokens_signOf_1 (by decide) (by decide) rfl (by decide) ?_
                                          refine r_bipush F.hx F.hb d_Tokens_signOf_108 rfl ?_
                                          subst hT
                                          exact r_iret F hlk hr rfl hS (inr_c rfl) d_Tokens_signOf_110
                                        ·
                                          rcases q_ite hT with ⟨c21, hT⟩ | ⟨c21, hT⟩
                                          · refine r_tableIn (i := 60) (tgt := 129) F.hx F.hb hx1 c21 d_Tokens_signOf_1 (by decide) (by decide) rfl (by decide) ?_
                                            refine r_bipush F.hx F.hb d_Tokens_signOf_129 rfl ?_
                                            subst hT
                                            exact r_iret F hlk hr rfl hS (inr_c rfl) d_Tokens_signOf_131
                                          ·
                                            rcases q_ite hT with ⟨c22, hT⟩ | ⟨c22, hT⟩
                                            · refine r_tableIn (i := 61) (tgt := 132) F.hx F.hb hx1 c22 d_Tokens_signOf_1 (by decide) (by decide) rfl (by decide) ?_
                                              refine r_bipush F.hx F.hb d_Tokens_signOf_132 rfl ?_
                                              subst hT
                                              exact r_iret F hlk hr rfl hS (inr_c rfl) d_Tokens_signOf_134
                                            ·
                                              rcases q_ite hT with ⟨c23, hT⟩ | ⟨c23, hT⟩
                                              · refine r_tableIn (i := 62) (tgt := 135) F.hx F.hb hx1 c23 d_Tokens_signOf_1 (by decide) (by decide) rfl (by decide) ?_
                                                refine r_bipush F.hx F.hb d_Tokens_signOf_135 rfl ?_
                                                subst hT
                                                exact r_iret F hlk hr rfl hS (inr_c rfl) d_Tokens_signOf_137
                                              ·
                                                refine r_tableOut (tgt := 138) F.hx F.hb hx1 (by omega) d_Tokens_signOf_1 (by decide) ?_
                                                refine r_bipush F.hx F.hb d_Tokens_signOf_138 rfl ?_
                                                subst hT
                                                exact r_iret F hlk hr rfl hS (inr_c rfl) d_Tokens_signOf_140
theorem d_Tokens_scanSign_0 : decode b_Tokens_scanSign 0 = .ok (.iload_n 1, 1) := dc_27 (by decide +kernel)
theorem d_Tokens_scanSign_1 : decode b_Tokens_scanSign 1 = .ok (.invokestatic 65, 3) := dc_184 (by decide +kernel)
theorem d_Tokens_scanSign_4 : decode b_Tokens_scanSign 4 = .ok (.istore 4, 2) := dc_54 (by decide +kernel)
theorem d_Tokens_scanSign_6 : decode b_Tokens_scanSign 6 = .ok (.iload 4, 2) := dc_21 (by decide +kernel)
theorem d_Tokens_scanSign_8 : decode b_Tokens_scanSign 8 = .ok (.bipush 47, 2) := dc_16 (by decide +kernel)
theorem d_Tokens_scanSign_10 : decode b_Tokens_scanSign 10 = .ok (.if_icmp .ne 38, 3) := dc_160 (by decide +kernel)
theorem d_Tokens_scanSign_13 : decode b_Tokens_scanSign 13 = .ok (.iload_n 2, 1) := dc_28 (by decide +kernel)
theorem d_Tokens_scanSign_14 : decode b_Tokens_scanSign 14 = .ok (.bipush 61, 2) := dc_16 (by decide +kernel)
theorem d_Tokens_scanSign_16 : decode b_Tokens_scanSign 16 = .ok (.if_icmp .eq 9, 3) := dc_159 (by decide +kernel)
theorem d_Tokens_scanSign_19 : decode b_Tokens_scanSign 19 = .ok (.iload_n 2, 1) := dc_28 (by decide +kernel)
theorem d_Tokens_scanSign_20 : decode b_Tokens_scanSign 20 = .ok (.bipush 62, 2) := dc_16 (by decide +kernel)
theorem d_Tokens_scanSign_22 : decode b_Tokens_scanSign 22 = .ok (.if_icmp .ne 26, 3) := dc_160 (by decide +kernel)
theorem d_Tokens_scanSign_25 : decode b_Tokens_scanSign 25 = .ok (.aload_n 0, 1) := dc_42 (by decide +kernel)
theorem d_Tokens_scanSign_26 : decode b_Tokens_scanSign 26 = .ok (.iload_n 2, 1) := dc_28 (by decide +kernel)
theorem d_Tokens_scanSign_27 : decode b_Tokens_scanSign 27 = .ok (.bipush 61, 2) := dc_16 (by decide +kernel)
theorem d_Tokens_scanSign_29 : decode b_Tokens_scanSign 29 = .ok (.if_icmp .ne 8, 3) := dc_160 (by decide +kernel)
theorem d_Tokens_scanSign_32 : decode b_Tokens_scanSign 32 = .ok (.bipush 48, 2) := dc_16 (by decide +kernel)
theorem d_Tokens_scanSign_34 : decode b_Tokens_scanSign 34 = .ok (.goto 5, 3) := dc_167 (by decide +kernel)
theorem d_Tokens_scanSign_37 : decode b_Tokens_scanSign 37 = .ok (.bipush 50, 2) := dc_16 (by decide +kernel)
theorem d_Tokens_scanSign_39 : decode b_Tokens_scanSign 39 = .ok (.iconst 0, 1) := dc_3 (by decide +kernel)
theorem d_Tokens_scanSign_40 : decode b_Tokens_scanSign 40 = .ok (.iload_n 3, 1) := dc_29 (by decide +kernel)
theorem d_Tokens_scanSign_41 : decode b_Tokens_scanSign 41 = .ok (.invokevirtual 47, 3) := dc_182 (by decide +kernel)
theorem d_Tokens_scanSign_44 : decode b_Tokens_scanSign 44 = .ok (.iload_n 3, 1) := dc_29 (by decide +kernel)
theorem d_Tokens_scanSign_45 : decode b_Tokens_scanSign 45 = .ok (.iconst 2, 1) := dc_5 (by decide +kernel)
theorem d_Tokens_scanSign_46 : decode b_Tokens_scanSign 46 = .ok (.iadd, 1) := dc_96 (by decide +kernel)
theorem d_Tokens_scanSign_47 : decode b_Tokens_scanSign 47 = .ok (.ireturn, 1) := dc_172 (by decide +kernel)
theorem d_Tokens_scanSign_48 : decode b_Tokens_scanSign 48 = .ok (.iload 4, 2) := dc_21 (by decide +kernel)
theorem d_Tokens_scanSign_50 : decode b_Tokens_scanSign 50 = .ok (.bipush 52, 2) := dc_16 (by decide +kernel)
theorem d_Tokens_scanSign_52 : decode b_Tokens_scanSign 52 = .ok (.if_icmp .ne 21, 3) := dc_160 (by decide +kernel)
theorem d_Tokens_scanSign_55 : decode b_Tokens_scanSign 55 = .ok (.iload_n 2, 1) := dc_28 (by decide +kernel)
theorem d_Tokens_scanSign_56 : decode b_Tokens_scanSign 56 = .ok (.bipush 61, 2) := dc_16 (by decide +kernel)
theorem d_Tokens_scanSign_58 : decode b_Tokens_scanSign 58 = .ok (.if_icmp .ne 15, 3) := dc_160 (by decide +kernel)
theorem d_Tokens_scanSign_61 : decode b_Tokens_scanSign 61 = .ok (.aload_n 0, 1) := dc_42 (by decide +kernel)
theorem d_Tokens_scanSign_62 : decode b_Tokens_scanSign 62 = .ok (.bipush 51, 2) := dc_16 (by decide +kernel)
theorem d_Tokens_scanSign_64 : decode b_Tokens_scanSign 64 = .ok (.iconst 0, 1) := dc_3 (by decide +kernel)
theorem d_Tokens_scanSign_65 : decode b_Tokens_scanSign 65 = .ok (.iload_n 3, 1) := dc_29 (by decide +kernel)
theorem d_Tokens_scanSign_66 : decode b_Tokens_scanSign 66 = .ok (.invokevirtual 47, 3) := dc_182 (by decide +kernel)
theorem d_Tokens_scanSign_69 : decode b_Tokens_scanSign 69 = .ok (.iload_n 3, 1) := dc_29 (by decide +kernel)
theorem d_Tokens_scanSign_70 : decode b_Tokens_scanSign 70 = .ok (.iconst 2, 1) := dc_5 (by decide +kernel)
theorem d_Tokens_scanSign_71 : decode b_Tokens_scanSign 71 = .ok (.iadd, 1) := dc_96 (by decide +kernel)
theorem d_Tokens_scanSign_72 : decode b_Tokens_scanSign 72 = .ok (.ireturn, 1) := dc_172 (by decide +kernel)
theorem d_Tokens_scanSign_73 : decode b_Tokens_scanSign 73 = .ok (.aload_n 0, 1) := dc_42 (by decide +kernel)
theorem d_Tokens_scanSign_74 : decode b_Tokens_scanSign 74 = .ok (.iload 4, 2) := dc_21 (by decide +kernel)
theorem d_Tokens_scanSign_76 : decode b_Tokens_scanSign 76 = .ok (.iconst 0, 1) := dc_3 (by decide +kernel)
theorem d_Tokens_scanSign_77 : decode b_Tokens_scanSign 77 = .ok (.iload_n 3, 1) := dc_29 (by decide +kernel)
theorem d_Tokens_scanSign_78 : decode b_Tokens_scanSign 78 = .ok (.invokevirtual 47, 3) := dc_182 (by decide +kernel)
theorem d_Tokens_scanSign_81 : decode b_Tokens_scanSign 81 = .ok (.iload_n 3, 1) := dc_29 (by decide +kernel)
theorem d_Tokens_scanSign_82 : decode b_Tokens_scanSign 82 = .ok (.iconst 1, 1) := dc_4 (by decide +kernel)
theorem d_Tokens_scanSign_83 : decode b_Tokens_scanSign 83 = .ok (.iadd, 1) := dc_96 (by decide +kernel)
theorem d_Tokens_scanSign_84 : decode b_Tokens_scanSign 84 = .ok (.ireturn, 1) := dc_172 (by decide +kernel)
def t_Tokens_scanSign_L39 (x1 : Int) (x2 : Int) (x3 : Int)  (M : Mem) (v2_ : Int) : Mem × Int := (qlet (t_Tokens_add M v2_ 0 x3) fun q13 => (q13, (w32 (x3 + 2))))
def t_Tokens_scanSign_L25 (x1 : Int) (x2 : Int) (x3 : Int)  (M : Mem)  : Mem × Int := (if x2 = 61 then (t_Tokens_scanSign_L39 x1 x2 x3 M 48) else (t_Tokens_scanSign_L39 x1 x2 x3 M 50))
def t_Tokens_scanSign_L73 (x1 : Int) (x2 : Int) (x3 : Int)  (M : Mem) (v2_ : Int) : Mem × Int := (qlet (t_Tokens_add M v2_ 0 x3) fun q11 => (q11, (w32 (x3 + 1))))
def t_Tokens_scanSign_L48 (x1 : Int) (x2 : Int) (x3 : Int)  (M : Mem) (v3_ : Int) : Mem × Int := (if v3_ = 52 then (if x2 = 61 then (qlet (t_Tokens_add M 51 0 x3) fun q8 => (q8, (w32 (x3 + 2)))) else (t_Tokens_scanSign_L73 x1 x2 x3 M v3_)) else (t_Tokens_scanSign_L73 x1 x2 x3 M v3_))
def t_Tokens_scanSign (M : Mem) (x1 : Int) (x2 : Int) (x3 : Int) : Mem × Int := (qlet (t_Tokens_signOf M x1) fun q1 => (if q1 = 47 then (if x2 = 61 then (t_Tokens_scanSign_L25 x1 x2 x3 M) else (if x2 = 62 then (t_Tokens_scanSign_L25 x1 x2 x3 M) else (t_Tokens_scanSign_L48 x1 x2 x3 M q1))) else (t_Tokens_scanSign_L48 x1 x2 x3 M q1)))
set_option maxHeartbeats 4000000 in
set_option maxRecDepth 100000 in
theorem k_Tokens_scanSign_L39 (l : Launch) {p : Program} {e : Env} {s : State} {m : MethodId} {below : List Frame} {meth : Method} {c : Code} {b n : Nat} {C : CT} (hlo : 191 ≤ n) (x1 : Int) (x2 : Int) (x3 : Int) (hx1 : InR x1) (hx2 : InR x2) (hx3 : InR x3) (F : Cx b p m c b_Tokens_scanSign 5 s ([.ref (b + 42), vI x1, vI x2, vI x3] : List Value).toArray "WardFalls$Tokens" C n 191) (hlk : meth.locks = false) (hr : meth.sig.returnType = some .int) {res : Mem × Int} (M : Mem) (v2_ : Int) (hv2_ : InR v2_) (H : Heap) (locs : List Loc) (ls : Array Slot) (hS : St b C n M s H locs) (hl : lv_has ls 5 [(3, vI x3)]) (hT : t_Tokens_scanSign_L39 x1 x2 x3 M v2_ = res) : W p l e (headSpec (wsM y_Tokens_scanSign b_Tokens_scanSign 5 (some .int)) (rmD 2)).room s m ([.ref (b + 42), vI x1, vI x2, vI x3] : List Value).toArray below meth c H locs 0 0 (MQ below (QI b C n res.1 res.2) ([.ref (b + 42), vI x1, vI x2, vI x3] : List Value).toArray s 0 0 (frb b)) (F0 m 39 ls [vI v2_, .ref (b + 42)]) := by
  unfold t_Tokens_scanSign_L39 at hT
  refine r_iconst F.hx F.hb d_Tokens_scanSign_39 ?_
  refine lv_iload_n F.hx F.hb d_Tokens_scanSign_40 rfl (lv_at hl 0 rfl) ?_
  obtain ⟨q13, hq13⟩ : ∃ q, q = (t_Tokens_add M v2_ 0 x3) := ⟨_, rfl⟩
  replace hT := qlet_eq hT hq13
  refine r_backV F hS (r_runV (k := 42) (N := 4) (T := T10) (As := [vI v2_, vI 0, vI x3]) F hS (show 42 < 191 by decide) (show shK 42 = 14 from rfl) rfl (c_Tokens_add l F.2.2.1 M v2_ 0 x3 hv2_ (inr_c rfl) hx3 _ hq13.symm) gs_Tokens_47 hd_Tokens_add ⟨Nat.le_of_ble_eq_true rfl, Nat.le_of_ble_eq_true rfl⟩ rfl hl.1 (Nat.le_of_ble_eq_true rfl) ⟨Nat.zero_le _, Nat.zero_le _⟩ rfl d_Tokens_scanSign_41) (fun H locs hS => ?_)
  refine lv_iload_n F.hx F.hb d_Tokens_scanSign_44 rfl (lv_at hl 0 rfl) ?_
  refine r_iconst F.hx F.hb d_Tokens_scanSign_45 ?_
  refine r_iadd F.hx F.hb d_Tokens_scanSign_46 ?_
  subst hT
  exact r_iret F hlk hr rfl hS (inr_w32 _) d_Tokens_scanSign_47
set_option maxHeartbeats 4000000 in
set_option maxRecDepth 100000 in
theorem k_Tokens_scanSign_L25 (l : Launch) {p : Program} {e : Env} {s : State} {m : MethodId} {below : List Frame} {meth : Method} {c : Code} {b n : Nat} {C : CT} (hlo : 191 ≤ n) (x1 : Int) (x2 : Int) (x3 : Int) (hx1 : InR x1) (hx2 : InR x2) (hx3 : InR x3) (F : Cx b p m c b_Tokens_scanSign 5 s ([.ref (b + 42), vI x1, vI x2, vI x3] : List Value).toArray "WardFalls$Tokens" C n 191) (hlk : meth.locks = false) (hr : meth.sig.returnType = some .int) {res : Mem × Int} (M : Mem)  (H : Heap) (locs : List Loc) (ls : Array Slot) (hS : St b C n M s H locs) (hl : lv_has ls 5 [(0, .ref (b + 42)), (2, vI x2), (3, vI x3)]) (hT : t_Tokens_scanSign_L25 x1 x2 x3 M = res) : W p l e (headSpec (wsM y_Tokens_scanSign b_Tokens_scanSign 5 (some .int)) (rmD 2)).room s m ([.ref (b + 42), vI x1, vI x2, vI x3] : List Value).toArray below meth c H locs 0 0 (MQ below (QI b C n res.1 res.2) ([.ref (b + 42), vI x1, vI x2, vI x3] : List Value).toArray s 0 0 (frb b)) (F0 m 25 ls []) := by
  unfold t_Tokens_scanSign_L25 at hT
  refine lv_aload_n F.hx F.hb d_Tokens_scanSign_25 rfl (lv_at hl 0 rfl) ?_
  refine lv_iload_n F.hx F.hb d_Tokens_scanSign_26 rfl (lv_at hl 1 rfl) ?_
  refine r_bipush F.hx F.hb d_Tokens_scanSign_27 rfl ?_
  refine r_icmp_ne (tgt := 37) F.hx F.hb hx2 (inr_c rfl) d_Tokens_scanSign_29 (by decide) (fun c10 => ?_) (fun c10 => ?_)
  · replace hT := (if_neg c10).symm.trans hT
    refine r_bipush F.hx F.hb d_Tokens_scanSign_37 rfl ?_
    exact k_Tokens_scanSign_L39 l hlo x1 x2 x3 hx1 hx2 hx3 F hlk hr M 50 (inr_c rfl) _ _ _ hS (lv_sub hl [2] rfl) hT
  · replace hT := (if_pos c10).symm.trans hT
    refine r_bipush F.hx F.hb d_Tokens_scanSign_32 rfl ?_
    refine lv_goto (tgt := 39) F.hx F.hb d_Tokens_scanSign_34 (by decide) ?_
    exact k_Tokens_scanSign_L39 l hlo x1 x2 x3 hx1 hx2 hx3 F hlk hr M 48 (inr_c rfl) _ _ _ hS (lv_sub hl [2] rfl) hT
set_option maxHeartbeats 4000000 in
set_option maxRecDepth 100000 in
theorem k_Tokens_scanSign_L73 (l : Launch) {p : Program} {e : Env} {s : State} {m : MethodId} {below : List Frame} {meth : Method} {c : Code} {b n : Nat} {C : CT} (hlo : 191 ≤ n) (x1 : Int) (x2 : Int) (x3 : Int) (hx1 : InR x1) (hx2 : InR x2) (hx3 : InR x3) (F : Cx b p m c b_Tokens_scanSign 5 s ([.ref (b + 42), vI x1, vI x2, vI x3] : List Value).toArray "WardFalls$Tokens" C n 191) (hlk : meth.locks = false) (hr : meth.sig.returnType = some .int) {res : Mem × Int} (M : Mem) (v2_ : Int) (hv2_ : InR v2_) (H : Heap) (locs : List Loc) (ls : Array Slot) (hS : St b C n M s H locs) (hl : lv_has ls 5 [(0, .ref (b + 42)), (3, vI x3), (4, vI v2_)]) (hT : t_Tokens_scanSign_L73 x1 x2 x3 M v2_ = res) : W p l e (headSpec (wsM y_Tokens_scanSign b_Tokens_scanSign 5 (some .int)) (rmD 2)).room s m ([.ref (b + 42), vI x1, vI x2, vI x3] : List Value).toArray below meth c H locs 0 0 (MQ below (QI b C n res.1 res.2) ([.ref (b + 42), vI x1, vI x2, vI x3] : List Value).toArray s 0 0 (frb b)) (F0 m 73 ls []) := by
  unfold t_Tokens_scanSign_L73 at hT
  refine lv_aload_n F.hx F.hb d_Tokens_scanSign_73 rfl (lv_at hl 0 rfl) ?_
  refine lv_iload F.hx F.hb d_Tokens_scanSign_74 (lv_at hl 2 rfl) ?_
  refine r_iconst F.hx F.hb d_Tokens_scanSign_76 ?_
  refine lv_iload_n F.hx F.hb d_Tokens_scanSign_77 rfl (lv_at hl 1 rfl) ?_
  obtain ⟨q11, hq11⟩ : ∃ q, q = (t_Tokens_add M v2_ 0 x3) := ⟨_, rfl⟩
  replace hT := qlet_eq hT hq11
  refine r_backV F hS (r_runV (k := 42) (N := 4) (T := T10) (As := [vI v2_, vI 0, vI x3]) F hS (show 42 < 191 by decide) (show shK 42 = 14 from rfl) rfl (c_Tokens_add l F.2.2.1 M v2_ 0 x3 hv2_ (inr_c rfl) hx3 _ hq11.symm) gs_Tokens_47 hd_Tokens_add ⟨Nat.le_of_ble_eq_true rfl, Nat.le_of_ble_eq_true rfl⟩ rfl hl.1 (Nat.le_of_ble_eq_true rfl) ⟨Nat.zero_le _, Nat.zero_le _⟩ rfl d_Tokens_scanSign_78) (fun H locs hS => ?_)
  refine lv_iload_n F.hx F.hb d_Tokens_scanSign_81 rfl (lv_at hl 1 rfl) ?_
  refine r_iconst F.hx F.hb d_Tokens_scanSign_82 ?_
  refine r_iadd F.hx F.hb d_Tokens_scanSign_83 ?_
  subst hT
  exact r_iret F hlk hr rfl hS (inr_w32 _) d_Tokens_scanSign_84
set_option maxHeartbeats 4000000 in
set_option maxRecDepth 100000 in
theorem k_Tokens_scanSign_L48 (l : Launch) {p : Program} {e : Env} {s : State} {m : MethodId} {below : List Frame} {meth : Method} {c : Code} {b n : Nat} {C : CT} (hlo : 191 ≤ n) (x1 : Int) (x2 : Int) (x3 : Int) (hx1 : InR x1) (hx2 : InR x2) (hx3 : InR x3) (F : Cx b p m c b_Tokens_scanSign 5 s ([.ref (b + 42), vI x1, vI x2, vI x3] : List Value).toArray "WardFalls$Tokens" C n 191) (hlk : meth.locks = false) (hr : meth.sig.returnType = some .int) {res : Mem × Int} (M : Mem) (v3_ : Int) (hv3_ : InR v3_) (H : Heap) (locs : List Loc) (ls : Array Slot) (hS : St b C n M s H locs) (hl : lv_has ls 5 [(0, .ref (b + 42)), (2, vI x2), (3, vI x3), (4, vI v3_)]) (hT : t_Tokens_scanSign_L48 x1 x2 x3 M v3_ = res) : W p l e (headSpec (wsM y_Tokens_scanSign b_Tokens_scanSign 5 (some .int)) (rmD 2)).room s m ([.ref (b + 42), vI x1, vI x2, vI x3] : List Value).toArray below meth c H locs 0 0 (MQ below (QI b C n res.1 res.2) ([.ref (b + 42), vI x1, vI x2, vI x3] : List Value).toArray s 0 0 (frb b)) (F0 m 48 ls []) := by
  unfold t_Tokens_scanSign_L48 at hT
  refine lv_iload F.hx F.hb d_Tokens_scanSign_48 (lv_at hl 3 rfl) ?_
  refine r_bipush F.hx F.hb d_Tokens_scanSign_50 rfl ?_
  refine r_icmp_ne (tgt := 73) F.hx F.hb hv3_ (inr_c rfl) d_Tokens_scanSign_52 (by decide) (fun c6 => ?_) (fun c6 => ?_)
  · replace hT := (if_neg c6).symm.trans hT
    exact k_Tokens_scanSign_L73 l hlo x1 x2 x3 hx1 hx2 hx3 F hlk hr M v3_ hv3_ _ _ _ hS (lv_sub hl [0, 2, 3] rfl) hT
  · replace hT := (if_pos c6).symm.trans hT
    refine lv_iload_n F.hx F.hb d_Tokens_scanSign_55 rfl (lv_at hl 1 rfl) ?_
    refine r_bipush F.hx F.hb d_Tokens_scanSign_56 rfl ?_
    refine r_icmp_ne (tgt := 73) F.hx F.hb hx2 (inr_c rfl) d_Tokens_scanSign_58 (by decide) (fun c7 => ?_) (fun c7 => ?_)
    · replace hT := (if_neg c7).symm.trans hT
      exact k_Tokens_scanSign_L73 l hlo x1 x2 x3 hx1 hx2 hx3 F hlk hr M v3_ hv3_ _ _ _ hS (lv_sub hl [0, 2, 3] rfl) hT
    · replace hT := (if_pos c7).symm.trans hT
      refine lv_aload_n F.hx F.hb d_Tokens_scanSign_61 rfl (lv_at hl 0 rfl) ?_
      refine r_bipush F.hx F.hb d_Tokens_scanSign_62 rfl ?_
      refine r_iconst F.hx F.hb d_Tokens_scanSign_64 ?_
      refine lv_iload_n F.hx F.hb d_Tokens_scanSign_65 rfl (lv_at hl 2 rfl) ?_
      obtain ⟨q8, hq8⟩ : ∃ q, q = (t_Tokens_add M 51 0 x3) := ⟨_, rfl⟩
      replace hT := qlet_eq hT hq8
      refine r_backV F hS (r_runV (k := 42) (N := 4) (T := T10) (As := [vI 51, vI 0, vI x3]) F hS (show 42 < 191 by decide) (show shK 42 = 14 from rfl) rfl (c_Tokens_add l F.2.2.1 M 51 0 x3 (inr_c rfl) (inr_c rfl) hx3 _ hq8.symm) gs_Tokens_47 hd_Tokens_add ⟨Nat.le_of_ble_eq_true rfl, Nat.le_of_ble_eq_true rfl⟩ rfl hl.1 (Nat.le_of_ble_eq_true rfl) ⟨Nat.zero_le _, Nat.zero_le _⟩ rfl d_Tokens_scanSign_66) (fun H locs hS => ?_)
      refine lv_iload_n F.hx F.hb d_Tokens_scanSign_69 rfl (lv_at hl 2 rfl) ?_
      refine r_iconst F.hx F.hb d_Tokens_scanSign_70 ?_
      refine r_iadd F.hx F.hb d_Tokens_scanSign_71 ?_
      subst hT
      exact r_iret F hlk hr rfl hS (inr_w32 _) d_Tokens_scanSign_72
set_option maxHeartbeats 4000000 in
set_option maxRecDepth 100000 in
theorem c_Tokens_scanSign (l : Launch) {b n : Nat} {C : CT} (hlo : 191 ≤ n) (M : Mem) (x1 : Int) (x2 : Int) (x3 : Int) (hx1 : InR x1) (hx2 : InR x2) (hx3 : InR x3) (res : Mem × Int) (hT : t_Tokens_scanSign M x1 x2 x3 = res) : CM l b C n 2 y_Tokens_scanSign b_Tokens_scanSign 5 (some .int) [.ref (b + 42), vI x1, vI x2, vI x3] M (QI b C n res.1 res.2) := by
  refine CM.of (lo := 191) (ow := "WardFalls$Tokens") (by decide) rfl (Nat.le_of_ble_eq_true rfl) hlo (fun p e s m below meth c F hlk hr hS ls hl => ?_)
  have hl : lv_has ls 5 [(0, .ref (b + 42)), (1, vI x1), (2, vI x2), (3, vI x3)] := hl
  unfold t_Tokens_scanSign at hT
  refine lv_iload_n F.hx F.hb d_Tokens_scanSign_0 rfl (lv_at hl 1 rfl) ?_
  obtain ⟨q1, hq1⟩ : ∃ q, q = (t_Tokens_signOf M x1) := ⟨_, rfl⟩
  replace hT := qlet_eq hT hq1
  refine r_backI F hS (r_runS (As := [vI x1]) F hS (c_Tokens_signOf l F.2.2.1 M x1 hx1 _ hq1.symm) gs_Tokens_65 hd_Tokens_signOf ⟨Nat.le_of_ble_eq_true rfl, Nat.le_of_ble_eq_true rfl⟩ rfl hl.1 (Nat.le_of_ble_eq_true rfl) ⟨Nat.zero_le _, Nat.zero_le _⟩ rfl d_Tokens_scanSign_1) (fun H locs hS h2 => ?_)
  refine lv_istore (lv' := [(4, vI q1), (0, .ref (b + 42)), (1, vI x1), (2, vI x2), (3, vI x3)]) F.hx F.hb d_Tokens_scanSign_4 hl (Nat.le_of_ble_eq_true rfl) rfl (fun ls hl => ?_)
  refine lv_iload F.hx F.hb d_Tokens_scanSign_6 (lv_at hl 0 rfl) ?_
  refine r_bipush F.hx F.hb d_Tokens_scanSign_8 rfl ?_
  refine r_icmp_ne (tgt := 48) F.hx F.hb h2 (inr_c rfl) d_Tokens_scanSign_10 (by decide) (fun c3 => ?_) (fun c3 => ?_)
  · replace hT := (if_neg c3).symm.trans hT
    exact k_Tokens_scanSign_L48 l hlo x1 x2 x3 hx1 hx2 hx3 F hlk hr M q1 h2 _ _ _ hS (lv_sub hl [1, 3, 4, 0] rfl) hT
  · replace hT := (if_pos c3).symm.trans hT
    refine lv_iload_n F.hx F.hb d_Tokens_scanSign_13 rfl (lv_at hl 3 rfl) ?_
    refine r_bipush F.hx F.hb d_Tokens_scanSign_14 rfl ?_
    refine r_icmp_eq (tgt := 25) F.hx F.hb hx2 (inr_c rfl) d_Tokens_scanSign_16 (by decide) (fun c4 => ?_) (fun c4 => ?_)
    · replace hT := (if_pos c4).symm.trans hT
      exact k_Tokens_scanSign_L25 l hlo x1 x2 x3 hx1 hx2 hx3 F hlk hr M _ _ _ hS (lv_sub hl [1, 3, 4] rfl) hT
    · replace hT := (if_neg c4).symm.trans hT
      refine lv_iload_n F.hx F.hb d_Tokens_scanSign_19 rfl (lv_at hl 3 rfl) ?_
      refine r_bipush F.hx F.hb d_Tokens_scanSign_20 rfl ?_
      refine r_icmp_ne (tgt := 48) F.hx F.hb hx2 (inr_c rfl) d_Tokens_scanSign_22 (by decide) (fun c5 => ?_) (fun c5 => ?_)
      · replace hT := (if_neg c5).symm.trans hT
        exact k_Tokens_scanSign_L48 l hlo x1 x2 x3 hx1 hx2 hx3 F hlk hr M q1 h2 _ _ _ hS (lv_sub hl [1, 3, 4, 0] rfl) hT
      · replace hT := (if_pos c5).symm.trans hT
        exact k_Tokens_scanSign_L25 l hlo x1 x2 x3 hx1 hx2 hx3 F hlk hr M _ _ _ hS (lv_sub hl [1, 3, 4] rfl) hT
theorem d_Tokens_scan_0 : decode b_Tokens_scan 0 = .ok (.aload_n 0, 1) := dc_42 (by decide +kernel)
theorem d_Tokens_scan_1 : decode b_Tokens_scan 1 = .ok (.iconst 0, 1) := dc_3 (by decide +kernel)
theorem d_Tokens_scan_2 : decode b_Tokens_scan 2 = .ok (.putfield 21, 3) := dc_181 (by decide +kernel)
theorem d_Tokens_scan_5 : decode b_Tokens_scan 5 = .ok (.iconst 0, 1) := dc_3 (by decide +kernel)
theorem d_Tokens_scan_6 : decode b_Tokens_scan 6 = .ok (.istore_n 3, 1) := dc_62 (by decide +kernel)
theorem d_Tokens_scan_7 : decode b_Tokens_scan 7 = .ok (.iconst 0, 1) := dc_3 (by decide +kernel)
theorem d_Tokens_scan_8 : decode b_Tokens_scan 8 = .ok (.istore 4, 2) := dc_54 (by decide +kernel)
theorem d_Tokens_scan_10 : decode b_Tokens_scan 10 = .ok (.iload 4, 2) := dc_21 (by decide +kernel)
theorem d_Tokens_scan_12 : decode b_Tokens_scan 12 = .ok (.sipush 700, 3) := dc_17 (by decide +kernel)
theorem d_Tokens_scan_15 : decode b_Tokens_scan 15 = .ok (.if_icmp .ge 105, 3) := dc_162 (by decide +kernel)
theorem d_Tokens_scan_18 : decode b_Tokens_scan 18 = .ok (.iload_n 3, 1) := dc_29 (by decide +kernel)
theorem d_Tokens_scan_19 : decode b_Tokens_scan 19 = .ok (.iload_n 2, 1) := dc_28 (by decide +kernel)
theorem d_Tokens_scan_20 : decode b_Tokens_scan 20 = .ok (.if_icmp .ge 100, 3) := dc_162 (by decide +kernel)
theorem d_Tokens_scan_23 : decode b_Tokens_scan 23 = .ok (.aload_n 1, 1) := dc_43 (by decide +kernel)
theorem d_Tokens_scan_24 : decode b_Tokens_scan 24 = .ok (.iload_n 3, 1) := dc_29 (by decide +kernel)
theorem d_Tokens_scan_25 : decode b_Tokens_scan 25 = .ok (.invokestatic 25, 3) := dc_184 (by decide +kernel)
theorem d_Tokens_scan_28 : decode b_Tokens_scan 28 = .ok (.istore 5, 2) := dc_54 (by decide +kernel)
theorem d_Tokens_scan_30 : decode b_Tokens_scan 30 = .ok (.iload 5, 2) := dc_21 (by decide +kernel)
theorem d_Tokens_scan_32 : decode b_Tokens_scan 32 = .ok (.bipush 10, 2) := dc_16 (by decide +kernel)
theorem d_Tokens_scan_34 : decode b_Tokens_scan 34 = .ok (.if_icmp .eq 10, 3) := dc_159 (by decide +kernel)
theorem d_Tokens_scan_37 : decode b_Tokens_scan 37 = .ok (.iload 5, 2) := dc_21 (by decide +kernel)
theorem d_Tokens_scan_39 : decode b_Tokens_scan 39 = .ok (.bipush 32, 2) := dc_16 (by decide +kernel)
theorem d_Tokens_scan_41 : decode b_Tokens_scan 41 = .ok (.if_icmp .ne 9, 3) := dc_160 (by decide +kernel)
theorem d_Tokens_scan_44 : decode b_Tokens_scan 44 = .ok (.iinc 3 1, 3) := dc_132 (by decide +kernel)
theorem d_Tokens_scan_47 : decode b_Tokens_scan 47 = .ok (.goto 67, 3) := dc_167 (by decide +kernel)
theorem d_Tokens_scan_50 : decode b_Tokens_scan 50 = .ok (.iload 5, 2) := dc_21 (by decide +kernel)
theorem d_Tokens_scan_52 : decode b_Tokens_scan 52 = .ok (.invokestatic 29, 3) := dc_184 (by decide +kernel)
theorem d_Tokens_scan_55 : decode b_Tokens_scan 55 = .ok (.ifCond .eq 14, 3) := dc_153 (by decide +kernel)
theorem d_Tokens_scan_58 : decode b_Tokens_scan 58 = .ok (.aload_n 0, 1) := dc_42 (by decide +kernel)
theorem d_Tokens_scan_59 : decode b_Tokens_scan 59 = .ok (.aload_n 1, 1) := dc_43 (by decide +kernel)
theorem d_Tokens_scan_60 : decode b_Tokens_scan 60 = .ok (.iload_n 3, 1) := dc_29 (by decide +kernel)
theorem d_Tokens_scan_61 : decode b_Tokens_scan 61 = .ok (.iload_n 2, 1) := dc_28 (by decide +kernel)
theorem d_Tokens_scan_62 : decode b_Tokens_scan 62 = .ok (.invokevirtual 33, 3) := dc_182 (by decide +kernel)
theorem d_Tokens_scan_65 : decode b_Tokens_scan 65 = .ok (.istore_n 3, 1) := dc_62 (by decide +kernel)
theorem d_Tokens_scan_66 : decode b_Tokens_scan 66 = .ok (.goto 48, 3) := dc_167 (by decide +kernel)
theorem d_Tokens_scan_69 : decode b_Tokens_scan 69 = .ok (.iload 5, 2) := dc_21 (by decide +kernel)
theorem d_Tokens_scan_71 : decode b_Tokens_scan 71 = .ok (.invokestatic 37, 3) := dc_184 (by decide +kernel)
theorem d_Tokens_scan_74 : decode b_Tokens_scan 74 = .ok (.ifCond .eq 14, 3) := dc_153 (by decide +kernel)
theorem d_Tokens_scan_77 : decode b_Tokens_scan 77 = .ok (.aload_n 0, 1) := dc_42 (by decide +kernel)
theorem d_Tokens_scan_78 : decode b_Tokens_scan 78 = .ok (.aload_n 1, 1) := dc_43 (by decide +kernel)
theorem d_Tokens_scan_79 : decode b_Tokens_scan 79 = .ok (.iload_n 3, 1) := dc_29 (by decide +kernel)
theorem d_Tokens_scan_80 : decode b_Tokens_scan 80 = .ok (.iload_n 2, 1) := dc_28 (by decide +kernel)
theorem d_Tokens_scan_81 : decode b_Tokens_scan 81 = .ok (.invokevirtual 40, 3) := dc_182 (by decide +kernel)
theorem d_Tokens_scan_84 : decode b_Tokens_scan 84 = .ok (.istore_n 3, 1) := dc_62 (by decide +kernel)
theorem d_Tokens_scan_85 : decode b_Tokens_scan 85 = .ok (.goto 29, 3) := dc_167 (by decide +kernel)
theorem d_Tokens_scan_88 : decode b_Tokens_scan 88 = .ok (.aload_n 0, 1) := dc_42 (by decide +kernel)
theorem d_Tokens_scan_89 : decode b_Tokens_scan 89 = .ok (.iload 5, 2) := dc_21 (by decide +kernel)
theorem d_Tokens_scan_91 : decode b_Tokens_scan 91 = .ok (.iload_n 3, 1) := dc_29 (by decide +kernel)
theorem d_Tokens_scan_92 : decode b_Tokens_scan 92 = .ok (.iconst 1, 1) := dc_4 (by decide +kernel)
theorem d_Tokens_scan_93 : decode b_Tokens_scan 93 = .ok (.iadd, 1) := dc_96 (by decide +kernel)
theorem d_Tokens_scan_94 : decode b_Tokens_scan 94 = .ok (.iload_n 2, 1) := dc_28 (by decide +kernel)
theorem d_Tokens_scan_95 : decode b_Tokens_scan 95 = .ok (.if_icmp .ge 13, 3) := dc_162 (by decide +kernel)
theorem d_Tokens_scan_98 : decode b_Tokens_scan 98 = .ok (.aload_n 1, 1) := dc_43 (by decide +kernel)
theorem d_Tokens_scan_99 : decode b_Tokens_scan 99 = .ok (.iload_n 3, 1) := dc_29 (by decide +kernel)
theorem d_Tokens_scan_100 : decode b_Tokens_scan 100 = .ok (.iconst 1, 1) := dc_4 (by decide +kernel)
theorem d_Tokens_scan_101 : decode b_Tokens_scan 101 = .ok (.iadd, 1) := dc_96 (by decide +kernel)
theorem d_Tokens_scan_102 : decode b_Tokens_scan 102 = .ok (.invokestatic 25, 3) := dc_184 (by decide +kernel)
theorem d_Tokens_scan_105 : decode b_Tokens_scan 105 = .ok (.goto 4, 3) := dc_167 (by decide +kernel)
theorem d_Tokens_scan_108 : decode b_Tokens_scan 108 = .ok (.iconst (-1), 1) := dc_2 (by decide +kernel)
theorem d_Tokens_scan_109 : decode b_Tokens_scan 109 = .ok (.iload_n 3, 1) := dc_29 (by decide +kernel)
theorem d_Tokens_scan_110 : decode b_Tokens_scan 110 = .ok (.invokevirtual 43, 3) := dc_182 (by decide +kernel)
theorem d_Tokens_scan_113 : decode b_Tokens_scan 113 = .ok (.istore_n 3, 1) := dc_62 (by decide +kernel)
theorem d_Tokens_scan_114 : decode b_Tokens_scan 114 = .ok (.iinc 4 1, 3) := dc_132 (by decide +kernel)
theorem d_Tokens_scan_117 : decode b_Tokens_scan 117 = .ok (.goto (-107), 3) := dc_167 (by decide +kernel)
theorem d_Tokens_scan_120 : decode b_Tokens_scan 120 = .ok (.aload_n 0, 1) := dc_42 (by decide +kernel)
theorem d_Tokens_scan_121 : decode b_Tokens_scan 121 = .ok (.bipush 32, 2) := dc_16 (by decide +kernel)
theorem d_Tokens_scan_123 : decode b_Tokens_scan 123 = .ok (.iconst 0, 1) := dc_3 (by decide +kernel)
theorem d_Tokens_scan_124 : decode b_Tokens_scan 124 = .ok (.iload_n 2, 1) := dc_28 (by decide +kernel)
theorem d_Tokens_scan_125 : decode b_Tokens_scan 125 = .ok (.invokevirtual 47, 3) := dc_182 (by decide +kernel)
theorem d_Tokens_scan_128 : decode b_Tokens_scan 128 = .ok (.return_, 1) := dc_177 (by decide +kernel)
def t_Tokens_scan_L114 (r1 : Nat) (N1 : Nat) (x2 : Int) (bk10 : Mem → Int → Int → Option (Mem)) (M : Mem) (v3_ : Int) (v4_ : Int) : Option (Mem) := (bk10 M v3_ (w32 (v4_ + 1)))
def t_Tokens_scan_L44 (r1 : Nat) (N1 : Nat) (x2 : Int) (bk10 : Mem → Int → Int → Option (Mem)) (M : Mem) (v3_ : Int) (v4_ : Int) : Option (Mem) := (t_Tokens_scan_L114 r1 N1 x2 bk10 M (w32 (v3_ + 1)) v4_)
def t_Tokens_scan_L109 (r1 : Nat) (N1 : Nat) (x2 : Int) (bk10 : Mem → Int → Int → Option (Mem)) (M : Mem) (v3_ : Int) (v4_ : Int) (v6_ : Int) (v7_ : Int) : Option (Mem) := (qlet (t_Tokens_scanSign M v6_ v7_ v3_) fun q23 => (t_Tokens_scan_L114 r1 N1 x2 bk10 (q23.1) (q23.2) v4_))
def t_Tokens_scan_L120 (r1 : Nat) (N1 : Nat) (x2 : Int)  (M : Mem)  : Option (Mem) := (qlet (t_Tokens_add M 32 0 x2) fun q21 => (some q21))
def t_Tokens_scan_L10 (r1 : Nat) (N1 : Nat) (x2 : Int)  : Nat → Mem → Int → Int → Option (Mem)
  | 0, _, _, _ => none
  | fu + 1, M, v3_, v4_ => (if 700 ≤ v4_ then (t_Tokens_scan_L120 r1 N1 x2 M) else (if x2 ≤ v3_ then (t_Tokens_scan_L120 r1 N1 x2 M) else (qlet (t_WF_look M r1 N1 v3_) fun q4 => (if q4 = 10 then (t_Tokens_scan_L44 r1 N1 x2 (fun a0_ a1_ a2_ => t_Tokens_scan_L10 r1 N1 x2 fu a0_ a1_ a2_) M v3_ v4_) else (if q4 = 32 then (t_Tokens_scan_L44 r1 N1 x2 (fun a0_ a1_ a2_ => t_Tokens_scan_L10 r1 N1 x2 fu a0_ a1_ a2_) M v3_ v4_) else (qlet (t_Tokens_isLetter M q4) fun q8 => (if q8 = 0 then (qlet (t_Tokens_isDigit M q4) fun q11 => (if q11 = 0 then (if x2 ≤ (w32 (v3_ + 1)) then (t_Tokens_scan_L109 r1 N1 x2 (fun a0_ a1_ a2_ => t_Tokens_scan_L10 r1 N1 x2 fu a0_ a1_ a2_) M v3_ v4_ q4 (-1)) else (qlet (t_WF_look M r1 N1 (w32 (v3_ + 1))) fun q15 => (t_Tokens_scan_L109 r1 N1 x2 (fun a0_ a1_ a2_ => t_Tokens_scan_L10 r1 N1 x2 fu a0_ a1_ a2_) M v3_ v4_ q4 q15))) else (obind (t_Tokens_scanNumber M r1 N1 v3_ x2) fun q17 => (t_Tokens_scan_L114 r1 N1 x2 (fun a0_ a1_ a2_ => t_Tokens_scan_L10 r1 N1 x2 fu a0_ a1_ a2_) (q17.1) (q17.2) v4_)))) else (obind (t_Tokens_scanWord M r1 N1 v3_ x2) fun q19 => (t_Tokens_scan_L114 r1 N1 x2 (fun a0_ a1_ a2_ => t_Tokens_scan_L10 r1 N1 x2 fu a0_ a1_ a2_) (q19.1) (q19.2) v4_)))))))))
def t_Tokens_scan (M : Mem) (r1 : Nat) (N1 : Nat) (x2 : Int) : Option (Mem) := (qlet (setI M 42 3 0) fun M1 => (t_Tokens_scan_L10 r1 N1 x2 FU M1 0 0))
set_option maxHeartbeats 4000000 in
set_option maxRecDepth 100000 in
theorem k_Tokens_scan_L114 (l : Launch) {p : Program} {e : Env} {s : State} {m : MethodId} {below : List Frame} {meth : Method} {c : Code} {b n : Nat} {C : CT} (hlo : 191 ≤ n) (r1 : Nat) (N1 : Nat) (x2 : Int) (hr1 : arrP 0 r1 N1 191) (hx2 : InR x2) (F : Cx b p m c b_Tokens_scan 6 s ([.ref (b + 42), .ref (b + r1), vI x2] : List Value).toArray "WardFalls$Tokens" C n 191) (hlk : meth.locks = false) (hr : meth.sig.returnType = none) {res : Mem} (bk10 : Mem → Int → Int → Option (Mem)) (hbk10 : ∀ (M : Mem) (v3_ : Int) (hv3_ : InR v3_) (v4_ : Int) (hv4_ : InR v4_) (H : Heap) (locs : List Loc) (ls : Array Slot), St b C n M s H locs → lv_has ls 6 [(0, .ref (b + 42)), (1, .ref (b + r1)), (2, vI x2), (3, vI v3_), (4, vI v4_)] → bk10 M v3_ v4_ = some res → W p l e (headSpec (wsM y_Tokens_scan b_Tokens_scan 6 (none)) (rmD 7)).room s m ([.ref (b + 42), .ref (b + r1), vI x2] : List Value).toArray below meth c H locs 0 0 (MQ below (QV b C n res) ([.ref (b + 42), .ref (b + r1), vI x2] : List Value).toArray s 0 0 (frb b)) (F0 m 10 ls [])) (M : Mem) (v3_ : Int) (hv3_ : InR v3_) (v4_ : Int) (hv4_ : InR v4_) (H : Heap) (locs : List Loc) (ls : Array Slot) (hS : St b C n M s H locs) (hl : lv_has ls 6 [(0, .ref (b + 42)), (1, .ref (b + r1)), (2, vI x2), (3, vI v3_), (4, vI v4_)]) (hT : t_Tokens_scan_L114 r1 N1 x2 bk10 M v3_ v4_ = some res) : W p l e (headSpec (wsM y_Tokens_scan b_Tokens_scan 6 (none)) (rmD 7)).room s m ([.ref (b + 42), .ref (b + r1), vI x2] : List Value).toArray below meth c H locs 0 0 (MQ below (QV b C n res) ([.ref (b + 42), .ref (b + r1), vI x2] : List Value).toArray s 0 0 (frb b)) (F0 m 114 ls []) := by
  unfold t_Tokens_scan_L114 at hT
  refine lv_iinc (v := Int32.ofInt (w32 (v4_ + 1))) (lv' := [(4, vI (w32 (v4_ + 1))), (0, .ref (b + 42)), (1, .ref (b + r1)), (2, vI x2), (3, vI v3_)]) F.hx F.hb d_Tokens_scan_114 hl (k := 4) rfl (q_of_add _ _) (Nat.le_of_ble_eq_true rfl) rfl (fun ls hl => ?_)
  refine lv_goto (tgt := 10) F.hx F.hb d_Tokens_scan_117 (by decide) ?_
  exact hbk10 M v3_ hv3_ (w32 (v4_ + 1)) (inr_w32 _) _ _ _ hS (lv_sub hl [1, 2, 3, 4, 0] rfl) hT
set_option maxHeartbeats 4000000 in
set_option maxRecDepth 100000 in
theorem k_Tokens_scan_L44 (l : Launch) {p : Program} {e : Env} {s : State} {m : MethodId} {below : List Frame} {meth : Method} {c : Code} {b n : Nat} {C : CT} (hlo : 191 ≤ n) (r1 : Nat) (N1 : Nat) (x2 : Int) (hr1 : arrP 0 r1 N1 191) (hx2 : InR x2) (F : Cx b p m c b_Tokens_scan 6 s ([.ref (b + 42), .ref (b + r1), vI x2] : List Value).toArray "WardFalls$Tokens" C n 191) (hlk : meth.locks = false) (hr : meth.sig.returnType = none) {res : Mem} (bk10 : Mem → Int → Int → Option (Mem)) (hbk10 : ∀ (M : Mem) (v3_ : Int) (hv3_ : InR v3_) (v4_ : Int) (hv4_ : InR v4_) (H : Heap) (locs : List Loc) (ls : Array Slot), St b C n M s H locs → lv_has ls 6 [(0, .ref (b + 42)), (1, .ref (b + r1)), (2, vI x2), (3, vI v3_), (4, vI v4_)] → bk10 M v3_ v4_ = some res → W p l e (headSpec (wsM y_Tokens_scan b_Tokens_scan 6 (none)) (rmD 7)).room s m ([.ref (b + 42), .ref (b + r1), vI x2] : List Value).toArray below meth c H locs 0 0 (MQ below (QV b C n res) ([.ref (b + 42), .ref (b + r1), vI x2] : List Value).toArray s 0 0 (frb b)) (F0 m 10 ls [])) (M : Mem) (v3_ : Int) (hv3_ : InR v3_) (v4_ : Int) (hv4_ : InR v4_) (H : Heap) (locs : List Loc) (ls : Array Slot) (hS : St b C n M s H locs) (hl : lv_has ls 6 [(0, .ref (b + 42)), (1, .ref (b + r1)), (2, vI x2), (3, vI v3_), (4, vI v4_)]) (hT : t_Tokens_scan_L44 r1 N1 x2 bk10 M v3_ v4_ = some res) : W p l e (headSpec (wsM y_Tokens_scan b_Tokens_scan 6 (none)) (rmD 7)).room s m ([.ref (b + 42), .ref (b + r1), vI x2] : List Value).toArray below meth c H locs 0 0 (MQ below (QV b C n res) ([.ref (b + 42), .ref (b + r1), vI x2] : List Value).toArray s 0 0 (frb b)) (F0 m 44 ls []) := by
  unfold t_Tokens_scan_L44 at hT
  refine lv_iinc (v := Int32.ofInt (w32 (v3_ + 1))) (lv' := [(3, vI (w32 (v3_ + 1))), (0, .ref (b + 42)), (1, .ref (b + r1)), (2, vI x2), (4, vI v4_)]) F.hx F.hb d_Tokens_scan_44 hl (k := 3) rfl (q_of_add _ _) (Nat.le_of_ble_eq_true rfl) rfl (fun ls hl => ?_)
  refine lv_goto (tgt := 114) F.hx F.hb d_Tokens_scan_47 (by decide) ?_
  exact k_Tokens_scan_L114 l hlo r1 N1 x2 hr1 hx2 F hlk hr bk10 hbk10 M (w32 (v3_ + 1)) (inr_w32 _) v4_ hv4_ _ _ _ hS (lv_sub hl [1, 2, 3, 0, 4] rfl) hT
set_option maxHeartbeats 4000000 in
set_option maxRecDepth 100000 in
theorem k_Tokens_scan_L109 (l : Launch) {p : Program} {e : Env} {s : State} {m : MethodId} {below : List Frame} {meth : Method} {c : Code} {b n : Nat} {C : CT} (hlo : 191 ≤ n) (r1 : Nat) (N1 : Nat) (x2 : Int) (hr1 : arrP 0 r1 N1 191) (hx2 : InR x2) (F : Cx b p m c b_Tokens_scan 6 s ([.ref (b + 42), .ref (b + r1), vI x2] : List Value).toArray "WardFalls$Tokens" C n 191) (hlk : meth.locks = false) (hr : meth.sig.returnType = none) {res : Mem} (bk10 : Mem → Int → Int → Option (Mem)) (hbk10 : ∀ (M : Mem) (v3_ : Int) (hv3_ : InR v3_) (v4_ : Int) (hv4_ : InR v4_) (H : Heap) (locs : List Loc) (ls : Array Slot), St b C n M s H locs → lv_has ls 6 [(0, .ref (b + 42)), (1, .ref (b + r1)), (2, vI x2), (3, vI v3_), (4, vI v4_)] → bk10 M v3_ v4_ = some res → W p l e (headSpec (wsM y_Tokens_scan b_Tokens_scan 6 (none)) (rmD 7)).room s m ([.ref (b + 42), .ref (b + r1), vI x2] : List Value).toArray below meth c H locs 0 0 (MQ below (QV b C n res) ([.ref (b + 42), .ref (b + r1), vI x2] : List Value).toArray s 0 0 (frb b)) (F0 m 10 ls [])) (M : Mem) (v3_ : Int) (hv3_ : InR v3_) (v4_ : Int) (hv4_ : InR v4_) (v6_ : Int) (hv6_ : InR v6_) (v7_ : Int) (hv7_ : InR v7_) (H : Heap) (locs : List Loc) (ls : Array Slot) (hS : St b C n M s H locs) (hl : lv_has ls 6 [(0, .ref (b + 42)), (1, .ref (b + r1)), (2, vI x2), (3, vI v3_), (4, vI v4_)]) (hT : t_Tokens_scan_L109 r1 N1 x2 bk10 M v3_ v4_ v6_ v7_ = some res) : W p l e (headSpec (wsM y_Tokens_scan b_Tokens_scan 6 (none)) (rmD 7)).room s m ([.ref (b + 42), .ref (b + r1), vI x2] : List Value).toArray below meth c H locs 0 0 (MQ below (QV b C n res) ([.ref (b + 42), .ref (b + r1), vI x2] : List Value).toArray s 0 0 (frb b)) (F0 m 109 ls [vI v7_, vI v6_, .ref (b + 42)]) := by
  unfold t_Tokens_scan_L109 at hT
  refine lv_iload_n F.hx F.hb d_Tokens_scan_109 rfl (lv_at hl 3 rfl) ?_
  obtain ⟨q23, hq23⟩ : ∃ q, q = (t_Tokens_scanSign M v6_ v7_ v3_) := ⟨_, rfl⟩
  replace hT := qlet_eq hT hq23
  refine r_backI F hS (r_runV (k := 42) (N := 4) (T := T10) (As := [vI v6_, vI v7_, vI v3_]) F hS (show 42 < 191 by decide) (show shK 42 = 14 from rfl) rfl (c_Tokens_scanSign l F.2.2.1 M v6_ v7_ v3_ hv6_ hv7_ hv3_ _ hq23.symm) gs_Tokens_43 hd_Tokens_scanSign ⟨Nat.le_of_ble_eq_true rfl, Nat.le_of_ble_eq_true rfl⟩ rfl hl.1 (Nat.le_of_ble_eq_true rfl) ⟨Nat.zero_le _, Nat.zero_le _⟩ rfl d_Tokens_scan_110) (fun H locs hS h24 => ?_)
  refine lv_istore_n (lv' := [(3, vI (q23.2)), (0, .ref (b + 42)), (1, .ref (b + r1)), (2, vI x2), (4, vI v4_)]) F.hx F.hb d_Tokens_scan_113 rfl hl (Nat.le_of_ble_eq_true rfl) rfl (fun ls hl => ?_)
  exact k_Tokens_scan_L114 l hlo r1 N1 x2 hr1 hx2 F hlk hr bk10 hbk10 (q23.1) (q23.2) h24 v4_ hv4_ _ _ _ hS (lv_sub hl [1, 2, 3, 0, 4] rfl) hT
set_option maxHeartbeats 4000000 in
set_option maxRecDepth 100000 in
theorem k_Tokens_scan_L120 (l : Launch) {p : Program} {e : Env} {s : State} {m : MethodId} {below : List Frame} {meth : Method} {c : Code} {b n : Nat} {C : CT} (hlo : 191 ≤ n) (r1 : Nat) (N1 : Nat) (x2 : Int) (hr1 : arrP 0 r1 N1 191) (hx2 : InR x2) (F : Cx b p m c b_Tokens_scan 6 s ([.ref (b + 42), .ref (b + r1), vI x2] : List Value).toArray "WardFalls$Tokens" C n 191) (hlk : meth.locks = false) (hr : meth.sig.returnType = none) {res : Mem} (M : Mem)  (H : Heap) (locs : List Loc) (ls : Array Slot) (hS : St b C n M s H locs) (hl : lv_has ls 6 [(0, .ref (b + 42)), (2, vI x2)]) (hT : t_Tokens_scan_L120 r1 N1 x2 M = some res) : W p l e (headSpec (wsM y_Tokens_scan b_Tokens_scan 6 (none)) (rmD 7)).room s m ([.ref (b + 42), .ref (b + r1), vI x2] : List Value).toArray below meth c H locs 0 0 (MQ below (QV b C n res) ([.ref (b + 42), .ref (b + r1), vI x2] : List Value).toArray s 0 0 (frb b)) (F0 m 120 ls []) := by
  unfold t_Tokens_scan_L120 at hT
  refine lv_aload_n F.hx F.hb d_Tokens_scan_120 rfl (lv_at hl 0 rfl) ?_
  refine r_bipush F.hx F.hb d_Tokens_scan_121 rfl ?_
  refine r_iconst F.hx F.hb d_Tokens_scan_123 ?_
  refine lv_iload_n F.hx F.hb d_Tokens_scan_124 rfl (lv_at hl 1 rfl) ?_
  obtain ⟨q21, hq21⟩ : ∃ q, q = (t_Tokens_add M 32 0 x2) := ⟨_, rfl⟩
  replace hT := qlet_eq hT hq21
  refine r_backV F hS (r_runV (k := 42) (N := 4) (T := T10) (As := [vI 32, vI 0, vI x2]) F hS (show 42 < 191 by decide) (show shK 42 = 14 from rfl) rfl (c_Tokens_add l F.2.2.1 M 32 0 x2 (inr_c rfl) (inr_c rfl) hx2 _ hq21.symm) gs_Tokens_47 hd_Tokens_add ⟨Nat.le_of_ble_eq_true rfl, Nat.le_of_ble_eq_true rfl⟩ rfl hl.1 (Nat.le_of_ble_eq_true rfl) ⟨Nat.zero_le _, Nat.zero_le _⟩ rfl d_Tokens_scan_125) (fun H locs hS => ?_)
  cases hT
  exact r_vret F hlk hr hS d_Tokens_scan_128
set_option maxHeartbeats 4000000 in
set_option maxRecDepth 100000 in
theorem k_Tokens_scan_L10 (l : Launch) {p : Program} {e : Env} {s : State} {m : MethodId} {below : List Frame} {meth : Method} {c : Code} {b n : Nat} {C : CT} (hlo : 191 ≤ n) (r1 : Nat) (N1 : Nat) (x2 : Int) (hr1 : arrP 0 r1 N1 191) (hx2 : InR x2) (F : Cx b p m c b_Tokens_scan 6 s ([.ref (b + 42), .ref (b + r1), vI x2] : List Value).toArray "WardFalls$Tokens" C n 191) (hlk : meth.locks = false) (hr : meth.sig.returnType = none) {res : Mem} : ∀ (fu : Nat) (M : Mem) (v3_ : Int) (hv3_ : InR v3_) (v4_ : Int) (hv4_ : InR v4_) (H : Heap) (locs : List Loc) (ls : Array Slot), St b C n M s H locs → lv_has ls 6 [(0, .ref (b + 42)), (1, .ref (b + r1)), (2, vI x2), (3, vI v3_), (4, vI v4_)] → t_Tokens_scan_L10 r1 N1 x2 fu M v3_ v4_ = some res → W p l e (headSpec (wsM y_Tokens_scan b_Tokens_scan 6 (none)) (rmD 7)).room s m ([.ref (b + 42), .ref (b + r1), vI x2] : List Value).toArray below meth c H locs 0 0 (MQ below (QV b C n res) ([.ref (b + 42), .ref (b + r1), vI x2] : List Value).toArray s 0 0 (frb b)) (F0 m 10 ls []) := by
  intro fu
  induction fu with
  | zero => intro M v3_ hv3_ v4_ hv4_ H locs ls hS hl hT; exact absurd hT (by simp [t_Tokens_scan_L10])
  | succ fu ih =>
    intro M v3_ hv3_ v4_ hv4_ H locs ls hS hl hT
    rw [t_Tokens_scan_L10] at hT
    refine lv_iload F.hx F.hb d_Tokens_scan_10 (lv_at hl 4 rfl) ?_
    refine r_sipush F.hx F.hb d_Tokens_scan_12 rfl ?_
    refine r_icmp_ge (tgt := 120) F.hx F.hb hv4_ (inr_c rfl) d_Tokens_scan_15 (by decide) (fun c2 => ?_) (fun c2 => ?_)
    · replace hT := (if_pos c2).symm.trans hT
      exact k_Tokens_scan_L120 l hlo r1 N1 x2 hr1 hx2 F hlk hr M _ _ _ hS (lv_sub hl [0, 2] rfl) hT
    · replace hT := (if_neg c2).symm.trans hT
      refine lv_iload_n F.hx F.hb d_Tokens_scan_18 rfl (lv_at hl 3 rfl) ?_
      refine lv_iload_n F.hx F.hb d_Tokens_scan_19 rfl (lv_at hl 2 rfl) ?_
      refine r_icmp_ge (tgt := 120) F.hx F.hb hv3_ hx2 d_Tokens_scan_20 (by decide) (fun c3 => ?_) (fun c3 => ?_)
      · replace hT := (if_pos c3).symm.trans hT
        exact k_Tokens_scan_L120 l hlo r1 N1 x2 hr1 hx2 F hlk hr M _ _ _ hS (lv_sub hl [0, 2] rfl) hT
      · replace hT := (if_neg c3).symm.trans hT
        refine lv_aload_n F.hx F.hb d_Tokens_scan_23 rfl (lv_at hl 1 rfl) ?_
        refine lv_iload_n F.hx F.hb d_Tokens_scan_24 rfl (lv_at hl 3 rfl) ?_
        obtain ⟨q4, hq4⟩ : ∃ q, q = (t_WF_look M r1 N1 v3_) := ⟨_, rfl⟩
        replace hT := qlet_eq hT hq4
        refine r_backI F hS (r_runSN (As := [.ref (b + r1), vI v3_]) F hS (c_WF_look l F.2.2.1 M r1 N1 v3_ hr1 hv3_ _ hq4.symm) mw_519 mw_518 mw_1 gs_Tokens_25 hd_WF_look ⟨Nat.le_of_ble_eq_true rfl, Nat.le_of_ble_eq_true rfl⟩ rfl hl.1 (Nat.le_of_ble_eq_true rfl) ⟨Nat.zero_le _, Nat.zero_le _⟩ rfl d_Tokens_scan_25) (fun H locs hS h5 => ?_)
        refine lv_istore (lv' := [(5, vI q4), (0, .ref (b + 42)), (1, .ref (b + r1)), (2, vI x2), (3, vI v3_), (4, vI v4_)]) F.hx F.hb d_Tokens_scan_28 hl (Nat.le_of_ble_eq_true rfl) rfl (fun ls hl => ?_)
        refine lv_iload F.hx F.hb d_Tokens_scan_30 (lv_at hl 0 rfl) ?_
        refine r_bipush F.hx F.hb d_Tokens_scan_32 rfl ?_
        refine r_icmp_eq (tgt := 44) F.hx F.hb h5 (inr_c rfl) d_Tokens_scan_34 (by decide) (fun c6 => ?_) (fun c6 => ?_)
        · replace hT := (if_pos c6).symm.trans hT
          exact k_Tokens_scan_L44 l hlo r1 N1 x2 hr1 hx2 F hlk hr (fun a0_ a1_ a2_ => t_Tokens_scan_L10 r1 N1 x2 fu a0_ a1_ a2_) ih M v3_ hv3_ v4_ hv4_ _ _ _ hS (lv_sub hl [1, 2, 3, 4, 5] rfl) hT
        · replace hT := (if_neg c6).symm.trans hT
          refine lv_iload F.hx F.hb d_Tokens_scan_37 (lv_at hl 0 rfl) ?_
          refine r_bipush F.hx F.hb d_Tokens_scan_39 rfl ?_
          refine r_icmp_ne (tgt := 50) F.hx F.hb h5 (inr_c rfl) d_Tokens_scan_41 (by decide) (fun c7 => ?_) (fun c7 => ?_)
          · replace hT := (if_neg c7).symm.trans hT
            refine lv_iload F.hx F.hb d_Tokens_scan_50 (lv_at hl 0 rfl) ?_
            obtain ⟨q8, hq8⟩ : ∃ q, q = (t_Tokens_isLetter M q4) := ⟨_, rfl⟩
            replace hT := qlet_eq hT hq8
            refine r_backZ F hS (r_runS (As := [vI q4]) F hS (c_Tokens_isLetter l F.2.2.1 M q4 h5 _ hq8.symm) gs_Tokens_29 hd_Tokens_isLetter ⟨Nat.le_of_ble_eq_true rfl, Nat.le_of_ble_eq_true rfl⟩ rfl hl.1 (Nat.le_of_ble_eq_true rfl) ⟨Nat.zero_le _, Nat.zero_le _⟩ rfl d_Tokens_scan_52) (fun H locs hS h9 => ?_)
            refine r_if_eq (tgt := 69) F.hx F.hb (inr_z h9) d_Tokens_scan_55 (by decide) (fun c10 => ?_) (fun c10 => ?_)
            · replace hT := (if_pos c10).symm.trans hT
              refine lv_iload F.hx F.hb d_Tokens_scan_69 (lv_at hl 0 rfl) ?_
              obtain ⟨q11, hq11⟩ : ∃ q, q = (t_Tokens_isDigit M q4) := ⟨_, rfl⟩
              replace hT := qlet_eq hT hq11
              refine r_backZ F hS (r_runS (As := [vI q4]) F hS (c_Tokens_isDigit l F.2.2.1 M q4 h5 _ hq11.symm) gs_Tokens_37 hd_Tokens_isDigit ⟨Nat.le_of_ble_eq_true rfl, Nat.le_of_ble_eq_true rfl⟩ rfl hl.1 (Nat.le_of_ble_eq_true rfl) ⟨Nat.zero_le _, Nat.zero_le _⟩ rfl d_Tokens_scan_71) (fun H locs hS h12 => ?_)
              refine r_if_eq (tgt := 88) F.hx F.hb (inr_z h12) d_Tokens_scan_74 (by decide) (fun c13 => ?_) (fun c13 => ?_)
              · replace hT := (if_pos c13).symm.trans hT
                refine lv_aload_n F.hx F.hb d_Tokens_scan_88 rfl (lv_at hl 1 rfl) ?_
                refine lv_iload F.hx F.hb d_Tokens_scan_89 (lv_at hl 0 rfl) ?_
                refine lv_iload_n F.hx F.hb d_Tokens_scan_91 rfl (lv_at hl 4 rfl) ?_
                refine r_iconst F.hx F.hb d_Tokens_scan_92 ?_
                refine r_iadd F.hx F.hb d_Tokens_scan_93 ?_
                refine lv_iload_n F.hx F.hb d_Tokens_scan_94 rfl (lv_at hl 3 rfl) ?_
                refine r_icmp_ge (tgt := 108) F.hx F.hb (inr_w32 _) hx2 d_Tokens_scan_95 (by decide) (fun c14 => ?_) (fun c14 => ?_)
                · replace hT := (if_pos c14).symm.trans hT
                  refine r_iconst F.hx F.hb d_Tokens_scan_108 ?_
                  exact k_Tokens_scan_L109 l hlo r1 N1 x2 hr1 hx2 F hlk hr (fun a0_ a1_ a2_ => t_Tokens_scan_L10 r1 N1 x2 fu a0_ a1_ a2_) ih M v3_ hv3_ v4_ hv4_ q4 h5 (-1) (inr_c rfl) _ _ _ hS (lv_sub hl [1, 2, 3, 4, 5] rfl) hT
                · replace hT := (if_neg c14).symm.trans hT
                  refine lv_aload_n F.hx F.hb d_Tokens_scan_98 rfl (lv_at hl 2 rfl) ?_
                  refine lv_iload_n F.hx F.hb d_Tokens_scan_99 rfl (lv_at hl 4 rfl) ?_
                  refine r_iconst F.hx F.hb d_Tokens_scan_100 ?_
                  refine r_iadd F.hx F.hb d_Tokens_scan_101 ?_
                  obtain ⟨q15, hq15⟩ : ∃ q, q = (t_WF_look M r1 N1 (w32 (v3_ + 1))) := ⟨_, rfl⟩
                  replace hT := qlet_eq hT hq15
                  refine r_backI F hS (r_runSN (As := [.ref (b + r1), vI (w32 (v3_ + 1))]) F hS (c_WF_look l F.2.2.1 M r1 N1 (w32 (v3_ + 1)) hr1 (inr_w32 _) _ hq15.symm) mw_519 mw_518 mw_1 gs_Tokens_25 hd_WF_look ⟨Nat.le_of_ble_eq_true rfl, Nat.le_of_ble_eq_true rfl⟩ rfl hl.1 (Nat.le_of_ble_eq_true rfl) ⟨Nat.zero_le _, Nat.zero_le _⟩ rfl d_Tokens_scan_102) (fun H locs hS h16 => ?_)
                  refine lv_goto (tgt := 109) F.hx F.hb d_Tokens_scan_105 (by decide) ?_
                  exact k_Tokens_scan_L109 l hlo r1 N1 x2 hr1 hx2 F hlk hr (fun a0_ a1_ a2_ => t_Tokens_scan_L10 r1 N1 x2 fu a0_ a1_ a2_) ih M v3_ hv3_ v4_ hv4_ q4 h5 q15 h16 _ _ _ hS (lv_sub hl [1, 2, 3, 4, 5] rfl) hT
              · replace hT := (if_neg c13).symm.trans hT
                refine lv_aload_n F.hx F.hb d_Tokens_scan_77 rfl (lv_at hl 1 rfl) ?_
                refine lv_aload_n F.hx F.hb d_Tokens_scan_78 rfl (lv_at hl 2 rfl) ?_
                refine lv_iload_n F.hx F.hb d_Tokens_scan_79 rfl (lv_at hl 4 rfl) ?_
                refine lv_iload_n F.hx F.hb d_Tokens_scan_80 rfl (lv_at hl 3 rfl) ?_
                obtain ⟨q17, hq17, hT⟩ := q_obind hT
                refine r_backI F hS (r_runV (k := 42) (N := 4) (T := T10) (As := [.ref (b + r1), vI v3_, vI x2]) F hS (show 42 < 191 by decide) (show shK 42 = 14 from rfl) rfl (c_Tokens_scanNumber l F.2.2.1 M r1 N1 v3_ x2 hr1 hv3_ hx2 _ hq17) gs_Tokens_40 hd_Tokens_scanNumber ⟨Nat.le_of_ble_eq_true rfl, Nat.le_of_ble_eq_true rfl⟩ rfl hl.1 (Nat.le_of_ble_eq_true rfl) ⟨Nat.zero_le _, Nat.zero_le _⟩ rfl d_Tokens_scan_81) (fun H locs hS h18 => ?_)
                refine lv_istore_n (lv' := [(3, vI (q17.2)), (5, vI q4), (0, .ref (b + 42)), (1, .ref (b + r1)), (2, vI x2), (4, vI v4_)]) F.hx F.hb d_Tokens_scan_84 rfl hl (Nat.le_of_ble_eq_true rfl) rfl (fun ls hl => ?_)
                refine lv_goto (tgt := 114) F.hx F.hb d_Tokens_scan_85 (by decide) ?_
                exact k_Tokens_scan_L114 l hlo r1 N1 x2 hr1 hx2 F hlk hr (fun a0_ a1_ a2_ => t_Tokens_scan_L10 r1 N1 x2 fu a0_ a1_ a2_) ih (q17.1) (q17.2) h18 v4_ hv4_ _ _ _ hS (lv_sub hl [2, 3, 4, 0, 5] rfl) hT
            · replace hT := (if_neg c10).symm.trans hT
              refine lv_aload_n F.hx F.hb d_Tokens_scan_58 rfl (lv_at hl 1 rfl) ?_
              refine lv_aload_n F.hx F.hb d_Tokens_scan_59 rfl (lv_at hl 2 rfl) ?_
              refine lv_iload_n F.hx F.hb d_Tokens_scan_60 rfl (lv_at hl 4 rfl) ?_
              refine lv_iload_n F.hx F.hb d_Tokens_scan_61 rfl (lv_at hl 3 rfl) ?_
              obtain ⟨q19, hq19, hT⟩ := q_obind hT
              refine r_backI F hS (r_runV (k := 42) (N := 4) (T := T10) (As := [.ref (b + r1), vI v3_, vI x2]) F hS (show 42 < 191 by decide) (show shK 42 = 14 from rfl) rfl (c_Tokens_scanWord l F.2.2.1 M r1 N1 v3_ x2 hr1 hv3_ hx2 _ hq19) gs_Tokens_33 hd_Tokens_scanWord ⟨Nat.le_of_ble_eq_true rfl, Nat.le_of_ble_eq_true rfl⟩ rfl hl.1 (Nat.le_of_ble_eq_true rfl) ⟨Nat.zero_le _, Nat.zero_le _⟩ rfl d_Tokens_scan_62) (fun H locs hS h20 => ?_)
              refine lv_istore_n (lv' := [(3, vI (q19.2)), (5, vI q4), (0, .ref (b + 42)), (1, .ref (b + r1)), (2, vI x2), (4, vI v4_)]) F.hx F.hb d_Tokens_scan_65 rfl hl (Nat.le_of_ble_eq_true rfl) rfl (fun ls hl => ?_)
              refine lv_goto (tgt := 114) F.hx F.hb d_Tokens_scan_66 (by decide) ?_
              exact k_Tokens_scan_L114 l hlo r1 N1 x2 hr1 hx2 F hlk hr (fun a0_ a1_ a2_ => t_Tokens_scan_L10 r1 N1 x2 fu a0_ a1_ a2_) ih (q19.1) (q19.2) h20 v4_ hv4_ _ _ _ hS (lv_sub hl [2, 3, 4, 0, 5] rfl) hT
          · replace hT := (if_pos c7).symm.trans hT
            exact k_Tokens_scan_L44 l hlo r1 N1 x2 hr1 hx2 F hlk hr (fun a0_ a1_ a2_ => t_Tokens_scan_L10 r1 N1 x2 fu a0_ a1_ a2_) ih M v3_ hv3_ v4_ hv4_ _ _ _ hS (lv_sub hl [1, 2, 3, 4, 5] rfl) hT
set_option maxHeartbeats 4000000 in
set_option maxRecDepth 100000 in
theorem c_Tokens_scan (l : Launch) {b n : Nat} {C : CT} (hlo : 191 ≤ n) (M : Mem) (r1 : Nat) (N1 : Nat) (x2 : Int) (hr1 : arrP 0 r1 N1 191) (hx2 : InR x2) (res : Mem) (hT : t_Tokens_scan M r1 N1 x2 = some res) : CM l b C n 7 y_Tokens_scan b_Tokens_scan 6 (none) [.ref (b + 42), .ref (b + r1), vI x2] M (QV b C n res) := by
  refine CM.of (lo := 191) (ow := "WardFalls$Tokens") (by decide) rfl (Nat.le_of_ble_eq_true rfl) hlo (fun p e s m below meth c F hlk hr hS ls hl => ?_)
  have hl : lv_has ls 6 [(0, .ref (b + 42)), (1, .ref (b + r1)), (2, vI x2)] := hl
  unfold t_Tokens_scan at hT
  refine lv_aload_n F.hx F.hb d_Tokens_scan_0 rfl (lv_at hl 0 rfl) ?_
  refine r_iconst F.hx F.hb d_Tokens_scan_1 ?_
  refine r_putI (N := 4) (T := T10) (j := 3) F hS (show 42 < 191 by decide) (show shK 42 = 14 from rfl) (show shN 42 = 4 from rfl) rfl (Nat.le_of_ble_eq_true rfl) ing10 tyok10 nm10 rfl rfl rfl rfl rfl rfl mw_214 (inr_c rfl) d_Tokens_scan_2 (fun H locs hS => ?_)
  obtain ⟨M1, eM1⟩ : ∃ q, q = (setI M 42 3 0) := ⟨_, rfl⟩
  replace hS : St b C n M1 s H locs := by rw [eM1]; exact hS
  replace hT := qlet_eq hT eM1
  refine r_iconst F.hx F.hb d_Tokens_scan_5 ?_
  refine lv_istore_n (lv' := [(3, vI 0), (0, .ref (b + 42)), (1, .ref (b + r1)), (2, vI x2)]) F.hx F.hb d_Tokens_scan_6 rfl hl (Nat.le_of_ble_eq_true rfl) rfl (fun ls hl => ?_)
  refine r_iconst F.hx F.hb d_Tokens_scan_7 ?_
  refine lv_istore (lv' := [(4, vI 0), (3, vI 0), (0, .ref (b + 42)), (1, .ref (b + r1)), (2, vI x2)]) F.hx F.hb d_Tokens_scan_8 hl (Nat.le_of_ble_eq_true rfl) rfl (fun ls hl => ?_)
  exact k_Tokens_scan_L10 l hlo r1 N1 x2 hr1 hx2 F hlk hr FU M1 0 (inr_c rfl) 0 (inr_c rfl) _ _ _ hS (lv_sub hl [2, 3, 4, 1, 0] rfl) hT
theorem d_Reader_goTo_0 : decode b_Reader_goTo 0 = .ok (.aload_n 0, 1) := dc_42 (by decide +kernel)
theorem d_Reader_goTo_1 : decode b_Reader_goTo 1 = .ok (.aload_n 0, 1) := dc_42 (by decide +kernel)
theorem d_Reader_goTo_2 : decode b_Reader_goTo 2 = .ok (.getfield 44, 3) := dc_180 (by decide +kernel)
theorem d_Reader_goTo_5 : decode b_Reader_goTo 5 = .ok (.putfield 138, 3) := dc_181 (by decide +kernel)
theorem d_Reader_goTo_8 : decode b_Reader_goTo 8 = .ok (.aload_n 0, 1) := dc_42 (by decide +kernel)
theorem d_Reader_goTo_9 : decode b_Reader_goTo 9 = .ok (.iload_n 1, 1) := dc_27 (by decide +kernel)
theorem d_Reader_goTo_10 : decode b_Reader_goTo 10 = .ok (.putfield 94, 3) := dc_181 (by decide +kernel)
theorem d_Reader_goTo_13 : decode b_Reader_goTo 13 = .ok (.aload_n 0, 1) := dc_42 (by decide +kernel)
theorem d_Reader_goTo_14 : decode b_Reader_goTo 14 = .ok (.aload_n 0, 1) := dc_42 (by decide +kernel)
theorem d_Reader_goTo_15 : decode b_Reader_goTo 15 = .ok (.getfield 60, 3) := dc_180 (by decide +kernel)
theorem d_Reader_goTo_18 : decode b_Reader_goTo 18 = .ok (.ifnonnull 8, 3) := dc_199 (by decide +kernel)
theorem d_Reader_goTo_21 : decode b_Reader_goTo 21 = .ok (.bipush 32, 2) := dc_16 (by decide +kernel)
theorem d_Reader_goTo_23 : decode b_Reader_goTo 23 = .ok (.goto 14, 3) := dc_167 (by decide +kernel)
theorem d_Reader_goTo_26 : decode b_Reader_goTo 26 = .ok (.aload_n 0, 1) := dc_42 (by decide +kernel)
theorem d_Reader_goTo_27 : decode b_Reader_goTo 27 = .ok (.getfield 60, 3) := dc_180 (by decide +kernel)
theorem d_Reader_goTo_30 : decode b_Reader_goTo 30 = .ok (.getfield 188, 3) := dc_180 (by decide +kernel)
theorem d_Reader_goTo_33 : decode b_Reader_goTo 33 = .ok (.iload_n 1, 1) := dc_27 (by decide +kernel)
theorem d_Reader_goTo_34 : decode b_Reader_goTo 34 = .ok (.invokestatic 193, 3) := dc_184 (by decide +kernel)
theorem d_Reader_goTo_37 : decode b_Reader_goTo 37 = .ok (.putfield 15, 3) := dc_181 (by decide +kernel)
theorem d_Reader_goTo_40 : decode b_Reader_goTo 40 = .ok (.aload_n 0, 1) := dc_42 (by decide +kernel)
theorem d_Reader_goTo_41 : decode b_Reader_goTo 41 = .ok (.aload_n 0, 1) := dc_42 (by decide +kernel)
theorem d_Reader_goTo_42 : decode b_Reader_goTo 42 = .ok (.getfield 60, 3) := dc_180 (by decide +kernel)
theorem d_Reader_goTo_45 : decode b_Reader_goTo 45 = .ok (.ifnonnull 7, 3) := dc_199 (by decide +kernel)
theorem d_Reader_goTo_48 : decode b_Reader_goTo 48 = .ok (.iconst 0, 1) := dc_3 (by decide +kernel)
theorem d_Reader_goTo_49 : decode b_Reader_goTo 49 = .ok (.goto 14, 3) := dc_167 (by decide +kernel)
theorem d_Reader_goTo_52 : decode b_Reader_goTo 52 = .ok (.aload_n 0, 1) := dc_42 (by decide +kernel)
theorem d_Reader_goTo_53 : decode b_Reader_goTo 53 = .ok (.getfield 60, 3) := dc_180 (by decide +kernel)
theorem d_Reader_goTo_56 : decode b_Reader_goTo 56 = .ok (.getfield 196, 3) := dc_180 (by decide +kernel)
theorem d_Reader_goTo_59 : decode b_Reader_goTo 59 = .ok (.iload_n 1, 1) := dc_27 (by decide +kernel)
theorem d_Reader_goTo_60 : decode b_Reader_goTo 60 = .ok (.invokestatic 193, 3) := dc_184 (by decide +kernel)
theorem d_Reader_goTo_63 : decode b_Reader_goTo 63 = .ok (.putfield 131, 3) := dc_181 (by decide +kernel)
theorem d_Reader_goTo_66 : decode b_Reader_goTo 66 = .ok (.aload_n 0, 1) := dc_42 (by decide +kernel)
theorem d_Reader_goTo_67 : decode b_Reader_goTo 67 = .ok (.aload_n 0, 1) := dc_42 (by decide +kernel)
theorem d_Reader_goTo_68 : decode b_Reader_goTo 68 = .ok (.getfield 60, 3) := dc_180 (by decide +kernel)
theorem d_Reader_goTo_71 : decode b_Reader_goTo 71 = .ok (.ifnonnull 7, 3) := dc_199 (by decide +kernel)
theorem d_Reader_goTo_74 : decode b_Reader_goTo 74 = .ok (.iconst (-1), 1) := dc_2 (by decide +kernel)
theorem d_Reader_goTo_75 : decode b_Reader_goTo 75 = .ok (.goto 14, 3) := dc_167 (by decide +kernel)
theorem d_Reader_goTo_78 : decode b_Reader_goTo 78 = .ok (.aload_n 0, 1) := dc_42 (by decide +kernel)
theorem d_Reader_goTo_79 : decode b_Reader_goTo 79 = .ok (.getfield 60, 3) := dc_180 (by decide +kernel)
theorem d_Reader_goTo_82 : decode b_Reader_goTo 82 = .ok (.getfield 199, 3) := dc_180 (by decide +kernel)
theorem d_Reader_goTo_85 : decode b_Reader_goTo 85 = .ok (.iload_n 1, 1) := dc_27 (by decide +kernel)
theorem d_Reader_goTo_86 : decode b_Reader_goTo 86 = .ok (.invokestatic 193, 3) := dc_184 (by decide +kernel)
theorem d_Reader_goTo_89 : decode b_Reader_goTo 89 = .ok (.putfield 44, 3) := dc_181 (by decide +kernel)
theorem d_Reader_goTo_92 : decode b_Reader_goTo 92 = .ok (.return_, 1) := dc_177 (by decide +kernel)
def t_Reader_goTo_L89 (x1 : Int)  (M : Mem) (v1_ : Int) : Option (Mem) := (qlet (setI M 46 4 v1_) fun M18 => (some M18))
def t_Reader_goTo_L63 (x1 : Int)  (M : Mem) (v3_ : Int) : Option (Mem) := (qlet (setI M 46 3 v3_) fun M13 => (if M13.1 46 0 < 0 then (t_Reader_goTo_L89 x1 M13 (-1)) else (if M13.1 46 0 < 0 then none else (qlet (t_WF_look M13 45 701 x1) fun q16 => (t_Reader_goTo_L89 x1 M13 q16)))))
def t_Reader_goTo_L37 (x1 : Int)  (M : Mem) (v3_ : Int) : Option (Mem) := (qlet (setI M 46 2 v3_) fun M8 => (if M8.1 46 0 < 0 then (t_Reader_goTo_L63 x1 M8 0) else (if M8.1 46 0 < 0 then none else (qlet (t_WF_look M8 44 701 x1) fun q11 => (t_Reader_goTo_L63 x1 M8 q11)))))
def t_Reader_goTo (M : Mem) (x1 : Int) : Option (Mem) := (qlet (setI M 46 5 (M.1 46 4)) fun M2 => (qlet (setI M2 46 1 x1) fun M3 => (if M3.1 46 0 < 0 then (t_Reader_goTo_L37 x1 M3 32) else (if M3.1 46 0 < 0 then none else (qlet (t_WF_look M3 43 701 x1) fun q6 => (t_Reader_goTo_L37 x1 M3 q6))))))
set_option maxHeartbeats 4000000 in
set_option maxRecDepth 100000 in
theorem k_Reader_goTo_L89 (l : Launch) {p : Program} {e : Env} {s : State} {m : MethodId} {below : List Frame} {meth : Method} {c : Code} {b n : Nat} {C : CT} (hlo : 191 ≤ n) (x1 : Int) (hx1 : InR x1) (F : Cx b p m c b_Reader_goTo 2 s ([.ref (b + 46), vI x1] : List Value).toArray "WardFalls$Reader" C n 191) (hlk : meth.locks = false) (hr : meth.sig.returnType = none) {res : Mem} (M : Mem) (v1_ : Int) (hv1_ : InR v1_) (H : Heap) (locs : List Loc) (ls : Array Slot) (hS : St b C n M s H locs) (hl : lv_has ls 2 []) (hT : t_Reader_goTo_L89 x1 M v1_ = some res) : W p l e (headSpec (wsM y_Reader_goTo b_Reader_goTo 2 (none)) (rmD 1)).room s m ([.ref (b + 46), vI x1] : List Value).toArray below meth c H locs 0 0 (MQ below (QV b C n res) ([.ref (b + 46), vI x1] : List Value).toArray s 0 0 (frb b)) (F0 m 89 ls [vI v1_, .ref (b + 46)]) := by
  unfold t_Reader_goTo_L89 at hT
  refine r_putI (N := 11) (T := T8) (j := 4) F hS (show 46 < 191 by decide) (show shK 46 = 12 from rfl) (show shN 46 = 11 from rfl) rfl (Nat.le_of_ble_eq_true rfl) ing8 tyok8 nm8 rfl rfl rfl rfl rfl rfl mw_234 hv1_ d_Reader_goTo_89 (fun H locs hS => ?_)
  obtain ⟨M18, eM18⟩ : ∃ q, q = (setI M 46 4 v1_) := ⟨_, rfl⟩
  replace hS : St b C n M18 s H locs := by rw [eM18]; exact hS
  replace hT := qlet_eq hT eM18
  cases hT
  exact r_vret F hlk hr hS d_Reader_goTo_92
set_option maxHeartbeats 4000000 in
set_option maxRecDepth 100000 in
theorem k_Reader_goTo_L63 (l : Launch) {p : Program} {e : Env} {s : State} {m : MethodId} {below : List Frame} {meth : Method} {c : Code} {b n : Nat} {C : CT} (hlo : 191 ≤ n) (x1 : Int) (hx1 : InR x1) (F : Cx b p m c b_Reader_goTo 2 s ([.ref (b + 46), vI x1] : List Value).toArray "WardFalls$Reader" C n 191) (hlk : meth.locks = false) (hr : meth.sig.returnType = none) {res : Mem} (M : Mem) (v3_ : Int) (hv3_ : InR v3_) (H : Heap) (locs : List Loc) (ls : Array Slot) (hS : St b C n M s H locs) (hl : lv_has ls 2 [(0, .ref (b + 46)), (1, vI x1)]) (hT : t_Reader_goTo_L63 x1 M v3_ = some res) : W p l e (headSpec (wsM y_Reader_goTo b_Reader_goTo 2 (none)) (rmD 1)).room s m ([.ref (b + 46), vI x1] : List Value).toArray below meth c H locs 0 0 (MQ below (QV b C n res) ([.ref (b + 46), vI x1] : List Value).toArray s 0 0 (frb b)) (F0 m 63 ls [vI v3_, .ref (b + 46)]) := by
  unfold t_Reader_goTo_L63 at hT
  refine r_putI (N := 11) (T := T8) (j := 3) F hS (show 46 < 191 by decide) (show shK 46 = 12 from rfl) (show shN 46 = 11 from rfl) rfl (Nat.le_of_ble_eq_true rfl) ing8 tyok8 nm8 rfl rfl rfl rfl rfl rfl mw_233 hv3_ d_Reader_goTo_63 (fun H locs hS => ?_)
  obtain ⟨M13, eM13⟩ : ∃ q, q = (setI M 46 3 v3_) := ⟨_, rfl⟩
  replace hS : St b C n M13 s H locs := by rw [eM13]; exact hS
  replace hT := qlet_eq hT eM13
  refine lv_aload_n F.hx F.hb d_Reader_goTo_66 rfl (lv_at hl 0 rfl) ?_
  refine lv_aload_n F.hx F.hb d_Reader_goTo_67 rfl (lv_at hl 0 rfl) ?_
  rcases q_ite hT with ⟨c14, hT⟩ | ⟨c14, hT⟩
  · refine r_get (v := .null) (N := 11) (T := T8) (j := 0) F hS (show 46 < 191 by decide) (show shK 46 = 12 from rfl) (show shN 46 = 11 from rfl) rfl (Nat.le_of_ble_eq_true rfl) ing8 mw_230 (tok_null hS c14) d_Reader_goTo_68 ?_
    refine lv_ifnonnullN F.hx F.hb d_Reader_goTo_71 ?_
    refine r_iconst F.hx F.hb d_Reader_goTo_74 ?_
    refine lv_goto (tgt := 89) F.hx F.hb d_Reader_goTo_75 (by decide) ?_
    exact k_Reader_goTo_L89 l hlo x1 hx1 F hlk hr M13 (-1) (inr_c rfl) _ _ _ hS (lv_sub hl [] rfl) hT
  · refine r_get (v := .ref (b + 42)) (N := 11) (T := T8) (j := 0) F hS (show 46 < 191 by decide) (show shK 46 = 12 from rfl) (show shN 46 = 11 from rfl) rfl (Nat.le_of_ble_eq_true rfl) ing8 mw_230 (tok_some hS c14) d_Reader_goTo_68 ?_
    refine lv_ifnonnull (tgt := 78) F.hx F.hb d_Reader_goTo_71 (by decide) ?_
    refine lv_aload_n F.hx F.hb d_Reader_goTo_78 rfl (lv_at hl 0 rfl) ?_
    rcases q_ite hT with ⟨c15, hT⟩ | ⟨c15, hT⟩
    · exact absurd hT (by simp)
    · refine r_get (v := .ref (b + 42)) (N := 11) (T := T8) (j := 0) F hS (show 46 < 191 by decide) (show shK 46 = 12 from rfl) (show shN 46 = 11 from rfl) rfl (Nat.le_of_ble_eq_true rfl) ing8 mw_230 (tok_some hS c15) d_Reader_goTo_79 ?_
      refine r_get (v := .ref (b + 45)) (N := 4) (T := T10) (j := 2) F hS (show 42 < 191 by decide) (show shK 42 = 14 from rfl) (show shN 42 = 4 from rfl) rfl (Nat.le_of_ble_eq_true rfl) ing10 mw_213 (fv_sg rfl rfl rfl) d_Reader_goTo_82 ?_
      refine lv_iload_n F.hx F.hb d_Reader_goTo_85 rfl (lv_at hl 1 rfl) ?_
      obtain ⟨q16, hq16⟩ : ∃ q, q = (t_WF_look M13 45 701 x1) := ⟨_, rfl⟩
      replace hT := qlet_eq hT hq16
      refine r_backI F hS (r_runSN (As := [.ref (b + 45), vI x1]) F hS (c_WF_look l F.2.2.1 M13 45 701 x1 (show arrP 0 45 701 191 from ⟨rfl, rfl, by decide⟩) hx1 _ hq16.symm) mw_519 mw_518 mw_1 gs_Reader_193 hd_WF_look ⟨Nat.le_of_ble_eq_true rfl, Nat.le_of_ble_eq_true rfl⟩ rfl hl.1 (Nat.le_of_ble_eq_true rfl) ⟨Nat.zero_le _, Nat.zero_le _⟩ rfl d_Reader_goTo_86) (fun H locs hS h17 => ?_)
      exact k_Reader_goTo_L89 l hlo x1 hx1 F hlk hr M13 q16 h17 _ _ _ hS (lv_sub hl [] rfl) hT
set_option maxHeartbeats 4000000 in
set_option maxRecDepth 100000 in
theorem k_Reader_goTo_L37 (l : Launch) {p : Program} {e : Env} {s : State} {m : MethodId} {below : List Frame} {meth : Method} {c : Code} {b n : Nat} {C : CT} (hlo : 191 ≤ n) (x1 : Int) (hx1 : InR x1) (F : Cx b p m c b_Reader_goTo 2 s ([.ref (b + 46), vI x1] : List Value).toArray "WardFalls$Reader" C n 191) (hlk : meth.locks = false) (hr : meth.sig.returnType = none) {res : Mem} (M : Mem) (v3_ : Int) (hv3_ : InR v3_) (H : Heap) (locs : List Loc) (ls : Array Slot) (hS : St b C n M s H locs) (hl : lv_has ls 2 [(0, .ref (b + 46)), (1, vI x1)]) (hT : t_Reader_goTo_L37 x1 M v3_ = some res) : W p l e (headSpec (wsM y_Reader_goTo b_Reader_goTo 2 (none)) (rmD 1)).room s m ([.ref (b + 46), vI x1] : List Value).toArray below meth c H locs 0 0 (MQ below (QV b C n res) ([.ref (b + 46), vI x1] : List Value).toArray s 0 0 (frb b)) (F0 m 37 ls [vI v3_, .ref (b + 46)]) := by
  unfold t_Reader_goTo_L37 at hT
  refine r_putI (N := 11) (T := T8) (j := 2) F hS (show 46 < 191 by decide) (show shK 46 = 12 from rfl) (show shN 46 = 11 from rfl) rfl (Nat.le_of_ble_eq_true rfl) ing8 tyok8 nm8 rfl rfl rfl rfl rfl rfl mw_232 hv3_ d_Reader_goTo_37 (fun H locs hS => ?_)
  obtain ⟨M8, eM8⟩ : ∃ q, q = (setI M 46 2 v3_) := ⟨_, rfl⟩
  replace hS : St b C n M8 s H locs := by rw [eM8]; exact hS
  replace hT := qlet_eq hT eM8
  refine lv_aload_n F.hx F.hb d_Reader_goTo_40 rfl (lv_at hl 0 rfl) ?_
  refine lv_aload_n F.hx F.hb d_Reader_goTo_41 rfl (lv_at hl 0 rfl) ?_
  rcases q_ite hT with ⟨c9, hT⟩ | ⟨c9, hT⟩
  · refine r_get (v := .null) (N := 11) (T := T8) (j := 0) F hS (show 46 < 191 by decide) (show shK 46 = 12 from rfl) (show shN 46 = 11 from rfl) rfl (Nat.le_of_ble_eq_true rfl) ing8 mw_230 (tok_null hS c9) d_Reader_goTo_42 ?_
    refine lv_ifnonnullN F.hx F.hb d_Reader_goTo_45 ?_
    refine r_iconst F.hx F.hb d_Reader_goTo_48 ?_
    refine lv_goto (tgt := 63) F.hx F.hb d_Reader_goTo_49 (by decide) ?_
    exact k_Reader_goTo_L63 l hlo x1 hx1 F hlk hr M8 0 (inr_c rfl) _ _ _ hS (lv_sub hl [0, 1] rfl) hT
  · refine r_get (v := .ref (b + 42)) (N := 11) (T := T8) (j := 0) F hS (show 46 < 191 by decide) (show shK 46 = 12 from rfl) (show shN 46 = 11 from rfl) rfl (Nat.le_of_ble_eq_true rfl) ing8 mw_230 (tok_some hS c9) d_Reader_goTo_42 ?_
    refine lv_ifnonnull (tgt := 52) F.hx F.hb d_Reader_goTo_45 (by decide) ?_
    refine lv_aload_n F.hx F.hb d_Reader_goTo_52 rfl (lv_at hl 0 rfl) ?_
    rcases q_ite hT with ⟨c10, hT⟩ | ⟨c10, hT⟩
    · exact absurd hT (by simp)
    · refine r_get (v := .ref (b + 42)) (N := 11) (T := T8) (j := 0) F hS (show 46 < 191 by decide) (show shK 46 = 12 from rfl) (show shN 46 = 11 from rfl) rfl (Nat.le_of_ble_eq_true rfl) ing8 mw_230 (tok_some hS c10) d_Reader_goTo_53 ?_
      refine r_get (v := .ref (b + 44)) (N := 4) (T := T10) (j := 1) F hS (show 42 < 191 by decide) (show shK 42 = 14 from rfl) (show shN 42 = 4 from rfl) rfl (Nat.le_of_ble_eq_true rfl) ing10 mw_211 (fv_sg rfl rfl rfl) d_Reader_goTo_56 ?_
      refine lv_iload_n F.hx F.hb d_Reader_goTo_59 rfl (lv_at hl 1 rfl) ?_
      obtain ⟨q11, hq11⟩ : ∃ q, q = (t_WF_look M8 44 701 x1) := ⟨_, rfl⟩
      replace hT := qlet_eq hT hq11
      refine r_backI F hS (r_runSN (As := [.ref (b + 44), vI x1]) F hS (c_WF_look l F.2.2.1 M8 44 701 x1 (show arrP 0 44 701 191 from ⟨rfl, rfl, by decide⟩) hx1 _ hq11.symm) mw_519 mw_518 mw_1 gs_Reader_193 hd_WF_look ⟨Nat.le_of_ble_eq_true rfl, Nat.le_of_ble_eq_true rfl⟩ rfl hl.1 (Nat.le_of_ble_eq_true rfl) ⟨Nat.zero_le _, Nat.zero_le _⟩ rfl d_Reader_goTo_60) (fun H locs hS h12 => ?_)
      exact k_Reader_goTo_L63 l hlo x1 hx1 F hlk hr M8 q11 h12 _ _ _ hS (lv_sub hl [0, 1] rfl) hT
set_option maxHeartbeats 4000000 in
set_option maxRecDepth 100000 in
theorem c_Reader_goTo (l : Launch) {b n : Nat} {C : CT} (hlo : 191 ≤ n) (M : Mem) (x1 : Int) (hx1 : InR x1) (res : Mem) (hT : t_Reader_goTo M x1 = some res) : CM l b C n 1 y_Reader_goTo b_Reader_goTo 2 (none) [.ref (b + 46), vI x1] M (QV b C n res) := by
  refine CM.of (lo := 191) (ow := "WardFalls$Reader") (by decide) rfl (Nat.le_of_ble_eq_true rfl) hlo (fun p e s m below meth c F hlk hr hS ls hl => ?_)
  have hl : lv_has ls 2 [(0, .ref (b + 46)), (1, vI x1)] := hl
  unfold t_Reader_goTo at hT
  refine lv_aload_n F.hx F.hb d_Reader_goTo_0 rfl (lv_at hl 0 rfl) ?_
  refine lv_aload_n F.hx F.hb d_Reader_goTo_1 rfl (lv_at hl 0 rfl) ?_
  refine r_get (v := vI (M.1 46 4)) (N := 11) (T := T8) (j := 4) F hS (show 46 < 191 by decide) (show shK 46 = 12 from rfl) (show shN 46 = 11 from rfl) rfl (Nat.le_of_ble_eq_true rfl) ing8 mw_234 (fv_int rfl) d_Reader_goTo_2 ?_
  have i1 := hS.rng 46 4
  refine r_putI (N := 11) (T := T8) (j := 5) F hS (show 46 < 191 by decide) (show shK 46 = 12 from rfl) (show shN 46 = 11 from rfl) rfl (Nat.le_of_ble_eq_true rfl) ing8 tyok8 nm8 rfl rfl rfl rfl rfl rfl mw_235 i1 d_Reader_goTo_5 (fun H locs hS => ?_)
  obtain ⟨M2, eM2⟩ : ∃ q, q = (setI M 46 5 (M.1 46 4)) := ⟨_, rfl⟩
  replace hS : St b C n M2 s H locs := by rw [eM2]; exact hS
  replace hT := qlet_eq hT eM2
  refine lv_aload_n F.hx F.hb d_Reader_goTo_8 rfl (lv_at hl 0 rfl) ?_
  refine lv_iload_n F.hx F.hb d_Reader_goTo_9 rfl (lv_at hl 1 rfl) ?_
  refine r_putI (N := 11) (T := T8) (j := 1) F hS (show 46 < 191 by decide) (show shK 46 = 12 from rfl) (show shN 46 = 11 from rfl) rfl (Nat.le_of_ble_eq_true rfl) ing8 tyok8 nm8 rfl rfl rfl rfl rfl rfl mw_231 hx1 d_Reader_goTo_10 (fun H locs hS => ?_)
  obtain ⟨M3, eM3⟩ : ∃ q, q = (setI M2 46 1 x1) := ⟨_, rfl⟩
  replace hS : St b C n M3 s H locs := by rw [eM3]; exact hS
  replace hT := qlet_eq hT eM3
  refine lv_aload_n F.hx F.hb d_Reader_goTo_13 rfl (lv_at hl 0 rfl) ?_
  refine lv_aload_n F.hx F.hb d_Reader_goTo_14 rfl (lv_at hl 0 rfl) ?_
  rcases q_ite hT with ⟨c4, hT⟩ | ⟨c4, hT⟩
  · refine r_get (v := .null) (N := 11) (T := T8) (j := 0) F hS (show 46 < 191 by decide) (show shK 46 = 12 from rfl) (show shN 46 = 11 from rfl) rfl (Nat.le_of_ble_eq_true rfl) ing8 mw_230 (tok_null hS c4) d_Reader_goTo_15 ?_
    refine lv_ifnonnullN F.hx F.hb d_Reader_goTo_18 ?_
    refine r_bipush F.hx F.hb d_Reader_goTo_21 rfl ?_
    refine lv_goto (tgt := 37) F.hx F.hb d_Reader_goTo_23 (by decide) ?_
    exact k_Reader_goTo_L37 l hlo x1 hx1 F hlk hr M3 32 (inr_c rfl) _ _ _ hS (lv_sub hl [0, 1] rfl) hT
  · refine r_get (v := .ref (b + 42)) (N := 11) (T := T8) (j := 0) F hS (show 46 < 191 by decide) (show shK 46 = 12 from rfl) (show shN 46 = 11 from rfl) rfl (Nat.le_of_ble_eq_true rfl) ing8 mw_230 (tok_some hS c4) d_Reader_goTo_15 ?_
    refine lv_ifnonnull (tgt := 26) F.hx F.hb d_Reader_goTo_18 (by decide) ?_
    refine lv_aload_n F.hx F.hb d_Reader_goTo_26 rfl (lv_at hl 0 rfl) ?_
    rcases q_ite hT with ⟨c5, hT⟩ | ⟨c5, hT⟩
    · exact absurd hT (by simp)
    · refine r_get (v := .ref (b + 42)) (N := 11) (T := T8) (j := 0) F hS (show 46 < 191 by decide) (show shK 46 = 12 from rfl) (show shN 46 = 11 from rfl) rfl (Nat.le_of_ble_eq_true rfl) ing8 mw_230 (tok_some hS c5) d_Reader_goTo_27 ?_
      refine r_get (v := .ref (b + 43)) (N := 4) (T := T10) (j := 0) F hS (show 42 < 191 by decide) (show shK 42 = 14 from rfl) (show shN 42 = 4 from rfl) rfl (Nat.le_of_ble_eq_true rfl) ing10 mw_208 (fv_sg rfl rfl rfl) d_Reader_goTo_30 ?_
      refine lv_iload_n F.hx F.hb d_Reader_goTo_33 rfl (lv_at hl 1 rfl) ?_
      obtain ⟨q6, hq6⟩ : ∃ q, q = (t_WF_look M3 43 701 x1) := ⟨_, rfl⟩
      replace hT := qlet_eq hT hq6
      refine r_backI F hS (r_runSN (As := [.ref (b + 43), vI x1]) F hS (c_WF_look l F.2.2.1 M3 43 701 x1 (show arrP 0 43 701 191 from ⟨rfl, rfl, by decide⟩) hx1 _ hq6.symm) mw_519 mw_518 mw_1 gs_Reader_193 hd_WF_look ⟨Nat.le_of_ble_eq_true rfl, Nat.le_of_ble_eq_true rfl⟩ rfl hl.1 (Nat.le_of_ble_eq_true rfl) ⟨Nat.zero_le _, Nat.zero_le _⟩ rfl d_Reader_goTo_34) (fun H locs hS h7 => ?_)
      exact k_Reader_goTo_L37 l hlo x1 hx1 F hlk hr M3 q6 h7 _ _ _ hS (lv_sub hl [0, 1] rfl) hT
end
section
theorem d_Reader_begin_0 : decode b_Reader_begin 0 = .ok (.aload_n 0, 1) := dc_42 (by decide +kernel)
theorem d_Reader_begin_1 : decode b_Reader_begin 1 = .ok (.aload_n 1, 1) := dc_43 (by decide +kernel)
theorem d_Reader_begin_2 : decode b_Reader_begin 2 = .ok (.putfield 60, 3) := dc_181 (by decide +kernel)
theorem d_Reader_begin_5 : decode b_Reader_begin 5 = .ok (.aload_n 0, 1) := dc_42 (by decide +kernel)
theorem d_Reader_begin_6 : decode b_Reader_begin 6 = .ok (.iconst 0, 1) := dc_3 (by decide +kernel)
theorem d_Reader_begin_7 : decode b_Reader_begin 7 = .ok (.putfield 64, 3) := dc_181 (by decide +kernel)
theorem d_Reader_begin_10 : decode b_Reader_begin 10 = .ok (.aload_n 0, 1) := dc_42 (by decide +kernel)
theorem d_Reader_begin_11 : decode b_Reader_begin 11 = .ok (.iconst 0, 1) := dc_3 (by decide +kernel)
theorem d_Reader_begin_12 : decode b_Reader_begin 12 = .ok (.putfield 67, 3) := dc_181 (by decide +kernel)
theorem d_Reader_begin_15 : decode b_Reader_begin 15 = .ok (.aload_n 0, 1) := dc_42 (by decide +kernel)
theorem d_Reader_begin_16 : decode b_Reader_begin 16 = .ok (.iconst 0, 1) := dc_3 (by decide +kernel)
theorem d_Reader_begin_17 : decode b_Reader_begin 17 = .ok (.putfield 71, 3) := dc_181 (by decide +kernel)
theorem d_Reader_begin_20 : decode b_Reader_begin 20 = .ok (.aload_n 0, 1) := dc_42 (by decide +kernel)
theorem d_Reader_begin_21 : decode b_Reader_begin 21 = .ok (.iconst 0, 1) := dc_3 (by decide +kernel)
theorem d_Reader_begin_22 : decode b_Reader_begin 22 = .ok (.putfield 74, 3) := dc_181 (by decide +kernel)
theorem d_Reader_begin_25 : decode b_Reader_begin 25 = .ok (.aload_n 0, 1) := dc_42 (by decide +kernel)
theorem d_Reader_begin_26 : decode b_Reader_begin 26 = .ok (.iconst (-1), 1) := dc_2 (by decide +kernel)
theorem d_Reader_begin_27 : decode b_Reader_begin 27 = .ok (.putfield 77, 3) := dc_181 (by decide +kernel)
theorem d_Reader_begin_30 : decode b_Reader_begin 30 = .ok (.aload_n 0, 1) := dc_42 (by decide +kernel)
theorem d_Reader_begin_31 : decode b_Reader_begin 31 = .ok (.iconst (-1), 1) := dc_2 (by decide +kernel)
theorem d_Reader_begin_32 : decode b_Reader_begin 32 = .ok (.putfield 44, 3) := dc_181 (by decide +kernel)
theorem d_Reader_begin_35 : decode b_Reader_begin 35 = .ok (.aload_n 0, 1) := dc_42 (by decide +kernel)
theorem d_Reader_begin_36 : decode b_Reader_begin 36 = .ok (.iconst 0, 1) := dc_3 (by decide +kernel)
theorem d_Reader_begin_37 : decode b_Reader_begin 37 = .ok (.invokevirtual 80, 3) := dc_182 (by decide +kernel)
theorem d_Reader_begin_40 : decode b_Reader_begin 40 = .ok (.return_, 1) := dc_177 (by decide +kernel)
def t_Reader_begin (M : Mem)  : Option (Mem) := (qlet (setI M 46 0 (42 : Nat)) fun M1 => (qlet (setI M1 46 6 0) fun M2 => (qlet (setI M2 46 7 0) fun M3 => (qlet (setI M3 46 8 0) fun M4 => (qlet (setI M4 46 9 0) fun M5 => (qlet (setI M5 46 10 (-1)) fun M6 => (qlet (setI M6 46 4 (-1)) fun M7 => (obind (t_Reader_goTo M7 0) fun q8 => (some q8)))))))))
set_option maxHeartbeats 4000000 in
set_option maxRecDepth 100000 in
theorem c_Reader_begin (l : Launch) {b n : Nat} {C : CT} (hlo : 191 ≤ n) (M : Mem)   (res : Mem) (hT : t_Reader_begin M  = some res) : CM l b C n 2 y_Reader_begin b_Reader_begin 2 (none) [.ref (b + 46), .ref (b + 42)] M (QV b C n res) := by
  refine CM.of (lo := 191) (ow := "WardFalls$Reader") (by decide) rfl (Nat.le_of_ble_eq_true rfl) hlo (fun p e s m below meth c F hlk hr hS ls hl => ?_)
  have hl : lv_has ls 2 [(0, .ref (b + 46)), (1, .ref (b + 42))] := hl
  unfold t_Reader_begin at hT
  refine lv_aload_n F.hx F.hb d_Reader_begin_0 rfl (lv_at hl 0 rfl) ?_
  refine lv_aload_n F.hx F.hb d_Reader_begin_1 rfl (lv_at hl 1 rfl) ?_
  refine r_putTok F hS mw_230 d_Reader_begin_2 (fun H locs hS => ?_)
  obtain ⟨M1, eM1⟩ : ∃ q, q = (setI M 46 0 (42 : Nat)) := ⟨_, rfl⟩
  replace hS : St b C n M1 s H locs := by rw [eM1]; exact hS
  replace hT := qlet_eq hT eM1
  refine lv_aload_n F.hx F.hb d_Reader_begin_5 rfl (lv_at hl 0 rfl) ?_
  refine r_iconst F.hx F.hb d_Reader_begin_6 ?_
  refine r_putI (N := 11) (T := T8) (j := 6) F hS (show 46 < 191 by decide) (show shK 46 = 12 from rfl) (show shN 46 = 11 from rfl) rfl (Nat.le_of_ble_eq_true rfl) ing8 tyok8 nm8 rfl rfl rfl rfl rfl rfl mw_236 (inr_c rfl) d_Reader_begin_7 (fun H locs hS => ?_)
  obtain ⟨M2, eM2⟩ : ∃ q, q = (setI M1 46 6 0) := ⟨_, rfl⟩
  replace hS : St b C n M2 s H locs := by rw [eM2]; exact hS
  replace hT := qlet_eq hT eM2
  refine lv_aload_n F.hx F.hb d_Reader_begin_10 rfl (lv_at hl 0 rfl) ?_
  refine r_iconst F.hx F.hb d_Reader_begin_11 ?_
  refine r_putI (N := 11) (T := T8) (j := 7) F hS (show 46 < 191 by decide) (show shK 46 = 12 from rfl) (show shN 46 = 11 from rfl) rfl (Nat.le_of_ble_eq_true rfl) ing8 tyok8 nm8 rfl rfl (nar_z (Or.inl rfl)) (fit_z (Or.inl rfl)) rfl rfl mw_237 (inr_c rfl) d_Reader_begin_12 (fun H locs hS => ?_)
  obtain ⟨M3, eM3⟩ : ∃ q, q = (setI M2 46 7 0) := ⟨_, rfl⟩
  replace hS : St b C n M3 s H locs := by rw [eM3]; exact hS
  replace hT := qlet_eq hT eM3
  refine lv_aload_n F.hx F.hb d_Reader_begin_15 rfl (lv_at hl 0 rfl) ?_
  refine r_iconst F.hx F.hb d_Reader_begin_16 ?_
  refine r_putI (N := 11) (T := T8) (j := 8) F hS (show 46 < 191 by decide) (show shK 46 = 12 from rfl) (show shN 46 = 11 from rfl) rfl (Nat.le_of_ble_eq_true rfl) ing8 tyok8 nm8 rfl rfl (nar_z (Or.inl rfl)) (fit_z (Or.inl rfl)) rfl rfl mw_238 (inr_c rfl) d_Reader_begin_17 (fun H locs hS => ?_)
  obtain ⟨M4, eM4⟩ : ∃ q, q = (setI M3 46 8 0) := ⟨_, rfl⟩
  replace hS : St b C n M4 s H locs := by rw [eM4]; exact hS
  replace hT := qlet_eq hT eM4
  refine lv_aload_n F.hx F.hb d_Reader_begin_20 rfl (lv_at hl 0 rfl) ?_
  refine r_iconst F.hx F.hb d_Reader_begin_21 ?_
  refine r_putI (N := 11) (T := T8) (j := 9) F hS (show 46 < 191 by decide) (show shK 46 = 12 from rfl) (show shN 46 = 11 from rfl) rfl (Nat.le_of_ble_eq_true rfl) ing8 tyok8 nm8 rfl rfl rfl rfl rfl rfl mw_239 (inr_c rfl) d_Reader_begin_22 (fun H locs hS => ?_)
  obtain ⟨M5, eM5⟩ : ∃ q, q = (setI M4 46 9 0) := ⟨_, rfl⟩
  replace hS : St b C n M5 s H locs := by rw [eM5]; exact hS
  replace hT := qlet_eq hT eM5
  refine lv_aload_n F.hx F.hb d_Reader_begin_25 rfl (lv_at hl 0 rfl) ?_
  refine r_iconst F.hx F.hb d_Reader_begin_26 ?_
  refine r_putI (N := 11) (T := T8) (j := 10) F hS (show 46 < 191 by decide) (show shK 46 = 12 from rfl) (show shN 46 = 11 from rfl) rfl (Nat.le_of_ble_eq_true rfl) ing8 tyok8 nm8 rfl rfl rfl rfl rfl rfl mw_241 (inr_c rfl) d_Reader_begin_27 (fun H locs hS => ?_)
  obtain ⟨M6, eM6⟩ : ∃ q, q = (setI M5 46 10 (-1)) := ⟨_, rfl⟩
  replace hS : St b C n M6 s H locs := by rw [eM6]; exact hS
  replace hT := qlet_eq hT eM6
  refine lv_aload_n F.hx F.hb d_Reader_begin_30 rfl (lv_at hl 0 rfl) ?_
  refine r_iconst F.hx F.hb d_Reader_begin_31 ?_
  refine r_putI (N := 11) (T := T8) (j := 4) F hS (show 46 < 191 by decide) (show shK 46 = 12 from rfl) (show shN 46 = 11 from rfl) rfl (Nat.le_of_ble_eq_true rfl) ing8 tyok8 nm8 rfl rfl rfl rfl rfl rfl mw_234 (inr_c rfl) d_Reader_begin_32 (fun H locs hS => ?_)
  obtain ⟨M7, eM7⟩ : ∃ q, q = (setI M6 46 4 (-1)) := ⟨_, rfl⟩
  replace hS : St b C n M7 s H locs := by rw [eM7]; exact hS
  replace hT := qlet_eq hT eM7
  refine lv_aload_n F.hx F.hb d_Reader_begin_35 rfl (lv_at hl 0 rfl) ?_
  refine r_iconst F.hx F.hb d_Reader_begin_36 ?_
  obtain ⟨q8, hq8, hT⟩ := q_obind hT
  refine r_backV F hS (r_runV (k := 46) (N := 11) (T := T8) (As := [vI 0]) F hS (show 46 < 191 by decide) (show shK 46 = 12 from rfl) rfl (c_Reader_goTo l F.2.2.1 M7 0 (inr_c rfl) _ hq8) gs_Reader_80 hd_Reader_goTo ⟨Nat.le_of_ble_eq_true rfl, Nat.le_of_ble_eq_true rfl⟩ rfl hl.1 (Nat.le_of_ble_eq_true rfl) ⟨Nat.zero_le _, Nat.zero_le _⟩ rfl d_Reader_begin_37) (fun H locs hS => ?_)
  cases hT
  exact r_vret F hlk hr hS d_Reader_begin_40
theorem d_Reader_refuse_0 : decode b_Reader_refuse 0 = .ok (.aload_n 0, 1) := dc_42 (by decide +kernel)
theorem d_Reader_refuse_1 : decode b_Reader_refuse 1 = .ok (.iload_n 1, 1) := dc_27 (by decide +kernel)
theorem d_Reader_refuse_2 : decode b_Reader_refuse 2 = .ok (.putfield 74, 3) := dc_181 (by decide +kernel)
theorem d_Reader_refuse_5 : decode b_Reader_refuse 5 = .ok (.aload_n 0, 1) := dc_42 (by decide +kernel)
theorem d_Reader_refuse_6 : decode b_Reader_refuse 6 = .ok (.iload_n 2, 1) := dc_28 (by decide +kernel)
theorem d_Reader_refuse_7 : decode b_Reader_refuse 7 = .ok (.putfield 77, 3) := dc_181 (by decide +kernel)
theorem d_Reader_refuse_10 : decode b_Reader_refuse 10 = .ok (.iconst 0, 1) := dc_3 (by decide +kernel)
theorem d_Reader_refuse_11 : decode b_Reader_refuse 11 = .ok (.ireturn, 1) := dc_172 (by decide +kernel)
def t_Reader_refuse (M : Mem) (x1 : Int) (x2 : Int) : Mem × Int := (qlet (setI M 46 9 x1) fun M1 => (qlet (setI M1 46 10 x2) fun M2 => (M2, 0)))
set_option maxHeartbeats 4000000 in
set_option maxRecDepth 100000 in
theorem c_Reader_refuse (l : Launch) {b n : Nat} {C : CT} (hlo : 191 ≤ n) (M : Mem) (x1 : Int) (x2 : Int) (hx1 : InR x1) (hx2 : InR x2) (res : Mem × Int) (hT : t_Reader_refuse M x1 x2 = res) : CM l b C n 0 y_Reader_refuse b_Reader_refuse 3 (some .boolean) [.ref (b + 46), vI x1, vI x2] M (QZ b C n res.1 res.2) := by
  refine CM.of (lo := 191) (ow := "WardFalls$Reader") (by decide) rfl (Nat.le_of_ble_eq_true rfl) hlo (fun p e s m below meth c F hlk hr hS ls hl => ?_)
  have hl : lv_has ls 3 [(0, .ref (b + 46)), (1, vI x1), (2, vI x2)] := hl
  unfold t_Reader_refuse at hT
  refine lv_aload_n F.hx F.hb d_Reader_refuse_0 rfl (lv_at hl 0 rfl) ?_
  refine lv_iload_n F.hx F.hb d_Reader_refuse_1 rfl (lv_at hl 1 rfl) ?_
  refine r_putI (N := 11) (T := T8) (j := 9) F hS (show 46 < 191 by decide) (show shK 46 = 12 from rfl) (show shN 46 = 11 from rfl) rfl (Nat.le_of_ble_eq_true rfl) ing8 tyok8 nm8 rfl rfl rfl rfl rfl rfl mw_239 hx1 d_Reader_refuse_2 (fun H locs hS => ?_)
  obtain ⟨M1, eM1⟩ : ∃ q, q = (setI M 46 9 x1) := ⟨_, rfl⟩
  replace hS : St b C n M1 s H locs := by rw [eM1]; exact hS
  replace hT := qlet_eq hT eM1
  refine lv_aload_n F.hx F.hb d_Reader_refuse_5 rfl (lv_at hl 0 rfl) ?_
  refine lv_iload_n F.hx F.hb d_Reader_refuse_6 rfl (lv_at hl 2 rfl) ?_
  refine r_putI (N := 11) (T := T8) (j := 10) F hS (show 46 < 191 by decide) (show shK 46 = 12 from rfl) (show shN 46 = 11 from rfl) rfl (Nat.le_of_ble_eq_true rfl) ing8 tyok8 nm8 rfl rfl rfl rfl rfl rfl mw_241 hx2 d_Reader_refuse_7 (fun H locs hS => ?_)
  obtain ⟨M2, eM2⟩ : ∃ q, q = (setI M1 46 10 x2) := ⟨_, rfl⟩
  replace hS : St b C n M2 s H locs := by rw [eM2]; exact hS
  replace hT := qlet_eq hT eM2
  refine r_iconst F.hx F.hb d_Reader_refuse_10 ?_
  subst hT
  exact r_zret F hlk hr hS (Or.inl rfl) d_Reader_refuse_11
theorem d_Reader_take_0 : decode b_Reader_take 0 = .ok (.aload_n 0, 1) := dc_42 (by decide +kernel)
theorem d_Reader_take_1 : decode b_Reader_take 1 = .ok (.getfield 15, 3) := dc_180 (by decide +kernel)
theorem d_Reader_take_4 : decode b_Reader_take 4 = .ok (.iload_n 1, 1) := dc_27 (by decide +kernel)
theorem d_Reader_take_5 : decode b_Reader_take 5 = .ok (.if_icmp .eq 13, 3) := dc_159 (by decide +kernel)
theorem d_Reader_take_8 : decode b_Reader_take 8 = .ok (.aload_n 0, 1) := dc_42 (by decide +kernel)
theorem d_Reader_take_9 : decode b_Reader_take 9 = .ok (.iconst 1, 1) := dc_4 (by decide +kernel)
theorem d_Reader_take_10 : decode b_Reader_take 10 = .ok (.aload_n 0, 1) := dc_42 (by decide +kernel)
theorem d_Reader_take_11 : decode b_Reader_take 11 = .ok (.getfield 44, 3) := dc_180 (by decide +kernel)
theorem d_Reader_take_14 : decode b_Reader_take 14 = .ok (.invokevirtual 47, 3) := dc_182 (by decide +kernel)
theorem d_Reader_take_17 : decode b_Reader_take 17 = .ok (.ireturn, 1) := dc_172 (by decide +kernel)
theorem d_Reader_take_18 : decode b_Reader_take 18 = .ok (.aload_n 0, 1) := dc_42 (by decide +kernel)
theorem d_Reader_take_19 : decode b_Reader_take 19 = .ok (.aload_n 0, 1) := dc_42 (by decide +kernel)
theorem d_Reader_take_20 : decode b_Reader_take 20 = .ok (.getfield 94, 3) := dc_180 (by decide +kernel)
theorem d_Reader_take_23 : decode b_Reader_take 23 = .ok (.iconst 1, 1) := dc_4 (by decide +kernel)
theorem d_Reader_take_24 : decode b_Reader_take 24 = .ok (.iadd, 1) := dc_96 (by decide +kernel)
theorem d_Reader_take_25 : decode b_Reader_take 25 = .ok (.invokevirtual 80, 3) := dc_182 (by decide +kernel)
theorem d_Reader_take_28 : decode b_Reader_take 28 = .ok (.iconst 1, 1) := dc_4 (by decide +kernel)
theorem d_Reader_take_29 : decode b_Reader_take 29 = .ok (.ireturn, 1) := dc_172 (by decide +kernel)
def t_Reader_take (M : Mem) (x1 : Int) : Option (Mem × Int) := (if (M.1 46 2) = x1 then (obind (t_Reader_goTo M (w32 ((M.1 46 1) + 1))) fun q4 => (some (q4, 1))) else (qlet (t_Reader_refuse M 1 (M.1 46 4)) fun q7 => (some ((q7.1), (q7.2)))))
set_option maxHeartbeats 4000000 in
set_option maxRecDepth 100000 in
theorem c_Reader_take (l : Launch) {b n : Nat} {C : CT} (hlo : 191 ≤ n) (M : Mem) (x1 : Int) (hx1 : InR x1) (res : Mem × Int) (hT : t_Reader_take M x1 = some res) : CM l b C n 2 y_Reader_take b_Reader_take 2 (some .boolean) [.ref (b + 46), vI x1] M (QZ b C n res.1 res.2) := by
  refine CM.of (lo := 191) (ow := "WardFalls$Reader") (by decide) rfl (Nat.le_of_ble_eq_true rfl) hlo (fun p e s m below meth c F hlk hr hS ls hl => ?_)
  have hl : lv_has ls 2 [(0, .ref (b + 46)), (1, vI x1)] := hl
  unfold t_Reader_take at hT
  refine lv_aload_n F.hx F.hb d_Reader_take_0 rfl (lv_at hl 0 rfl) ?_
  refine r_get (v := vI (M.1 46 2)) (N := 11) (T := T8) (j := 2) F hS (show 46 < 191 by decide) (show shK 46 = 12 from rfl) (show shN 46 = 11 from rfl) rfl (Nat.le_of_ble_eq_true rfl) ing8 mw_232 (fv_int rfl) d_Reader_take_1 ?_
  have i1 := hS.rng 46 2
  refine lv_iload_n F.hx F.hb d_Reader_take_4 rfl (lv_at hl 1 rfl) ?_
  refine r_icmp_eq (tgt := 18) F.hx F.hb i1 hx1 d_Reader_take_5 (by decide) (fun c2 => ?_) (fun c2 => ?_)
  · replace hT := (if_pos c2).symm.trans hT
    refine lv_aload_n F.hx F.hb d_Reader_take_18 rfl (lv_at hl 0 rfl) ?_
    refine lv_aload_n F.hx F.hb d_Reader_take_19 rfl (lv_at hl 0 rfl) ?_
    refine r_get (v := vI (M.1 46 1)) (N := 11) (T := T8) (j := 1) F hS (show 46 < 191 by decide) (show shK 46 = 12 from rfl) (show shN 46 = 11 from rfl) rfl (Nat.le_of_ble_eq_true rfl) ing8 mw_231 (fv_int rfl) d_Reader_take_20 ?_
    have i3 := hS.rng 46 1
    refine r_iconst F.hx F.hb d_Reader_take_23 ?_
    refine r_iadd F.hx F.hb d_Reader_take_24 ?_
    obtain ⟨q4, hq4, hT⟩ := q_obind hT
    refine r_backV F hS (r_runV (k := 46) (N := 11) (T := T8) (As := [vI (w32 ((M.1 46 1) + 1))]) F hS (show 46 < 191 by decide) (show shK 46 = 12 from rfl) rfl (c_Reader_goTo l F.2.2.1 M (w32 ((M.1 46 1) + 1)) (inr_w32 _) _ hq4) gs_Reader_80 hd_Reader_goTo ⟨Nat.le_of_ble_eq_true rfl, Nat.le_of_ble_eq_true rfl⟩ rfl hl.1 (Nat.le_of_ble_eq_true rfl) ⟨Nat.zero_le _, Nat.zero_le _⟩ rfl d_Reader_take_25) (fun H locs hS => ?_)
    refine r_iconst F.hx F.hb d_Reader_take_28 ?_
    cases hT
    exact r_zret F hlk hr hS (Or.inr rfl) d_Reader_take_29
  · replace hT := (if_neg c2).symm.trans hT
    refine lv_aload_n F.hx F.hb d_Reader_take_8 rfl (lv_at hl 0 rfl) ?_
    refine r_iconst F.hx F.hb d_Reader_take_9 ?_
    refine lv_aload_n F.hx F.hb d_Reader_take_10 rfl (lv_at hl 0 rfl) ?_
    refine r_get (v := vI (M.1 46 4)) (N := 11) (T := T8) (j := 4) F hS (show 46 < 191 by decide) (show shK 46 = 12 from rfl) (show shN 46 = 11 from rfl) rfl (Nat.le_of_ble_eq_true rfl) ing8 mw_234 (fv_int rfl) d_Reader_take_11 ?_
    have i6 := hS.rng 46 4
    obtain ⟨q7, hq7⟩ : ∃ q, q = (t_Reader_refuse M 1 (M.1 46 4)) := ⟨_, rfl⟩
    replace hT := qlet_eq hT hq7
    refine r_backZ F hS (r_runV (k := 46) (N := 11) (T := T8) (As := [vI 1, vI (M.1 46 4)]) F hS (show 46 < 191 by decide) (show shK 46 = 12 from rfl) rfl (c_Reader_refuse l F.2.2.1 M 1 (M.1 46 4) (inr_c rfl) i6 _ hq7.symm) gs_Reader_47 hd_Reader_refuse ⟨Nat.le_of_ble_eq_true rfl, Nat.le_of_ble_eq_true rfl⟩ rfl hl.1 (Nat.le_of_ble_eq_true rfl) ⟨Nat.zero_le _, Nat.zero_le _⟩ rfl d_Reader_take_14) (fun H locs hS h8 => ?_)
    cases hT
    exact r_zret F hlk hr hS h8 d_Reader_take_17
theorem d_Reader_takeNumber_0 : decode b_Reader_takeNumber 0 = .ok (.aload_n 0, 1) := dc_42 (by decide +kernel)
theorem d_Reader_takeNumber_1 : decode b_Reader_takeNumber 1 = .ok (.getfield 131, 3) := dc_180 (by decide +kernel)
theorem d_Reader_takeNumber_4 : decode b_Reader_takeNumber 4 = .ok (.istore_n 3, 1) := dc_62 (by decide +kernel)
theorem d_Reader_takeNumber_5 : decode b_Reader_takeNumber 5 = .ok (.aload_n 0, 1) := dc_42 (by decide +kernel)
theorem d_Reader_takeNumber_6 : decode b_Reader_takeNumber 6 = .ok (.getfield 15, 3) := dc_180 (by decide +kernel)
theorem d_Reader_takeNumber_9 : decode b_Reader_takeNumber 9 = .ok (.bipush 31, 2) := dc_16 (by decide +kernel)
theorem d_Reader_takeNumber_11 : decode b_Reader_takeNumber 11 = .ok (.if_icmp .ne 25, 3) := dc_160 (by decide +kernel)
theorem d_Reader_takeNumber_14 : decode b_Reader_takeNumber 14 = .ok (.iload_n 3, 1) := dc_29 (by decide +kernel)
theorem d_Reader_takeNumber_15 : decode b_Reader_takeNumber 15 = .ok (.iload_n 1, 1) := dc_27 (by decide +kernel)
theorem d_Reader_takeNumber_16 : decode b_Reader_takeNumber 16 = .ok (.if_icmp .lt 8, 3) := dc_161 (by decide +kernel)
theorem d_Reader_takeNumber_19 : decode b_Reader_takeNumber 19 = .ok (.iload_n 3, 1) := dc_29 (by decide +kernel)
theorem d_Reader_takeNumber_20 : decode b_Reader_takeNumber 20 = .ok (.iload_n 2, 1) := dc_28 (by decide +kernel)
theorem d_Reader_takeNumber_21 : decode b_Reader_takeNumber 21 = .ok (.if_icmp .le 15, 3) := dc_164 (by decide +kernel)
theorem d_Reader_takeNumber_24 : decode b_Reader_takeNumber 24 = .ok (.aload_n 0, 1) := dc_42 (by decide +kernel)
theorem d_Reader_takeNumber_25 : decode b_Reader_takeNumber 25 = .ok (.iconst 2, 1) := dc_5 (by decide +kernel)
theorem d_Reader_takeNumber_26 : decode b_Reader_takeNumber 26 = .ok (.aload_n 0, 1) := dc_42 (by decide +kernel)
theorem d_Reader_takeNumber_27 : decode b_Reader_takeNumber 27 = .ok (.getfield 44, 3) := dc_180 (by decide +kernel)
theorem d_Reader_takeNumber_30 : decode b_Reader_takeNumber 30 = .ok (.invokevirtual 47, 3) := dc_182 (by decide +kernel)
theorem d_Reader_takeNumber_33 : decode b_Reader_takeNumber 33 = .ok (.pop, 1) := dc_87 (by decide +kernel)
theorem d_Reader_takeNumber_34 : decode b_Reader_takeNumber 34 = .ok (.iconst (-1), 1) := dc_2 (by decide +kernel)
theorem d_Reader_takeNumber_35 : decode b_Reader_takeNumber 35 = .ok (.ireturn, 1) := dc_172 (by decide +kernel)
theorem d_Reader_takeNumber_36 : decode b_Reader_takeNumber 36 = .ok (.aload_n 0, 1) := dc_42 (by decide +kernel)
theorem d_Reader_takeNumber_37 : decode b_Reader_takeNumber 37 = .ok (.bipush 31, 2) := dc_16 (by decide +kernel)
theorem d_Reader_takeNumber_39 : decode b_Reader_takeNumber 39 = .ok (.invokevirtual 51, 3) := dc_182 (by decide +kernel)
theorem d_Reader_takeNumber_42 : decode b_Reader_takeNumber 42 = .ok (.ifCond .eq 7, 3) := dc_153 (by decide +kernel)
theorem d_Reader_takeNumber_45 : decode b_Reader_takeNumber 45 = .ok (.iload_n 3, 1) := dc_29 (by decide +kernel)
theorem d_Reader_takeNumber_46 : decode b_Reader_takeNumber 46 = .ok (.goto 4, 3) := dc_167 (by decide +kernel)
theorem d_Reader_takeNumber_49 : decode b_Reader_takeNumber 49 = .ok (.iconst (-1), 1) := dc_2 (by decide +kernel)
theorem d_Reader_takeNumber_50 : decode b_Reader_takeNumber 50 = .ok (.ireturn, 1) := dc_172 (by decide +kernel)
def t_Reader_takeNumber_L24 (x1 : Int) (x2 : Int)  (M : Mem)  : Option (Mem × Int) := (qlet (t_Reader_refuse M 2 (M.1 46 4)) fun q10 => (some ((q10.1), (-1))))
def t_Reader_takeNumber_L36 (x1 : Int) (x2 : Int)  (M : Mem) (v1_ : Int) : Option (Mem × Int) := (obind (t_Reader_take M 31) fun q6 => (if (q6.2) = 0 then (some ((q6.1), (-1))) else (some ((q6.1), v1_))))
def t_Reader_takeNumber (M : Mem) (x1 : Int) (x2 : Int) : Option (Mem × Int) := (if (M.1 46 2) = 31 then (if (M.1 46 3) < x1 then (t_Reader_takeNumber_L24 x1 x2 M) else (if (M.1 46 3) ≤ x2 then (t_Reader_takeNumber_L36 x1 x2 M (M.1 46 3)) else (t_Reader_takeNumber_L24 x1 x2 M))) else (t_Reader_takeNumber_L36 x1 x2 M (M.1 46 3)))
set_option maxHeartbeats 4000000 in
set_option maxRecDepth 100000 in
theorem k_Reader_takeNumber_L24 (l : Launch) {p : Program} {e : Env} {s : State} {m : MethodId} {below : List Frame} {meth : Method} {c : Code} {b n : Nat} {C : CT} (hlo : 191 ≤ n) (x1 : Int) (x2 : Int) (hx1 : InR x1) (hx2 : InR x2) (F : Cx b p m c b_Reader_takeNumber 4 s ([.ref (b + 46), vI x1, vI x2] : List Value).toArray "WardFalls$Reader" C n 191) (hlk : meth.locks = false) (hr : meth.sig.returnType = some .int) {res : Mem × Int} (M : Mem)  (H : Heap) (locs : List Loc) (ls : Array Slot) (hS : St b C n M s H locs) (hl : lv_has ls 4 [(0, .ref (b + 46))]) (hT : t_Reader_takeNumber_L24 x1 x2 M = some res) : W p l e (headSpec (wsM y_Reader_takeNumber b_Reader_takeNumber 4 (some .int)) (rmD 3)).room s m ([.ref (b + 46), vI x1, vI x2] : List Value).toArray below meth c H locs 0 0 (MQ below (QI b C n res.1 res.2) ([.ref (b + 46), vI x1, vI x2] : List Value).toArray s 0 0 (frb b)) (F0 m 24 ls []) := by
  unfold t_Reader_takeNumber_L24 at hT
  refine lv_aload_n F.hx F.hb d_Reader_takeNumber_24 rfl (lv_at hl 0 rfl) ?_
  refine r_iconst F.hx F.hb d_Reader_takeNumber_25 ?_
  refine lv_aload_n F.hx F.hb d_Reader_takeNumber_26 rfl (lv_at hl 0 rfl) ?_
  refine r_get (v := vI (M.1 46 4)) (N := 11) (T := T8) (j := 4) F hS (show 46 < 191 by decide) (show shK 46 = 12 from rfl) (show shN 46 = 11 from rfl) rfl (Nat.le_of_ble_eq_true rfl) ing8 mw_234 (fv_int rfl) d_Reader_takeNumber_27 ?_
  have i9 := hS.rng 46 4
  obtain ⟨q10, hq10⟩ : ∃ q, q = (t_Reader_refuse M 2 (M.1 46 4)) := ⟨_, rfl⟩
  replace hT := qlet_eq hT hq10
  refine r_backZ F hS (r_runV (k := 46) (N := 11) (T := T8) (As := [vI 2, vI (M.1 46 4)]) F hS (show 46 < 191 by decide) (show shK 46 = 12 from rfl) rfl (c_Reader_refuse l F.2.2.1 M 2 (M.1 46 4) (inr_c rfl) i9 _ hq10.symm) gs_Reader_47 hd_Reader_refuse ⟨Nat.le_of_ble_eq_true rfl, Nat.le_of_ble_eq_true rfl⟩ rfl hl.1 (Nat.le_of_ble_eq_true rfl) ⟨Nat.zero_le _, Nat.zero_le _⟩ rfl d_Reader_takeNumber_30) (fun H locs hS h11 => ?_)
  refine lv_pop F.hx F.hb d_Reader_takeNumber_33 rfl ?_
  refine r_iconst F.hx F.hb d_Reader_takeNumber_34 ?_
  cases hT
  exact r_iret F hlk hr rfl hS (inr_c rfl) d_Reader_takeNumber_35
set_option maxHeartbeats 4000000 in
set_option maxRecDepth 100000 in
theorem k_Reader_takeNumber_L36 (l : Launch) {p : Program} {e : Env} {s : State} {m : MethodId} {below : List Frame} {meth : Method} {c : Code} {b n : Nat} {C : CT} (hlo : 191 ≤ n) (x1 : Int) (x2 : Int) (hx1 : InR x1) (hx2 : InR x2) (F : Cx b p m c b_Reader_takeNumber 4 s ([.ref (b + 46), vI x1, vI x2] : List Value).toArray "WardFalls$Reader" C n 191) (hlk : meth.locks = false) (hr : meth.sig.returnType = some .int) {res : Mem × Int} (M : Mem) (v1_ : Int) (hv1_ : InR v1_) (H : Heap) (locs : List Loc) (ls : Array Slot) (hS : St b C n M s H locs) (hl : lv_has ls 4 [(0, .ref (b + 46)), (3, vI v1_)]) (hT : t_Reader_takeNumber_L36 x1 x2 M v1_ = some res) : W p l e (headSpec (wsM y_Reader_takeNumber b_Reader_takeNumber 4 (some .int)) (rmD 3)).room s m ([.ref (b + 46), vI x1, vI x2] : List Value).toArray below meth c H locs 0 0 (MQ below (QI b C n res.1 res.2) ([.ref (b + 46), vI x1, vI x2] : List Value).toArray s 0 0 (frb b)) (F0 m 36 ls []) := by
  unfold t_Reader_takeNumber_L36 at hT
  refine lv_aload_n F.hx F.hb d_Reader_takeNumber_36 rfl (lv_at hl 0 rfl) ?_
  refine r_bipush F.hx F.hb d_Reader_takeNumber_37 rfl ?_
  obtain ⟨q6, hq6, hT⟩ := q_obind hT
  refine r_backZ F hS (r_runV (k := 46) (N := 11) (T := T8) (As := [vI 31]) F hS (show 46 < 191 by decide) (show shK 46 = 12 from rfl) rfl (c_Reader_take l F.2.2.1 M 31 (inr_c rfl) _ hq6) gs_Reader_51 hd_Reader_take ⟨Nat.le_of_ble_eq_true rfl, Nat.le_of_ble_eq_true rfl⟩ rfl hl.1 (Nat.le_of_ble_eq_true rfl) ⟨Nat.zero_le _, Nat.zero_le _⟩ rfl d_Reader_takeNumber_39) (fun H locs hS h7 => ?_)
  refine r_if_eq (tgt := 49) F.hx F.hb (inr_z h7) d_Reader_takeNumber_42 (by decide) (fun c8 => ?_) (fun c8 => ?_)
  · replace hT := (if_pos c8).symm.trans hT
    refine r_iconst F.hx F.hb d_Reader_takeNumber_49 ?_
    cases hT
    exact r_iret F hlk hr rfl hS (inr_c rfl) d_Reader_takeNumber_50
  · replace hT := (if_neg c8).symm.trans hT
    refine lv_iload_n F.hx F.hb d_Reader_takeNumber_45 rfl (lv_at hl 1 rfl) ?_
    refine lv_goto (tgt := 50) F.hx F.hb d_Reader_takeNumber_46 (by decide) ?_
    cases hT
    exact r_iret F hlk hr rfl hS hv1_ d_Reader_takeNumber_50
set_option maxHeartbeats 4000000 in
set_option maxRecDepth 100000 in
theorem c_Reader_takeNumber (l : Launch) {b n : Nat} {C : CT} (hlo : 191 ≤ n) (M : Mem) (x1 : Int) (x2 : Int) (hx1 : InR x1) (hx2 : InR x2) (res : Mem × Int) (hT : t_Reader_takeNumber M x1 x2 = some res) : CM l b C n 3 y_Reader_takeNumber b_Reader_takeNumber 4 (some .int) [.ref (b + 46), vI x1, vI x2] M (QI b C n res.1 res.2) := by
  refine CM.of (lo := 191) (ow := "WardFalls$Reader") (by decide) rfl (Nat.le_of_ble_eq_true rfl) hlo (fun p e s m below meth c F hlk hr hS ls hl => ?_)
  have hl : lv_has ls 4 [(0, .ref (b + 46)), (1, vI x1), (2, vI x2)] := hl
  unfold t_Reader_takeNumber at hT
  refine lv_aload_n F.hx F.hb d_Reader_takeNumber_0 rfl (lv_at hl 0 rfl) ?_
  refine r_get (v := vI (M.1 46 3)) (N := 11) (T := T8) (j := 3) F hS (show 46 < 191 by decide) (show shK 46 = 12 from rfl) (show shN 46 = 11 from rfl) rfl (Nat.le_of_ble_eq_true rfl) ing8 mw_233 (fv_int rfl) d_Reader_takeNumber_1 ?_
  have i1 := hS.rng 46 3
  refine lv_istore_n (lv' := [(3, vI (M.1 46 3)), (0, .ref (b + 46)), (1, vI x1), (2, vI x2)]) F.hx F.hb d_Reader_takeNumber_4 rfl hl (Nat.le_of_ble_eq_true rfl) rfl (fun ls hl => ?_)
  refine lv_aload_n F.hx F.hb d_Reader_takeNumber_5 rfl (lv_at hl 1 rfl) ?_
  refine r_get (v := vI (M.1 46 2)) (N := 11) (T := T8) (j := 2) F hS (show 46 < 191 by decide) (show shK 46 = 12 from rfl) (show shN 46 = 11 from rfl) rfl (Nat.le_of_ble_eq_true rfl) ing8 mw_232 (fv_int rfl) d_Reader_takeNumber_6 ?_
  have i2 := hS.rng 46 2
  refine r_bipush F.hx F.hb d_Reader_takeNumber_9 rfl ?_
  refine r_icmp_ne (tgt := 36) F.hx F.hb i2 (inr_c rfl) d_Reader_takeNumber_11 (by decide) (fun c3 => ?_) (fun c3 => ?_)
  · replace hT := (if_neg c3).symm.trans hT
    exact k_Reader_takeNumber_L36 l hlo x1 x2 hx1 hx2 F hlk hr M (M.1 46 3) i1 _ _ _ hS (lv_sub hl [1, 0] rfl) hT
  · replace hT := (if_pos c3).symm.trans hT
    refine lv_iload_n F.hx F.hb d_Reader_takeNumber_14 rfl (lv_at hl 0 rfl) ?_
    refine lv_iload_n F.hx F.hb d_Reader_takeNumber_15 rfl (lv_at hl 2 rfl) ?_
    refine r_icmp_lt (tgt := 24) F.hx F.hb i1 hx1 d_Reader_takeNumber_16 (by decide) (fun c4 => ?_) (fun c4 => ?_)
    · replace hT := (if_pos c4).symm.trans hT
      exact k_Reader_takeNumber_L24 l hlo x1 x2 hx1 hx2 F hlk hr M _ _ _ hS (lv_sub hl [1] rfl) hT
    · replace hT := (if_neg c4).symm.trans hT
      refine lv_iload_n F.hx F.hb d_Reader_takeNumber_19 rfl (lv_at hl 0 rfl) ?_
      refine lv_iload_n F.hx F.hb d_Reader_takeNumber_20 rfl (lv_at hl 3 rfl) ?_
      refine r_icmp_le (tgt := 36) F.hx F.hb i1 hx2 d_Reader_takeNumber_21 (by decide) (fun c5 => ?_) (fun c5 => ?_)
      · replace hT := (if_pos c5).symm.trans hT
        exact k_Reader_takeNumber_L36 l hlo x1 x2 hx1 hx2 F hlk hr M (M.1 46 3) i1 _ _ _ hS (lv_sub hl [1, 0] rfl) hT
      · replace hT := (if_neg c5).symm.trans hT
        exact k_Reader_takeNumber_L24 l hlo x1 x2 hx1 hx2 F hlk hr M _ _ _ hS (lv_sub hl [1] rfl) hT
theorem d_Reader_readTown_0 : decode b_Reader_readTown 0 = .ok (.aload_n 0, 1) := dc_42 (by decide +kernel)
theorem d_Reader_readTown_1 : decode b_Reader_readTown 1 = .ok (.getfield 67, 3) := dc_180 (by decide +kernel)
theorem d_Reader_readTown_4 : decode b_Reader_readTown 4 = .ok (.ifCond .eq 13, 3) := dc_153 (by decide +kernel)
theorem d_Reader_readTown_7 : decode b_Reader_readTown 7 = .ok (.aload_n 0, 1) := dc_42 (by decide +kernel)
theorem d_Reader_readTown_8 : decode b_Reader_readTown 8 = .ok (.iconst 3, 1) := dc_6 (by decide +kernel)
theorem d_Reader_readTown_9 : decode b_Reader_readTown 9 = .ok (.aload_n 0, 1) := dc_42 (by decide +kernel)
theorem d_Reader_readTown_10 : decode b_Reader_readTown 10 = .ok (.getfield 44, 3) := dc_180 (by decide +kernel)
theorem d_Reader_readTown_13 : decode b_Reader_readTown 13 = .ok (.invokevirtual 47, 3) := dc_182 (by decide +kernel)
theorem d_Reader_readTown_16 : decode b_Reader_readTown 16 = .ok (.ireturn, 1) := dc_172 (by decide +kernel)
theorem d_Reader_readTown_17 : decode b_Reader_readTown 17 = .ok (.aload_n 0, 1) := dc_42 (by decide +kernel)
theorem d_Reader_readTown_18 : decode b_Reader_readTown 18 = .ok (.getfield 64, 3) := dc_180 (by decide +kernel)
theorem d_Reader_readTown_21 : decode b_Reader_readTown 21 = .ok (.ifCond .gt 28, 3) := dc_157 (by decide +kernel)
theorem d_Reader_readTown_24 : decode b_Reader_readTown 24 = .ok (.aload_n 1, 1) := dc_43 (by decide +kernel)
theorem d_Reader_readTown_25 : decode b_Reader_readTown 25 = .ok (.getfield 84, 3) := dc_180 (by decide +kernel)
theorem d_Reader_readTown_28 : decode b_Reader_readTown 28 = .ok (.lconst 0, 1) := dc_9 (by decide +kernel)
theorem d_Reader_readTown_29 : decode b_Reader_readTown 29 = .ok (.lcmp, 1) := dc_148 (by decide +kernel)
theorem d_Reader_readTown_30 : decode b_Reader_readTown 30 = .ok (.ifCond .ne 19, 3) := dc_154 (by decide +kernel)
theorem d_Reader_readTown_33 : decode b_Reader_readTown 33 = .ok (.aload_n 1, 1) := dc_43 (by decide +kernel)
theorem d_Reader_readTown_34 : decode b_Reader_readTown 34 = .ok (.getfield 88, 3) := dc_180 (by decide +kernel)
theorem d_Reader_readTown_37 : decode b_Reader_readTown 37 = .ok (.lconst 0, 1) := dc_9 (by decide +kernel)
theorem d_Reader_readTown_38 : decode b_Reader_readTown 38 = .ok (.lcmp, 1) := dc_148 (by decide +kernel)
theorem d_Reader_readTown_39 : decode b_Reader_readTown 39 = .ok (.ifCond .ne 10, 3) := dc_154 (by decide +kernel)
theorem d_Reader_readTown_42 : decode b_Reader_readTown 42 = .ok (.aload_n 1, 1) := dc_43 (by decide +kernel)
theorem d_Reader_readTown_43 : decode b_Reader_readTown 43 = .ok (.getfield 91, 3) := dc_180 (by decide +kernel)
theorem d_Reader_readTown_46 : decode b_Reader_readTown 46 = .ok (.ifCond .le 13, 3) := dc_158 (by decide +kernel)
theorem d_Reader_readTown_49 : decode b_Reader_readTown 49 = .ok (.aload_n 0, 1) := dc_42 (by decide +kernel)
theorem d_Reader_readTown_50 : decode b_Reader_readTown 50 = .ok (.iconst 4, 1) := dc_7 (by decide +kernel)
theorem d_Reader_readTown_51 : decode b_Reader_readTown 51 = .ok (.aload_n 0, 1) := dc_42 (by decide +kernel)
theorem d_Reader_readTown_52 : decode b_Reader_readTown 52 = .ok (.getfield 44, 3) := dc_180 (by decide +kernel)
theorem d_Reader_readTown_55 : decode b_Reader_readTown 55 = .ok (.invokevirtual 47, 3) := dc_182 (by decide +kernel)
theorem d_Reader_readTown_58 : decode b_Reader_readTown 58 = .ok (.ireturn, 1) := dc_172 (by decide +kernel)
theorem d_Reader_readTown_59 : decode b_Reader_readTown 59 = .ok (.aload_n 0, 1) := dc_42 (by decide +kernel)
theorem d_Reader_readTown_60 : decode b_Reader_readTown 60 = .ok (.iconst 1, 1) := dc_4 (by decide +kernel)
theorem d_Reader_readTown_61 : decode b_Reader_readTown 61 = .ok (.putfield 67, 3) := dc_181 (by decide +kernel)
theorem d_Reader_readTown_64 : decode b_Reader_readTown 64 = .ok (.aload_n 0, 1) := dc_42 (by decide +kernel)
theorem d_Reader_readTown_65 : decode b_Reader_readTown 65 = .ok (.aload_n 0, 1) := dc_42 (by decide +kernel)
theorem d_Reader_readTown_66 : decode b_Reader_readTown 66 = .ok (.getfield 94, 3) := dc_180 (by decide +kernel)
theorem d_Reader_readTown_69 : decode b_Reader_readTown 69 = .ok (.iconst 1, 1) := dc_4 (by decide +kernel)
theorem d_Reader_readTown_70 : decode b_Reader_readTown 70 = .ok (.iadd, 1) := dc_96 (by decide +kernel)
theorem d_Reader_readTown_71 : decode b_Reader_readTown 71 = .ok (.invokevirtual 80, 3) := dc_182 (by decide +kernel)
theorem d_Reader_readTown_74 : decode b_Reader_readTown 74 = .ok (.aload_n 0, 1) := dc_42 (by decide +kernel)
theorem d_Reader_readTown_75 : decode b_Reader_readTown 75 = .ok (.iconst 1, 1) := dc_4 (by decide +kernel)
theorem d_Reader_readTown_76 : decode b_Reader_readTown 76 = .ok (.bipush 8, 2) := dc_16 (by decide +kernel)
theorem d_Reader_readTown_78 : decode b_Reader_readTown 78 = .ok (.invokevirtual 97, 3) := dc_182 (by decide +kernel)
theorem d_Reader_readTown_81 : decode b_Reader_readTown 81 = .ok (.istore_n 2, 1) := dc_61 (by decide +kernel)
theorem d_Reader_readTown_82 : decode b_Reader_readTown 82 = .ok (.iload_n 2, 1) := dc_28 (by decide +kernel)
theorem d_Reader_readTown_83 : decode b_Reader_readTown 83 = .ok (.ifCond .ge 7, 3) := dc_156 (by decide +kernel)
theorem d_Reader_readTown_86 : decode b_Reader_readTown 86 = .ok (.iconst (-1), 1) := dc_2 (by decide +kernel)
theorem d_Reader_readTown_87 : decode b_Reader_readTown 87 = .ok (.goto 10, 3) := dc_167 (by decide +kernel)
theorem d_Reader_readTown_90 : decode b_Reader_readTown 90 = .ok (.aload_n 0, 1) := dc_42 (by decide +kernel)
theorem d_Reader_readTown_91 : decode b_Reader_readTown 91 = .ok (.iconst 1, 1) := dc_4 (by decide +kernel)
theorem d_Reader_readTown_92 : decode b_Reader_readTown 92 = .ok (.bipush 6, 2) := dc_16 (by decide +kernel)
theorem d_Reader_readTown_94 : decode b_Reader_readTown 94 = .ok (.invokevirtual 97, 3) := dc_182 (by decide +kernel)
theorem d_Reader_readTown_97 : decode b_Reader_readTown 97 = .ok (.istore_n 3, 1) := dc_62 (by decide +kernel)
theorem d_Reader_readTown_98 : decode b_Reader_readTown 98 = .ok (.iload_n 3, 1) := dc_29 (by decide +kernel)
theorem d_Reader_readTown_99 : decode b_Reader_readTown 99 = .ok (.ifCond .ge 5, 3) := dc_156 (by decide +kernel)
theorem d_Reader_readTown_102 : decode b_Reader_readTown 102 = .ok (.iconst 0, 1) := dc_3 (by decide +kernel)
theorem d_Reader_readTown_103 : decode b_Reader_readTown 103 = .ok (.ireturn, 1) := dc_172 (by decide +kernel)
theorem d_Reader_readTown_104 : decode b_Reader_readTown 104 = .ok (.aload_n 1, 1) := dc_43 (by decide +kernel)
theorem d_Reader_readTown_105 : decode b_Reader_readTown 105 = .ok (.iload_n 2, 1) := dc_28 (by decide +kernel)
theorem d_Reader_readTown_106 : decode b_Reader_readTown 106 = .ok (.putfield 101, 3) := dc_181 (by decide +kernel)
theorem d_Reader_readTown_109 : decode b_Reader_readTown 109 = .ok (.aload_n 1, 1) := dc_43 (by decide +kernel)
theorem d_Reader_readTown_110 : decode b_Reader_readTown 110 = .ok (.iload_n 3, 1) := dc_29 (by decide +kernel)
theorem d_Reader_readTown_111 : decode b_Reader_readTown 111 = .ok (.putfield 104, 3) := dc_181 (by decide +kernel)
theorem d_Reader_readTown_114 : decode b_Reader_readTown 114 = .ok (.iconst 1, 1) := dc_4 (by decide +kernel)
theorem d_Reader_readTown_115 : decode b_Reader_readTown 115 = .ok (.ireturn, 1) := dc_172 (by decide +kernel)
def t_Reader_readTown_L49 (k1 : Nat)  (M : Mem)  : Option (Mem × Int) := (qlet (t_Reader_refuse M 4 (M.1 46 4)) fun q22 => (some ((q22.1), (q22.2))))
def t_Reader_readTown_L97 (k1 : Nat)  (M : Mem) (v1_ : Int) (v2_ : Int) : Option (Mem × Int) := (if 0 ≤ v2_ then (qlet (setI M k1 11 v1_) fun M25 => (qlet (setI M25 k1 12 v2_) fun M26 => (some (M26, 1)))) else (some (M, 0)))
def t_Reader_readTown (M : Mem) (k1 : Nat) : Option (Mem × Int) := (if (M.1 46 7) = 0 then (if 0 < (M.1 46 6) then (t_Reader_readTown_L49 k1 M) else (if (M.2 k1 18) = 0 then (if (M.2 k1 19) = 0 then (if (M.1 k1 15) ≤ 0 then (qlet (setI M 46 7 1) fun M9 => (obind (t_Reader_goTo M9 (w32 ((M9.1 46 1) + 1))) fun q11 => (obind (t_Reader_takeNumber q11 1 8) fun q13 => (if 0 ≤ (q13.2) then (obind (t_Reader_takeNumber (q13.1) 1 6) fun q16 => (t_Reader_readTown_L97 k1 (q16.1) (q13.2) (q16.2))) else (t_Reader_readTown_L97 k1 (q13.1) (q13.2) (-1)))))) else (t_Reader_readTown_L49 k1 M)) else (t_Reader_readTown_L49 k1 M)) else (t_Reader_readTown_L49 k1 M))) else (qlet (t_Reader_refuse M 3 (M.1 46 4)) fun q19 => (some ((q19.1), (q19.2)))))
set_option maxHeartbeats 4000000 in
set_option maxRecDepth 100000 in
theorem k_Reader_readTown_L49 (l : Launch) {p : Program} {e : Env} {s : State} {m : MethodId} {below : List Frame} {meth : Method} {c : Code} {b n : Nat} {C : CT} (hlo : 191 ≤ n) (k1 : Nat) (hk1 : isTown k1) (F : Cx b p m c b_Reader_readTown 4 s ([.ref (b + 46), .ref (b + k1)] : List Value).toArray "WardFalls$Reader" C n 191) (hlk : meth.locks = false) (hr : meth.sig.returnType = some .boolean) {res : Mem × Int} (M : Mem)  (H : Heap) (locs : List Loc) (ls : Array Slot) (hS : St b C n M s H locs) (hl : lv_has ls 4 [(0, .ref (b + 46))]) (hT : t_Reader_readTown_L49 k1 M = some res) : W p l e (headSpec (wsM y_Reader_readTown b_Reader_readTown 4 (some .boolean)) (rmD 4)).room s m ([.ref (b + 46), .ref (b + k1)] : List Value).toArray below meth c H locs 0 0 (MQ below (QZ b C n res.1 res.2) ([.ref (b + 46), .ref (b + k1)] : List Value).toArray s 0 0 (frb b)) (F0 m 49 ls []) := by
  unfold t_Reader_readTown_L49 at hT
  refine lv_aload_n F.hx F.hb d_Reader_readTown_49 rfl (lv_at hl 0 rfl) ?_
  refine r_iconst F.hx F.hb d_Reader_readTown_50 ?_
  refine lv_aload_n F.hx F.hb d_Reader_readTown_51 rfl (lv_at hl 0 rfl) ?_
  refine r_get (v := vI (M.1 46 4)) (N := 11) (T := T8) (j := 4) F hS (show 46 < 191 by decide) (show shK 46 = 12 from rfl) (show shN 46 = 11 from rfl) rfl (Nat.le_of_ble_eq_true rfl) ing8 mw_234 (fv_int rfl) d_Reader_readTown_52 ?_
  have i21 := hS.rng 46 4
  obtain ⟨q22, hq22⟩ : ∃ q, q = (t_Reader_refuse M 4 (M.1 46 4)) := ⟨_, rfl⟩
  replace hT := qlet_eq hT hq22
  refine r_backZ F hS (r_runV (k := 46) (N := 11) (T := T8) (As := [vI 4, vI (M.1 46 4)]) F hS (show 46 < 191 by decide) (show shK 46 = 12 from rfl) rfl (c_Reader_refuse l F.2.2.1 M 4 (M.1 46 4) (inr_c rfl) i21 _ hq22.symm) gs_Reader_47 hd_Reader_refuse ⟨Nat.le_of_ble_eq_true rfl, Nat.le_of_ble_eq_true rfl⟩ rfl hl.1 (Nat.le_of_ble_eq_true rfl) ⟨Nat.zero_le _, Nat.zero_le _⟩ rfl d_Reader_readTown_55) (fun H locs hS h23 => ?_)
  cases hT
  exact r_zret F hlk hr hS h23 d_Reader_readTown_58
set_option maxHeartbeats 4000000 in
set_option maxRecDepth 100000 in
theorem k_Reader_readTown_L97 (l : Launch) {p : Program} {e : Env} {s : State} {m : MethodId} {below : List Frame} {meth : Method} {c : Code} {b n : Nat} {C : CT} (hlo : 191 ≤ n) (k1 : Nat) (hk1 : isTown k1) (F : Cx b p m c b_Reader_readTown 4 s ([.ref (b + 46), .ref (b + k1)] : List Value).toArray "WardFalls$Reader" C n 191) (hlk : meth.locks = false) (hr : meth.sig.returnType = some .boolean) {res : Mem × Int} (M : Mem) (v1_ : Int) (hv1_ : InR v1_) (v2_ : Int) (hv2_ : InR v2_) (H : Heap) (locs : List Loc) (ls : Array Slot) (hS : St b C n M s H locs) (hl : lv_has ls 4 [(1, .ref (b + k1)), (2, vI v1_)]) (hT : t_Reader_readTown_L97 k1 M v1_ v2_ = some res) : W p l e (headSpec (wsM y_Reader_readTown b_Reader_readTown 4 (some .boolean)) (rmD 4)).room s m ([.ref (b + 46), .ref (b + k1)] : List Value).toArray below meth c H locs 0 0 (MQ below (QZ b C n res.1 res.2) ([.ref (b + 46), .ref (b + k1)] : List Value).toArray s 0 0 (frb b)) (F0 m 97 ls [vI v2_]) := by
  unfold t_Reader_readTown_L97 at hT
  refine lv_istore_n (lv' := [(3, vI v2_), (1, .ref (b + k1)), (2, vI v1_)]) F.hx F.hb d_Reader_readTown_97 rfl hl (Nat.le_of_ble_eq_true rfl) rfl (fun ls hl => ?_)
  refine lv_iload_n F.hx F.hb d_Reader_readTown_98 rfl (lv_at hl 0 rfl) ?_
  refine r_if_ge (tgt := 104) F.hx F.hb hv2_ d_Reader_readTown_99 (by decide) (fun c24 => ?_) (fun c24 => ?_)
  · replace hT := (if_pos c24).symm.trans hT
    refine lv_aload_n F.hx F.hb d_Reader_readTown_104 rfl (lv_at hl 1 rfl) ?_
    refine lv_iload_n F.hx F.hb d_Reader_readTown_105 rfl (lv_at hl 2 rfl) ?_
    refine r_putI (N := 20) (T := T11) (j := 11) F hS (Town_lt hk1) (Town_sh hk1) (Town_N hk1) rfl (Nat.le_of_ble_eq_true rfl) ing11 tyok11 nm11 rfl rfl rfl rfl rfl (Town_dyn hk1 _) mw_122 hv1_ d_Reader_readTown_106 (fun H locs hS => ?_)
    obtain ⟨M25, eM25⟩ : ∃ q, q = (setI M k1 11 v1_) := ⟨_, rfl⟩
    replace hS : St b C n M25 s H locs := by rw [eM25]; exact hS
    replace hT := qlet_eq hT eM25
    refine lv_aload_n F.hx F.hb d_Reader_readTown_109 rfl (lv_at hl 1 rfl) ?_
    refine lv_iload_n F.hx F.hb d_Reader_readTown_110 rfl (lv_at hl 0 rfl) ?_
    refine r_putI (N := 20) (T := T11) (j := 12) F hS (Town_lt hk1) (Town_sh hk1) (Town_N hk1) rfl (Nat.le_of_ble_eq_true rfl) ing11 tyok11 nm11 rfl rfl rfl rfl rfl (Town_dyn hk1 _) mw_125 hv2_ d_Reader_readTown_111 (fun H locs hS => ?_)
    obtain ⟨M26, eM26⟩ : ∃ q, q = (setI M25 k1 12 v2_) := ⟨_, rfl⟩
    replace hS : St b C n M26 s H locs := by rw [eM26]; exact hS
    replace hT := qlet_eq hT eM26
    refine r_iconst F.hx F.hb d_Reader_readTown_114 ?_
    cases hT
    exact r_zret F hlk hr hS (Or.inr rfl) d_Reader_readTown_115
  · replace hT := (if_neg c24).symm.trans hT
    refine r_iconst F.hx F.hb d_Reader_readTown_102 ?_
    cases hT
    exact r_zret F hlk hr hS (Or.inl rfl) d_Reader_readTown_103
set_option maxHeartbeats 4000000 in
set_option maxRecDepth 100000 in
theorem c_Reader_readTown (l : Launch) {b n : Nat} {C : CT} (hlo : 191 ≤ n) (M : Mem) (k1 : Nat) (hk1 : isTown k1) (res : Mem × Int) (hT : t_Reader_readTown M k1 = some res) : CM l b C n 4 y_Reader_readTown b_Reader_readTown 4 (some .boolean) [.ref (b + 46), .ref (b + k1)] M (QZ b C n res.1 res.2) := by
  refine CM.of (lo := 191) (ow := "WardFalls$Reader") (by decide) rfl (Nat.le_of_ble_eq_true rfl) hlo (fun p e s m below meth c F hlk hr hS ls hl => ?_)
  have hl : lv_has ls 4 [(0, .ref (b + 46)), (1, .ref (b + k1))] := hl
  unfold t_Reader_readTown at hT
  refine lv_aload_n F.hx F.hb d_Reader_readTown_0 rfl (lv_at hl 0 rfl) ?_
  refine r_get (v := vI (M.1 46 7)) (N := 11) (T := T8) (j := 7) F hS (show 46 < 191 by decide) (show shK 46 = 12 from rfl) (show shN 46 = 11 from rfl) rfl (Nat.le_of_ble_eq_true rfl) ing8 mw_237 (fv_int rfl) d_Reader_readTown_1 ?_
  have i1 := hS.rng 46 7
  refine r_if_eq (tgt := 17) F.hx F.hb i1 d_Reader_readTown_4 (by decide) (fun c2 => ?_) (fun c2 => ?_)
  · replace hT := (if_pos c2).symm.trans hT
    refine lv_aload_n F.hx F.hb d_Reader_readTown_17 rfl (lv_at hl 0 rfl) ?_
    refine r_get (v := vI (M.1 46 6)) (N := 11) (T := T8) (j := 6) F hS (show 46 < 191 by decide) (show shK 46 = 12 from rfl) (show shN 46 = 11 from rfl) rfl (Nat.le_of_ble_eq_true rfl) ing8 mw_236 (fv_int rfl) d_Reader_readTown_18 ?_
    have i3 := hS.rng 46 6
    refine r_if_gt (tgt := 49) F.hx F.hb i3 d_Reader_readTown_21 (by decide) (fun c4 => ?_) (fun c4 => ?_)
    · replace hT := (if_pos c4).symm.trans hT
      exact k_Reader_readTown_L49 l hlo k1 hk1 F hlk hr M _ _ _ hS (lv_sub hl [0] rfl) hT
    · replace hT := (if_neg c4).symm.trans hT
      refine lv_aload_n F.hx F.hb d_Reader_readTown_24 rfl (lv_at hl 1 rfl) ?_
      refine r_get (v := .long (M.2 k1 18)) (N := 20) (T := T11) (j := 18) F hS (Town_lt hk1) (Town_sh hk1) (Town_N hk1) rfl (Nat.le_of_ble_eq_true rfl) ing11 mw_153 (fv_long rfl) d_Reader_readTown_25 ?_
      refine lv_lconst (v := 0) F.hx F.hb d_Reader_readTown_28 rfl ?_
      refine W.lcmp F.hx F.hb d_Reader_readTown_29 ?_
      refine r_lif_ne (tgt := 49) F.hx F.hb  d_Reader_readTown_30 (by decide) (fun c5 => ?_) (fun c5 => ?_)
      · replace hT := (if_neg c5).symm.trans hT
        exact k_Reader_readTown_L49 l hlo k1 hk1 F hlk hr M _ _ _ hS (lv_sub hl [0] rfl) hT
      · replace hT := (if_pos c5).symm.trans hT
        refine lv_aload_n F.hx F.hb d_Reader_readTown_33 rfl (lv_at hl 1 rfl) ?_
        refine r_get (v := .long (M.2 k1 19)) (N := 20) (T := T11) (j := 19) F hS (Town_lt hk1) (Town_sh hk1) (Town_N hk1) rfl (Nat.le_of_ble_eq_true rfl) ing11 mw_155 (fv_long rfl) d_Reader_readTown_34 ?_
        refine lv_lconst (v := 0) F.hx F.hb d_Reader_readTown_37 rfl ?_
        refine W.lcmp F.hx F.hb d_Reader_readTown_38 ?_
        refine r_lif_ne (tgt := 49) F.hx F.hb  d_Reader_readTown_39 (by decide) (fun c6 => ?_) (fun c6 => ?_)
        · replace hT := (if_neg c6).symm.trans hT
          exact k_Reader_readTown_L49 l hlo k1 hk1 F hlk hr M _ _ _ hS (lv_sub hl [0] rfl) hT
        · replace hT := (if_pos c6).symm.trans hT
          refine lv_aload_n F.hx F.hb d_Reader_readTown_42 rfl (lv_at hl 1 rfl) ?_
          refine r_get (v := vI (M.1 k1 15)) (N := 20) (T := T11) (j := 15) F hS (Town_lt hk1) (Town_sh hk1) (Town_N hk1) rfl (Nat.le_of_ble_eq_true rfl) ing11 mw_142 (fv_int rfl) d_Reader_readTown_43 ?_
          have i7 := hS.rng k1 15
          refine r_if_le (tgt := 59) F.hx F.hb i7 d_Reader_readTown_46 (by decide) (fun c8 => ?_) (fun c8 => ?_)
          · replace hT := (if_pos c8).symm.trans hT
            refine lv_aload_n F.hx F.hb d_Reader_readTown_59 rfl (lv_at hl 0 rfl) ?_
            refine r_iconst F.hx F.hb d_Reader_readTown_60 ?_
            refine r_putI (N := 11) (T := T8) (j := 7) F hS (show 46 < 191 by decide) (show shK 46 = 12 from rfl) (show shN 46 = 11 from rfl) rfl (Nat.le_of_ble_eq_true rfl) ing8 tyok8 nm8 rfl rfl (nar_z (Or.inr rfl)) (fit_z (Or.inr rfl)) rfl rfl mw_237 (inr_c rfl) d_Reader_readTown_61 (fun H locs hS => ?_)
            obtain ⟨M9, eM9⟩ : ∃ q, q = (setI M 46 7 1) := ⟨_, rfl⟩
            replace hS : St b C n M9 s H locs := by rw [eM9]; exact hS
            replace hT := qlet_eq hT eM9
            refine lv_aload_n F.hx F.hb d_Reader_readTown_64 rfl (lv_at hl 0 rfl) ?_
            refine lv_aload_n F.hx F.hb d_Reader_readTown_65 rfl (lv_at hl 0 rfl) ?_
            refine r_get (v := vI (M9.1 46 1)) (N := 11) (T := T8) (j := 1) F hS (show 46 < 191 by decide) (show shK 46 = 12 from rfl) (show shN 46 = 11 from rfl) rfl (Nat.le_of_ble_eq_true rfl) ing8 mw_231 (fv_int rfl) d_Reader_readTown_66 ?_
            have i10 := hS.rng 46 1
            refine r_iconst F.hx F.hb d_Reader_readTown_69 ?_
            refine r_iadd F.hx F.hb d_Reader_readTown_70 ?_
            obtain ⟨q11, hq11, hT⟩ := q_obind hT
            refine r_backV F hS (r_runV (k := 46) (N := 11) (T := T8) (As := [vI (w32 ((M9.1 46 1) + 1))]) F hS (show 46 < 191 by decide) (show shK 46 = 12 from rfl) rfl (c_Reader_goTo l F.2.2.1 M9 (w32 ((M9.1 46 1) + 1)) (inr_w32 _) _ hq11) gs_Reader_80 hd_Reader_goTo ⟨Nat.le_of_ble_eq_true rfl, Nat.le_of_ble_eq_true rfl⟩ rfl hl.1 (Nat.le_of_ble_eq_true rfl) ⟨Nat.zero_le _, Nat.zero_le _⟩ rfl d_Reader_readTown_71) (fun H locs hS => ?_)
            refine lv_aload_n F.hx F.hb d_Reader_readTown_74 rfl (lv_at hl 0 rfl) ?_
            refine r_iconst F.hx F.hb d_Reader_readTown_75 ?_
            refine r_bipush F.hx F.hb d_Reader_readTown_76 rfl ?_
            obtain ⟨q13, hq13, hT⟩ := q_obind hT
            refine r_backI F hS (r_runV (k := 46) (N := 11) (T := T8) (As := [vI 1, vI 8]) F hS (show 46 < 191 by decide) (show shK 46 = 12 from rfl) rfl (c_Reader_takeNumber l F.2.2.1 q11 1 8 (inr_c rfl) (inr_c rfl) _ hq13) gs_Reader_97 hd_Reader_takeNumber ⟨Nat.le_of_ble_eq_true rfl, Nat.le_of_ble_eq_true rfl⟩ rfl hl.1 (Nat.le_of_ble_eq_true rfl) ⟨Nat.zero_le _, Nat.zero_le _⟩ rfl d_Reader_readTown_78) (fun H locs hS h14 => ?_)
            refine lv_istore_n (lv' := [(2, vI (q13.2)), (0, .ref (b + 46)), (1, .ref (b + k1))]) F.hx F.hb d_Reader_readTown_81 rfl hl (Nat.le_of_ble_eq_true rfl) rfl (fun ls hl => ?_)
            refine lv_iload_n F.hx F.hb d_Reader_readTown_82 rfl (lv_at hl 0 rfl) ?_
            refine r_if_ge (tgt := 90) F.hx F.hb h14 d_Reader_readTown_83 (by decide) (fun c15 => ?_) (fun c15 => ?_)
            · replace hT := (if_pos c15).symm.trans hT
              refine lv_aload_n F.hx F.hb d_Reader_readTown_90 rfl (lv_at hl 1 rfl) ?_
              refine r_iconst F.hx F.hb d_Reader_readTown_91 ?_
              refine r_bipush F.hx F.hb d_Reader_readTown_92 rfl ?_
              obtain ⟨q16, hq16, hT⟩ := q_obind hT
              refine r_backI F hS (r_runV (k := 46) (N := 11) (T := T8) (As := [vI 1, vI 6]) F hS (show 46 < 191 by decide) (show shK 46 = 12 from rfl) rfl (c_Reader_takeNumber l F.2.2.1 (q13.1) 1 6 (inr_c rfl) (inr_c rfl) _ hq16) gs_Reader_97 hd_Reader_takeNumber ⟨Nat.le_of_ble_eq_true rfl, Nat.le_of_ble_eq_true rfl⟩ rfl hl.1 (Nat.le_of_ble_eq_true rfl) ⟨Nat.zero_le _, Nat.zero_le _⟩ rfl d_Reader_readTown_94) (fun H locs hS h17 => ?_)
              exact k_Reader_readTown_L97 l hlo k1 hk1 F hlk hr (q16.1) (q13.2) h14 (q16.2) h17 _ _ _ hS (lv_sub hl [2, 0] rfl) hT
            · replace hT := (if_neg c15).symm.trans hT
              refine r_iconst F.hx F.hb d_Reader_readTown_86 ?_
              refine lv_goto (tgt := 97) F.hx F.hb d_Reader_readTown_87 (by decide) ?_
              exact k_Reader_readTown_L97 l hlo k1 hk1 F hlk hr (q13.1) (q13.2) h14 (-1) (inr_c rfl) _ _ _ hS (lv_sub hl [2, 0] rfl) hT
          · replace hT := (if_neg c8).symm.trans hT
            exact k_Reader_readTown_L49 l hlo k1 hk1 F hlk hr M _ _ _ hS (lv_sub hl [0] rfl) hT
  · replace hT := (if_neg c2).symm.trans hT
    refine lv_aload_n F.hx F.hb d_Reader_readTown_7 rfl (lv_at hl 0 rfl) ?_
    refine r_iconst F.hx F.hb d_Reader_readTown_8 ?_
    refine lv_aload_n F.hx F.hb d_Reader_readTown_9 rfl (lv_at hl 0 rfl) ?_
    refine r_get (v := vI (M.1 46 4)) (N := 11) (T := T8) (j := 4) F hS (show 46 < 191 by decide) (show shK 46 = 12 from rfl) (show shN 46 = 11 from rfl) rfl (Nat.le_of_ble_eq_true rfl) ing8 mw_234 (fv_int rfl) d_Reader_readTown_10 ?_
    have i18 := hS.rng 46 4
    obtain ⟨q19, hq19⟩ : ∃ q, q = (t_Reader_refuse M 3 (M.1 46 4)) := ⟨_, rfl⟩
    replace hT := qlet_eq hT hq19
    refine r_backZ F hS (r_runV (k := 46) (N := 11) (T := T8) (As := [vI 3, vI (M.1 46 4)]) F hS (show 46 < 191 by decide) (show shK 46 = 12 from rfl) rfl (c_Reader_refuse l F.2.2.1 M 3 (M.1 46 4) (inr_c rfl) i18 _ hq19.symm) gs_Reader_47 hd_Reader_refuse ⟨Nat.le_of_ble_eq_true rfl, Nat.le_of_ble_eq_true rfl⟩ rfl hl.1 (Nat.le_of_ble_eq_true rfl) ⟨Nat.zero_le _, Nat.zero_le _⟩ rfl d_Reader_readTown_13) (fun H locs hS h20 => ?_)
    cases hT
    exact r_zret F hlk hr hS h20 d_Reader_readTown_16
theorem d_WF_indexOf_0 : decode b_WF_indexOf 0 = .ok (.iconst 0, 1) := dc_3 (by decide +kernel)
theorem d_WF_indexOf_1 : decode b_WF_indexOf 1 = .ok (.istore_n 3, 1) := dc_62 (by decide +kernel)
theorem d_WF_indexOf_2 : decode b_WF_indexOf 2 = .ok (.iload_n 3, 1) := dc_29 (by decide +kernel)
theorem d_WF_indexOf_3 : decode b_WF_indexOf 3 = .ok (.iload_n 1, 1) := dc_27 (by decide +kernel)
theorem d_WF_indexOf_4 : decode b_WF_indexOf 4 = .ok (.if_icmp .ge 24, 3) := dc_162 (by decide +kernel)
theorem d_WF_indexOf_7 : decode b_WF_indexOf 7 = .ok (.iload_n 3, 1) := dc_29 (by decide +kernel)
theorem d_WF_indexOf_8 : decode b_WF_indexOf 8 = .ok (.aload_n 0, 1) := dc_42 (by decide +kernel)
theorem d_WF_indexOf_9 : decode b_WF_indexOf 9 = .ok (.arraylength, 1) := dc_190 (by decide +kernel)
theorem d_WF_indexOf_10 : decode b_WF_indexOf 10 = .ok (.if_icmp .ge 18, 3) := dc_162 (by decide +kernel)
theorem d_WF_indexOf_13 : decode b_WF_indexOf 13 = .ok (.aload_n 0, 1) := dc_42 (by decide +kernel)
theorem d_WF_indexOf_14 : decode b_WF_indexOf 14 = .ok (.iload_n 3, 1) := dc_29 (by decide +kernel)
theorem d_WF_indexOf_15 : decode b_WF_indexOf 15 = .ok (.iaload, 1) := dc_46 (by decide +kernel)
theorem d_WF_indexOf_16 : decode b_WF_indexOf 16 = .ok (.iload_n 2, 1) := dc_28 (by decide +kernel)
theorem d_WF_indexOf_17 : decode b_WF_indexOf 17 = .ok (.if_icmp .ne 5, 3) := dc_160 (by decide +kernel)
theorem d_WF_indexOf_20 : decode b_WF_indexOf 20 = .ok (.iload_n 3, 1) := dc_29 (by decide +kernel)
theorem d_WF_indexOf_21 : decode b_WF_indexOf 21 = .ok (.ireturn, 1) := dc_172 (by decide +kernel)
theorem d_WF_indexOf_22 : decode b_WF_indexOf 22 = .ok (.iinc 3 1, 3) := dc_132 (by decide +kernel)
theorem d_WF_indexOf_25 : decode b_WF_indexOf 25 = .ok (.goto (-23), 3) := dc_167 (by decide +kernel)
theorem d_WF_indexOf_28 : decode b_WF_indexOf 28 = .ok (.iconst (-1), 1) := dc_2 (by decide +kernel)
theorem d_WF_indexOf_29 : decode b_WF_indexOf 29 = .ok (.ireturn, 1) := dc_172 (by decide +kernel)
def t_WF_indexOf_L2 (r1 : Nat) (N1 : Nat) (x2 : Int) (x3 : Int)  : Nat → Mem → Int → Option (Int)
  | 0, _, _ => none
  | fu + 1, M, v3_ => (if x2 ≤ v3_ then (some (-1)) else (if (N1 : Int) ≤ v3_ then (some (-1)) else (qguard (0 ≤ v3_ ∧ v3_ < (N1 : Int)) (if (M.1 r1 v3_) = x3 then (some v3_) else (t_WF_indexOf_L2 r1 N1 x2 x3 fu M (w32 (v3_ + 1)))))))
def t_WF_indexOf (M : Mem) (r1 : Nat) (N1 : Nat) (x2 : Int) (x3 : Int) : Option (Int) := (t_WF_indexOf_L2 r1 N1 x2 x3 FU M 0)
set_option maxHeartbeats 4000000 in
set_option maxRecDepth 100000 in
theorem k_WF_indexOf_L2 (l : Launch) {p : Program} {e : Env} {s : State} {m : MethodId} {below : List Frame} {meth : Method} {c : Code} {b n : Nat} {C : CT} (hlo : 191 ≤ n) (r1 : Nat) (N1 : Nat) (x2 : Int) (x3 : Int) (hr1 : arrP 0 r1 N1 191) (hx2 : InR x2) (hx3 : InR x3) (F : Cx b p m c b_WF_indexOf 4 s ([.ref (b + r1), vI x2, vI x3] : List Value).toArray "WardFalls" C n 191) (hlk : meth.locks = false) (hr : meth.sig.returnType = some .int) {res : Int} : ∀ (fu : Nat) (M : Mem) (v3_ : Int) (hv3_ : InR v3_) (H : Heap) (locs : List Loc) (ls : Array Slot), St b C n M s H locs → lv_has ls 4 [(0, .ref (b + r1)), (1, vI x2), (2, vI x3), (3, vI v3_)] → t_WF_indexOf_L2 r1 N1 x2 x3 fu M v3_ = some res → W p l e (headSpec (wsM y_WF_indexOf b_WF_indexOf 4 (some .int)) (rmD 0)).room s m ([.ref (b + r1), vI x2, vI x3] : List Value).toArray below meth c H locs 0 0 (MQ below (QI b C n M res) ([.ref (b + r1), vI x2, vI x3] : List Value).toArray s 0 0 (frb b)) (F0 m 2 ls []) := by
  intro fu
  induction fu with
  | zero => intro M v3_ hv3_ H locs ls hS hl hT; exact absurd hT (by simp [t_WF_indexOf_L2])
  | succ fu ih =>
    intro M v3_ hv3_ H locs ls hS hl hT
    rw [t_WF_indexOf_L2] at hT
    refine lv_iload_n F.hx F.hb d_WF_indexOf_2 rfl (lv_at hl 3 rfl) ?_
    refine lv_iload_n F.hx F.hb d_WF_indexOf_3 rfl (lv_at hl 1 rfl) ?_
    refine r_icmp_ge (tgt := 28) F.hx F.hb hv3_ hx2 d_WF_indexOf_4 (by decide) (fun c1 => ?_) (fun c1 => ?_)
    · replace hT := (if_pos c1).symm.trans hT
      refine r_iconst F.hx F.hb d_WF_indexOf_28 ?_
      cases hT
      exact r_iret F hlk hr rfl hS (inr_c rfl) d_WF_indexOf_29
    · replace hT := (if_neg c1).symm.trans hT
      refine lv_iload_n F.hx F.hb d_WF_indexOf_7 rfl (lv_at hl 3 rfl) ?_
      refine lv_aload_n F.hx F.hb d_WF_indexOf_8 rfl (lv_at hl 0 rfl) ?_
      refine r_alen F hS hr1.2.2 (by rw [hr1.1]; decide) hr1.2.1 d_WF_indexOf_9 rfl ?_
      refine r_icmp_ge (tgt := 28) F.hx F.hb hv3_ (inr_len hr1) d_WF_indexOf_10 (by decide) (fun c2 => ?_) (fun c2 => ?_)
      · replace hT := (if_pos c2).symm.trans hT
        refine r_iconst F.hx F.hb d_WF_indexOf_28 ?_
        cases hT
        exact r_iret F hlk hr rfl hS (inr_c rfl) d_WF_indexOf_29
      · replace hT := (if_neg c2).symm.trans hT
        refine lv_aload_n F.hx F.hb d_WF_indexOf_13 rfl (lv_at hl 0 rfl) ?_
        refine lv_iload_n F.hx F.hb d_WF_indexOf_14 rfl (lv_at hl 3 rfl) ?_
        obtain ⟨⟨g3a, g3b⟩, hT⟩ := q_guard hT
        refine r_iald F hS hr1.2.2 hr1.1 hr1.2.1 hv3_ g3a g3b d_WF_indexOf_15 ?_
        have i4 := hS.rng r1 v3_
        refine lv_iload_n F.hx F.hb d_WF_indexOf_16 rfl (lv_at hl 2 rfl) ?_
        refine r_icmp_ne (tgt := 22) F.hx F.hb i4 hx3 d_WF_indexOf_17 (by decide) (fun c5 => ?_) (fun c5 => ?_)
        · replace hT := (if_neg c5).symm.trans hT
          refine lv_iinc (v := Int32.ofInt (w32 (v3_ + 1))) (lv' := [(3, vI (w32 (v3_ + 1))), (0, .ref (b + r1)), (1, vI x2), (2, vI x3)]) F.hx F.hb d_WF_indexOf_22 hl (k := 3) rfl (q_of_add _ _) (Nat.le_of_ble_eq_true rfl) rfl (fun ls hl => ?_)
          refine lv_goto (tgt := 2) F.hx F.hb d_WF_indexOf_25 (by decide) ?_
          exact ih M (w32 (v3_ + 1)) (inr_w32 _) _ _ _ hS (lv_sub hl [1, 2, 3, 0] rfl) hT
        · replace hT := (if_pos c5).symm.trans hT
          refine lv_iload_n F.hx F.hb d_WF_indexOf_20 rfl (lv_at hl 3 rfl) ?_
          cases hT
          exact r_iret F hlk hr rfl hS hv3_ d_WF_indexOf_21
set_option maxHeartbeats 4000000 in
set_option maxRecDepth 100000 in
theorem c_WF_indexOf (l : Launch) {b n : Nat} {C : CT} (hlo : 191 ≤ n) (M : Mem) (r1 : Nat) (N1 : Nat) (x2 : Int) (x3 : Int) (hr1 : arrP 0 r1 N1 191) (hx2 : InR x2) (hx3 : InR x3) (res : Int) (hT : t_WF_indexOf M r1 N1 x2 x3 = some res) : CM l b C n 0 y_WF_indexOf b_WF_indexOf 4 (some .int) [.ref (b + r1), vI x2, vI x3] M (QI b C n M res) := by
  refine CM.of (lo := 191) (ow := "WardFalls") (by decide) rfl (Nat.le_of_ble_eq_true rfl) hlo (fun p e s m below meth c F hlk hr hS ls hl => ?_)
  have hl : lv_has ls 4 [(0, .ref (b + r1)), (1, vI x2), (2, vI x3)] := hl
  unfold t_WF_indexOf at hT
  refine r_iconst F.hx F.hb d_WF_indexOf_0 ?_
  refine lv_istore_n (lv' := [(3, vI 0), (0, .ref (b + r1)), (1, vI x2), (2, vI x3)]) F.hx F.hb d_WF_indexOf_1 rfl hl (Nat.le_of_ble_eq_true rfl) rfl (fun ls hl => ?_)
  exact k_WF_indexOf_L2 l hlo r1 N1 x2 x3 hr1 hx2 hx3 F hlk hr FU M 0 (inr_c rfl) _ _ _ hS (lv_sub hl [1, 2, 3, 0] rfl) hT
theorem d_Reader_takeNewName_0 : decode b_Reader_takeNewName 0 = .ok (.aload_n 0, 1) := dc_42 (by decide +kernel)
theorem d_Reader_takeNewName_1 : decode b_Reader_takeNewName 1 = .ok (.getfield 131, 3) := dc_180 (by decide +kernel)
theorem d_Reader_takeNewName_4 : decode b_Reader_takeNewName 4 = .ok (.istore_n 3, 1) := dc_62 (by decide +kernel)
theorem d_Reader_takeNewName_5 : decode b_Reader_takeNewName 5 = .ok (.aload_n 0, 1) := dc_42 (by decide +kernel)
theorem d_Reader_takeNewName_6 : decode b_Reader_takeNewName 6 = .ok (.bipush 30, 2) := dc_16 (by decide +kernel)
theorem d_Reader_takeNewName_8 : decode b_Reader_takeNewName 8 = .ok (.invokevirtual 51, 3) := dc_182 (by decide +kernel)
theorem d_Reader_takeNewName_11 : decode b_Reader_takeNewName 11 = .ok (.ifCond .ne 5, 3) := dc_154 (by decide +kernel)
theorem d_Reader_takeNewName_14 : decode b_Reader_takeNewName 14 = .ok (.iconst (-1), 1) := dc_2 (by decide +kernel)
theorem d_Reader_takeNewName_15 : decode b_Reader_takeNewName 15 = .ok (.ireturn, 1) := dc_172 (by decide +kernel)
theorem d_Reader_takeNewName_16 : decode b_Reader_takeNewName 16 = .ok (.aload_n 1, 1) := dc_43 (by decide +kernel)
theorem d_Reader_takeNewName_17 : decode b_Reader_takeNewName 17 = .ok (.iload_n 2, 1) := dc_28 (by decide +kernel)
theorem d_Reader_takeNewName_18 : decode b_Reader_takeNewName 18 = .ok (.iload_n 3, 1) := dc_29 (by decide +kernel)
theorem d_Reader_takeNewName_19 : decode b_Reader_takeNewName 19 = .ok (.invokestatic 134, 3) := dc_184 (by decide +kernel)
theorem d_Reader_takeNewName_22 : decode b_Reader_takeNewName 22 = .ok (.ifCond .lt 15, 3) := dc_155 (by decide +kernel)
theorem d_Reader_takeNewName_25 : decode b_Reader_takeNewName 25 = .ok (.aload_n 0, 1) := dc_42 (by decide +kernel)
theorem d_Reader_takeNewName_26 : decode b_Reader_takeNewName 26 = .ok (.iconst 3, 1) := dc_6 (by decide +kernel)
theorem d_Reader_takeNewName_27 : decode b_Reader_takeNewName 27 = .ok (.aload_n 0, 1) := dc_42 (by decide +kernel)
theorem d_Reader_takeNewName_28 : decode b_Reader_takeNewName 28 = .ok (.getfield 138, 3) := dc_180 (by decide +kernel)
theorem d_Reader_takeNewName_31 : decode b_Reader_takeNewName 31 = .ok (.invokevirtual 47, 3) := dc_182 (by decide +kernel)
theorem d_Reader_takeNewName_34 : decode b_Reader_takeNewName 34 = .ok (.pop, 1) := dc_87 (by decide +kernel)
theorem d_Reader_takeNewName_35 : decode b_Reader_takeNewName 35 = .ok (.iconst (-1), 1) := dc_2 (by decide +kernel)
theorem d_Reader_takeNewName_36 : decode b_Reader_takeNewName 36 = .ok (.ireturn, 1) := dc_172 (by decide +kernel)
theorem d_Reader_takeNewName_37 : decode b_Reader_takeNewName 37 = .ok (.iload_n 3, 1) := dc_29 (by decide +kernel)
theorem d_Reader_takeNewName_38 : decode b_Reader_takeNewName 38 = .ok (.ireturn, 1) := dc_172 (by decide +kernel)
def t_Reader_takeNewName (M : Mem) (r1 : Nat) (N1 : Nat) (x2 : Int) : Option (Mem × Int) := (obind (t_Reader_take M 30) fun q2 => (if (q2.2) = 0 then (some ((q2.1), (-1))) else (obind (t_WF_indexOf (q2.1) r1 N1 x2 (M.1 46 3)) fun q5 => (if q5 < 0 then (some ((q2.1), (M.1 46 3))) else (qlet (t_Reader_refuse (q2.1) 3 ((q2.1).1 46 5)) fun q9 => (some ((q9.1), (-1))))))))
set_option maxHeartbeats 4000000 in
set_option maxRecDepth 100000 in
theorem c_Reader_takeNewName (l : Launch) {b n : Nat} {C : CT} (hlo : 191 ≤ n) (M : Mem) (r1 : Nat) (N1 : Nat) (x2 : Int) (hr1 : arrP 0 r1 N1 191) (hx2 : InR x2) (res : Mem × Int) (hT : t_Reader_takeNewName M r1 N1 x2 = some res) : CM l b C n 3 y_Reader_takeNewName b_Reader_takeNewName 4 (some .int) [.ref (b + 46), .ref (b + r1), vI x2] M (QI b C n res.1 res.2) := by
  refine CM.of (lo := 191) (ow := "WardFalls$Reader") (by decide) rfl (Nat.le_of_ble_eq_true rfl) hlo (fun p e s m below meth c F hlk hr hS ls hl => ?_)
  have hl : lv_has ls 4 [(0, .ref (b + 46)), (1, .ref (b + r1)), (2, vI x2)] := hl
  unfold t_Reader_takeNewName at hT
  refine lv_aload_n F.hx F.hb d_Reader_takeNewName_0 rfl (lv_at hl 0 rfl) ?_
  refine r_get (v := vI (M.1 46 3)) (N := 11) (T := T8) (j := 3) F hS (show 46 < 191 by decide) (show shK 46 = 12 from rfl) (show shN 46 = 11 from rfl) rfl (Nat.le_of_ble_eq_true rfl) ing8 mw_233 (fv_int rfl) d_Reader_takeNewName_1 ?_
  have i1 := hS.rng 46 3
  refine lv_istore_n (lv' := [(3, vI (M.1 46 3)), (0, .ref (b + 46)), (1, .ref (b + r1)), (2, vI x2)]) F.hx F.hb d_Reader_takeNewName_4 rfl hl (Nat.le_of_ble_eq_true rfl) rfl (fun ls hl => ?_)
  refine lv_aload_n F.hx F.hb d_Reader_takeNewName_5 rfl (lv_at hl 1 rfl) ?_
  refine r_bipush F.hx F.hb d_Reader_takeNewName_6 rfl ?_
  obtain ⟨q2, hq2, hT⟩ := q_obind hT
  refine r_backZ F hS (r_runV (k := 46) (N := 11) (T := T8) (As := [vI 30]) F hS (show 46 < 191 by decide) (show shK 46 = 12 from rfl) rfl (c_Reader_take l F.2.2.1 M 30 (inr_c rfl) _ hq2) gs_Reader_51 hd_Reader_take ⟨Nat.le_of_ble_eq_true rfl, Nat.le_of_ble_eq_true rfl⟩ rfl hl.1 (Nat.le_of_ble_eq_true rfl) ⟨Nat.zero_le _, Nat.zero_le _⟩ rfl d_Reader_takeNewName_8) (fun H locs hS h3 => ?_)
  refine r_if_ne (tgt := 16) F.hx F.hb (inr_z h3) d_Reader_takeNewName_11 (by decide) (fun c4 => ?_) (fun c4 => ?_)
  · replace hT := (if_neg c4).symm.trans hT
    refine lv_aload_n F.hx F.hb d_Reader_takeNewName_16 rfl (lv_at hl 2 rfl) ?_
    refine lv_iload_n F.hx F.hb d_Reader_takeNewName_17 rfl (lv_at hl 3 rfl) ?_
    refine lv_iload_n F.hx F.hb d_Reader_takeNewName_18 rfl (lv_at hl 0 rfl) ?_
    obtain ⟨q5, hq5, hT⟩ := q_obind hT
    refine r_backI F hS (r_runSN (As := [.ref (b + r1), vI x2, vI (M.1 46 3)]) F hS (c_WF_indexOf l F.2.2.1 (q2.1) r1 N1 x2 (M.1 46 3) hr1 hx2 i1 _ hq5) mw_748 mw_747 mw_1 gs_Reader_134 hd_WF_indexOf ⟨Nat.le_of_ble_eq_true rfl, Nat.le_of_ble_eq_true rfl⟩ rfl hl.1 (Nat.le_of_ble_eq_true rfl) ⟨Nat.zero_le _, Nat.zero_le _⟩ rfl d_Reader_takeNewName_19) (fun H locs hS h6 => ?_)
    refine r_if_lt (tgt := 37) F.hx F.hb h6 d_Reader_takeNewName_22 (by decide) (fun c7 => ?_) (fun c7 => ?_)
    · replace hT := (if_pos c7).symm.trans hT
      refine lv_iload_n F.hx F.hb d_Reader_takeNewName_37 rfl (lv_at hl 0 rfl) ?_
      cases hT
      exact r_iret F hlk hr rfl hS i1 d_Reader_takeNewName_38
    · replace hT := (if_neg c7).symm.trans hT
      refine lv_aload_n F.hx F.hb d_Reader_takeNewName_25 rfl (lv_at hl 1 rfl) ?_
      refine r_iconst F.hx F.hb d_Reader_takeNewName_26 ?_
      refine lv_aload_n F.hx F.hb d_Reader_takeNewName_27 rfl (lv_at hl 1 rfl) ?_
      refine r_get (v := vI ((q2.1).1 46 5)) (N := 11) (T := T8) (j := 5) F hS (show 46 < 191 by decide) (show shK 46 = 12 from rfl) (show shN 46 = 11 from rfl) rfl (Nat.le_of_ble_eq_true rfl) ing8 mw_235 (fv_int rfl) d_Reader_takeNewName_28 ?_
      have i8 := hS.rng 46 5
      obtain ⟨q9, hq9⟩ : ∃ q, q = (t_Reader_refuse (q2.1) 3 ((q2.1).1 46 5)) := ⟨_, rfl⟩
      replace hT := qlet_eq hT hq9
      refine r_backZ F hS (r_runV (k := 46) (N := 11) (T := T8) (As := [vI 3, vI ((q2.1).1 46 5)]) F hS (show 46 < 191 by decide) (show shK 46 = 12 from rfl) rfl (c_Reader_refuse l F.2.2.1 (q2.1) 3 ((q2.1).1 46 5) (inr_c rfl) i8 _ hq9.symm) gs_Reader_47 hd_Reader_refuse ⟨Nat.le_of_ble_eq_true rfl, Nat.le_of_ble_eq_true rfl⟩ rfl hl.1 (Nat.le_of_ble_eq_true rfl) ⟨Nat.zero_le _, Nat.zero_le _⟩ rfl d_Reader_takeNewName_31) (fun H locs hS h10 => ?_)
      refine lv_pop F.hx F.hb d_Reader_takeNewName_34 rfl ?_
      refine r_iconst F.hx F.hb d_Reader_takeNewName_35 ?_
      cases hT
      exact r_iret F hlk hr rfl hS (inr_c rfl) d_Reader_takeNewName_36
  · replace hT := (if_pos c4).symm.trans hT
    refine r_iconst F.hx F.hb d_Reader_takeNewName_14 ?_
    cases hT
    exact r_iret F hlk hr rfl hS (inr_c rfl) d_Reader_takeNewName_15
theorem d_WF_isDown_0 : decode b_WF_isDown 0 = .ok (.iload_n 0, 1) := dc_26 (by decide +kernel)
theorem d_WF_isDown_1 : decode b_WF_isDown 1 = .ok (.ifCond .lt 12, 3) := dc_155 (by decide +kernel)
theorem d_WF_isDown_4 : decode b_WF_isDown 4 = .ok (.iload_n 0, 1) := dc_26 (by decide +kernel)
theorem d_WF_isDown_5 : decode b_WF_isDown 5 = .ok (.iconst 4, 1) := dc_7 (by decide +kernel)
theorem d_WF_isDown_6 : decode b_WF_isDown 6 = .ok (.if_icmp .gt 7, 3) := dc_163 (by decide +kernel)
theorem d_WF_isDown_9 : decode b_WF_isDown 9 = .ok (.iconst 1, 1) := dc_4 (by decide +kernel)
theorem d_WF_isDown_10 : decode b_WF_isDown 10 = .ok (.goto 4, 3) := dc_167 (by decide +kernel)
theorem d_WF_isDown_13 : decode b_WF_isDown 13 = .ok (.iconst 0, 1) := dc_3 (by decide +kernel)
theorem d_WF_isDown_14 : decode b_WF_isDown 14 = .ok (.ireturn, 1) := dc_172 (by decide +kernel)
def t_WF_isDown (M : Mem) (x1 : Int) : Int := (if x1 < 0 then 0 else (if 4 < x1 then 0 else 1))
set_option maxHeartbeats 4000000 in
set_option maxRecDepth 100000 in
theorem c_WF_isDown (l : Launch) {b n : Nat} {C : CT} (hlo : 191 ≤ n) (M : Mem) (x1 : Int) (hx1 : InR x1) (res : Int) (hT : t_WF_isDown M x1 = res) : CM l b C n 0 y_WF_isDown b_WF_isDown 1 (some .boolean) [vI x1] M (QZ b C n M res) := by
  refine CM.of (lo := 191) (ow := "WardFalls") (by decide) rfl (Nat.le_of_ble_eq_true rfl) hlo (fun p e s m below meth c F hlk hr hS ls hl => ?_)
  have hl : lv_has ls 1 [(0, vI x1)] := hl
  unfold t_WF_isDown at hT
  refine lv_iload_n F.hx F.hb d_WF_isDown_0 rfl (lv_at hl 0 rfl) ?_
  refine r_if_lt (tgt := 13) F.hx F.hb hx1 d_WF_isDown_1 (by decide) (fun c1 => ?_) (fun c1 => ?_)
  · replace hT := (if_pos c1).symm.trans hT
    refine r_iconst F.hx F.hb d_WF_isDown_13 ?_
    subst hT
    exact r_zret F hlk hr hS (Or.inl rfl) d_WF_isDown_14
  · replace hT := (if_neg c1).symm.trans hT
    refine lv_iload_n F.hx F.hb d_WF_isDown_4 rfl (lv_at hl 0 rfl) ?_
    refine r_iconst F.hx F.hb d_WF_isDown_5 ?_
    refine r_icmp_gt (tgt := 13) F.hx F.hb hx1 (inr_c rfl) d_WF_isDown_6 (by decide) (fun c2 => ?_) (fun c2 => ?_)
    · replace hT := (if_pos c2).symm.trans hT
      refine r_iconst F.hx F.hb d_WF_isDown_13 ?_
      subst hT
      exact r_zret F hlk hr hS (Or.inl rfl) d_WF_isDown_14
    · replace hT := (if_neg c2).symm.trans hT
      refine r_iconst F.hx F.hb d_WF_isDown_9 ?_
      refine lv_goto (tgt := 14) F.hx F.hb d_WF_isDown_10 (by decide) ?_
      subst hT
      exact r_zret F hlk hr hS (Or.inr rfl) d_WF_isDown_14
theorem wn_Reader_readWard_0 : ∀ i, i < 96 → bA b_Reader_readWard (0 + i) = wB [43, 180, 0, 107, 7, 161, 0, 13, 42, 5, 42, 180, 0, 44, 182, 0, 47, 172, 42, 42, 180, 0, 94, 4, 96, 182, 0, 80, 42, 43, 180, 0, 110, 43, 180, 0, 107, 182, 0, 114, 61, 28, 156, 0, 5, 3, 172, 42, 180, 0, 15, 16, 8, 100, 62, 29, 184, 0, 118, 154, 0, 13, 42, 4, 42, 180, 0, 44, 182, 0, 47, 172, 42, 42, 180, 0, 94, 4, 96, 182, 0, 80, 42, 3, 16, 99, 182, 0, 97, 54, 4, 21, 4, 156, 0, 5] i := wB_of (by decide +kernel)
theorem d_Reader_readWard_0 : decode b_Reader_readWard 0 = .ok (.aload_n 1, 1) := dc_43 (q0_win (r := 0) wn_Reader_readWard_0 (by decide +kernel))
theorem d_Reader_readWard_1 : decode b_Reader_readWard 1 = .ok (.getfield 107, 3) := dc_180 (qU2_win (r := 1) wn_Reader_readWard_0 (by decide +kernel))
theorem d_Reader_readWard_4 : decode b_Reader_readWard 4 = .ok (.iconst 4, 1) := dc_7 (q0_win (r := 4) wn_Reader_readWard_0 (by decide +kernel))
theorem d_Reader_readWard_5 : decode b_Reader_readWard 5 = .ok (.if_icmp .lt 13, 3) := dc_161 (qS2_win (r := 5) wn_Reader_readWard_0 (by decide +kernel))
theorem d_Reader_readWard_8 : decode b_Reader_readWard 8 = .ok (.aload_n 0, 1) := dc_42 (q0_win (r := 8) wn_Reader_readWard_0 (by decide +kernel))
theorem d_Reader_readWard_9 : decode b_Reader_readWard 9 = .ok (.iconst 2, 1) := dc_5 (q0_win (r := 9) wn_Reader_readWard_0 (by decide +kernel))
theorem d_Reader_readWard_10 : decode b_Reader_readWard 10 = .ok (.aload_n 0, 1) := dc_42 (q0_win (r := 10) wn_Reader_readWard_0 (by decide +kernel))
theorem d_Reader_readWard_11 : decode b_Reader_readWard 11 = .ok (.getfield 44, 3) := dc_180 (qU2_win (r := 11) wn_Reader_readWard_0 (by decide +kernel))
theorem d_Reader_readWard_14 : decode b_Reader_readWard 14 = .ok (.invokevirtual 47, 3) := dc_182 (qU2_win (r := 14) wn_Reader_readWard_0 (by decide +kernel))
theorem d_Reader_readWard_17 : decode b_Reader_readWard 17 = .ok (.ireturn, 1) := dc_172 (q0_win (r := 17) wn_Reader_readWard_0 (by decide +kernel))
theorem d_Reader_readWard_18 : decode b_Reader_readWard 18 = .ok (.aload_n 0, 1) := dc_42 (q0_win (r := 18) wn_Reader_readWard_0 (by decide +kernel))
theorem d_Reader_readWard_19 : decode b_Reader_readWard 19 = .ok (.aload_n 0, 1) := dc_42 (q0_win (r := 19) wn_Reader_readWard_0 (by decide +kernel))
theorem d_Reader_readWard_20 : decode b_Reader_readWard 20 = .ok (.getfield 94, 3) := dc_180 (qU2_win (r := 20) wn_Reader_readWard_0 (by decide +kernel))
theorem d_Reader_readWard_23 : decode b_Reader_readWard 23 = .ok (.iconst 1, 1) := dc_4 (q0_win (r := 23) wn_Reader_readWard_0 (by decide +kernel))
theorem d_Reader_readWard_24 : decode b_Reader_readWard 24 = .ok (.iadd, 1) := dc_96 (q0_win (r := 24) wn_Reader_readWard_0 (by decide +kernel))
theorem d_Reader_readWard_25 : decode b_Reader_readWard 25 = .ok (.invokevirtual 80, 3) := dc_182 (qU2_win (r := 25) wn_Reader_readWard_0 (by decide +kernel))
theorem d_Reader_readWard_28 : decode b_Reader_readWard 28 = .ok (.aload_n 0, 1) := dc_42 (q0_win (r := 28) wn_Reader_readWard_0 (by decide +kernel))
theorem d_Reader_readWard_29 : decode b_Reader_readWard 29 = .ok (.aload_n 1, 1) := dc_43 (q0_win (r := 29) wn_Reader_readWard_0 (by decide +kernel))
theorem d_Reader_readWard_30 : decode b_Reader_readWard 30 = .ok (.getfield 110, 3) := dc_180 (qU2_win (r := 30) wn_Reader_readWard_0 (by decide +kernel))
theorem d_Reader_readWard_33 : decode b_Reader_readWard 33 = .ok (.aload_n 1, 1) := dc_43 (q0_win (r := 33) wn_Reader_readWard_0 (by decide +kernel))
theorem d_Reader_readWard_34 : decode b_Reader_readWard 34 = .ok (.getfield 107, 3) := dc_180 (qU2_win (r := 34) wn_Reader_readWard_0 (by decide +kernel))
theorem d_Reader_readWard_37 : decode b_Reader_readWard 37 = .ok (.invokevirtual 114, 3) := dc_182 (qU2_win (r := 37) wn_Reader_readWard_0 (by decide +kernel))
theorem d_Reader_readWard_40 : decode b_Reader_readWard 40 = .ok (.istore_n 2, 1) := dc_61 (q0_win (r := 40) wn_Reader_readWard_0 (by decide +kernel))
theorem d_Reader_readWard_41 : decode b_Reader_readWard 41 = .ok (.iload_n 2, 1) := dc_28 (q0_win (r := 41) wn_Reader_readWard_0 (by decide +kernel))
theorem d_Reader_readWard_42 : decode b_Reader_readWard 42 = .ok (.ifCond .ge 5, 3) := dc_156 (qS2_win (r := 42) wn_Reader_readWard_0 (by decide +kernel))
theorem d_Reader_readWard_45 : decode b_Reader_readWard 45 = .ok (.iconst 0, 1) := dc_3 (q0_win (r := 45) wn_Reader_readWard_0 (by decide +kernel))
theorem d_Reader_readWard_46 : decode b_Reader_readWard 46 = .ok (.ireturn, 1) := dc_172 (q0_win (r := 46) wn_Reader_readWard_0 (by decide +kernel))
theorem d_Reader_readWard_47 : decode b_Reader_readWard 47 = .ok (.aload_n 0, 1) := dc_42 (q0_win (r := 47) wn_Reader_readWard_0 (by decide +kernel))
theorem d_Reader_readWard_48 : decode b_Reader_readWard 48 = .ok (.getfield 15, 3) := dc_180 (qU2_win (r := 48) wn_Reader_readWard_0 (by decide +kernel))
theorem d_Reader_readWard_51 : decode b_Reader_readWard 51 = .ok (.bipush 8, 2) := dc_16 (qS1_win (r := 51) wn_Reader_readWard_0 (by decide +kernel))
theorem d_Reader_readWard_53 : decode b_Reader_readWard 53 = .ok (.isub, 1) := dc_100 (q0_win (r := 53) wn_Reader_readWard_0 (by decide +kernel))
theorem d_Reader_readWard_54 : decode b_Reader_readWard 54 = .ok (.istore_n 3, 1) := dc_62 (q0_win (r := 54) wn_Reader_readWard_0 (by decide +kernel))
theorem d_Reader_readWard_55 : decode b_Reader_readWard 55 = .ok (.iload_n 3, 1) := dc_29 (q0_win (r := 55) wn_Reader_readWard_0 (by decide +kernel))
theorem d_Reader_readWard_56 : decode b_Reader_readWard 56 = .ok (.invokestatic 118, 3) := dc_184 (qU2_win (r := 56) wn_Reader_readWard_0 (by decide +kernel))
theorem d_Reader_readWard_59 : decode b_Reader_readWard 59 = .ok (.ifCond .ne 13, 3) := dc_154 (qS2_win (r := 59) wn_Reader_readWard_0 (by decide +kernel))
theorem d_Reader_readWard_62 : decode b_Reader_readWard 62 = .ok (.aload_n 0, 1) := dc_42 (q0_win (r := 62) wn_Reader_readWard_0 (by decide +kernel))
theorem d_Reader_readWard_63 : decode b_Reader_readWard 63 = .ok (.iconst 1, 1) := dc_4 (q0_win (r := 63) wn_Reader_readWard_0 (by decide +kernel))
theorem d_Reader_readWard_64 : decode b_Reader_readWard 64 = .ok (.aload_n 0, 1) := dc_42 (q0_win (r := 64) wn_Reader_readWard_0 (by decide +kernel))
theorem d_Reader_readWard_65 : decode b_Reader_readWard 65 = .ok (.getfield 44, 3) := dc_180 (qU2_win (r := 65) wn_Reader_readWard_0 (by decide +kernel))
theorem d_Reader_readWard_68 : decode b_Reader_readWard 68 = .ok (.invokevirtual 47, 3) := dc_182 (qU2_win (r := 68) wn_Reader_readWard_0 (by decide +kernel))
theorem d_Reader_readWard_71 : decode b_Reader_readWard 71 = .ok (.ireturn, 1) := dc_172 (q0_win (r := 71) wn_Reader_readWard_0 (by decide +kernel))
theorem d_Reader_readWard_72 : decode b_Reader_readWard 72 = .ok (.aload_n 0, 1) := dc_42 (q0_win (r := 72) wn_Reader_readWard_0 (by decide +kernel))
theorem d_Reader_readWard_73 : decode b_Reader_readWard 73 = .ok (.aload_n 0, 1) := dc_42 (q0_win (r := 73) wn_Reader_readWard_0 (by decide +kernel))
theorem d_Reader_readWard_74 : decode b_Reader_readWard 74 = .ok (.getfield 94, 3) := dc_180 (qU2_win (r := 74) wn_Reader_readWard_0 (by decide +kernel))
theorem d_Reader_readWard_77 : decode b_Reader_readWard 77 = .ok (.iconst 1, 1) := dc_4 (q0_win (r := 77) wn_Reader_readWard_0 (by decide +kernel))
theorem d_Reader_readWard_78 : decode b_Reader_readWard 78 = .ok (.iadd, 1) := dc_96 (q0_win (r := 78) wn_Reader_readWard_0 (by decide +kernel))
theorem d_Reader_readWard_79 : decode b_Reader_readWard 79 = .ok (.invokevirtual 80, 3) := dc_182 (qU2_win (r := 79) wn_Reader_readWard_0 (by decide +kernel))
theorem d_Reader_readWard_82 : decode b_Reader_readWard 82 = .ok (.aload_n 0, 1) := dc_42 (q0_win (r := 82) wn_Reader_readWard_0 (by decide +kernel))
theorem d_Reader_readWard_83 : decode b_Reader_readWard 83 = .ok (.iconst 0, 1) := dc_3 (q0_win (r := 83) wn_Reader_readWard_0 (by decide +kernel))
theorem d_Reader_readWard_84 : decode b_Reader_readWard 84 = .ok (.bipush 99, 2) := dc_16 (qS1_win (r := 84) wn_Reader_readWard_0 (by decide +kernel))
theorem d_Reader_readWard_86 : decode b_Reader_readWard 86 = .ok (.invokevirtual 97, 3) := dc_182 (qU2_win (r := 86) wn_Reader_readWard_0 (by decide +kernel))
theorem d_Reader_readWard_89 : decode b_Reader_readWard 89 = .ok (.istore 4, 2) := dc_54 (qU1_win (r := 89) wn_Reader_readWard_0 (by decide +kernel))
theorem d_Reader_readWard_91 : decode b_Reader_readWard 91 = .ok (.iload 4, 2) := dc_21 (qU1_win (r := 91) wn_Reader_readWard_0 (by decide +kernel))
theorem d_Reader_readWard_93 : decode b_Reader_readWard 93 = .ok (.ifCond .ge 5, 3) := dc_156 (qS2_win (r := 93) wn_Reader_readWard_0 (by decide +kernel))
theorem wn_Reader_readWard_96 : ∀ i, i < 51 → bA b_Reader_readWard (96 + i) = wB [3, 172, 43, 180, 0, 110, 43, 180, 0, 107, 28, 184, 0, 121, 43, 180, 0, 125, 43, 180, 0, 107, 29, 184, 0, 121, 43, 180, 0, 128, 43, 180, 0, 107, 21, 4, 184, 0, 121, 43, 89, 180, 0, 107, 4, 96, 181, 0, 107, 4, 172] i := wB_of (by decide +kernel)
theorem d_Reader_readWard_96 : decode b_Reader_readWard 96 = .ok (.iconst 0, 1) := dc_3 (q0_win (r := 0) wn_Reader_readWard_96 (by decide +kernel))
theorem d_Reader_readWard_97 : decode b_Reader_readWard 97 = .ok (.ireturn, 1) := dc_172 (q0_win (r := 1) wn_Reader_readWard_96 (by decide +kernel))
theorem d_Reader_readWard_98 : decode b_Reader_readWard 98 = .ok (.aload_n 1, 1) := dc_43 (q0_win (r := 2) wn_Reader_readWard_96 (by decide +kernel))
theorem d_Reader_readWard_99 : decode b_Reader_readWard 99 = .ok (.getfield 110, 3) := dc_180 (qU2_win (r := 3) wn_Reader_readWard_96 (by decide +kernel))
theorem d_Reader_readWard_102 : decode b_Reader_readWard 102 = .ok (.aload_n 1, 1) := dc_43 (q0_win (r := 6) wn_Reader_readWard_96 (by decide +kernel))
theorem d_Reader_readWard_103 : decode b_Reader_readWard 103 = .ok (.getfield 107, 3) := dc_180 (qU2_win (r := 7) wn_Reader_readWard_96 (by decide +kernel))
theorem d_Reader_readWard_106 : decode b_Reader_readWard 106 = .ok (.iload_n 2, 1) := dc_28 (q0_win (r := 10) wn_Reader_readWard_96 (by decide +kernel))
theorem d_Reader_readWard_107 : decode b_Reader_readWard 107 = .ok (.invokestatic 121, 3) := dc_184 (qU2_win (r := 11) wn_Reader_readWard_96 (by decide +kernel))
theorem d_Reader_readWard_110 : decode b_Reader_readWard 110 = .ok (.aload_n 1, 1) := dc_43 (q0_win (r := 14) wn_Reader_readWard_96 (by decide +kernel))
theorem d_Reader_readWard_111 : decode b_Reader_readWard 111 = .ok (.getfield 125, 3) := dc_180 (qU2_win (r := 15) wn_Reader_readWard_96 (by decide +kernel))
theorem d_Reader_readWard_114 : decode b_Reader_readWard 114 = .ok (.aload_n 1, 1) := dc_43 (q0_win (r := 18) wn_Reader_readWard_96 (by decide +kernel))
theorem d_Reader_readWard_115 : decode b_Reader_readWard 115 = .ok (.getfield 107, 3) := dc_180 (qU2_win (r := 19) wn_Reader_readWard_96 (by decide +kernel))
theorem d_Reader_readWard_118 : decode b_Reader_readWard 118 = .ok (.iload_n 3, 1) := dc_29 (q0_win (r := 22) wn_Reader_readWard_96 (by decide +kernel))
theorem d_Reader_readWard_119 : decode b_Reader_readWard 119 = .ok (.invokestatic 121, 3) := dc_184 (qU2_win (r := 23) wn_Reader_readWard_96 (by decide +kernel))
theorem d_Reader_readWard_122 : decode b_Reader_readWard 122 = .ok (.aload_n 1, 1) := dc_43 (q0_win (r := 26) wn_Reader_readWard_96 (by decide +kernel))
theorem d_Reader_readWard_123 : decode b_Reader_readWard 123 = .ok (.getfield 128, 3) := dc_180 (qU2_win (r := 27) wn_Reader_readWard_96 (by decide +kernel))
theorem d_Reader_readWard_126 : decode b_Reader_readWard 126 = .ok (.aload_n 1, 1) := dc_43 (q0_win (r := 30) wn_Reader_readWard_96 (by decide +kernel))
theorem d_Reader_readWard_127 : decode b_Reader_readWard 127 = .ok (.getfield 107, 3) := dc_180 (qU2_win (r := 31) wn_Reader_readWard_96 (by decide +kernel))
theorem d_Reader_readWard_130 : decode b_Reader_readWard 130 = .ok (.iload 4, 2) := dc_21 (qU1_win (r := 34) wn_Reader_readWard_96 (by decide +kernel))
theorem d_Reader_readWard_132 : decode b_Reader_readWard 132 = .ok (.invokestatic 121, 3) := dc_184 (qU2_win (r := 36) wn_Reader_readWard_96 (by decide +kernel))
theorem d_Reader_readWard_135 : decode b_Reader_readWard 135 = .ok (.aload_n 1, 1) := dc_43 (q0_win (r := 39) wn_Reader_readWard_96 (by decide +kernel))
theorem d_Reader_readWard_136 : decode b_Reader_readWard 136 = .ok (.dup, 1) := dc_89 (q0_win (r := 40) wn_Reader_readWard_96 (by decide +kernel))
theorem d_Reader_readWard_137 : decode b_Reader_readWard 137 = .ok (.getfield 107, 3) := dc_180 (qU2_win (r := 41) wn_Reader_readWard_96 (by decide +kernel))
theorem d_Reader_readWard_140 : decode b_Reader_readWard 140 = .ok (.iconst 1, 1) := dc_4 (q0_win (r := 44) wn_Reader_readWard_96 (by decide +kernel))
theorem d_Reader_readWard_141 : decode b_Reader_readWard 141 = .ok (.iadd, 1) := dc_96 (q0_win (r := 45) wn_Reader_readWard_96 (by decide +kernel))
theorem d_Reader_readWard_142 : decode b_Reader_readWard 142 = .ok (.putfield 107, 3) := dc_181 (qU2_win (r := 46) wn_Reader_readWard_96 (by decide +kernel))
theorem d_Reader_readWard_145 : decode b_Reader_readWard 145 = .ok (.iconst 1, 1) := dc_4 (q0_win (r := 49) wn_Reader_readWard_96 (by decide +kernel))
theorem d_Reader_readWard_146 : decode b_Reader_readWard 146 = .ok (.ireturn, 1) := dc_172 (q0_win (r := 50) wn_Reader_readWard_96 (by decide +kernel))
def t_Reader_readWard (M : Mem) (k1 : Nat) : Option (Mem × Int) := (if (M.1 k1 14) < 4 then (obind (t_Reader_goTo M (w32 ((M.1 46 1) + 1))) fun q4 => (obind (t_Reader_takeNewName q4 (k1 + 1) 4 (q4.1 k1 14)) fun q7 => (if 0 ≤ (q7.2) then (qlet (t_WF_isDown (q7.1) (w32 (((q7.1).1 46 2) - 8))) fun q11 => (if q11 = 0 then (qlet (t_Reader_refuse (q7.1) 1 ((q7.1).1 46 4)) fun q32 => (some ((q32.1), (q32.2)))) else (obind (t_Reader_goTo (q7.1) (w32 (((q7.1).1 46 1) + 1))) fun q15 => (obind (t_Reader_takeNumber q15 0 99) fun q17 => (if 0 ≤ (q17.2) then (qlet (t_WF_put (q17.1) (k1 + 1) 4 ((q17.1).1 k1 14) (q7.2)) fun q21 => (qlet (t_WF_put q21 (k1 + 2) 4 (q21.1 k1 14) (w32 (((q7.1).1 46 2) - 8))) fun q24 => (qlet (t_WF_put q24 (k1 + 3) 4 (q24.1 k1 14) (q17.2)) fun q27 => (qlet (setI q27 k1 14 (w32 ((q27.1 k1 14) + 1))) fun M30 => (some (M30, 1)))))) else (some ((q17.1), 0))))))) else (some ((q7.1), 0))))) else (qlet (t_Reader_refuse M 2 (M.1 46 4)) fun q35 => (some ((q35.1), (q35.2)))))
set_option maxHeartbeats 4000000 in
set_option maxRecDepth 100000 in
theorem c_Reader_readWard (l : Launch) {b n : Nat} {C : CT} (hlo : 191 ≤ n) (M : Mem) (k1 : Nat) (hk1 : isTown k1) (res : Mem × Int) (hT : t_Reader_readWard M k1 = some res) : CM l b C n 4 y_Reader_readWard b_Reader_readWard 5 (some .boolean) [.ref (b + 46), .ref (b + k1)] M (QZ b C n res.1 res.2) := by
  refine CM.of (lo := 191) (ow := "WardFalls$Reader") (by decide) rfl (Nat.le_of_ble_eq_true rfl) hlo (fun p e s m below meth c F hlk hr hS ls hl => ?_)
  have hl : lv_has ls 5 [(0, .ref (b + 46)), (1, .ref (b + k1))] := hl
  unfold t_Reader_readWard at hT
  refine lv_aload_n F.hx F.hb d_Reader_readWard_0 rfl (lv_at hl 1 rfl) ?_
  refine r_get (v := vI (M.1 k1 14)) (N := 20) (T := T11) (j := 14) F hS (Town_lt hk1) (Town_sh hk1) (Town_N hk1) rfl (Nat.le_of_ble_eq_true rfl) ing11 mw_135 (fv_int rfl) d_Reader_readWard_1 ?_
  have i1 := hS.rng k1 14
  refine r_iconst F.hx F.hb d_Reader_readWard_4 ?_
  refine r_icmp_lt (tgt := 18) F.hx F.hb i1 (inr_c rfl) d_Reader_readWard_5 (by decide) (fun c2 => ?_) (fun c2 => ?_)
  · replace hT := (if_pos c2).symm.trans hT
    refine lv_aload_n F.hx F.hb d_Reader_readWard_18 rfl (lv_at hl 0 rfl) ?_
    refine lv_aload_n F.hx F.hb d_Reader_readWard_19 rfl (lv_at hl 0 rfl) ?_
    refine r_get (v := vI (M.1 46 1)) (N := 11) (T := T8) (j := 1) F hS (show 46 < 191 by decide) (show shK 46 = 12 from rfl) (show shN 46 = 11 from rfl) rfl (Nat.le_of_ble_eq_true rfl) ing8 mw_231 (fv_int rfl) d_Reader_readWard_20 ?_
    have i3 := hS.rng 46 1
    refine r_iconst F.hx F.hb d_Reader_readWard_23 ?_
    refine r_iadd F.hx F.hb d_Reader_readWard_24 ?_
    obtain ⟨q4, hq4, hT⟩ := q_obind hT
    refine r_backV F hS (r_runV (k := 46) (N := 11) (T := T8) (As := [vI (w32 ((M.1 46 1) + 1))]) F hS (show 46 < 191 by decide) (show shK 46 = 12 from rfl) rfl (c_Reader_goTo l F.2.2.1 M (w32 ((M.1 46 1) + 1)) (inr_w32 _) _ hq4) gs_Reader_80 hd_Reader_goTo ⟨Nat.le_of_ble_eq_true rfl, Nat.le_of_ble_eq_true rfl⟩ rfl hl.1 (Nat.le_of_ble_eq_true rfl) ⟨Nat.zero_le _, Nat.zero_le _⟩ rfl d_Reader_readWard_25) (fun H locs hS => ?_)
    refine lv_aload_n F.hx F.hb d_Reader_readWard_28 rfl (lv_at hl 0 rfl) ?_
    refine lv_aload_n F.hx F.hb d_Reader_readWard_29 rfl (lv_at hl 1 rfl) ?_
    refine r_get (v := .ref (b + (k1 + 1))) (N := 20) (T := T11) (j := 0) F hS (Town_lt hk1) (Town_sh hk1) (Town_N hk1) rfl (Nat.le_of_ble_eq_true rfl) ing11 mw_89 (Town_g0 hk1 _) d_Reader_readWard_30 ?_
    refine lv_aload_n F.hx F.hb d_Reader_readWard_33 rfl (lv_at hl 1 rfl) ?_
    refine r_get (v := vI (q4.1 k1 14)) (N := 20) (T := T11) (j := 14) F hS (Town_lt hk1) (Town_sh hk1) (Town_N hk1) rfl (Nat.le_of_ble_eq_true rfl) ing11 mw_135 (fv_int rfl) d_Reader_readWard_34 ?_
    have i6 := hS.rng k1 14
    obtain ⟨q7, hq7, hT⟩ := q_obind hT
    refine r_backI F hS (r_runV (k := 46) (N := 11) (T := T8) (As := [.ref (b + (k1 + 1)), vI (q4.1 k1 14)]) F hS (show 46 < 191 by decide) (show shK 46 = 12 from rfl) rfl (c_Reader_takeNewName l F.2.2.1 q4 (k1 + 1) 4 (q4.1 k1 14) (Town_f0 hk1) i6 _ hq7) gs_Reader_114 hd_Reader_takeNewName ⟨Nat.le_of_ble_eq_true rfl, Nat.le_of_ble_eq_true rfl⟩ rfl hl.1 (Nat.le_of_ble_eq_true rfl) ⟨Nat.zero_le _, Nat.zero_le _⟩ rfl d_Reader_readWard_37) (fun H locs hS h8 => ?_)
    refine lv_istore_n (lv' := [(2, vI (q7.2)), (0, .ref (b + 46)), (1, .ref (b + k1))]) F.hx F.hb d_Reader_readWard_40 rfl hl (Nat.le_of_ble_eq_true rfl) rfl (fun ls hl => ?_)
    refine lv_iload_n F.hx F.hb d_Reader_readWard_41 rfl (lv_at hl 0 rfl) ?_
    refine r_if_ge (tgt := 47) F.hx F.hb h8 d_Reader_readWard_42 (by decide) (fun c9 => ?_) (fun c9 => ?_)
    · replace hT := (if_pos c9).symm.trans hT
      refine lv_aload_n F.hx F.hb d_Reader_readWard_47 rfl (lv_at hl 1 rfl) ?_
      refine r_get (v := vI ((q7.1).1 46 2)) (N := 11) (T := T8) (j := 2) F hS (show 46 < 191 by decide) (show shK 46 = 12 from rfl) (show shN 46 = 11 from rfl) rfl (Nat.le_of_ble_eq_true rfl) ing8 mw_232 (fv_int rfl) d_Reader_readWard_48 ?_
      have i10 := hS.rng 46 2
      refine r_bipush F.hx F.hb d_Reader_readWard_51 rfl ?_
      refine r_isub F.hx F.hb d_Reader_readWard_53 ?_
      refine lv_istore_n (lv' := [(3, vI (w32 (((q7.1).1 46 2) - 8))), (2, vI (q7.2)), (0, .ref (b + 46)), (1, .ref (b + k1))]) F.hx F.hb d_Reader_readWard_54 rfl hl (Nat.le_of_ble_eq_true rfl) rfl (fun ls hl => ?_)
      refine lv_iload_n F.hx F.hb d_Reader_readWard_55 rfl (lv_at hl 0 rfl) ?_
      obtain ⟨q11, hq11⟩ : ∃ q, q = (t_WF_isDown (q7.1) (w32 (((q7.1).1 46 2) - 8))) := ⟨_, rfl⟩
      replace hT := qlet_eq hT hq11
      refine r_backZ F hS (r_runSN (As := [vI (w32 (((q7.1).1 46 2) - 8))]) F hS (c_WF_isDown l F.2.2.1 (q7.1) (w32 (((q7.1).1 46 2) - 8)) (inr_w32 _) _ hq11.symm) mw_751 mw_750 mw_1 gs_Reader_118 hd_WF_isDown ⟨Nat.le_of_ble_eq_true rfl, Nat.le_of_ble_eq_true rfl⟩ rfl hl.1 (Nat.le_of_ble_eq_true rfl) ⟨Nat.zero_le _, Nat.zero_le _⟩ rfl d_Reader_readWard_56) (fun H locs hS h12 => ?_)
      refine r_if_ne (tgt := 72) F.hx F.hb (inr_z h12) d_Reader_readWard_59 (by decide) (fun c13 => ?_) (fun c13 => ?_)
      · replace hT := (if_neg c13).symm.trans hT
        refine lv_aload_n F.hx F.hb d_Reader_readWard_72 rfl (lv_at hl 2 rfl) ?_
        refine lv_aload_n F.hx F.hb d_Reader_readWard_73 rfl (lv_at hl 2 rfl) ?_
        refine r_get (v := vI ((q7.1).1 46 1)) (N := 11) (T := T8) (j := 1) F hS (show 46 < 191 by decide) (show shK 46 = 12 from rfl) (show shN 46 = 11 from rfl) rfl (Nat.le_of_ble_eq_true rfl) ing8 mw_231 (fv_int rfl) d_Reader_readWard_74 ?_
        have i14 := hS.rng 46 1
        refine r_iconst F.hx F.hb d_Reader_readWard_77 ?_
        refine r_iadd F.hx F.hb d_Reader_readWard_78 ?_
        obtain ⟨q15, hq15, hT⟩ := q_obind hT
        refine r_backV F hS (r_runV (k := 46) (N := 11) (T := T8) (As := [vI (w32 (((q7.1).1 46 1) + 1))]) F hS (show 46 < 191 by decide) (show shK 46 = 12 from rfl) rfl (c_Reader_goTo l F.2.2.1 (q7.1) (w32 (((q7.1).1 46 1) + 1)) (inr_w32 _) _ hq15) gs_Reader_80 hd_Reader_goTo ⟨Nat.le_of_ble_eq_true rfl, Nat.le_of_ble_eq_true rfl⟩ rfl hl.1 (Nat.le_of_ble_eq_true rfl) ⟨Nat.zero_le _, Nat.zero_le _⟩ rfl d_Reader_readWard_79) (fun H locs hS => ?_)
        refine lv_aload_n F.hx F.hb d_Reader_readWard_82 rfl (lv_at hl 2 rfl) ?_
        refine r_iconst F.hx F.hb d_Reader_readWard_83 ?_
        refine r_bipush F.hx F.hb d_Reader_readWard_84 rfl ?_
        obtain ⟨q17, hq17, hT⟩ := q_obind hT
        refine r_backI F hS (r_runV (k := 46) (N := 11) (T := T8) (As := [vI 0, vI 99]) F hS (show 46 < 191 by decide) (show shK 46 = 12 from rfl) rfl (c_Reader_takeNumber l F.2.2.1 q15 0 99 (inr_c rfl) (inr_c rfl) _ hq17) gs_Reader_97 hd_Reader_takeNumber ⟨Nat.le_of_ble_eq_true rfl, Nat.le_of_ble_eq_true rfl⟩ rfl hl.1 (Nat.le_of_ble_eq_true rfl) ⟨Nat.zero_le _, Nat.zero_le _⟩ rfl d_Reader_readWard_86) (fun H locs hS h18 => ?_)
        refine lv_istore (lv' := [(4, vI (q17.2)), (3, vI (w32 (((q7.1).1 46 2) - 8))), (2, vI (q7.2)), (0, .ref (b + 46)), (1, .ref (b + k1))]) F.hx F.hb d_Reader_readWard_89 hl (Nat.le_of_ble_eq_true rfl) rfl (fun ls hl => ?_)
        refine lv_iload F.hx F.hb d_Reader_readWard_91 (lv_at hl 0 rfl) ?_
        refine r_if_ge (tgt := 98) F.hx F.hb h18 d_Reader_readWard_93 (by decide) (fun c19 => ?_) (fun c19 => ?_)
        · replace hT := (if_pos c19).symm.trans hT
          refine lv_aload_n F.hx F.hb d_Reader_readWard_98 rfl (lv_at hl 4 rfl) ?_
          refine r_get (v := .ref (b + (k1 + 1))) (N := 20) (T := T11) (j := 0) F hS (Town_lt hk1) (Town_sh hk1) (Town_N hk1) rfl (Nat.le_of_ble_eq_true rfl) ing11 mw_89 (Town_g0 hk1 _) d_Reader_readWard_99 ?_
          refine lv_aload_n F.hx F.hb d_Reader_readWard_102 rfl (lv_at hl 4 rfl) ?_
          refine r_get (v := vI ((q17.1).1 k1 14)) (N := 20) (T := T11) (j := 14) F hS (Town_lt hk1) (Town_sh hk1) (Town_N hk1) rfl (Nat.le_of_ble_eq_true rfl) ing11 mw_135 (fv_int rfl) d_Reader_readWard_103 ?_
          have i20 := hS.rng k1 14
          refine lv_iload_n F.hx F.hb d_Reader_readWard_106 rfl (lv_at hl 2 rfl) ?_
          obtain ⟨q21, hq21⟩ : ∃ q, q = (t_WF_put (q17.1) (k1 + 1) 4 ((q17.1).1 k1 14) (q7.2)) := ⟨_, rfl⟩
          replace hT := qlet_eq hT hq21
          refine r_backV F hS (r_runSN (As := [.ref (b + (k1 + 1)), vI ((q17.1).1 k1 14), vI (q7.2)]) F hS (c_WF_put l F.2.2.1 (q17.1) (k1 + 1) 4 ((q17.1).1 k1 14) (q7.2) (Town_f0 hk1) i20 h8 _ hq21.symm) mw_512 mw_511 mw_1 gs_Reader_121 hd_WF_put ⟨Nat.le_of_ble_eq_true rfl, Nat.le_of_ble_eq_true rfl⟩ rfl hl.1 (Nat.le_of_ble_eq_true rfl) ⟨Nat.zero_le _, Nat.zero_le _⟩ rfl d_Reader_readWard_107) (fun H locs hS => ?_)
          refine lv_aload_n F.hx F.hb d_Reader_readWard_110 rfl (lv_at hl 4 rfl) ?_
          refine r_get (v := .ref (b + (k1 + 2))) (N := 20) (T := T11) (j := 1) F hS (Town_lt hk1) (Town_sh hk1) (Town_N hk1) rfl (Nat.le_of_ble_eq_true rfl) ing11 mw_93 (Town_g1 hk1 _) d_Reader_readWard_111 ?_
          refine lv_aload_n F.hx F.hb d_Reader_readWard_114 rfl (lv_at hl 4 rfl) ?_
          refine r_get (v := vI (q21.1 k1 14)) (N := 20) (T := T11) (j := 14) F hS (Town_lt hk1) (Town_sh hk1) (Town_N hk1) rfl (Nat.le_of_ble_eq_true rfl) ing11 mw_135 (fv_int rfl) d_Reader_readWard_115 ?_
          have i23 := hS.rng k1 14
          refine lv_iload_n F.hx F.hb d_Reader_readWard_118 rfl (lv_at hl 1 rfl) ?_
          obtain ⟨q24, hq24⟩ : ∃ q, q = (t_WF_put q21 (k1 + 2) 4 (q21.1 k1 14) (w32 (((q7.1).1 46 2) - 8))) := ⟨_, rfl⟩
          replace hT := qlet_eq hT hq24
          refine r_backV F hS (r_runSN (As := [.ref (b + (k1 + 2)), vI (q21.1 k1 14), vI (w32 (((q7.1).1 46 2) - 8))]) F hS (c_WF_put l F.2.2.1 q21 (k1 + 2) 4 (q21.1 k1 14) (w32 (((q7.1).1 46 2) - 8)) (Town_f1 hk1) i23 (inr_w32 _) _ hq24.symm) mw_512 mw_511 mw_1 gs_Reader_121 hd_WF_put ⟨Nat.le_of_ble_eq_true rfl, Nat.le_of_ble_eq_true rfl⟩ rfl hl.1 (Nat.le_of_ble_eq_true rfl) ⟨Nat.zero_le _, Nat.zero_le _⟩ rfl d_Reader_readWard_119) (fun H locs hS => ?_)
          refine lv_aload_n F.hx F.hb d_Reader_readWard_122 rfl (lv_at hl 4 rfl) ?_
          refine r_get (v := .ref (b + (k1 + 3))) (N := 20) (T := T11) (j := 2) F hS (Town_lt hk1) (Town_sh hk1) (Town_N hk1) rfl (Nat.le_of_ble_eq_true rfl) ing11 mw_96 (Town_g2 hk1 _) d_Reader_readWard_123 ?_
          refine lv_aload_n F.hx F.hb d_Reader_readWard_126 rfl (lv_at hl 4 rfl) ?_
          refine r_get (v := vI (q24.1 k1 14)) (N := 20) (T := T11) (j := 14) F hS (Town_lt hk1) (Town_sh hk1) (Town_N hk1) rfl (Nat.le_of_ble_eq_true rfl) ing11 mw_135 (fv_int rfl) d_Reader_readWard_127 ?_
          have i26 := hS.rng k1 14
          refine lv_iload F.hx F.hb d_Reader_readWard_130 (lv_at hl 0 rfl) ?_
          obtain ⟨q27, hq27⟩ : ∃ q, q = (t_WF_put q24 (k1 + 3) 4 (q24.1 k1 14) (q17.2)) := ⟨_, rfl⟩
          replace hT := qlet_eq hT hq27
          refine r_backV F hS (r_runSN (As := [.ref (b + (k1 + 3)), vI (q24.1 k1 14), vI (q17.2)]) F hS (c_WF_put l F.2.2.1 q24 (k1 + 3) 4 (q24.1 k1 14) (q17.2) (Town_f2 hk1) i26 h18 _ hq27.symm) mw_512 mw_511 mw_1 gs_Reader_121 hd_WF_put ⟨Nat.le_of_ble_eq_true rfl, Nat.le_of_ble_eq_true rfl⟩ rfl hl.1 (Nat.le_of_ble_eq_true rfl) ⟨Nat.zero_le _, Nat.zero_le _⟩ rfl d_Reader_readWard_132) (fun H locs hS => ?_)
          refine lv_aload_n F.hx F.hb d_Reader_readWard_135 rfl (lv_at hl 4 rfl) ?_
          refine lv_dup F.hx F.hb d_Reader_readWard_136 rfl ?_
          refine r_get (v := vI (q27.1 k1 14)) (N := 20) (T := T11) (j := 14) F hS (Town_lt hk1) (Town_sh hk1) (Town_N hk1) rfl (Nat.le_of_ble_eq_true rfl) ing11 mw_135 (fv_int rfl) d_Reader_readWard_137 ?_
          have i29 := hS.rng k1 14
          refine r_iconst F.hx F.hb d_Reader_readWard_140 ?_
          refine r_iadd F.hx F.hb d_Reader_readWard_141 ?_
          refine r_putI (N := 20) (T := T11) (j := 14) F hS (Town_lt hk1) (Town_sh hk1) (Town_N hk1) rfl (Nat.le_of_ble_eq_true rfl) ing11 tyok11 nm11 rfl rfl rfl rfl rfl (Town_dyn hk1 _) mw_135 (inr_w32 _) d_Reader_readWard_142 (fun H locs hS => ?_)
          obtain ⟨M30, eM30⟩ : ∃ q, q = (setI q27 k1 14 (w32 ((q27.1 k1 14) + 1))) := ⟨_, rfl⟩
          replace hS : St b C n M30 s H locs := by rw [eM30]; exact hS
          replace hT := qlet_eq hT eM30
          refine r_iconst F.hx F.hb d_Reader_readWard_145 ?_
          cases hT
          exact r_zret F hlk hr hS (Or.inr rfl) d_Reader_readWard_146
        · replace hT := (if_neg c19).symm.trans hT
          refine r_iconst F.hx F.hb d_Reader_readWard_96 ?_
          cases hT
          exact r_zret F hlk hr hS (Or.inl rfl) d_Reader_readWard_97
      · replace hT := (if_pos c13).symm.trans hT
        refine lv_aload_n F.hx F.hb d_Reader_readWard_62 rfl (lv_at hl 2 rfl) ?_
        refine r_iconst F.hx F.hb d_Reader_readWard_63 ?_
        refine lv_aload_n F.hx F.hb d_Reader_readWard_64 rfl (lv_at hl 2 rfl) ?_
        refine r_get (v := vI ((q7.1).1 46 4)) (N := 11) (T := T8) (j := 4) F hS (show 46 < 191 by decide) (show shK 46 = 12 from rfl) (show shN 46 = 11 from rfl) rfl (Nat.le_of_ble_eq_true rfl) ing8 mw_234 (fv_int rfl) d_Reader_readWard_65 ?_
        have i31 := hS.rng 46 4
        obtain ⟨q32, hq32⟩ : ∃ q, q = (t_Reader_refuse (q7.1) 1 ((q7.1).1 46 4)) := ⟨_, rfl⟩
        replace hT := qlet_eq hT hq32
        refine r_backZ F hS (r_runV (k := 46) (N := 11) (T := T8) (As := [vI 1, vI ((q7.1).1 46 4)]) F hS (show 46 < 191 by decide) (show shK 46 = 12 from rfl) rfl (c_Reader_refuse l F.2.2.1 (q7.1) 1 ((q7.1).1 46 4) (inr_c rfl) i31 _ hq32.symm) gs_Reader_47 hd_Reader_refuse ⟨Nat.le_of_ble_eq_true rfl, Nat.le_of_ble_eq_true rfl⟩ rfl hl.1 (Nat.le_of_ble_eq_true rfl) ⟨Nat.zero_le _, Nat.zero_le _⟩ rfl d_Reader_readWard_68) (fun H locs hS h33 => ?_)
        cases hT
        exact r_zret F hlk hr hS h33 d_Reader_readWard_71
    · replace hT := (if_neg c9).symm.trans hT
      refine r_iconst F.hx F.hb d_Reader_readWard_45 ?_
      cases hT
      exact r_zret F hlk hr hS (Or.inl rfl) d_Reader_readWard_46
  · replace hT := (if_neg c2).symm.trans hT
    refine lv_aload_n F.hx F.hb d_Reader_readWard_8 rfl (lv_at hl 0 rfl) ?_
    refine r_iconst F.hx F.hb d_Reader_readWard_9 ?_
    refine lv_aload_n F.hx F.hb d_Reader_readWard_10 rfl (lv_at hl 0 rfl) ?_
    refine r_get (v := vI (M.1 46 4)) (N := 11) (T := T8) (j := 4) F hS (show 46 < 191 by decide) (show shK 46 = 12 from rfl) (show shN 46 = 11 from rfl) rfl (Nat.le_of_ble_eq_true rfl) ing8 mw_234 (fv_int rfl) d_Reader_readWard_11 ?_
    have i34 := hS.rng 46 4
    obtain ⟨q35, hq35⟩ : ∃ q, q = (t_Reader_refuse M 2 (M.1 46 4)) := ⟨_, rfl⟩
    replace hT := qlet_eq hT hq35
    refine r_backZ F hS (r_runV (k := 46) (N := 11) (T := T8) (As := [vI 2, vI (M.1 46 4)]) F hS (show 46 < 191 by decide) (show shK 46 = 12 from rfl) rfl (c_Reader_refuse l F.2.2.1 M 2 (M.1 46 4) (inr_c rfl) i34 _ hq35.symm) gs_Reader_47 hd_Reader_refuse ⟨Nat.le_of_ble_eq_true rfl, Nat.le_of_ble_eq_true rfl⟩ rfl hl.1 (Nat.le_of_ble_eq_true rfl) ⟨Nat.zero_le _, Nat.zero_le _⟩ rfl d_Reader_readWard_14) (fun H locs hS h36 => ?_)
    cases hT
    exact r_zret F hlk hr hS h36 d_Reader_readWard_17
theorem wn_Reader_readPart_0 : ∀ i, i < 96 → bA b_Reader_readPart (0 + i) = wB [42, 180, 0, 64, 16, 12, 161, 0, 13, 42, 5, 42, 180, 0, 44, 182, 0, 47, 172, 42, 42, 180, 0, 94, 4, 96, 182, 0, 80, 42, 180, 0, 131, 61, 42, 16, 30, 182, 0, 51, 154, 0, 5, 3, 172, 43, 180, 0, 110, 43, 180, 0, 107, 28, 184, 0, 134, 62, 29, 156, 0, 13, 42, 7, 42, 180, 0, 138, 182, 0, 47, 172, 42, 3, 43, 180, 0, 101, 4, 100, 182, 0, 97, 54, 4, 21, 4, 156, 0, 7, 2, 167, 0, 14, 42, 3] i := wB_of (by decide +kernel)
theorem d_Reader_readPart_0 : decode b_Reader_readPart 0 = .ok (.aload_n 0, 1) := dc_42 (q0_win (r := 0) wn_Reader_readPart_0 (by decide +kernel))
theorem d_Reader_readPart_1 : decode b_Reader_readPart 1 = .ok (.getfield 64, 3) := dc_180 (qU2_win (r := 1) wn_Reader_readPart_0 (by decide +kernel))
theorem d_Reader_readPart_4 : decode b_Reader_readPart 4 = .ok (.bipush 12, 2) := dc_16 (qS1_win (r := 4) wn_Reader_readPart_0 (by decide +kernel))
theorem d_Reader_readPart_6 : decode b_Reader_readPart 6 = .ok (.if_icmp .lt 13, 3) := dc_161 (qS2_win (r := 6) wn_Reader_readPart_0 (by decide +kernel))
theorem d_Reader_readPart_9 : decode b_Reader_readPart 9 = .ok (.aload_n 0, 1) := dc_42 (q0_win (r := 9) wn_Reader_readPart_0 (by decide +kernel))
theorem d_Reader_readPart_10 : decode b_Reader_readPart 10 = .ok (.iconst 2, 1) := dc_5 (q0_win (r := 10) wn_Reader_readPart_0 (by decide +kernel))
theorem d_Reader_readPart_11 : decode b_Reader_readPart 11 = .ok (.aload_n 0, 1) := dc_42 (q0_win (r := 11) wn_Reader_readPart_0 (by decide +kernel))
theorem d_Reader_readPart_12 : decode b_Reader_readPart 12 = .ok (.getfield 44, 3) := dc_180 (qU2_win (r := 12) wn_Reader_readPart_0 (by decide +kernel))
theorem d_Reader_readPart_15 : decode b_Reader_readPart 15 = .ok (.invokevirtual 47, 3) := dc_182 (qU2_win (r := 15) wn_Reader_readPart_0 (by decide +kernel))
theorem d_Reader_readPart_18 : decode b_Reader_readPart 18 = .ok (.ireturn, 1) := dc_172 (q0_win (r := 18) wn_Reader_readPart_0 (by decide +kernel))
theorem d_Reader_readPart_19 : decode b_Reader_readPart 19 = .ok (.aload_n 0, 1) := dc_42 (q0_win (r := 19) wn_Reader_readPart_0 (by decide +kernel))
theorem d_Reader_readPart_20 : decode b_Reader_readPart 20 = .ok (.aload_n 0, 1) := dc_42 (q0_win (r := 20) wn_Reader_readPart_0 (by decide +kernel))
theorem d_Reader_readPart_21 : decode b_Reader_readPart 21 = .ok (.getfield 94, 3) := dc_180 (qU2_win (r := 21) wn_Reader_readPart_0 (by decide +kernel))
theorem d_Reader_readPart_24 : decode b_Reader_readPart 24 = .ok (.iconst 1, 1) := dc_4 (q0_win (r := 24) wn_Reader_readPart_0 (by decide +kernel))
theorem d_Reader_readPart_25 : decode b_Reader_readPart 25 = .ok (.iadd, 1) := dc_96 (q0_win (r := 25) wn_Reader_readPart_0 (by decide +kernel))
theorem d_Reader_readPart_26 : decode b_Reader_readPart 26 = .ok (.invokevirtual 80, 3) := dc_182 (qU2_win (r := 26) wn_Reader_readPart_0 (by decide +kernel))
theorem d_Reader_readPart_29 : decode b_Reader_readPart 29 = .ok (.aload_n 0, 1) := dc_42 (q0_win (r := 29) wn_Reader_readPart_0 (by decide +kernel))
theorem d_Reader_readPart_30 : decode b_Reader_readPart 30 = .ok (.getfield 131, 3) := dc_180 (qU2_win (r := 30) wn_Reader_readPart_0 (by decide +kernel))
theorem d_Reader_readPart_33 : decode b_Reader_readPart 33 = .ok (.istore_n 2, 1) := dc_61 (q0_win (r := 33) wn_Reader_readPart_0 (by decide +kernel))
theorem d_Reader_readPart_34 : decode b_Reader_readPart 34 = .ok (.aload_n 0, 1) := dc_42 (q0_win (r := 34) wn_Reader_readPart_0 (by decide +kernel))
theorem d_Reader_readPart_35 : decode b_Reader_readPart 35 = .ok (.bipush 30, 2) := dc_16 (qS1_win (r := 35) wn_Reader_readPart_0 (by decide +kernel))
theorem d_Reader_readPart_37 : decode b_Reader_readPart 37 = .ok (.invokevirtual 51, 3) := dc_182 (qU2_win (r := 37) wn_Reader_readPart_0 (by decide +kernel))
theorem d_Reader_readPart_40 : decode b_Reader_readPart 40 = .ok (.ifCond .ne 5, 3) := dc_154 (qS2_win (r := 40) wn_Reader_readPart_0 (by decide +kernel))
theorem d_Reader_readPart_43 : decode b_Reader_readPart 43 = .ok (.iconst 0, 1) := dc_3 (q0_win (r := 43) wn_Reader_readPart_0 (by decide +kernel))
theorem d_Reader_readPart_44 : decode b_Reader_readPart 44 = .ok (.ireturn, 1) := dc_172 (q0_win (r := 44) wn_Reader_readPart_0 (by decide +kernel))
theorem d_Reader_readPart_45 : decode b_Reader_readPart 45 = .ok (.aload_n 1, 1) := dc_43 (q0_win (r := 45) wn_Reader_readPart_0 (by decide +kernel))
theorem d_Reader_readPart_46 : decode b_Reader_readPart 46 = .ok (.getfield 110, 3) := dc_180 (qU2_win (r := 46) wn_Reader_readPart_0 (by decide +kernel))
theorem d_Reader_readPart_49 : decode b_Reader_readPart 49 = .ok (.aload_n 1, 1) := dc_43 (q0_win (r := 49) wn_Reader_readPart_0 (by decide +kernel))
theorem d_Reader_readPart_50 : decode b_Reader_readPart 50 = .ok (.getfield 107, 3) := dc_180 (qU2_win (r := 50) wn_Reader_readPart_0 (by decide +kernel))
theorem d_Reader_readPart_53 : decode b_Reader_readPart 53 = .ok (.iload_n 2, 1) := dc_28 (q0_win (r := 53) wn_Reader_readPart_0 (by decide +kernel))
theorem d_Reader_readPart_54 : decode b_Reader_readPart 54 = .ok (.invokestatic 134, 3) := dc_184 (qU2_win (r := 54) wn_Reader_readPart_0 (by decide +kernel))
theorem d_Reader_readPart_57 : decode b_Reader_readPart 57 = .ok (.istore_n 3, 1) := dc_62 (q0_win (r := 57) wn_Reader_readPart_0 (by decide +kernel))
theorem d_Reader_readPart_58 : decode b_Reader_readPart 58 = .ok (.iload_n 3, 1) := dc_29 (q0_win (r := 58) wn_Reader_readPart_0 (by decide +kernel))
theorem d_Reader_readPart_59 : decode b_Reader_readPart 59 = .ok (.ifCond .ge 13, 3) := dc_156 (qS2_win (r := 59) wn_Reader_readPart_0 (by decide +kernel))
theorem d_Reader_readPart_62 : decode b_Reader_readPart 62 = .ok (.aload_n 0, 1) := dc_42 (q0_win (r := 62) wn_Reader_readPart_0 (by decide +kernel))
theorem d_Reader_readPart_63 : decode b_Reader_readPart 63 = .ok (.iconst 4, 1) := dc_7 (q0_win (r := 63) wn_Reader_readPart_0 (by decide +kernel))
theorem d_Reader_readPart_64 : decode b_Reader_readPart 64 = .ok (.aload_n 0, 1) := dc_42 (q0_win (r := 64) wn_Reader_readPart_0 (by decide +kernel))
theorem d_Reader_readPart_65 : decode b_Reader_readPart 65 = .ok (.getfield 138, 3) := dc_180 (qU2_win (r := 65) wn_Reader_readPart_0 (by decide +kernel))
theorem d_Reader_readPart_68 : decode b_Reader_readPart 68 = .ok (.invokevirtual 47, 3) := dc_182 (qU2_win (r := 68) wn_Reader_readPart_0 (by decide +kernel))
theorem d_Reader_readPart_71 : decode b_Reader_readPart 71 = .ok (.ireturn, 1) := dc_172 (q0_win (r := 71) wn_Reader_readPart_0 (by decide +kernel))
theorem d_Reader_readPart_72 : decode b_Reader_readPart 72 = .ok (.aload_n 0, 1) := dc_42 (q0_win (r := 72) wn_Reader_readPart_0 (by decide +kernel))
theorem d_Reader_readPart_73 : decode b_Reader_readPart 73 = .ok (.iconst 0, 1) := dc_3 (q0_win (r := 73) wn_Reader_readPart_0 (by decide +kernel))
theorem d_Reader_readPart_74 : decode b_Reader_readPart 74 = .ok (.aload_n 1, 1) := dc_43 (q0_win (r := 74) wn_Reader_readPart_0 (by decide +kernel))
theorem d_Reader_readPart_75 : decode b_Reader_readPart 75 = .ok (.getfield 101, 3) := dc_180 (qU2_win (r := 75) wn_Reader_readPart_0 (by decide +kernel))
theorem d_Reader_readPart_78 : decode b_Reader_readPart 78 = .ok (.iconst 1, 1) := dc_4 (q0_win (r := 78) wn_Reader_readPart_0 (by decide +kernel))
theorem d_Reader_readPart_79 : decode b_Reader_readPart 79 = .ok (.isub, 1) := dc_100 (q0_win (r := 79) wn_Reader_readPart_0 (by decide +kernel))
theorem d_Reader_readPart_80 : decode b_Reader_readPart 80 = .ok (.invokevirtual 97, 3) := dc_182 (qU2_win (r := 80) wn_Reader_readPart_0 (by decide +kernel))
theorem d_Reader_readPart_83 : decode b_Reader_readPart 83 = .ok (.istore 4, 2) := dc_54 (qU1_win (r := 83) wn_Reader_readPart_0 (by decide +kernel))
theorem d_Reader_readPart_85 : decode b_Reader_readPart 85 = .ok (.iload 4, 2) := dc_21 (qU1_win (r := 85) wn_Reader_readPart_0 (by decide +kernel))
theorem d_Reader_readPart_87 : decode b_Reader_readPart 87 = .ok (.ifCond .ge 7, 3) := dc_156 (qS2_win (r := 87) wn_Reader_readPart_0 (by decide +kernel))
theorem d_Reader_readPart_90 : decode b_Reader_readPart 90 = .ok (.iconst (-1), 1) := dc_2 (q0_win (r := 90) wn_Reader_readPart_0 (by decide +kernel))
theorem d_Reader_readPart_91 : decode b_Reader_readPart 91 = .ok (.goto 14, 3) := dc_167 (qS2_win (r := 91) wn_Reader_readPart_0 (by decide +kernel))
theorem d_Reader_readPart_94 : decode b_Reader_readPart 94 = .ok (.aload_n 0, 1) := dc_42 (q0_win (r := 94) wn_Reader_readPart_0 (by decide +kernel))
theorem d_Reader_readPart_95 : decode b_Reader_readPart 95 = .ok (.iconst 0, 1) := dc_3 (q0_win (r := 95) wn_Reader_readPart_0 (by decide +kernel))
theorem wn_Reader_readPart_96 : ∀ i, i < 96 → bA b_Reader_readPart (96 + i) = wB [43, 180, 0, 104, 4, 100, 182, 0, 97, 54, 5, 21, 5, 156, 0, 7, 2, 167, 0, 15, 42, 21, 4, 43, 180, 0, 101, 4, 100, 182, 0, 97, 54, 6, 21, 6, 156, 0, 7, 2, 167, 0, 15, 42, 21, 5, 43, 180, 0, 104, 4, 100, 182, 0, 97, 54, 7, 21, 7, 156, 0, 5, 3, 172, 21, 5, 54, 8, 21, 8, 21, 7, 163, 0, 44, 21, 4, 54, 9, 21, 9, 21, 6, 163, 0, 27, 43, 180, 0, 141, 21, 8, 43, 180, 0, 101] i := wB_of (by decide +kernel)
theorem d_Reader_readPart_96 : decode b_Reader_readPart 96 = .ok (.aload_n 1, 1) := dc_43 (q0_win (r := 0) wn_Reader_readPart_96 (by decide +kernel))
theorem d_Reader_readPart_97 : decode b_Reader_readPart 97 = .ok (.getfield 104, 3) := dc_180 (qU2_win (r := 1) wn_Reader_readPart_96 (by decide +kernel))
theorem d_Reader_readPart_100 : decode b_Reader_readPart 100 = .ok (.iconst 1, 1) := dc_4 (q0_win (r := 4) wn_Reader_readPart_96 (by decide +kernel))
theorem d_Reader_readPart_101 : decode b_Reader_readPart 101 = .ok (.isub, 1) := dc_100 (q0_win (r := 5) wn_Reader_readPart_96 (by decide +kernel))
theorem d_Reader_readPart_102 : decode b_Reader_readPart 102 = .ok (.invokevirtual 97, 3) := dc_182 (qU2_win (r := 6) wn_Reader_readPart_96 (by decide +kernel))
theorem d_Reader_readPart_105 : decode b_Reader_readPart 105 = .ok (.istore 5, 2) := dc_54 (qU1_win (r := 9) wn_Reader_readPart_96 (by decide +kernel))
theorem d_Reader_readPart_107 : decode b_Reader_readPart 107 = .ok (.iload 5, 2) := dc_21 (qU1_win (r := 11) wn_Reader_readPart_96 (by decide +kernel))
theorem d_Reader_readPart_109 : decode b_Reader_readPart 109 = .ok (.ifCond .ge 7, 3) := dc_156 (qS2_win (r := 13) wn_Reader_readPart_96 (by decide +kernel))
theorem d_Reader_readPart_112 : decode b_Reader_readPart 112 = .ok (.iconst (-1), 1) := dc_2 (q0_win (r := 16) wn_Reader_readPart_96 (by decide +kernel))
theorem d_Reader_readPart_113 : decode b_Reader_readPart 113 = .ok (.goto 15, 3) := dc_167 (qS2_win (r := 17) wn_Reader_readPart_96 (by decide +kernel))
theorem d_Reader_readPart_116 : decode b_Reader_readPart 116 = .ok (.aload_n 0, 1) := dc_42 (q0_win (r := 20) wn_Reader_readPart_96 (by decide +kernel))
theorem d_Reader_readPart_117 : decode b_Reader_readPart 117 = .ok (.iload 4, 2) := dc_21 (qU1_win (r := 21) wn_Reader_readPart_96 (by decide +kernel))
theorem d_Reader_readPart_119 : decode b_Reader_readPart 119 = .ok (.aload_n 1, 1) := dc_43 (q0_win (r := 23) wn_Reader_readPart_96 (by decide +kernel))
theorem d_Reader_readPart_120 : decode b_Reader_readPart 120 = .ok (.getfield 101, 3) := dc_180 (qU2_win (r := 24) wn_Reader_readPart_96 (by decide +kernel))
theorem d_Reader_readPart_123 : decode b_Reader_readPart 123 = .ok (.iconst 1, 1) := dc_4 (q0_win (r := 27) wn_Reader_readPart_96 (by decide +kernel))
theorem d_Reader_readPart_124 : decode b_Reader_readPart 124 = .ok (.isub, 1) := dc_100 (q0_win (r := 28) wn_Reader_readPart_96 (by decide +kernel))
theorem d_Reader_readPart_125 : decode b_Reader_readPart 125 = .ok (.invokevirtual 97, 3) := dc_182 (qU2_win (r := 29) wn_Reader_readPart_96 (by decide +kernel))
theorem d_Reader_readPart_128 : decode b_Reader_readPart 128 = .ok (.istore 6, 2) := dc_54 (qU1_win (r := 32) wn_Reader_readPart_96 (by decide +kernel))
theorem d_Reader_readPart_130 : decode b_Reader_readPart 130 = .ok (.iload 6, 2) := dc_21 (qU1_win (r := 34) wn_Reader_readPart_96 (by decide +kernel))
theorem d_Reader_readPart_132 : decode b_Reader_readPart 132 = .ok (.ifCond .ge 7, 3) := dc_156 (qS2_win (r := 36) wn_Reader_readPart_96 (by decide +kernel))
theorem d_Reader_readPart_135 : decode b_Reader_readPart 135 = .ok (.iconst (-1), 1) := dc_2 (q0_win (r := 39) wn_Reader_readPart_96 (by decide +kernel))
theorem d_Reader_readPart_136 : decode b_Reader_readPart 136 = .ok (.goto 15, 3) := dc_167 (qS2_win (r := 40) wn_Reader_readPart_96 (by decide +kernel))
theorem d_Reader_readPart_139 : decode b_Reader_readPart 139 = .ok (.aload_n 0, 1) := dc_42 (q0_win (r := 43) wn_Reader_readPart_96 (by decide +kernel))
theorem d_Reader_readPart_140 : decode b_Reader_readPart 140 = .ok (.iload 5, 2) := dc_21 (qU1_win (r := 44) wn_Reader_readPart_96 (by decide +kernel))
theorem d_Reader_readPart_142 : decode b_Reader_readPart 142 = .ok (.aload_n 1, 1) := dc_43 (q0_win (r := 46) wn_Reader_readPart_96 (by decide +kernel))
theorem d_Reader_readPart_143 : decode b_Reader_readPart 143 = .ok (.getfield 104, 3) := dc_180 (qU2_win (r := 47) wn_Reader_readPart_96 (by decide +kernel))
theorem d_Reader_readPart_146 : decode b_Reader_readPart 146 = .ok (.iconst 1, 1) := dc_4 (q0_win (r := 50) wn_Reader_readPart_96 (by decide +kernel))
theorem d_Reader_readPart_147 : decode b_Reader_readPart 147 = .ok (.isub, 1) := dc_100 (q0_win (r := 51) wn_Reader_readPart_96 (by decide +kernel))
theorem d_Reader_readPart_148 : decode b_Reader_readPart 148 = .ok (.invokevirtual 97, 3) := dc_182 (qU2_win (r := 52) wn_Reader_readPart_96 (by decide +kernel))
theorem d_Reader_readPart_151 : decode b_Reader_readPart 151 = .ok (.istore 7, 2) := dc_54 (qU1_win (r := 55) wn_Reader_readPart_96 (by decide +kernel))
theorem d_Reader_readPart_153 : decode b_Reader_readPart 153 = .ok (.iload 7, 2) := dc_21 (qU1_win (r := 57) wn_Reader_readPart_96 (by decide +kernel))
theorem d_Reader_readPart_155 : decode b_Reader_readPart 155 = .ok (.ifCond .ge 5, 3) := dc_156 (qS2_win (r := 59) wn_Reader_readPart_96 (by decide +kernel))
theorem d_Reader_readPart_158 : decode b_Reader_readPart 158 = .ok (.iconst 0, 1) := dc_3 (q0_win (r := 62) wn_Reader_readPart_96 (by decide +kernel))
theorem d_Reader_readPart_159 : decode b_Reader_readPart 159 = .ok (.ireturn, 1) := dc_172 (q0_win (r := 63) wn_Reader_readPart_96 (by decide +kernel))
theorem d_Reader_readPart_160 : decode b_Reader_readPart 160 = .ok (.iload 5, 2) := dc_21 (qU1_win (r := 64) wn_Reader_readPart_96 (by decide +kernel))
theorem d_Reader_readPart_162 : decode b_Reader_readPart 162 = .ok (.istore 8, 2) := dc_54 (qU1_win (r := 66) wn_Reader_readPart_96 (by decide +kernel))
theorem d_Reader_readPart_164 : decode b_Reader_readPart 164 = .ok (.iload 8, 2) := dc_21 (qU1_win (r := 68) wn_Reader_readPart_96 (by decide +kernel))
theorem d_Reader_readPart_166 : decode b_Reader_readPart 166 = .ok (.iload 7, 2) := dc_21 (qU1_win (r := 70) wn_Reader_readPart_96 (by decide +kernel))
theorem d_Reader_readPart_168 : decode b_Reader_readPart 168 = .ok (.if_icmp .gt 44, 3) := dc_163 (qS2_win (r := 72) wn_Reader_readPart_96 (by decide +kernel))
theorem d_Reader_readPart_171 : decode b_Reader_readPart 171 = .ok (.iload 4, 2) := dc_21 (qU1_win (r := 75) wn_Reader_readPart_96 (by decide +kernel))
theorem d_Reader_readPart_173 : decode b_Reader_readPart 173 = .ok (.istore 9, 2) := dc_54 (qU1_win (r := 77) wn_Reader_readPart_96 (by decide +kernel))
theorem d_Reader_readPart_175 : decode b_Reader_readPart 175 = .ok (.iload 9, 2) := dc_21 (qU1_win (r := 79) wn_Reader_readPart_96 (by decide +kernel))
theorem d_Reader_readPart_177 : decode b_Reader_readPart 177 = .ok (.iload 6, 2) := dc_21 (qU1_win (r := 81) wn_Reader_readPart_96 (by decide +kernel))
theorem d_Reader_readPart_179 : decode b_Reader_readPart 179 = .ok (.if_icmp .gt 27, 3) := dc_163 (qS2_win (r := 83) wn_Reader_readPart_96 (by decide +kernel))
theorem d_Reader_readPart_182 : decode b_Reader_readPart 182 = .ok (.aload_n 1, 1) := dc_43 (q0_win (r := 86) wn_Reader_readPart_96 (by decide +kernel))
theorem d_Reader_readPart_183 : decode b_Reader_readPart 183 = .ok (.getfield 141, 3) := dc_180 (qU2_win (r := 87) wn_Reader_readPart_96 (by decide +kernel))
theorem d_Reader_readPart_186 : decode b_Reader_readPart 186 = .ok (.iload 8, 2) := dc_21 (qU1_win (r := 90) wn_Reader_readPart_96 (by decide +kernel))
theorem d_Reader_readPart_188 : decode b_Reader_readPart 188 = .ok (.aload_n 1, 1) := dc_43 (q0_win (r := 92) wn_Reader_readPart_96 (by decide +kernel))
theorem d_Reader_readPart_189 : decode b_Reader_readPart 189 = .ok (.getfield 101, 3) := dc_180 (qU2_win (r := 93) wn_Reader_readPart_96 (by decide +kernel))
theorem wn_Reader_readPart_192 : ∀ i, i < 32 → bA b_Reader_readPart (192 + i) = wB [104, 21, 9, 96, 29, 184, 0, 121, 132, 9, 1, 167, 255, 228, 132, 8, 1, 167, 255, 211, 42, 89, 180, 0, 64, 4, 96, 181, 0, 64, 4, 172] i := wB_of (by decide +kernel)
theorem d_Reader_readPart_192 : decode b_Reader_readPart 192 = .ok (.imul, 1) := dc_104 (q0_win (r := 0) wn_Reader_readPart_192 (by decide +kernel))
theorem d_Reader_readPart_193 : decode b_Reader_readPart 193 = .ok (.iload 9, 2) := dc_21 (qU1_win (r := 1) wn_Reader_readPart_192 (by decide +kernel))
theorem d_Reader_readPart_195 : decode b_Reader_readPart 195 = .ok (.iadd, 1) := dc_96 (q0_win (r := 3) wn_Reader_readPart_192 (by decide +kernel))
theorem d_Reader_readPart_196 : decode b_Reader_readPart 196 = .ok (.iload_n 3, 1) := dc_29 (q0_win (r := 4) wn_Reader_readPart_192 (by decide +kernel))
theorem d_Reader_readPart_197 : decode b_Reader_readPart 197 = .ok (.invokestatic 121, 3) := dc_184 (qU2_win (r := 5) wn_Reader_readPart_192 (by decide +kernel))
theorem d_Reader_readPart_200 : decode b_Reader_readPart 200 = .ok (.iinc 9 1, 3) := dc_132 (qI_win (r := 8) wn_Reader_readPart_192 (by decide +kernel))
theorem d_Reader_readPart_203 : decode b_Reader_readPart 203 = .ok (.goto (-28), 3) := dc_167 (qS2_win (r := 11) wn_Reader_readPart_192 (by decide +kernel))
theorem d_Reader_readPart_206 : decode b_Reader_readPart 206 = .ok (.iinc 8 1, 3) := dc_132 (qI_win (r := 14) wn_Reader_readPart_192 (by decide +kernel))
theorem d_Reader_readPart_209 : decode b_Reader_readPart 209 = .ok (.goto (-45), 3) := dc_167 (qS2_win (r := 17) wn_Reader_readPart_192 (by decide +kernel))
theorem d_Reader_readPart_212 : decode b_Reader_readPart 212 = .ok (.aload_n 0, 1) := dc_42 (q0_win (r := 20) wn_Reader_readPart_192 (by decide +kernel))
theorem d_Reader_readPart_213 : decode b_Reader_readPart 213 = .ok (.dup, 1) := dc_89 (q0_win (r := 21) wn_Reader_readPart_192 (by decide +kernel))
theorem d_Reader_readPart_214 : decode b_Reader_readPart 214 = .ok (.getfield 64, 3) := dc_180 (qU2_win (r := 22) wn_Reader_readPart_192 (by decide +kernel))
theorem d_Reader_readPart_217 : decode b_Reader_readPart 217 = .ok (.iconst 1, 1) := dc_4 (q0_win (r := 25) wn_Reader_readPart_192 (by decide +kernel))
theorem d_Reader_readPart_218 : decode b_Reader_readPart 218 = .ok (.iadd, 1) := dc_96 (q0_win (r := 26) wn_Reader_readPart_192 (by decide +kernel))
theorem d_Reader_readPart_219 : decode b_Reader_readPart 219 = .ok (.putfield 64, 3) := dc_181 (qU2_win (r := 27) wn_Reader_readPart_192 (by decide +kernel))
theorem d_Reader_readPart_222 : decode b_Reader_readPart 222 = .ok (.iconst 1, 1) := dc_4 (q0_win (r := 30) wn_Reader_readPart_192 (by decide +kernel))
theorem d_Reader_readPart_223 : decode b_Reader_readPart 223 = .ok (.ireturn, 1) := dc_172 (q0_win (r := 31) wn_Reader_readPart_192 (by decide +kernel))
def t_Reader_readPart_L175 (k1 : Nat) (bk164 : Mem → Int → Int → Int → Int → Int → Option (Mem × Int)) : Nat → Mem → Int → Int → Int → Int → Int → Int → Option (Mem × Int)
  | 0, _, _, _, _, _, _, _ => none
  | fu + 1, M, v2_, v3_, v4_, v5_, v6_, v7_ => (if v4_ < v7_ then (bk164 M v2_ v3_ v4_ v5_ (w32 (v6_ + 1))) else (qlet (t_WF_put M (k1 + 8) 48 (w32 ((w32 (v6_ * (M.1 k1 11))) + v7_)) v2_) fun q41 => (t_Reader_readPart_L175 k1 bk164 fu q41 v2_ v3_ v4_ v5_ v6_ (w32 (v7_ + 1)))))
def t_Reader_readPart_L164 (k1 : Nat)  : Nat → Mem → Int → Int → Int → Int → Int → Option (Mem × Int)
  | 0, _, _, _, _, _, _ => none
  | fu + 1, M, v2_, v3_, v4_, v5_, v6_ => (if v5_ < v6_ then (qlet (setI M 46 6 (w32 ((M.1 46 6) + 1))) fun M38 => (some (M38, 1))) else (t_Reader_readPart_L175 k1 (fun a0_ a1_ a2_ a3_ a4_ a5_ => t_Reader_readPart_L164 k1 fu a0_ a1_ a2_ a3_ a4_ a5_) FU M v2_ v3_ v4_ v5_ v6_ v3_))
def t_Reader_readPart_L151 (k1 : Nat)  (M : Mem) (v2_ : Int) (v3_ : Int) (v4_ : Int) (v5_ : Int) (v6_ : Int) : Option (Mem × Int) := (if 0 ≤ v6_ then (t_Reader_readPart_L164 k1 FU M v2_ v3_ v5_ v6_ v4_) else (some (M, 0)))
def t_Reader_readPart_L128 (k1 : Nat)  (M : Mem) (v2_ : Int) (v3_ : Int) (v4_ : Int) (v5_ : Int) : Option (Mem × Int) := (if 0 ≤ v5_ then (obind (t_Reader_takeNumber M v4_ (w32 ((M.1 k1 12) - 1))) fun q33 => (t_Reader_readPart_L151 k1 (q33.1) v2_ v3_ v4_ v5_ (q33.2))) else (t_Reader_readPart_L151 k1 M v2_ v3_ v4_ v5_ (-1)))
def t_Reader_readPart_L105 (k1 : Nat)  (M : Mem) (v2_ : Int) (v3_ : Int) (v4_ : Int) : Option (Mem × Int) := (if 0 ≤ v4_ then (obind (t_Reader_takeNumber M v3_ (w32 ((M.1 k1 11) - 1))) fun q29 => (t_Reader_readPart_L128 k1 (q29.1) v2_ v3_ v4_ (q29.2))) else (t_Reader_readPart_L128 k1 M v2_ v3_ v4_ (-1)))
def t_Reader_readPart (M : Mem) (k1 : Nat) : Option (Mem × Int) := (if (M.1 46 6) < 12 then (obind (t_Reader_goTo M (w32 ((M.1 46 1) + 1))) fun q4 => (obind (t_Reader_take q4 30) fun q7 => (if (q7.2) = 0 then (some ((q7.1), 0)) else (obind (t_WF_indexOf (q7.1) (k1 + 1) 4 ((q7.1).1 k1 14) (q4.1 46 3)) fun q11 => (if 0 ≤ q11 then (obind (t_Reader_takeNumber (q7.1) 0 (w32 (((q7.1).1 k1 11) - 1))) fun q15 => (if 0 ≤ (q15.2) then (obind (t_Reader_takeNumber (q15.1) 0 (w32 (((q15.1).1 k1 12) - 1))) fun q19 => (t_Reader_readPart_L105 k1 (q19.1) q11 (q15.2) (q19.2))) else (t_Reader_readPart_L105 k1 (q15.1) q11 (q15.2) (-1)))) else (qlet (t_Reader_refuse (q7.1) 4 ((q7.1).1 46 5)) fun q22 => (some ((q22.1), (q22.2))))))))) else (qlet (t_Reader_refuse M 2 (M.1 46 4)) fun q25 => (some ((q25.1), (q25.2)))))
set_option maxHeartbeats 4000000 in
set_option maxRecDepth 100000 in
theorem k_Reader_readPart_L175 (l : Launch) {p : Program} {e : Env} {s : State} {m : MethodId} {below : List Frame} {meth : Method} {c : Code} {b n : Nat} {C : CT} (hlo : 191 ≤ n) (k1 : Nat) (hk1 : isTown k1) (F : Cx b p m c b_Reader_readPart 10 s ([.ref (b + 46), .ref (b + k1)] : List Value).toArray "WardFalls$Reader" C n 191) (hlk : meth.locks = false) (hr : meth.sig.returnType = some .boolean) {res : Mem × Int} (bk164 : Mem → Int → Int → Int → Int → Int → Option (Mem × Int)) (hbk164 : ∀ (M : Mem) (v2_ : Int) (hv2_ : InR v2_) (v3_ : Int) (hv3_ : InR v3_) (v4_ : Int) (hv4_ : InR v4_) (v5_ : Int) (hv5_ : InR v5_) (v6_ : Int) (hv6_ : InR v6_) (H : Heap) (locs : List Loc) (ls : Array Slot), St b C n M s H locs → lv_has ls 10 [(0, .ref (b + 46)), (1, .ref (b + k1)), (3, vI v2_), (4, vI v3_), (6, vI v4_), (7, vI v5_), (8, vI v6_)] → bk164 M v2_ v3_ v4_ v5_ v6_ = some res → W p l e (headSpec (wsM y_Reader_readPart b_Reader_readPart 10 (some .boolean)) (rmD 4)).room s m ([.ref (b + 46), .ref (b + k1)] : List Value).toArray below meth c H locs 0 0 (MQ below (QZ b C n res.1 res.2) ([.ref (b + 46), .ref (b + k1)] : List Value).toArray s 0 0 (frb b)) (F0 m 164 ls [])) : ∀ (fu : Nat) (M : Mem) (v2_ : Int) (hv2_ : InR v2_) (v3_ : Int) (hv3_ : InR v3_) (v4_ : Int) (hv4_ : InR v4_) (v5_ : Int) (hv5_ : InR v5_) (v6_ : Int) (hv6_ : InR v6_) (v7_ : Int) (hv7_ : InR v7_) (H : Heap) (locs : List Loc) (ls : Array Slot), St b C n M s H locs → lv_has ls 10 [(0, .ref (b + 46)), (1, .ref (b + k1)), (3, vI v2_), (4, vI v3_), (6, vI v4_), (7, vI v5_), (8, vI v6_), (9, vI v7_)] → t_Reader_readPart_L175 k1 bk164 fu M v2_ v3_ v4_ v5_ v6_ v7_ = some res → W p l e (headSpec (wsM y_Reader_readPart b_Reader_readPart 10 (some .boolean)) (rmD 4)).room s m ([.ref (b + 46), .ref (b + k1)] : List Value).toArray below meth c H locs 0 0 (MQ below (QZ b C n res.1 res.2) ([.ref (b + 46), .ref (b + k1)] : List Value).toArray s 0 0 (frb b)) (F0 m 175 ls []) := by
  intro fu
  induction fu with
  | zero => intro M v2_ hv2_ v3_ hv3_ v4_ hv4_ v5_ hv5_ v6_ hv6_ v7_ hv7_ H locs ls hS hl hT; exact absurd hT (by simp [t_Reader_readPart_L175])
  | succ fu ih =>
    intro M v2_ hv2_ v3_ hv3_ v4_ hv4_ v5_ hv5_ v6_ hv6_ v7_ hv7_ H locs ls hS hl hT
    rw [t_Reader_readPart_L175] at hT
    refine lv_iload F.hx F.hb d_Reader_readPart_175 (lv_at hl 7 rfl) ?_
    refine lv_iload F.hx F.hb d_Reader_readPart_177 (lv_at hl 4 rfl) ?_
    refine r_icmp_gt (tgt := 206) F.hx F.hb hv7_ hv4_ d_Reader_readPart_179 (by decide) (fun c39 => ?_) (fun c39 => ?_)
    · replace hT := (if_pos c39).symm.trans hT
      refine lv_iinc (v := Int32.ofInt (w32 (v6_ + 1))) (lv' := [(8, vI (w32 (v6_ + 1))), (0, .ref (b + 46)), (1, .ref (b + k1)), (3, vI v2_), (4, vI v3_), (6, vI v4_), (7, vI v5_), (9, vI v7_)]) F.hx F.hb d_Reader_readPart_206 hl (k := 6) rfl (q_of_add _ _) (Nat.le_of_ble_eq_true rfl) rfl (fun ls hl => ?_)
      refine lv_goto (tgt := 164) F.hx F.hb d_Reader_readPart_209 (by decide) ?_
      exact hbk164 M v2_ hv2_ v3_ hv3_ v4_ hv4_ v5_ hv5_ (w32 (v6_ + 1)) (inr_w32 _) _ _ _ hS (lv_sub hl [1, 2, 3, 4, 5, 6, 0] rfl) hT
    · replace hT := (if_neg c39).symm.trans hT
      refine lv_aload_n F.hx F.hb d_Reader_readPart_182 rfl (lv_at hl 1 rfl) ?_
      refine r_get (v := .ref (b + (k1 + 8))) (N := 20) (T := T11) (j := 7) F hS (Town_lt hk1) (Town_sh hk1) (Town_N hk1) rfl (Nat.le_of_ble_eq_true rfl) ing11 mw_113 (Town_g7 hk1 _) d_Reader_readPart_183 ?_
      refine lv_iload F.hx F.hb d_Reader_readPart_186 (lv_at hl 6 rfl) ?_
      refine lv_aload_n F.hx F.hb d_Reader_readPart_188 rfl (lv_at hl 1 rfl) ?_
      refine r_get (v := vI (M.1 k1 11)) (N := 20) (T := T11) (j := 11) F hS (Town_lt hk1) (Town_sh hk1) (Town_N hk1) rfl (Nat.le_of_ble_eq_true rfl) ing11 mw_122 (fv_int rfl) d_Reader_readPart_189 ?_
      have i40 := hS.rng k1 11
      refine r_imul F.hx F.hb d_Reader_readPart_192 ?_
      refine lv_iload F.hx F.hb d_Reader_readPart_193 (lv_at hl 7 rfl) ?_
      refine r_iadd F.hx F.hb d_Reader_readPart_195 ?_
      refine lv_iload_n F.hx F.hb d_Reader_readPart_196 rfl (lv_at hl 2 rfl) ?_
      obtain ⟨q41, hq41⟩ : ∃ q, q = (t_WF_put M (k1 + 8) 48 (w32 ((w32 (v6_ * (M.1 k1 11))) + v7_)) v2_) := ⟨_, rfl⟩
      replace hT := qlet_eq hT hq41
      refine r_backV F hS (r_runSN (As := [.ref (b + (k1 + 8)), vI (w32 ((w32 (v6_ * (M.1 k1 11))) + v7_)), vI v2_]) F hS (c_WF_put l F.2.2.1 M (k1 + 8) 48 (w32 ((w32 (v6_ * (M.1 k1 11))) + v7_)) v2_ (Town_f7 hk1) (inr_w32 _) hv2_ _ hq41.symm) mw_512 mw_511 mw_1 gs_Reader_121 hd_WF_put ⟨Nat.le_of_ble_eq_true rfl, Nat.le_of_ble_eq_true rfl⟩ rfl hl.1 (Nat.le_of_ble_eq_true rfl) ⟨Nat.zero_le _, Nat.zero_le _⟩ rfl d_Reader_readPart_197) (fun H locs hS => ?_)
      refine lv_iinc (v := Int32.ofInt (w32 (v7_ + 1))) (lv' := [(9, vI (w32 (v7_ + 1))), (0, .ref (b + 46)), (1, .ref (b + k1)), (3, vI v2_), (4, vI v3_), (6, vI v4_), (7, vI v5_), (8, vI v6_)]) F.hx F.hb d_Reader_readPart_200 hl (k := 7) rfl (q_of_add _ _) (Nat.le_of_ble_eq_true rfl) rfl (fun ls hl => ?_)
      refine lv_goto (tgt := 175) F.hx F.hb d_Reader_readPart_203 (by decide) ?_
      exact ih q41 v2_ hv2_ v3_ hv3_ v4_ hv4_ v5_ hv5_ v6_ hv6_ (w32 (v7_ + 1)) (inr_w32 _) _ _ _ hS (lv_sub hl [1, 2, 3, 4, 5, 6, 7, 0] rfl) hT
set_option maxHeartbeats 4000000 in
set_option maxRecDepth 100000 in
theorem k_Reader_readPart_L164 (l : Launch) {p : Program} {e : Env} {s : State} {m : MethodId} {below : List Frame} {meth : Method} {c : Code} {b n : Nat} {C : CT} (hlo : 191 ≤ n) (k1 : Nat) (hk1 : isTown k1) (F : Cx b p m c b_Reader_readPart 10 s ([.ref (b + 46), .ref (b + k1)] : List Value).toArray "WardFalls$Reader" C n 191) (hlk : meth.locks = false) (hr : meth.sig.returnType = some .boolean) {res : Mem × Int} : ∀ (fu : Nat) (M : Mem) (v2_ : Int) (hv2_ : InR v2_) (v3_ : Int) (hv3_ : InR v3_) (v4_ : Int) (hv4_ : InR v4_) (v5_ : Int) (hv5_ : InR v5_) (v6_ : Int) (hv6_ : InR v6_) (H : Heap) (locs : List Loc) (ls : Array Slot), St b C n M s H locs → lv_has ls 10 [(0, .ref (b + 46)), (1, .ref (b + k1)), (3, vI v2_), (4, vI v3_), (6, vI v4_), (7, vI v5_), (8, vI v6_)] → t_Reader_readPart_L164 k1 fu M v2_ v3_ v4_ v5_ v6_ = some res → W p l e (headSpec (wsM y_Reader_readPart b_Reader_readPart 10 (some .boolean)) (rmD 4)).room s m ([.ref (b + 46), .ref (b + k1)] : List Value).toArray below meth c H locs 0 0 (MQ below (QZ b C n res.1 res.2) ([.ref (b + 46), .ref (b + k1)] : List Value).toArray s 0 0 (frb b)) (F0 m 164 ls []) := by
  intro fu
  induction fu with
  | zero => intro M v2_ hv2_ v3_ hv3_ v4_ hv4_ v5_ hv5_ v6_ hv6_ H locs ls hS hl hT; exact absurd hT (by simp [t_Reader_readPart_L164])
  | succ fu ih =>
    intro M v2_ hv2_ v3_ hv3_ v4_ hv4_ v5_ hv5_ v6_ hv6_ H locs ls hS hl hT
    rw [t_Reader_readPart_L164] at hT
    refine lv_iload F.hx F.hb d_Reader_readPart_164 (lv_at hl 6 rfl) ?_
    refine lv_iload F.hx F.hb d_Reader_readPart_166 (lv_at hl 5 rfl) ?_
    refine r_icmp_gt (tgt := 212) F.hx F.hb hv6_ hv5_ d_Reader_readPart_168 (by decide) (fun c36 => ?_) (fun c36 => ?_)
    · replace hT := (if_pos c36).symm.trans hT
      refine lv_aload_n F.hx F.hb d_Reader_readPart_212 rfl (lv_at hl 0 rfl) ?_
      refine lv_dup F.hx F.hb d_Reader_readPart_213 rfl ?_
      refine r_get (v := vI (M.1 46 6)) (N := 11) (T := T8) (j := 6) F hS (show 46 < 191 by decide) (show shK 46 = 12 from rfl) (show shN 46 = 11 from rfl) rfl (Nat.le_of_ble_eq_true rfl) ing8 mw_236 (fv_int rfl) d_Reader_readPart_214 ?_
      have i37 := hS.rng 46 6
      refine r_iconst F.hx F.hb d_Reader_readPart_217 ?_
      refine r_iadd F.hx F.hb d_Reader_readPart_218 ?_
      refine r_putI (N := 11) (T := T8) (j := 6) F hS (show 46 < 191 by decide) (show shK 46 = 12 from rfl) (show shN 46 = 11 from rfl) rfl (Nat.le_of_ble_eq_true rfl) ing8 tyok8 nm8 rfl rfl rfl rfl rfl rfl mw_236 (inr_w32 _) d_Reader_readPart_219 (fun H locs hS => ?_)
      obtain ⟨M38, eM38⟩ : ∃ q, q = (setI M 46 6 (w32 ((M.1 46 6) + 1))) := ⟨_, rfl⟩
      replace hS : St b C n M38 s H locs := by rw [eM38]; exact hS
      replace hT := qlet_eq hT eM38
      refine r_iconst F.hx F.hb d_Reader_readPart_222 ?_
      cases hT
      exact r_zret F hlk hr hS (Or.inr rfl) d_Reader_readPart_223
    · replace hT := (if_neg c36).symm.trans hT
      refine lv_iload F.hx F.hb d_Reader_readPart_171 (lv_at hl 3 rfl) ?_
      refine lv_istore (lv' := [(9, vI v3_), (0, .ref (b + 46)), (1, .ref (b + k1)), (3, vI v2_), (4, vI v3_), (6, vI v4_), (7, vI v5_), (8, vI v6_)]) F.hx F.hb d_Reader_readPart_173 hl (Nat.le_of_ble_eq_true rfl) rfl (fun ls hl => ?_)
      exact k_Reader_readPart_L175 l hlo k1 hk1 F hlk hr (fun a0_ a1_ a2_ a3_ a4_ a5_ => t_Reader_readPart_L164 k1 fu a0_ a1_ a2_ a3_ a4_ a5_) ih FU M v2_ hv2_ v3_ hv3_ v4_ hv4_ v5_ hv5_ v6_ hv6_ v3_ hv3_ _ _ _ hS (lv_sub hl [1, 2, 3, 4, 5, 6, 7, 0] rfl) hT
set_option maxHeartbeats 4000000 in
set_option maxRecDepth 100000 in
theorem k_Reader_readPart_L151 (l : Launch) {p : Program} {e : Env} {s : State} {m : MethodId} {below : List Frame} {meth : Method} {c : Code} {b n : Nat} {C : CT} (hlo : 191 ≤ n) (k1 : Nat) (hk1 : isTown k1) (F : Cx b p m c b_Reader_readPart 10 s ([.ref (b + 46), .ref (b + k1)] : List Value).toArray "WardFalls$Reader" C n 191) (hlk : meth.locks = false) (hr : meth.sig.returnType = some .boolean) {res : Mem × Int} (M : Mem) (v2_ : Int) (hv2_ : InR v2_) (v3_ : Int) (hv3_ : InR v3_) (v4_ : Int) (hv4_ : InR v4_) (v5_ : Int) (hv5_ : InR v5_) (v6_ : Int) (hv6_ : InR v6_) (H : Heap) (locs : List Loc) (ls : Array Slot) (hS : St b C n M s H locs) (hl : lv_has ls 10 [(0, .ref (b + 46)), (1, .ref (b + k1)), (3, vI v2_), (4, vI v3_), (5, vI v4_), (6, vI v5_)]) (hT : t_Reader_readPart_L151 k1 M v2_ v3_ v4_ v5_ v6_ = some res) : W p l e (headSpec (wsM y_Reader_readPart b_Reader_readPart 10 (some .boolean)) (rmD 4)).room s m ([.ref (b + 46), .ref (b + k1)] : List Value).toArray below meth c H locs 0 0 (MQ below (QZ b C n res.1 res.2) ([.ref (b + 46), .ref (b + k1)] : List Value).toArray s 0 0 (frb b)) (F0 m 151 ls [vI v6_]) := by
  unfold t_Reader_readPart_L151 at hT
  refine lv_istore (lv' := [(7, vI v6_), (0, .ref (b + 46)), (1, .ref (b + k1)), (3, vI v2_), (4, vI v3_), (5, vI v4_), (6, vI v5_)]) F.hx F.hb d_Reader_readPart_151 hl (Nat.le_of_ble_eq_true rfl) rfl (fun ls hl => ?_)
  refine lv_iload F.hx F.hb d_Reader_readPart_153 (lv_at hl 0 rfl) ?_
  refine r_if_ge (tgt := 160) F.hx F.hb hv6_ d_Reader_readPart_155 (by decide) (fun c35 => ?_) (fun c35 => ?_)
  · replace hT := (if_pos c35).symm.trans hT
    refine lv_iload F.hx F.hb d_Reader_readPart_160 (lv_at hl 5 rfl) ?_
    refine lv_istore (lv' := [(8, vI v4_), (7, vI v6_), (0, .ref (b + 46)), (1, .ref (b + k1)), (3, vI v2_), (4, vI v3_), (5, vI v4_), (6, vI v5_)]) F.hx F.hb d_Reader_readPart_162 hl (Nat.le_of_ble_eq_true rfl) rfl (fun ls hl => ?_)
    exact k_Reader_readPart_L164 l hlo k1 hk1 F hlk hr FU M v2_ hv2_ v3_ hv3_ v5_ hv5_ v6_ hv6_ v4_ hv4_ _ _ _ hS (lv_sub hl [2, 3, 4, 5, 7, 1, 0] rfl) hT
  · replace hT := (if_neg c35).symm.trans hT
    refine r_iconst F.hx F.hb d_Reader_readPart_158 ?_
    cases hT
    exact r_zret F hlk hr hS (Or.inl rfl) d_Reader_readPart_159
set_option maxHeartbeats 4000000 in
set_option maxRecDepth 100000 in
theorem k_Reader_readPart_L128 (l : Launch) {p : Program} {e : Env} {s : State} {m : MethodId} {below : List Frame} {meth : Method} {c : Code} {b n : Nat} {C : CT} (hlo : 191 ≤ n) (k1 : Nat) (hk1 : isTown k1) (F : Cx b p m c b_Reader_readPart 10 s ([.ref (b + 46), .ref (b + k1)] : List Value).toArray "WardFalls$Reader" C n 191) (hlk : meth.locks = false) (hr : meth.sig.returnType = some .boolean) {res : Mem × Int} (M : Mem) (v2_ : Int) (hv2_ : InR v2_) (v3_ : Int) (hv3_ : InR v3_) (v4_ : Int) (hv4_ : InR v4_) (v5_ : Int) (hv5_ : InR v5_) (H : Heap) (locs : List Loc) (ls : Array Slot) (hS : St b C n M s H locs) (hl : lv_has ls 10 [(0, .ref (b + 46)), (1, .ref (b + k1)), (3, vI v2_), (4, vI v3_), (5, vI v4_)]) (hT : t_Reader_readPart_L128 k1 M v2_ v3_ v4_ v5_ = some res) : W p l e (headSpec (wsM y_Reader_readPart b_Reader_readPart 10 (some .boolean)) (rmD 4)).room s m ([.ref (b + 46), .ref (b + k1)] : List Value).toArray below meth c H locs 0 0 (MQ below (QZ b C n res.1 res.2) ([.ref (b + 46), .ref (b + k1)] : List Value).toArray s 0 0 (frb b)) (F0 m 128 ls [vI v5_]) := by
  unfold t_Reader_readPart_L128 at hT
  refine lv_istore (lv' := [(6, vI v5_), (0, .ref (b + 46)), (1, .ref (b + k1)), (3, vI v2_), (4, vI v3_), (5, vI v4_)]) F.hx F.hb d_Reader_readPart_128 hl (Nat.le_of_ble_eq_true rfl) rfl (fun ls hl => ?_)
  refine lv_iload F.hx F.hb d_Reader_readPart_130 (lv_at hl 0 rfl) ?_
  refine r_if_ge (tgt := 139) F.hx F.hb hv5_ d_Reader_readPart_132 (by decide) (fun c31 => ?_) (fun c31 => ?_)
  · replace hT := (if_pos c31).symm.trans hT
    refine lv_aload_n F.hx F.hb d_Reader_readPart_139 rfl (lv_at hl 1 rfl) ?_
    refine lv_iload F.hx F.hb d_Reader_readPart_140 (lv_at hl 5 rfl) ?_
    refine lv_aload_n F.hx F.hb d_Reader_readPart_142 rfl (lv_at hl 2 rfl) ?_
    refine r_get (v := vI (M.1 k1 12)) (N := 20) (T := T11) (j := 12) F hS (Town_lt hk1) (Town_sh hk1) (Town_N hk1) rfl (Nat.le_of_ble_eq_true rfl) ing11 mw_125 (fv_int rfl) d_Reader_readPart_143 ?_
    have i32 := hS.rng k1 12
    refine r_iconst F.hx F.hb d_Reader_readPart_146 ?_
    refine r_isub F.hx F.hb d_Reader_readPart_147 ?_
    obtain ⟨q33, hq33, hT⟩ := q_obind hT
    refine r_backI F hS (r_runV (k := 46) (N := 11) (T := T8) (As := [vI v4_, vI (w32 ((M.1 k1 12) - 1))]) F hS (show 46 < 191 by decide) (show shK 46 = 12 from rfl) rfl (c_Reader_takeNumber l F.2.2.1 M v4_ (w32 ((M.1 k1 12) - 1)) hv4_ (inr_w32 _) _ hq33) gs_Reader_97 hd_Reader_takeNumber ⟨Nat.le_of_ble_eq_true rfl, Nat.le_of_ble_eq_true rfl⟩ rfl hl.1 (Nat.le_of_ble_eq_true rfl) ⟨Nat.zero_le _, Nat.zero_le _⟩ rfl d_Reader_readPart_148) (fun H locs hS h34 => ?_)
    exact k_Reader_readPart_L151 l hlo k1 hk1 F hlk hr (q33.1) v2_ hv2_ v3_ hv3_ v4_ hv4_ v5_ hv5_ (q33.2) h34 _ _ _ hS (lv_sub hl [1, 2, 3, 4, 5, 0] rfl) hT
  · replace hT := (if_neg c31).symm.trans hT
    refine r_iconst F.hx F.hb d_Reader_readPart_135 ?_
    refine lv_goto (tgt := 151) F.hx F.hb d_Reader_readPart_136 (by decide) ?_
    exact k_Reader_readPart_L151 l hlo k1 hk1 F hlk hr M v2_ hv2_ v3_ hv3_ v4_ hv4_ v5_ hv5_ (-1) (inr_c rfl) _ _ _ hS (lv_sub hl [1, 2, 3, 4, 5, 0] rfl) hT
set_option maxHeartbeats 4000000 in
set_option maxRecDepth 100000 in
theorem k_Reader_readPart_L105 (l : Launch) {p : Program} {e : Env} {s : State} {m : MethodId} {below : List Frame} {meth : Method} {c : Code} {b n : Nat} {C : CT} (hlo : 191 ≤ n) (k1 : Nat) (hk1 : isTown k1) (F : Cx b p m c b_Reader_readPart 10 s ([.ref (b + 46), .ref (b + k1)] : List Value).toArray "WardFalls$Reader" C n 191) (hlk : meth.locks = false) (hr : meth.sig.returnType = some .boolean) {res : Mem × Int} (M : Mem) (v2_ : Int) (hv2_ : InR v2_) (v3_ : Int) (hv3_ : InR v3_) (v4_ : Int) (hv4_ : InR v4_) (H : Heap) (locs : List Loc) (ls : Array Slot) (hS : St b C n M s H locs) (hl : lv_has ls 10 [(0, .ref (b + 46)), (1, .ref (b + k1)), (3, vI v2_), (4, vI v3_)]) (hT : t_Reader_readPart_L105 k1 M v2_ v3_ v4_ = some res) : W p l e (headSpec (wsM y_Reader_readPart b_Reader_readPart 10 (some .boolean)) (rmD 4)).room s m ([.ref (b + 46), .ref (b + k1)] : List Value).toArray below meth c H locs 0 0 (MQ below (QZ b C n res.1 res.2) ([.ref (b + 46), .ref (b + k1)] : List Value).toArray s 0 0 (frb b)) (F0 m 105 ls [vI v4_]) := by
  unfold t_Reader_readPart_L105 at hT
  refine lv_istore (lv' := [(5, vI v4_), (0, .ref (b + 46)), (1, .ref (b + k1)), (3, vI v2_), (4, vI v3_)]) F.hx F.hb d_Reader_readPart_105 hl (Nat.le_of_ble_eq_true rfl) rfl (fun ls hl => ?_)
  refine lv_iload F.hx F.hb d_Reader_readPart_107 (lv_at hl 0 rfl) ?_
  refine r_if_ge (tgt := 116) F.hx F.hb hv4_ d_Reader_readPart_109 (by decide) (fun c27 => ?_) (fun c27 => ?_)
  · replace hT := (if_pos c27).symm.trans hT
    refine lv_aload_n F.hx F.hb d_Reader_readPart_116 rfl (lv_at hl 1 rfl) ?_
    refine lv_iload F.hx F.hb d_Reader_readPart_117 (lv_at hl 4 rfl) ?_
    refine lv_aload_n F.hx F.hb d_Reader_readPart_119 rfl (lv_at hl 2 rfl) ?_
    refine r_get (v := vI (M.1 k1 11)) (N := 20) (T := T11) (j := 11) F hS (Town_lt hk1) (Town_sh hk1) (Town_N hk1) rfl (Nat.le_of_ble_eq_true rfl) ing11 mw_122 (fv_int rfl) d_Reader_readPart_120 ?_
    have i28 := hS.rng k1 11
    refine r_iconst F.hx F.hb d_Reader_readPart_123 ?_
    refine r_isub F.hx F.hb d_Reader_readPart_124 ?_
    obtain ⟨q29, hq29, hT⟩ := q_obind hT
    refine r_backI F hS (r_runV (k := 46) (N := 11) (T := T8) (As := [vI v3_, vI (w32 ((M.1 k1 11) - 1))]) F hS (show 46 < 191 by decide) (show shK 46 = 12 from rfl) rfl (c_Reader_takeNumber l F.2.2.1 M v3_ (w32 ((M.1 k1 11) - 1)) hv3_ (inr_w32 _) _ hq29) gs_Reader_97 hd_Reader_takeNumber ⟨Nat.le_of_ble_eq_true rfl, Nat.le_of_ble_eq_true rfl⟩ rfl hl.1 (Nat.le_of_ble_eq_true rfl) ⟨Nat.zero_le _, Nat.zero_le _⟩ rfl d_Reader_readPart_125) (fun H locs hS h30 => ?_)
    exact k_Reader_readPart_L128 l hlo k1 hk1 F hlk hr (q29.1) v2_ hv2_ v3_ hv3_ v4_ hv4_ (q29.2) h30 _ _ _ hS (lv_sub hl [1, 2, 3, 4, 0] rfl) hT
  · replace hT := (if_neg c27).symm.trans hT
    refine r_iconst F.hx F.hb d_Reader_readPart_112 ?_
    refine lv_goto (tgt := 128) F.hx F.hb d_Reader_readPart_113 (by decide) ?_
    exact k_Reader_readPart_L128 l hlo k1 hk1 F hlk hr M v2_ hv2_ v3_ hv3_ v4_ hv4_ (-1) (inr_c rfl) _ _ _ hS (lv_sub hl [1, 2, 3, 4, 0] rfl) hT
set_option maxHeartbeats 4000000 in
set_option maxRecDepth 100000 in
theorem c_Reader_readPart (l : Launch) {b n : Nat} {C : CT} (hlo : 191 ≤ n) (M : Mem) (k1 : Nat) (hk1 : isTown k1) (res : Mem × Int) (hT : t_Reader_readPart M k1 = some res) : CM l b C n 4 y_Reader_readPart b_Reader_readPart 10 (some .boolean) [.ref (b + 46), .ref (b + k1)] M (QZ b C n res.1 res.2) := by
  refine CM.of (lo := 191) (ow := "WardFalls$Reader") (by decide) rfl (Nat.le_of_ble_eq_true rfl) hlo (fun p e s m below meth c F hlk hr hS ls hl => ?_)
  have hl : lv_has ls 10 [(0, .ref (b + 46)), (1, .ref (b + k1))] := hl
  unfold t_Reader_readPart at hT
  refine lv_aload_n F.hx F.hb d_Reader_readPart_0 rfl (lv_at hl 0 rfl) ?_
  refine r_get (v := vI (M.1 46 6)) (N := 11) (T := T8) (j := 6) F hS (show 46 < 191 by decide) (show shK 46 = 12 from rfl) (show shN 46 = 11 from rfl) rfl (Nat.le_of_ble_eq_true rfl) ing8 mw_236 (fv_int rfl) d_Reader_readPart_1 ?_
  have i1 := hS.rng 46 6
  refine r_bipush F.hx F.hb d_Reader_readPart_4 rfl ?_
  refine r_icmp_lt (tgt := 19) F.hx F.hb i1 (inr_c rfl) d_Reader_readPart_6 (by decide) (fun c2 => ?_) (fun c2 => ?_)
  · replace hT := (if_pos c2).symm.trans hT
    refine lv_aload_n F.hx F.hb d_Reader_readPart_19 rfl (lv_at hl 0 rfl) ?_
    refine lv_aload_n F.hx F.hb d_Reader_readPart_20 rfl (lv_at hl 0 rfl) ?_
    refine r_get (v := vI (M.1 46 1)) (N := 11) (T := T8) (j := 1) F hS (show 46 < 191 by decide) (show shK 46 = 12 from rfl) (show shN 46 = 11 from rfl) rfl (Nat.le_of_ble_eq_true rfl) ing8 mw_231 (fv_int rfl) d_Reader_readPart_21 ?_
    have i3 := hS.rng 46 1
    refine r_iconst F.hx F.hb d_Reader_readPart_24 ?_
    refine r_iadd F.hx F.hb d_Reader_readPart_25 ?_
    obtain ⟨q4, hq4, hT⟩ := q_obind hT
    refine r_backV F hS (r_runV (k := 46) (N := 11) (T := T8) (As := [vI (w32 ((M.1 46 1) + 1))]) F hS (show 46 < 191 by decide) (show shK 46 = 12 from rfl) rfl (c_Reader_goTo l F.2.2.1 M (w32 ((M.1 46 1) + 1)) (inr_w32 _) _ hq4) gs_Reader_80 hd_Reader_goTo ⟨Nat.le_of_ble_eq_true rfl, Nat.le_of_ble_eq_true rfl⟩ rfl hl.1 (Nat.le_of_ble_eq_true rfl) ⟨Nat.zero_le _, Nat.zero_le _⟩ rfl d_Reader_readPart_26) (fun H locs hS => ?_)
    refine lv_aload_n F.hx F.hb d_Reader_readPart_29 rfl (lv_at hl 0 rfl) ?_
    refine r_get (v := vI (q4.1 46 3)) (N := 11) (T := T8) (j := 3) F hS (show 46 < 191 by decide) (show shK 46 = 12 from rfl) (show shN 46 = 11 from rfl) rfl (Nat.le_of_ble_eq_true rfl) ing8 mw_233 (fv_int rfl) d_Reader_readPart_30 ?_
    have i6 := hS.rng 46 3
    refine lv_istore_n (lv' := [(2, vI (q4.1 46 3)), (0, .ref (b + 46)), (1, .ref (b + k1))]) F.hx F.hb d_Reader_readPart_33 rfl hl (Nat.le_of_ble_eq_true rfl) rfl (fun ls hl => ?_)
    refine lv_aload_n F.hx F.hb d_Reader_readPart_34 rfl (lv_at hl 1 rfl) ?_
    refine r_bipush F.hx F.hb d_Reader_readPart_35 rfl ?_
    obtain ⟨q7, hq7, hT⟩ := q_obind hT
    refine r_backZ F hS (r_runV (k := 46) (N := 11) (T := T8) (As := [vI 30]) F hS (show 46 < 191 by decide) (show shK 46 = 12 from rfl) rfl (c_Reader_take l F.2.2.1 q4 30 (inr_c rfl) _ hq7) gs_Reader_51 hd_Reader_take ⟨Nat.le_of_ble_eq_true rfl, Nat.le_of_ble_eq_true rfl⟩ rfl hl.1 (Nat.le_of_ble_eq_true rfl) ⟨Nat.zero_le _, Nat.zero_le _⟩ rfl d_Reader_readPart_37) (fun H locs hS h8 => ?_)
    refine r_if_ne (tgt := 45) F.hx F.hb (inr_z h8) d_Reader_readPart_40 (by decide) (fun c9 => ?_) (fun c9 => ?_)
    · replace hT := (if_neg c9).symm.trans hT
      refine lv_aload_n F.hx F.hb d_Reader_readPart_45 rfl (lv_at hl 2 rfl) ?_
      refine r_get (v := .ref (b + (k1 + 1))) (N := 20) (T := T11) (j := 0) F hS (Town_lt hk1) (Town_sh hk1) (Town_N hk1) rfl (Nat.le_of_ble_eq_true rfl) ing11 mw_89 (Town_g0 hk1 _) d_Reader_readPart_46 ?_
      refine lv_aload_n F.hx F.hb d_Reader_readPart_49 rfl (lv_at hl 2 rfl) ?_
      refine r_get (v := vI ((q7.1).1 k1 14)) (N := 20) (T := T11) (j := 14) F hS (Town_lt hk1) (Town_sh hk1) (Town_N hk1) rfl (Nat.le_of_ble_eq_true rfl) ing11 mw_135 (fv_int rfl) d_Reader_readPart_50 ?_
      have i10 := hS.rng k1 14
      refine lv_iload_n F.hx F.hb d_Reader_readPart_53 rfl (lv_at hl 0 rfl) ?_
      obtain ⟨q11, hq11, hT⟩ := q_obind hT
      refine r_backI F hS (r_runSN (As := [.ref (b + (k1 + 1)), vI ((q7.1).1 k1 14), vI (q4.1 46 3)]) F hS (c_WF_indexOf l F.2.2.1 (q7.1) (k1 + 1) 4 ((q7.1).1 k1 14) (q4.1 46 3) (Town_f0 hk1) i10 i6 _ hq11) mw_748 mw_747 mw_1 gs_Reader_134 hd_WF_indexOf ⟨Nat.le_of_ble_eq_true rfl, Nat.le_of_ble_eq_true rfl⟩ rfl hl.1 (Nat.le_of_ble_eq_true rfl) ⟨Nat.zero_le _, Nat.zero_le _⟩ rfl d_Reader_readPart_54) (fun H locs hS h12 => ?_)
      refine lv_istore_n (lv' := [(3, vI q11), (2, vI (q4.1 46 3)), (0, .ref (b + 46)), (1, .ref (b + k1))]) F.hx F.hb d_Reader_readPart_57 rfl hl (Nat.le_of_ble_eq_true rfl) rfl (fun ls hl => ?_)
      refine lv_iload_n F.hx F.hb d_Reader_readPart_58 rfl (lv_at hl 0 rfl) ?_
      refine r_if_ge (tgt := 72) F.hx F.hb h12 d_Reader_readPart_59 (by decide) (fun c13 => ?_) (fun c13 => ?_)
      · replace hT := (if_pos c13).symm.trans hT
        refine lv_aload_n F.hx F.hb d_Reader_readPart_72 rfl (lv_at hl 2 rfl) ?_
        refine r_iconst F.hx F.hb d_Reader_readPart_73 ?_
        refine lv_aload_n F.hx F.hb d_Reader_readPart_74 rfl (lv_at hl 3 rfl) ?_
        refine r_get (v := vI ((q7.1).1 k1 11)) (N := 20) (T := T11) (j := 11) F hS (Town_lt hk1) (Town_sh hk1) (Town_N hk1) rfl (Nat.le_of_ble_eq_true rfl) ing11 mw_122 (fv_int rfl) d_Reader_readPart_75 ?_
        have i14 := hS.rng k1 11
        refine r_iconst F.hx F.hb d_Reader_readPart_78 ?_
        refine r_isub F.hx F.hb d_Reader_readPart_79 ?_
        obtain ⟨q15, hq15, hT⟩ := q_obind hT
        refine r_backI F hS (r_runV (k := 46) (N := 11) (T := T8) (As := [vI 0, vI (w32 (((q7.1).1 k1 11) - 1))]) F hS (show 46 < 191 by decide) (show shK 46 = 12 from rfl) rfl (c_Reader_takeNumber l F.2.2.1 (q7.1) 0 (w32 (((q7.1).1 k1 11) - 1)) (inr_c rfl) (inr_w32 _) _ hq15) gs_Reader_97 hd_Reader_takeNumber ⟨Nat.le_of_ble_eq_true rfl, Nat.le_of_ble_eq_true rfl⟩ rfl hl.1 (Nat.le_of_ble_eq_true rfl) ⟨Nat.zero_le _, Nat.zero_le _⟩ rfl d_Reader_readPart_80) (fun H locs hS h16 => ?_)
        refine lv_istore (lv' := [(4, vI (q15.2)), (3, vI q11), (2, vI (q4.1 46 3)), (0, .ref (b + 46)), (1, .ref (b + k1))]) F.hx F.hb d_Reader_readPart_83 hl (Nat.le_of_ble_eq_true rfl) rfl (fun ls hl => ?_)
        refine lv_iload F.hx F.hb d_Reader_readPart_85 (lv_at hl 0 rfl) ?_
        refine r_if_ge (tgt := 94) F.hx F.hb h16 d_Reader_readPart_87 (by decide) (fun c17 => ?_) (fun c17 => ?_)
        · replace hT := (if_pos c17).symm.trans hT
          refine lv_aload_n F.hx F.hb d_Reader_readPart_94 rfl (lv_at hl 3 rfl) ?_
          refine r_iconst F.hx F.hb d_Reader_readPart_95 ?_
          refine lv_aload_n F.hx F.hb d_Reader_readPart_96 rfl (lv_at hl 4 rfl) ?_
          refine r_get (v := vI ((q15.1).1 k1 12)) (N := 20) (T := T11) (j := 12) F hS (Town_lt hk1) (Town_sh hk1) (Town_N hk1) rfl (Nat.le_of_ble_eq_true rfl) ing11 mw_125 (fv_int rfl) d_Reader_readPart_97 ?_
          have i18 := hS.rng k1 12
          refine r_iconst F.hx F.hb d_Reader_readPart_100 ?_
          refine r_isub F.hx F.hb d_Reader_readPart_101 ?_
          obtain ⟨q19, hq19, hT⟩ := q_obind hT
          refine r_backI F hS (r_runV (k := 46) (N := 11) (T := T8) (As := [vI 0, vI (w32 (((q15.1).1 k1 12) - 1))]) F hS (show 46 < 191 by decide) (show shK 46 = 12 from rfl) rfl (c_Reader_takeNumber l F.2.2.1 (q15.1) 0 (w32 (((q15.1).1 k1 12) - 1)) (inr_c rfl) (inr_w32 _) _ hq19) gs_Reader_97 hd_Reader_takeNumber ⟨Nat.le_of_ble_eq_true rfl, Nat.le_of_ble_eq_true rfl⟩ rfl hl.1 (Nat.le_of_ble_eq_true rfl) ⟨Nat.zero_le _, Nat.zero_le _⟩ rfl d_Reader_readPart_102) (fun H locs hS h20 => ?_)
          exact k_Reader_readPart_L105 l hlo k1 hk1 F hlk hr (q19.1) q11 h12 (q15.2) h16 (q19.2) h20 _ _ _ hS (lv_sub hl [3, 4, 1, 0] rfl) hT
        · replace hT := (if_neg c17).symm.trans hT
          refine r_iconst F.hx F.hb d_Reader_readPart_90 ?_
          refine lv_goto (tgt := 105) F.hx F.hb d_Reader_readPart_91 (by decide) ?_
          exact k_Reader_readPart_L105 l hlo k1 hk1 F hlk hr (q15.1) q11 h12 (q15.2) h16 (-1) (inr_c rfl) _ _ _ hS (lv_sub hl [3, 4, 1, 0] rfl) hT
      · replace hT := (if_neg c13).symm.trans hT
        refine lv_aload_n F.hx F.hb d_Reader_readPart_62 rfl (lv_at hl 2 rfl) ?_
        refine r_iconst F.hx F.hb d_Reader_readPart_63 ?_
        refine lv_aload_n F.hx F.hb d_Reader_readPart_64 rfl (lv_at hl 2 rfl) ?_
        refine r_get (v := vI ((q7.1).1 46 5)) (N := 11) (T := T8) (j := 5) F hS (show 46 < 191 by decide) (show shK 46 = 12 from rfl) (show shN 46 = 11 from rfl) rfl (Nat.le_of_ble_eq_true rfl) ing8 mw_235 (fv_int rfl) d_Reader_readPart_65 ?_
        have i21 := hS.rng 46 5
        obtain ⟨q22, hq22⟩ : ∃ q, q = (t_Reader_refuse (q7.1) 4 ((q7.1).1 46 5)) := ⟨_, rfl⟩
        replace hT := qlet_eq hT hq22
        refine r_backZ F hS (r_runV (k := 46) (N := 11) (T := T8) (As := [vI 4, vI ((q7.1).1 46 5)]) F hS (show 46 < 191 by decide) (show shK 46 = 12 from rfl) rfl (c_Reader_refuse l F.2.2.1 (q7.1) 4 ((q7.1).1 46 5) (inr_c rfl) i21 _ hq22.symm) gs_Reader_47 hd_Reader_refuse ⟨Nat.le_of_ble_eq_true rfl, Nat.le_of_ble_eq_true rfl⟩ rfl hl.1 (Nat.le_of_ble_eq_true rfl) ⟨Nat.zero_le _, Nat.zero_le _⟩ rfl d_Reader_readPart_68) (fun H locs hS h23 => ?_)
        cases hT
        exact r_zret F hlk hr hS h23 d_Reader_readPart_71
    · replace hT := (if_pos c9).symm.trans hT
      refine r_iconst F.hx F.hb d_Reader_readPart_43 ?_
      cases hT
      exact r_zret F hlk hr hS (Or.inl rfl) d_Reader_readPart_44
  · replace hT := (if_neg c2).symm.trans hT
    refine lv_aload_n F.hx F.hb d_Reader_readPart_9 rfl (lv_at hl 0 rfl) ?_
    refine r_iconst F.hx F.hb d_Reader_readPart_10 ?_
    refine lv_aload_n F.hx F.hb d_Reader_readPart_11 rfl (lv_at hl 0 rfl) ?_
    refine r_get (v := vI (M.1 46 4)) (N := 11) (T := T8) (j := 4) F hS (show 46 < 191 by decide) (show shK 46 = 12 from rfl) (show shN 46 = 11 from rfl) rfl (Nat.le_of_ble_eq_true rfl) ing8 mw_234 (fv_int rfl) d_Reader_readPart_12 ?_
    have i24 := hS.rng 46 4
    obtain ⟨q25, hq25⟩ : ∃ q, q = (t_Reader_refuse M 2 (M.1 46 4)) := ⟨_, rfl⟩
    replace hT := qlet_eq hT hq25
    refine r_backZ F hS (r_runV (k := 46) (N := 11) (T := T8) (As := [vI 2, vI (M.1 46 4)]) F hS (show 46 < 191 by decide) (show shK 46 = 12 from rfl) rfl (c_Reader_refuse l F.2.2.1 M 2 (M.1 46 4) (inr_c rfl) i24 _ hq25.symm) gs_Reader_47 hd_Reader_refuse ⟨Nat.le_of_ble_eq_true rfl, Nat.le_of_ble_eq_true rfl⟩ rfl hl.1 (Nat.le_of_ble_eq_true rfl) ⟨Nat.zero_le _, Nat.zero_le _⟩ rfl d_Reader_readPart_15) (fun H locs hS h26 => ?_)
    cases hT
    exact r_zret F hlk hr hS h26 d_Reader_readPart_18
end
