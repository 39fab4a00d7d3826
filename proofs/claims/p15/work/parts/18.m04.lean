theorem d_Formula_release_0 : decode b_Formula_release 0 = .ok (.aload_n 0, 1) := dc_42 (by decide +kernel)
theorem d_Formula_release_1 : decode b_Formula_release 1 = .ok (.getfield 36, 3) := dc_180 (by decide +kernel)
theorem d_Formula_release_4 : decode b_Formula_release 4 = .ok (.ifCond .le 57, 3) := dc_158 (by decide +kernel)
theorem d_Formula_release_7 : decode b_Formula_release 7 = .ok (.aload_n 0, 1) := dc_42 (by decide +kernel)
theorem d_Formula_release_8 : decode b_Formula_release 8 = .ok (.getfield 22, 3) := dc_180 (by decide +kernel)
theorem d_Formula_release_11 : decode b_Formula_release 11 = .ok (.aload_n 0, 1) := dc_42 (by decide +kernel)
theorem d_Formula_release_12 : decode b_Formula_release 12 = .ok (.getfield 36, 3) := dc_180 (by decide +kernel)
theorem d_Formula_release_15 : decode b_Formula_release 15 = .ok (.iconst 1, 1) := dc_4 (by decide +kernel)
theorem d_Formula_release_16 : decode b_Formula_release 16 = .ok (.isub, 1) := dc_100 (by decide +kernel)
theorem d_Formula_release_17 : decode b_Formula_release 17 = .ok (.invokestatic 54, 3) := dc_184 (by decide +kernel)
theorem d_Formula_release_20 : decode b_Formula_release 20 = .ok (.istore_n 2, 1) := dc_61 (by decide +kernel)
theorem d_Formula_release_21 : decode b_Formula_release 21 = .ok (.iload_n 2, 1) := dc_28 (by decide +kernel)
theorem d_Formula_release_22 : decode b_Formula_release 22 = .ok (.bipush 17, 2) := dc_16 (by decide +kernel)
theorem d_Formula_release_24 : decode b_Formula_release 24 = .ok (.if_icmp .ne 7, 3) := dc_160 (by decide +kernel)
theorem d_Formula_release_27 : decode b_Formula_release 27 = .ok (.iconst 3, 1) := dc_6 (by decide +kernel)
theorem d_Formula_release_28 : decode b_Formula_release 28 = .ok (.goto 7, 3) := dc_167 (by decide +kernel)
theorem d_Formula_release_31 : decode b_Formula_release 31 = .ok (.iload_n 2, 1) := dc_28 (by decide +kernel)
theorem d_Formula_release_32 : decode b_Formula_release 32 = .ok (.invokestatic 89, 3) := dc_184 (by decide +kernel)
theorem d_Formula_release_35 : decode b_Formula_release 35 = .ok (.istore_n 3, 1) := dc_62 (by decide +kernel)
theorem d_Formula_release_36 : decode b_Formula_release 36 = .ok (.iload_n 3, 1) := dc_29 (by decide +kernel)
theorem d_Formula_release_37 : decode b_Formula_release 37 = .ok (.iload_n 1, 1) := dc_27 (by decide +kernel)
theorem d_Formula_release_38 : decode b_Formula_release 38 = .ok (.if_icmp .ge 4, 3) := dc_162 (by decide +kernel)
theorem d_Formula_release_41 : decode b_Formula_release 41 = .ok (.return_, 1) := dc_177 (by decide +kernel)
theorem d_Formula_release_42 : decode b_Formula_release 42 = .ok (.aload_n 0, 1) := dc_42 (by decide +kernel)
theorem d_Formula_release_43 : decode b_Formula_release 43 = .ok (.iload_n 2, 1) := dc_28 (by decide +kernel)
theorem d_Formula_release_44 : decode b_Formula_release 44 = .ok (.iconst 0, 1) := dc_3 (by decide +kernel)
theorem d_Formula_release_45 : decode b_Formula_release 45 = .ok (.invokevirtual 85, 3) := dc_182 (by decide +kernel)
theorem d_Formula_release_48 : decode b_Formula_release 48 = .ok (.aload_n 0, 1) := dc_42 (by decide +kernel)
theorem d_Formula_release_49 : decode b_Formula_release 49 = .ok (.dup, 1) := dc_89 (by decide +kernel)
theorem d_Formula_release_50 : decode b_Formula_release 50 = .ok (.getfield 36, 3) := dc_180 (by decide +kernel)
theorem d_Formula_release_53 : decode b_Formula_release 53 = .ok (.iconst 1, 1) := dc_4 (by decide +kernel)
theorem d_Formula_release_54 : decode b_Formula_release 54 = .ok (.isub, 1) := dc_100 (by decide +kernel)
theorem d_Formula_release_55 : decode b_Formula_release 55 = .ok (.putfield 36, 3) := dc_181 (by decide +kernel)
theorem d_Formula_release_58 : decode b_Formula_release 58 = .ok (.goto (-58), 3) := dc_167 (by decide +kernel)
theorem d_Formula_release_61 : decode b_Formula_release 61 = .ok (.return_, 1) := dc_177 (by decide +kernel)
def t_Formula_release_L35 (k0 : Nat) (x1 : Int) (bk0 : Mem → Option (Mem)) (M : Mem) (v2_ : Int) (v3_ : Int) : Option (Mem) := (if x1 ≤ v3_ then (qlet (t_Formula_add M k0 v2_ 0) fun q10 => (qlet (setI q10 k0 6 (w32 ((q10.1 k0 6) - 1))) fun M13 => (bk0 M13))) else (some M))
def t_Formula_release_L0 (k0 : Nat) (x1 : Int)  : Nat → Mem → Option (Mem)
  | 0, _ => none
  | fu + 1, M => (if (M.1 k0 6) ≤ 0 then (some M) else (qlet (t_WF_look M (k0 + 4) 72 (w32 ((M.1 k0 6) - 1))) fun q4 => (if q4 = 17 then (t_Formula_release_L35 k0 x1 (fun a0_ => t_Formula_release_L0 k0 x1 fu a0_) M q4 3) else (qlet (t_Formula_strengthOf M q4) fun q7 => (t_Formula_release_L35 k0 x1 (fun a0_ => t_Formula_release_L0 k0 x1 fu a0_) M q4 q7)))))
def t_Formula_release (M : Mem) (k0 : Nat) (x1 : Int) : Option (Mem) := (t_Formula_release_L0 k0 x1 FU M)
set_option maxHeartbeats 4000000 in
set_option maxRecDepth 100000 in
theorem k_Formula_release_L35 (l : Launch) {p : Program} {e : Env} {s : State} {m : MethodId} {below : List Frame} {meth : Method} {c : Code} {b n : Nat} {C : CT} (hlo : 191 ≤ n) (k0 : Nat) (x1 : Int) (hk0 : isFormula k0) (hx1 : InR x1) (F : Cx b p m c b_Formula_release 4 s ([.ref (b + k0), vI x1] : List Value).toArray "WardFalls$Formula" C n 191) (hlk : meth.locks = false) (hr : meth.sig.returnType = none) {res : Mem} (bk0 : Mem → Option (Mem)) (hbk0 : ∀ (M : Mem)  (H : Heap) (locs : List Loc) (ls : Array Slot), St b C n M s H locs → lv_has ls 4 [(0, .ref (b + k0)), (1, vI x1)] → bk0 M  = some res → W p l e (headSpec (wsM y_Formula_release b_Formula_release 4 (none)) (rmD 2)).room s m ([.ref (b + k0), vI x1] : List Value).toArray below meth c H locs 0 0 (MQ below (QV b C n res) ([.ref (b + k0), vI x1] : List Value).toArray s 0 0 (frb b)) (F0 m 0 ls [])) (M : Mem) (v2_ : Int) (hv2_ : InR v2_) (v3_ : Int) (hv3_ : InR v3_) (H : Heap) (locs : List Loc) (ls : Array Slot) (hS : St b C n M s H locs) (hl : lv_has ls 4 [(0, .ref (b + k0)), (1, vI x1), (2, vI v2_)]) (hT : t_Formula_release_L35 k0 x1 bk0 M v2_ v3_ = some res) : W p l e (headSpec (wsM y_Formula_release b_Formula_release 4 (none)) (rmD 2)).room s m ([.ref (b + k0), vI x1] : List Value).toArray below meth c H locs 0 0 (MQ below (QV b C n res) ([.ref (b + k0), vI x1] : List Value).toArray s 0 0 (frb b)) (F0 m 35 ls [vI v3_]) := by
  unfold t_Formula_release_L35 at hT
  refine lv_istore_n (lv' := [(3, vI v3_), (0, .ref (b + k0)), (1, vI x1), (2, vI v2_)]) F.hx F.hb d_Formula_release_35 rfl hl (Nat.le_of_ble_eq_true rfl) rfl (fun ls hl => ?_)
  refine lv_iload_n F.hx F.hb d_Formula_release_36 rfl (lv_at hl 0 rfl) ?_
  refine lv_iload_n F.hx F.hb d_Formula_release_37 rfl (lv_at hl 2 rfl) ?_
  refine r_icmp_ge (tgt := 42) F.hx F.hb hv3_ hx1 d_Formula_release_38 (by decide) (fun c9 => ?_) (fun c9 => ?_)
  · replace hT := (if_pos c9).symm.trans hT
    refine lv_aload_n F.hx F.hb d_Formula_release_42 rfl (lv_at hl 1 rfl) ?_
    refine lv_iload_n F.hx F.hb d_Formula_release_43 rfl (lv_at hl 3 rfl) ?_
    refine r_iconst F.hx F.hb d_Formula_release_44 ?_
    obtain ⟨q10, hq10⟩ : ∃ q, q = (t_Formula_add M k0 v2_ 0) := ⟨_, rfl⟩
    replace hT := qlet_eq hT hq10
    refine r_backV F hS (r_runV (k := k0) (N := 12) (T := T3) (As := [vI v2_, vI 0]) F hS (Formula_lt hk0) (Formula_sh hk0) rfl (c_Formula_add l F.2.2.1 M k0 v2_ 0 hk0 hv2_ (inr_c rfl) _ hq10.symm) gs_Formula_85 hd_Formula_add ⟨Nat.le_of_ble_eq_true rfl, Nat.le_of_ble_eq_true rfl⟩ rfl hl.1 (Nat.le_of_ble_eq_true rfl) ⟨Nat.zero_le _, Nat.zero_le _⟩ rfl d_Formula_release_45) (fun H locs hS => ?_)
    refine lv_aload_n F.hx F.hb d_Formula_release_48 rfl (lv_at hl 1 rfl) ?_
    refine lv_dup F.hx F.hb d_Formula_release_49 rfl ?_
    refine r_get (v := vI (q10.1 k0 6)) (N := 12) (T := T3) (j := 6) F hS (Formula_lt hk0) (Formula_sh hk0) (Formula_N hk0) rfl (Nat.le_of_ble_eq_true rfl) ing3 mw_54 (fv_int rfl) d_Formula_release_50 ?_
    have i12 := hS.rng k0 6
    refine r_iconst F.hx F.hb d_Formula_release_53 ?_
    refine r_isub F.hx F.hb d_Formula_release_54 ?_
    refine r_putI (N := 12) (T := T3) (j := 6) F hS (Formula_lt hk0) (Formula_sh hk0) (Formula_N hk0) rfl (Nat.le_of_ble_eq_true rfl) ing3 tyok3 nm3 rfl rfl rfl rfl rfl (Formula_dyn hk0 _) mw_54 (inr_w32 _) d_Formula_release_55 (fun H locs hS => ?_)
    obtain ⟨M13, eM13⟩ : ∃ q, q = (setI q10 k0 6 (w32 ((q10.1 k0 6) - 1))) := ⟨_, rfl⟩
    replace hS : St b C n M13 s H locs := by rw [eM13]; exact hS
    replace hT := qlet_eq hT eM13
    refine lv_goto (tgt := 0) F.hx F.hb d_Formula_release_58 (by decide) ?_
    exact hbk0 M13 _ _ _ hS (lv_sub hl [1, 2] rfl) hT
  · replace hT := (if_neg c9).symm.trans hT
    cases hT
    exact r_vret F hlk hr hS d_Formula_release_41
set_option maxHeartbeats 4000000 in
set_option maxRecDepth 100000 in
theorem k_Formula_release_L0 (l : Launch) {p : Program} {e : Env} {s : State} {m : MethodId} {below : List Frame} {meth : Method} {c : Code} {b n : Nat} {C : CT} (hlo : 191 ≤ n) (k0 : Nat) (x1 : Int) (hk0 : isFormula k0) (hx1 : InR x1) (F : Cx b p m c b_Formula_release 4 s ([.ref (b + k0), vI x1] : List Value).toArray "WardFalls$Formula" C n 191) (hlk : meth.locks = false) (hr : meth.sig.returnType = none) {res : Mem} : ∀ (fu : Nat) (M : Mem)  (H : Heap) (locs : List Loc) (ls : Array Slot), St b C n M s H locs → lv_has ls 4 [(0, .ref (b + k0)), (1, vI x1)] → t_Formula_release_L0 k0 x1 fu M = some res → W p l e (headSpec (wsM y_Formula_release b_Formula_release 4 (none)) (rmD 2)).room s m ([.ref (b + k0), vI x1] : List Value).toArray below meth c H locs 0 0 (MQ below (QV b C n res) ([.ref (b + k0), vI x1] : List Value).toArray s 0 0 (frb b)) (F0 m 0 ls []) := by
  intro fu
  induction fu with
  | zero => intro M  H locs ls hS hl hT; exact absurd hT (by simp [t_Formula_release_L0])
  | succ fu ih =>
    intro M  H locs ls hS hl hT
    rw [t_Formula_release_L0] at hT
    refine lv_aload_n F.hx F.hb d_Formula_release_0 rfl (lv_at hl 0 rfl) ?_
    refine r_get (v := vI (M.1 k0 6)) (N := 12) (T := T3) (j := 6) F hS (Formula_lt hk0) (Formula_sh hk0) (Formula_N hk0) rfl (Nat.le_of_ble_eq_true rfl) ing3 mw_54 (fv_int rfl) d_Formula_release_1 ?_
    have i1 := hS.rng k0 6
    refine r_if_le (tgt := 61) F.hx F.hb i1 d_Formula_release_4 (by decide) (fun c2 => ?_) (fun c2 => ?_)
    · replace hT := (if_pos c2).symm.trans hT
      cases hT
      exact r_vret F hlk hr hS d_Formula_release_61
    · replace hT := (if_neg c2).symm.trans hT
      refine lv_aload_n F.hx F.hb d_Formula_release_7 rfl (lv_at hl 0 rfl) ?_
      refine r_get (v := .ref (b + (k0 + 4))) (N := 12) (T := T3) (j := 5) F hS (Formula_lt hk0) (Formula_sh hk0) (Formula_N hk0) rfl (Nat.le_of_ble_eq_true rfl) ing3 mw_53 (Formula_g5 hk0 _) d_Formula_release_8 ?_
      refine lv_aload_n F.hx F.hb d_Formula_release_11 rfl (lv_at hl 0 rfl) ?_
      refine r_get (v := vI (M.1 k0 6)) (N := 12) (T := T3) (j := 6) F hS (Formula_lt hk0) (Formula_sh hk0) (Formula_N hk0) rfl (Nat.le_of_ble_eq_true rfl) ing3 mw_54 (fv_int rfl) d_Formula_release_12 ?_
      have i3 := hS.rng k0 6
      refine r_iconst F.hx F.hb d_Formula_release_15 ?_
      refine r_isub F.hx F.hb d_Formula_release_16 ?_
      obtain ⟨q4, hq4⟩ : ∃ q, q = (t_WF_look M (k0 + 4) 72 (w32 ((M.1 k0 6) - 1))) := ⟨_, rfl⟩
      replace hT := qlet_eq hT hq4
      refine r_backI F hS (r_runSN (As := [.ref (b + (k0 + 4)), vI (w32 ((M.1 k0 6) - 1))]) F hS (c_WF_look l F.2.2.1 M (k0 + 4) 72 (w32 ((M.1 k0 6) - 1)) (Formula_f5 hk0) (inr_w32 _) _ hq4.symm) mw_519 mw_518 mw_1 gs_Formula_54 hd_WF_look ⟨Nat.le_of_ble_eq_true rfl, Nat.le_of_ble_eq_true rfl⟩ rfl hl.1 (Nat.le_of_ble_eq_true rfl) ⟨Nat.zero_le _, Nat.zero_le _⟩ rfl d_Formula_release_17) (fun H locs hS h5 => ?_)
      refine lv_istore_n (lv' := [(2, vI q4), (0, .ref (b + k0)), (1, vI x1)]) F.hx F.hb d_Formula_release_20 rfl hl (Nat.le_of_ble_eq_true rfl) rfl (fun ls hl => ?_)
      refine lv_iload_n F.hx F.hb d_Formula_release_21 rfl (lv_at hl 0 rfl) ?_
      refine r_bipush F.hx F.hb d_Formula_release_22 rfl ?_
      refine r_icmp_ne (tgt := 31) F.hx F.hb h5 (inr_c rfl) d_Formula_release_24 (by decide) (fun c6 => ?_) (fun c6 => ?_)
      · replace hT := (if_neg c6).symm.trans hT
        refine lv_iload_n F.hx F.hb d_Formula_release_31 rfl (lv_at hl 0 rfl) ?_
        obtain ⟨q7, hq7⟩ : ∃ q, q = (t_Formula_strengthOf M q4) := ⟨_, rfl⟩
        replace hT := qlet_eq hT hq7
        refine r_backI F hS (r_runS (As := [vI q4]) F hS (c_Formula_strengthOf l F.2.2.1 M q4 h5 _ hq7.symm) gs_Formula_89 hd_Formula_strengthOf ⟨Nat.le_of_ble_eq_true rfl, Nat.le_of_ble_eq_true rfl⟩ rfl hl.1 (Nat.le_of_ble_eq_true rfl) ⟨Nat.zero_le _, Nat.zero_le _⟩ rfl d_Formula_release_32) (fun H locs hS h8 => ?_)
        exact k_Formula_release_L35 l hlo k0 x1 hk0 hx1 F hlk hr (fun a0_ => t_Formula_release_L0 k0 x1 fu a0_) ih M q4 h5 q7 h8 _ _ _ hS (lv_sub hl [1, 2, 0] rfl) hT
      · replace hT := (if_pos c6).symm.trans hT
        refine r_iconst F.hx F.hb d_Formula_release_27 ?_
        refine lv_goto (tgt := 35) F.hx F.hb d_Formula_release_28 (by decide) ?_
        exact k_Formula_release_L35 l hlo k0 x1 hk0 hx1 F hlk hr (fun a0_ => t_Formula_release_L0 k0 x1 fu a0_) ih M q4 h5 3 (inr_c rfl) _ _ _ hS (lv_sub hl [1, 2, 0] rfl) hT
set_option maxHeartbeats 4000000 in
set_option maxRecDepth 100000 in
theorem c_Formula_release (l : Launch) {b n : Nat} {C : CT} (hlo : 191 ≤ n) (M : Mem) (k0 : Nat) (x1 : Int) (hk0 : isFormula k0) (hx1 : InR x1) (res : Mem) (hT : t_Formula_release M k0 x1 = some res) : CM l b C n 2 y_Formula_release b_Formula_release 4 (none) [.ref (b + k0), vI x1] M (QV b C n res) := by
  refine CM.of (lo := 191) (ow := "WardFalls$Formula") (by decide) rfl (Nat.le_of_ble_eq_true rfl) hlo (fun p e s m below meth c F hlk hr hS ls hl => ?_)
  have hl : lv_has ls 4 [(0, .ref (b + k0)), (1, vI x1)] := hl
  unfold t_Formula_release at hT
  exact k_Formula_release_L0 l hlo k0 x1 hk0 hx1 F hlk hr FU M _ _ _ hS (lv_sub hl [0, 1] rfl) hT
theorem d_Formula_await_0 : decode b_Formula_await 0 = .ok (.aload_n 0, 1) := dc_42 (by decide +kernel)
theorem d_Formula_await_1 : decode b_Formula_await 1 = .ok (.getfield 22, 3) := dc_180 (by decide +kernel)
theorem d_Formula_await_4 : decode b_Formula_await 4 = .ok (.aload_n 0, 1) := dc_42 (by decide +kernel)
theorem d_Formula_await_5 : decode b_Formula_await 5 = .ok (.getfield 36, 3) := dc_180 (by decide +kernel)
theorem d_Formula_await_8 : decode b_Formula_await 8 = .ok (.iload_n 1, 1) := dc_27 (by decide +kernel)
theorem d_Formula_await_9 : decode b_Formula_await 9 = .ok (.invokestatic 97, 3) := dc_184 (by decide +kernel)
theorem d_Formula_await_12 : decode b_Formula_await 12 = .ok (.aload_n 0, 1) := dc_42 (by decide +kernel)
theorem d_Formula_await_13 : decode b_Formula_await 13 = .ok (.dup, 1) := dc_89 (by decide +kernel)
theorem d_Formula_await_14 : decode b_Formula_await 14 = .ok (.getfield 36, 3) := dc_180 (by decide +kernel)
theorem d_Formula_await_17 : decode b_Formula_await 17 = .ok (.iconst 1, 1) := dc_4 (by decide +kernel)
theorem d_Formula_await_18 : decode b_Formula_await 18 = .ok (.iadd, 1) := dc_96 (by decide +kernel)
theorem d_Formula_await_19 : decode b_Formula_await 19 = .ok (.putfield 36, 3) := dc_181 (by decide +kernel)
theorem d_Formula_await_22 : decode b_Formula_await 22 = .ok (.return_, 1) := dc_177 (by decide +kernel)
def t_Formula_await (M : Mem) (k0 : Nat) (x1 : Int) : Mem := (qlet (t_WF_put M (k0 + 4) 72 (M.1 k0 6) x1) fun q2 => (qlet (setI q2 k0 6 (w32 ((q2.1 k0 6) + 1))) fun M5 => M5))
set_option maxHeartbeats 4000000 in
set_option maxRecDepth 100000 in
theorem c_Formula_await (l : Launch) {b n : Nat} {C : CT} (hlo : 191 ≤ n) (M : Mem) (k0 : Nat) (x1 : Int) (hk0 : isFormula k0) (hx1 : InR x1) (res : Mem) (hT : t_Formula_await M k0 x1 = res) : CM l b C n 1 y_Formula_await b_Formula_await 2 (none) [.ref (b + k0), vI x1] M (QV b C n res) := by
  refine CM.of (lo := 191) (ow := "WardFalls$Formula") (by decide) rfl (Nat.le_of_ble_eq_true rfl) hlo (fun p e s m below meth c F hlk hr hS ls hl => ?_)
  have hl : lv_has ls 2 [(0, .ref (b + k0)), (1, vI x1)] := hl
  unfold t_Formula_await at hT
  refine lv_aload_n F.hx F.hb d_Formula_await_0 rfl (lv_at hl 0 rfl) ?_
  refine r_get (v := .ref (b + (k0 + 4))) (N := 12) (T := T3) (j := 5) F hS (Formula_lt hk0) (Formula_sh hk0) (Formula_N hk0) rfl (Nat.le_of_ble_eq_true rfl) ing3 mw_53 (Formula_g5 hk0 _) d_Formula_await_1 ?_
  refine lv_aload_n F.hx F.hb d_Formula_await_4 rfl (lv_at hl 0 rfl) ?_
  refine r_get (v := vI (M.1 k0 6)) (N := 12) (T := T3) (j := 6) F hS (Formula_lt hk0) (Formula_sh hk0) (Formula_N hk0) rfl (Nat.le_of_ble_eq_true rfl) ing3 mw_54 (fv_int rfl) d_Formula_await_5 ?_
  have i1 := hS.rng k0 6
  refine lv_iload_n F.hx F.hb d_Formula_await_8 rfl (lv_at hl 1 rfl) ?_
  obtain ⟨q2, hq2⟩ : ∃ q, q = (t_WF_put M (k0 + 4) 72 (M.1 k0 6) x1) := ⟨_, rfl⟩
  replace hT := qlet_eq hT hq2
  refine r_backV F hS (r_runSN (As := [.ref (b + (k0 + 4)), vI (M.1 k0 6), vI x1]) F hS (c_WF_put l F.2.2.1 M (k0 + 4) 72 (M.1 k0 6) x1 (Formula_f5 hk0) i1 hx1 _ hq2.symm) mw_512 mw_511 mw_1 gs_Formula_97 hd_WF_put ⟨Nat.le_of_ble_eq_true rfl, Nat.le_of_ble_eq_true rfl⟩ rfl hl.1 (Nat.le_of_ble_eq_true rfl) ⟨Nat.zero_le _, Nat.zero_le _⟩ rfl d_Formula_await_9) (fun H locs hS => ?_)
  refine lv_aload_n F.hx F.hb d_Formula_await_12 rfl (lv_at hl 0 rfl) ?_
  refine lv_dup F.hx F.hb d_Formula_await_13 rfl ?_
  refine r_get (v := vI (q2.1 k0 6)) (N := 12) (T := T3) (j := 6) F hS (Formula_lt hk0) (Formula_sh hk0) (Formula_N hk0) rfl (Nat.le_of_ble_eq_true rfl) ing3 mw_54 (fv_int rfl) d_Formula_await_14 ?_
  have i4 := hS.rng k0 6
  refine r_iconst F.hx F.hb d_Formula_await_17 ?_
  refine r_iadd F.hx F.hb d_Formula_await_18 ?_
  refine r_putI (N := 12) (T := T3) (j := 6) F hS (Formula_lt hk0) (Formula_sh hk0) (Formula_N hk0) rfl (Nat.le_of_ble_eq_true rfl) ing3 tyok3 nm3 rfl rfl rfl rfl rfl (Formula_dyn hk0 _) mw_54 (inr_w32 _) d_Formula_await_19 (fun H locs hS => ?_)
  obtain ⟨M5, eM5⟩ : ∃ q, q = (setI q2 k0 6 (w32 ((q2.1 k0 6) + 1))) := ⟨_, rfl⟩
  replace hS : St b C n M5 s H locs := by rw [eM5]; exact hS
  replace hT := qlet_eq hT eM5
  subst hT
  exact r_vret F hlk hr hS d_Formula_await_22
theorem d_Formula_isName_0 : decode b_Formula_isName 0 = .ok (.iload_n 0, 1) := dc_26 (by decide +kernel)
theorem d_Formula_isName_1 : decode b_Formula_isName 1 = .ok (.bipush 18, 2) := dc_16 (by decide +kernel)
theorem d_Formula_isName_3 : decode b_Formula_isName 3 = .ok (.if_icmp .lt 13, 3) := dc_161 (by decide +kernel)
theorem d_Formula_isName_6 : decode b_Formula_isName 6 = .ok (.iload_n 0, 1) := dc_26 (by decide +kernel)
theorem d_Formula_isName_7 : decode b_Formula_isName 7 = .ok (.bipush 24, 2) := dc_16 (by decide +kernel)
theorem d_Formula_isName_9 : decode b_Formula_isName 9 = .ok (.if_icmp .gt 7, 3) := dc_163 (by decide +kernel)
theorem d_Formula_isName_12 : decode b_Formula_isName 12 = .ok (.iconst 1, 1) := dc_4 (by decide +kernel)
theorem d_Formula_isName_13 : decode b_Formula_isName 13 = .ok (.goto 4, 3) := dc_167 (by decide +kernel)
theorem d_Formula_isName_16 : decode b_Formula_isName 16 = .ok (.iconst 0, 1) := dc_3 (by decide +kernel)
theorem d_Formula_isName_17 : decode b_Formula_isName 17 = .ok (.ireturn, 1) := dc_172 (by decide +kernel)
def t_Formula_isName (M : Mem) (x1 : Int) : Int := (if x1 < 18 then 0 else (if 24 < x1 then 0 else 1))
set_option maxHeartbeats 4000000 in
set_option maxRecDepth 100000 in
theorem c_Formula_isName (l : Launch) {b n : Nat} {C : CT} (hlo : 191 ≤ n) (M : Mem) (x1 : Int) (hx1 : InR x1) (res : Int) (hT : t_Formula_isName M x1 = res) : CM l b C n 0 y_Formula_isName b_Formula_isName 1 (some .boolean) [vI x1] M (QZ b C n M res) := by
  refine CM.of (lo := 191) (ow := "WardFalls$Formula") (by decide) rfl (Nat.le_of_ble_eq_true rfl) hlo (fun p e s m below meth c F hlk hr hS ls hl => ?_)
  have hl : lv_has ls 1 [(0, vI x1)] := hl
  unfold t_Formula_isName at hT
  refine lv_iload_n F.hx F.hb d_Formula_isName_0 rfl (lv_at hl 0 rfl) ?_
  refine r_bipush F.hx F.hb d_Formula_isName_1 rfl ?_
  refine r_icmp_lt (tgt := 16) F.hx F.hb hx1 (inr_c rfl) d_Formula_isName_3 (by decide) (fun c1 => ?_) (fun c1 => ?_)
  · replace hT := (if_pos c1).symm.trans hT
    refine r_iconst F.hx F.hb d_Formula_isName_16 ?_
    subst hT
    exact r_zret F hlk hr hS (Or.inl rfl) d_Formula_isName_17
  · replace hT := (if_neg c1).symm.trans hT
    refine lv_iload_n F.hx F.hb d_Formula_isName_6 rfl (lv_at hl 0 rfl) ?_
    refine r_bipush F.hx F.hb d_Formula_isName_7 rfl ?_
    refine r_icmp_gt (tgt := 16) F.hx F.hb hx1 (inr_c rfl) d_Formula_isName_9 (by decide) (fun c2 => ?_) (fun c2 => ?_)
    · replace hT := (if_pos c2).symm.trans hT
      refine r_iconst F.hx F.hb d_Formula_isName_16 ?_
      subst hT
      exact r_zret F hlk hr hS (Or.inl rfl) d_Formula_isName_17
    · replace hT := (if_neg c2).symm.trans hT
      refine r_iconst F.hx F.hb d_Formula_isName_12 ?_
      refine lv_goto (tgt := 17) F.hx F.hb d_Formula_isName_13 (by decide) ?_
      subst hT
      exact r_zret F hlk hr hS (Or.inr rfl) d_Formula_isName_17
theorem wn_Formula_readPart_0 : ∀ i, i < 96 → bA b_Formula_readPart (0 + i) = wB [27, 16, 41, 160, 0, 54, 42, 180, 0, 39, 16, 8, 161, 0, 5, 5, 172, 42, 89, 180, 0, 39, 4, 96, 181, 0, 39, 42, 89, 180, 0, 42, 4, 42, 180, 0, 39, 120, 2, 130, 126, 181, 0, 42, 42, 4, 181, 0, 48, 42, 16, 41, 182, 0, 73, 3, 172, 27, 16, 17, 160, 0, 14, 42, 180, 0, 48, 153, 0, 7, 4, 167, 0, 4, 3, 54, 4, 21, 4, 154, 0, 18, 27, 16, 31, 159, 0, 12, 27, 184, 0, 76, 154, 0, 5, 4] i := wB_of (by decide +kernel)
theorem d_Formula_readPart_0 : decode b_Formula_readPart 0 = .ok (.iload_n 1, 1) := dc_27 (q0_win (r := 0) wn_Formula_readPart_0 (by decide +kernel))
theorem d_Formula_readPart_1 : decode b_Formula_readPart 1 = .ok (.bipush 41, 2) := dc_16 (qS1_win (r := 1) wn_Formula_readPart_0 (by decide +kernel))
theorem d_Formula_readPart_3 : decode b_Formula_readPart 3 = .ok (.if_icmp .ne 54, 3) := dc_160 (qS2_win (r := 3) wn_Formula_readPart_0 (by decide +kernel))
theorem d_Formula_readPart_6 : decode b_Formula_readPart 6 = .ok (.aload_n 0, 1) := dc_42 (q0_win (r := 6) wn_Formula_readPart_0 (by decide +kernel))
theorem d_Formula_readPart_7 : decode b_Formula_readPart 7 = .ok (.getfield 39, 3) := dc_180 (qU2_win (r := 7) wn_Formula_readPart_0 (by decide +kernel))
theorem d_Formula_readPart_10 : decode b_Formula_readPart 10 = .ok (.bipush 8, 2) := dc_16 (qS1_win (r := 10) wn_Formula_readPart_0 (by decide +kernel))
theorem d_Formula_readPart_12 : decode b_Formula_readPart 12 = .ok (.if_icmp .lt 5, 3) := dc_161 (qS2_win (r := 12) wn_Formula_readPart_0 (by decide +kernel))
theorem d_Formula_readPart_15 : decode b_Formula_readPart 15 = .ok (.iconst 2, 1) := dc_5 (q0_win (r := 15) wn_Formula_readPart_0 (by decide +kernel))
theorem d_Formula_readPart_16 : decode b_Formula_readPart 16 = .ok (.ireturn, 1) := dc_172 (q0_win (r := 16) wn_Formula_readPart_0 (by decide +kernel))
theorem d_Formula_readPart_17 : decode b_Formula_readPart 17 = .ok (.aload_n 0, 1) := dc_42 (q0_win (r := 17) wn_Formula_readPart_0 (by decide +kernel))
theorem d_Formula_readPart_18 : decode b_Formula_readPart 18 = .ok (.dup, 1) := dc_89 (q0_win (r := 18) wn_Formula_readPart_0 (by decide +kernel))
theorem d_Formula_readPart_19 : decode b_Formula_readPart 19 = .ok (.getfield 39, 3) := dc_180 (qU2_win (r := 19) wn_Formula_readPart_0 (by decide +kernel))
theorem d_Formula_readPart_22 : decode b_Formula_readPart 22 = .ok (.iconst 1, 1) := dc_4 (q0_win (r := 22) wn_Formula_readPart_0 (by decide +kernel))
theorem d_Formula_readPart_23 : decode b_Formula_readPart 23 = .ok (.iadd, 1) := dc_96 (q0_win (r := 23) wn_Formula_readPart_0 (by decide +kernel))
theorem d_Formula_readPart_24 : decode b_Formula_readPart 24 = .ok (.putfield 39, 3) := dc_181 (qU2_win (r := 24) wn_Formula_readPart_0 (by decide +kernel))
theorem d_Formula_readPart_27 : decode b_Formula_readPart 27 = .ok (.aload_n 0, 1) := dc_42 (q0_win (r := 27) wn_Formula_readPart_0 (by decide +kernel))
theorem d_Formula_readPart_28 : decode b_Formula_readPart 28 = .ok (.dup, 1) := dc_89 (q0_win (r := 28) wn_Formula_readPart_0 (by decide +kernel))
theorem d_Formula_readPart_29 : decode b_Formula_readPart 29 = .ok (.getfield 42, 3) := dc_180 (qU2_win (r := 29) wn_Formula_readPart_0 (by decide +kernel))
theorem d_Formula_readPart_32 : decode b_Formula_readPart 32 = .ok (.iconst 1, 1) := dc_4 (q0_win (r := 32) wn_Formula_readPart_0 (by decide +kernel))
theorem d_Formula_readPart_33 : decode b_Formula_readPart 33 = .ok (.aload_n 0, 1) := dc_42 (q0_win (r := 33) wn_Formula_readPart_0 (by decide +kernel))
theorem d_Formula_readPart_34 : decode b_Formula_readPart 34 = .ok (.getfield 39, 3) := dc_180 (qU2_win (r := 34) wn_Formula_readPart_0 (by decide +kernel))
theorem d_Formula_readPart_37 : decode b_Formula_readPart 37 = .ok (.ishl, 1) := dc_120 (q0_win (r := 37) wn_Formula_readPart_0 (by decide +kernel))
theorem d_Formula_readPart_38 : decode b_Formula_readPart 38 = .ok (.iconst (-1), 1) := dc_2 (q0_win (r := 38) wn_Formula_readPart_0 (by decide +kernel))
theorem d_Formula_readPart_39 : decode b_Formula_readPart 39 = .ok (.ixor, 1) := dc_130 (q0_win (r := 39) wn_Formula_readPart_0 (by decide +kernel))
theorem d_Formula_readPart_40 : decode b_Formula_readPart 40 = .ok (.iand, 1) := dc_126 (q0_win (r := 40) wn_Formula_readPart_0 (by decide +kernel))
theorem d_Formula_readPart_41 : decode b_Formula_readPart 41 = .ok (.putfield 42, 3) := dc_181 (qU2_win (r := 41) wn_Formula_readPart_0 (by decide +kernel))
theorem d_Formula_readPart_44 : decode b_Formula_readPart 44 = .ok (.aload_n 0, 1) := dc_42 (q0_win (r := 44) wn_Formula_readPart_0 (by decide +kernel))
theorem d_Formula_readPart_45 : decode b_Formula_readPart 45 = .ok (.iconst 1, 1) := dc_4 (q0_win (r := 45) wn_Formula_readPart_0 (by decide +kernel))
theorem d_Formula_readPart_46 : decode b_Formula_readPart 46 = .ok (.putfield 48, 3) := dc_181 (qU2_win (r := 46) wn_Formula_readPart_0 (by decide +kernel))
theorem d_Formula_readPart_49 : decode b_Formula_readPart 49 = .ok (.aload_n 0, 1) := dc_42 (q0_win (r := 49) wn_Formula_readPart_0 (by decide +kernel))
theorem d_Formula_readPart_50 : decode b_Formula_readPart 50 = .ok (.bipush 41, 2) := dc_16 (qS1_win (r := 50) wn_Formula_readPart_0 (by decide +kernel))
theorem d_Formula_readPart_52 : decode b_Formula_readPart 52 = .ok (.invokevirtual 73, 3) := dc_182 (qU2_win (r := 52) wn_Formula_readPart_0 (by decide +kernel))
theorem d_Formula_readPart_55 : decode b_Formula_readPart 55 = .ok (.iconst 0, 1) := dc_3 (q0_win (r := 55) wn_Formula_readPart_0 (by decide +kernel))
theorem d_Formula_readPart_56 : decode b_Formula_readPart 56 = .ok (.ireturn, 1) := dc_172 (q0_win (r := 56) wn_Formula_readPart_0 (by decide +kernel))
theorem d_Formula_readPart_57 : decode b_Formula_readPart 57 = .ok (.iload_n 1, 1) := dc_27 (q0_win (r := 57) wn_Formula_readPart_0 (by decide +kernel))
theorem d_Formula_readPart_58 : decode b_Formula_readPart 58 = .ok (.bipush 17, 2) := dc_16 (qS1_win (r := 58) wn_Formula_readPart_0 (by decide +kernel))
theorem d_Formula_readPart_60 : decode b_Formula_readPart 60 = .ok (.if_icmp .ne 14, 3) := dc_160 (qS2_win (r := 60) wn_Formula_readPart_0 (by decide +kernel))
theorem d_Formula_readPart_63 : decode b_Formula_readPart 63 = .ok (.aload_n 0, 1) := dc_42 (q0_win (r := 63) wn_Formula_readPart_0 (by decide +kernel))
theorem d_Formula_readPart_64 : decode b_Formula_readPart 64 = .ok (.getfield 48, 3) := dc_180 (qU2_win (r := 64) wn_Formula_readPart_0 (by decide +kernel))
theorem d_Formula_readPart_67 : decode b_Formula_readPart 67 = .ok (.ifCond .eq 7, 3) := dc_153 (qS2_win (r := 67) wn_Formula_readPart_0 (by decide +kernel))
theorem d_Formula_readPart_70 : decode b_Formula_readPart 70 = .ok (.iconst 1, 1) := dc_4 (q0_win (r := 70) wn_Formula_readPart_0 (by decide +kernel))
theorem d_Formula_readPart_71 : decode b_Formula_readPart 71 = .ok (.goto 4, 3) := dc_167 (qS2_win (r := 71) wn_Formula_readPart_0 (by decide +kernel))
theorem d_Formula_readPart_74 : decode b_Formula_readPart 74 = .ok (.iconst 0, 1) := dc_3 (q0_win (r := 74) wn_Formula_readPart_0 (by decide +kernel))
theorem d_Formula_readPart_75 : decode b_Formula_readPart 75 = .ok (.istore 4, 2) := dc_54 (qU1_win (r := 75) wn_Formula_readPart_0 (by decide +kernel))
theorem d_Formula_readPart_77 : decode b_Formula_readPart 77 = .ok (.iload 4, 2) := dc_21 (qU1_win (r := 77) wn_Formula_readPart_0 (by decide +kernel))
theorem d_Formula_readPart_79 : decode b_Formula_readPart 79 = .ok (.ifCond .ne 18, 3) := dc_154 (qS2_win (r := 79) wn_Formula_readPart_0 (by decide +kernel))
theorem d_Formula_readPart_82 : decode b_Formula_readPart 82 = .ok (.iload_n 1, 1) := dc_27 (q0_win (r := 82) wn_Formula_readPart_0 (by decide +kernel))
theorem d_Formula_readPart_83 : decode b_Formula_readPart 83 = .ok (.bipush 31, 2) := dc_16 (qS1_win (r := 83) wn_Formula_readPart_0 (by decide +kernel))
theorem d_Formula_readPart_85 : decode b_Formula_readPart 85 = .ok (.if_icmp .eq 12, 3) := dc_159 (qS2_win (r := 85) wn_Formula_readPart_0 (by decide +kernel))
theorem d_Formula_readPart_88 : decode b_Formula_readPart 88 = .ok (.iload_n 1, 1) := dc_27 (q0_win (r := 88) wn_Formula_readPart_0 (by decide +kernel))
theorem d_Formula_readPart_89 : decode b_Formula_readPart 89 = .ok (.invokestatic 76, 3) := dc_184 (qU2_win (r := 89) wn_Formula_readPart_0 (by decide +kernel))
theorem d_Formula_readPart_92 : decode b_Formula_readPart 92 = .ok (.ifCond .ne 5, 3) := dc_154 (qS2_win (r := 92) wn_Formula_readPart_0 (by decide +kernel))
theorem d_Formula_readPart_95 : decode b_Formula_readPart 95 = .ok (.iconst 1, 1) := dc_4 (q0_win (r := 95) wn_Formula_readPart_0 (by decide +kernel))
theorem wn_Formula_readPart_96 : ∀ i, i < 62 → bA b_Formula_readPart (96 + i) = wB [172, 45, 180, 0, 80, 16, 64, 162, 0, 16, 27, 16, 31, 160, 0, 12, 28, 17, 39, 15, 164, 0, 5, 5, 172, 45, 89, 180, 0, 80, 4, 96, 181, 0, 80, 21, 4, 153, 0, 12, 42, 16, 17, 182, 0, 73, 167, 0, 14, 42, 27, 28, 182, 0, 85, 42, 3, 181, 0, 45, 3, 172] i := wB_of (by decide +kernel)
theorem d_Formula_readPart_96 : decode b_Formula_readPart 96 = .ok (.ireturn, 1) := dc_172 (q0_win (r := 0) wn_Formula_readPart_96 (by decide +kernel))
theorem d_Formula_readPart_97 : decode b_Formula_readPart 97 = .ok (.aload_n 3, 1) := dc_45 (q0_win (r := 1) wn_Formula_readPart_96 (by decide +kernel))
theorem d_Formula_readPart_98 : decode b_Formula_readPart 98 = .ok (.getfield 80, 3) := dc_180 (qU2_win (r := 2) wn_Formula_readPart_96 (by decide +kernel))
theorem d_Formula_readPart_101 : decode b_Formula_readPart 101 = .ok (.bipush 64, 2) := dc_16 (qS1_win (r := 5) wn_Formula_readPart_96 (by decide +kernel))
theorem d_Formula_readPart_103 : decode b_Formula_readPart 103 = .ok (.if_icmp .ge 16, 3) := dc_162 (qS2_win (r := 7) wn_Formula_readPart_96 (by decide +kernel))
theorem d_Formula_readPart_106 : decode b_Formula_readPart 106 = .ok (.iload_n 1, 1) := dc_27 (q0_win (r := 10) wn_Formula_readPart_96 (by decide +kernel))
theorem d_Formula_readPart_107 : decode b_Formula_readPart 107 = .ok (.bipush 31, 2) := dc_16 (qS1_win (r := 11) wn_Formula_readPart_96 (by decide +kernel))
theorem d_Formula_readPart_109 : decode b_Formula_readPart 109 = .ok (.if_icmp .ne 12, 3) := dc_160 (qS2_win (r := 13) wn_Formula_readPart_96 (by decide +kernel))
theorem d_Formula_readPart_112 : decode b_Formula_readPart 112 = .ok (.iload_n 2, 1) := dc_28 (q0_win (r := 16) wn_Formula_readPart_96 (by decide +kernel))
theorem d_Formula_readPart_113 : decode b_Formula_readPart 113 = .ok (.sipush 9999, 3) := dc_17 (qS2_win (r := 17) wn_Formula_readPart_96 (by decide +kernel))
theorem d_Formula_readPart_116 : decode b_Formula_readPart 116 = .ok (.if_icmp .le 5, 3) := dc_164 (qS2_win (r := 20) wn_Formula_readPart_96 (by decide +kernel))
theorem d_Formula_readPart_119 : decode b_Formula_readPart 119 = .ok (.iconst 2, 1) := dc_5 (q0_win (r := 23) wn_Formula_readPart_96 (by decide +kernel))
theorem d_Formula_readPart_120 : decode b_Formula_readPart 120 = .ok (.ireturn, 1) := dc_172 (q0_win (r := 24) wn_Formula_readPart_96 (by decide +kernel))
theorem d_Formula_readPart_121 : decode b_Formula_readPart 121 = .ok (.aload_n 3, 1) := dc_45 (q0_win (r := 25) wn_Formula_readPart_96 (by decide +kernel))
theorem d_Formula_readPart_122 : decode b_Formula_readPart 122 = .ok (.dup, 1) := dc_89 (q0_win (r := 26) wn_Formula_readPart_96 (by decide +kernel))
theorem d_Formula_readPart_123 : decode b_Formula_readPart 123 = .ok (.getfield 80, 3) := dc_180 (qU2_win (r := 27) wn_Formula_readPart_96 (by decide +kernel))
theorem d_Formula_readPart_126 : decode b_Formula_readPart 126 = .ok (.iconst 1, 1) := dc_4 (q0_win (r := 30) wn_Formula_readPart_96 (by decide +kernel))
theorem d_Formula_readPart_127 : decode b_Formula_readPart 127 = .ok (.iadd, 1) := dc_96 (q0_win (r := 31) wn_Formula_readPart_96 (by decide +kernel))
theorem d_Formula_readPart_128 : decode b_Formula_readPart 128 = .ok (.putfield 80, 3) := dc_181 (qU2_win (r := 32) wn_Formula_readPart_96 (by decide +kernel))
theorem d_Formula_readPart_131 : decode b_Formula_readPart 131 = .ok (.iload 4, 2) := dc_21 (qU1_win (r := 35) wn_Formula_readPart_96 (by decide +kernel))
theorem d_Formula_readPart_133 : decode b_Formula_readPart 133 = .ok (.ifCond .eq 12, 3) := dc_153 (qS2_win (r := 37) wn_Formula_readPart_96 (by decide +kernel))
theorem d_Formula_readPart_136 : decode b_Formula_readPart 136 = .ok (.aload_n 0, 1) := dc_42 (q0_win (r := 40) wn_Formula_readPart_96 (by decide +kernel))
theorem d_Formula_readPart_137 : decode b_Formula_readPart 137 = .ok (.bipush 17, 2) := dc_16 (qS1_win (r := 41) wn_Formula_readPart_96 (by decide +kernel))
theorem d_Formula_readPart_139 : decode b_Formula_readPart 139 = .ok (.invokevirtual 73, 3) := dc_182 (qU2_win (r := 43) wn_Formula_readPart_96 (by decide +kernel))
theorem d_Formula_readPart_142 : decode b_Formula_readPart 142 = .ok (.goto 14, 3) := dc_167 (qS2_win (r := 46) wn_Formula_readPart_96 (by decide +kernel))
theorem d_Formula_readPart_145 : decode b_Formula_readPart 145 = .ok (.aload_n 0, 1) := dc_42 (q0_win (r := 49) wn_Formula_readPart_96 (by decide +kernel))
theorem d_Formula_readPart_146 : decode b_Formula_readPart 146 = .ok (.iload_n 1, 1) := dc_27 (q0_win (r := 50) wn_Formula_readPart_96 (by decide +kernel))
theorem d_Formula_readPart_147 : decode b_Formula_readPart 147 = .ok (.iload_n 2, 1) := dc_28 (q0_win (r := 51) wn_Formula_readPart_96 (by decide +kernel))
theorem d_Formula_readPart_148 : decode b_Formula_readPart 148 = .ok (.invokevirtual 85, 3) := dc_182 (qU2_win (r := 52) wn_Formula_readPart_96 (by decide +kernel))
theorem d_Formula_readPart_151 : decode b_Formula_readPart 151 = .ok (.aload_n 0, 1) := dc_42 (q0_win (r := 55) wn_Formula_readPart_96 (by decide +kernel))
theorem d_Formula_readPart_152 : decode b_Formula_readPart 152 = .ok (.iconst 0, 1) := dc_3 (q0_win (r := 56) wn_Formula_readPart_96 (by decide +kernel))
theorem d_Formula_readPart_153 : decode b_Formula_readPart 153 = .ok (.putfield 45, 3) := dc_181 (qU2_win (r := 57) wn_Formula_readPart_96 (by decide +kernel))
theorem d_Formula_readPart_156 : decode b_Formula_readPart 156 = .ok (.iconst 0, 1) := dc_3 (q0_win (r := 60) wn_Formula_readPart_96 (by decide +kernel))
theorem d_Formula_readPart_157 : decode b_Formula_readPart 157 = .ok (.ireturn, 1) := dc_172 (q0_win (r := 61) wn_Formula_readPart_96 (by decide +kernel))
def t_Formula_readPart_L121 (k0 : Nat) (x1 : Int) (x2 : Int) (k3 : Nat)  (M : Mem) (v4_ : Int) : Mem × Int := (qlet (setI M k3 16 (w32 ((M.1 k3 16) + 1))) fun M25 => (if v4_ = 0 then (qlet (t_Formula_add M25 k0 x1 x2) fun q27 => (qlet (setI q27 k0 10 0) fun M29 => (M29, 0))) else (qlet (t_Formula_await M25 k0 17) fun q30 => (q30, 0))))
def t_Formula_readPart_L97 (k0 : Nat) (x1 : Int) (x2 : Int) (k3 : Nat)  (M : Mem) (v4_ : Int) : Mem × Int := (if 64 ≤ (M.1 k3 16) then (M, 2) else (if x1 = 31 then (if x2 ≤ 9999 then (t_Formula_readPart_L121 k0 x1 x2 k3 M v4_) else (M, 2)) else (t_Formula_readPart_L121 k0 x1 x2 k3 M v4_)))
def t_Formula_readPart_L75 (k0 : Nat) (x1 : Int) (x2 : Int) (k3 : Nat)  (M : Mem) (v4_ : Int) : Mem × Int := (if v4_ = 0 then (if x1 = 31 then (t_Formula_readPart_L97 k0 x1 x2 k3 M v4_) else (qlet (t_Formula_isName M x1) fun q17 => (if q17 = 0 then (M, 1) else (t_Formula_readPart_L97 k0 x1 x2 k3 M v4_)))) else (t_Formula_readPart_L97 k0 x1 x2 k3 M v4_))
def t_Formula_readPart_L74 (k0 : Nat) (x1 : Int) (x2 : Int) (k3 : Nat)  (M : Mem)  : Mem × Int := (t_Formula_readPart_L75 k0 x1 x2 k3 M 0)
def t_Formula_readPart (M : Mem) (k0 : Nat) (x1 : Int) (x2 : Int) (k3 : Nat) : Mem × Int := (if x1 = 41 then (if (M.1 k0 8) < 8 then (qlet (setI M k0 8 (w32 ((M.1 k0 8) + 1))) fun M8 => (qlet (setI M8 k0 9 (q_and (M8.1 k0 9) (q_xor (q_shl 1 (M8.1 k0 8)) (-1)))) fun M11 => (qlet (setI M11 k0 11 1) fun M12 => (qlet (t_Formula_await M12 k0 41) fun q13 => (q13, 0))))) else (M, 2)) else (if x1 = 17 then (if (M.1 k0 11) = 0 then (t_Formula_readPart_L74 k0 x1 x2 k3 M) else (t_Formula_readPart_L75 k0 x1 x2 k3 M 1)) else (t_Formula_readPart_L74 k0 x1 x2 k3 M)))
set_option maxHeartbeats 4000000 in
set_option maxRecDepth 100000 in
theorem k_Formula_readPart_L121 (l : Launch) {p : Program} {e : Env} {s : State} {m : MethodId} {below : List Frame} {meth : Method} {c : Code} {b n : Nat} {C : CT} (hlo : 191 ≤ n) (k0 : Nat) (x1 : Int) (x2 : Int) (k3 : Nat) (hk0 : isFormula k0) (hx1 : InR x1) (hx2 : InR x2) (hk3 : isTown k3) (F : Cx b p m c b_Formula_readPart 5 s ([.ref (b + k0), vI x1, vI x2, .ref (b + k3)] : List Value).toArray "WardFalls$Formula" C n 191) (hlk : meth.locks = false) (hr : meth.sig.returnType = some .int) {res : Mem × Int} (M : Mem) (v4_ : Int) (hv4_ : v4_ = 0 ∨ v4_ = 1) (H : Heap) (locs : List Loc) (ls : Array Slot) (hS : St b C n M s H locs) (hl : lv_has ls 5 [(0, .ref (b + k0)), (1, vI x1), (2, vI x2), (3, .ref (b + k3)), (4, vI v4_)]) (hT : t_Formula_readPart_L121 k0 x1 x2 k3 M v4_ = res) : W p l e (headSpec (wsM y_Formula_readPart b_Formula_readPart 5 (some .int)) (rmD 2)).room s m ([.ref (b + k0), vI x1, vI x2, .ref (b + k3)] : List Value).toArray below meth c H locs 0 0 (MQ below (QI b C n res.1 res.2) ([.ref (b + k0), vI x1, vI x2, .ref (b + k3)] : List Value).toArray s 0 0 (frb b)) (F0 m 121 ls []) := by
  unfold t_Formula_readPart_L121 at hT
  refine lv_aload_n F.hx F.hb d_Formula_readPart_121 rfl (lv_at hl 3 rfl) ?_
  refine lv_dup F.hx F.hb d_Formula_readPart_122 rfl ?_
  refine r_get (v := vI (M.1 k3 16)) (N := 20) (T := T11) (j := 16) F hS (Town_lt hk3) (Town_sh hk3) (Town_N hk3) rfl (Nat.le_of_ble_eq_true rfl) ing11 mw_146 (fv_int rfl) d_Formula_readPart_123 ?_
  have i24 := hS.rng k3 16
  refine r_iconst F.hx F.hb d_Formula_readPart_126 ?_
  refine r_iadd F.hx F.hb d_Formula_readPart_127 ?_
  refine r_putI (N := 20) (T := T11) (j := 16) F hS (Town_lt hk3) (Town_sh hk3) (Town_N hk3) rfl (Nat.le_of_ble_eq_true rfl) ing11 tyok11 nm11 rfl rfl rfl rfl rfl (Town_dyn hk3 _) mw_146 (inr_w32 _) d_Formula_readPart_128 (fun H locs hS => ?_)
  obtain ⟨M25, eM25⟩ : ∃ q, q = (setI M k3 16 (w32 ((M.1 k3 16) + 1))) := ⟨_, rfl⟩
  replace hS : St b C n M25 s H locs := by rw [eM25]; exact hS
  replace hT := qlet_eq hT eM25
  refine lv_iload F.hx F.hb d_Formula_readPart_131 (lv_at hl 4 rfl) ?_
  refine r_if_eq (tgt := 145) F.hx F.hb (inr_z hv4_) d_Formula_readPart_133 (by decide) (fun c26 => ?_) (fun c26 => ?_)
  · replace hT := (if_pos c26).symm.trans hT
    refine lv_aload_n F.hx F.hb d_Formula_readPart_145 rfl (lv_at hl 0 rfl) ?_
    refine lv_iload_n F.hx F.hb d_Formula_readPart_146 rfl (lv_at hl 1 rfl) ?_
    refine lv_iload_n F.hx F.hb d_Formula_readPart_147 rfl (lv_at hl 2 rfl) ?_
    obtain ⟨q27, hq27⟩ : ∃ q, q = (t_Formula_add M25 k0 x1 x2) := ⟨_, rfl⟩
    replace hT := qlet_eq hT hq27
    refine r_backV F hS (r_runV (k := k0) (N := 12) (T := T3) (As := [vI x1, vI x2]) F hS (Formula_lt hk0) (Formula_sh hk0) rfl (c_Formula_add l F.2.2.1 M25 k0 x1 x2 hk0 hx1 hx2 _ hq27.symm) gs_Formula_85 hd_Formula_add ⟨Nat.le_of_ble_eq_true rfl, Nat.le_of_ble_eq_true rfl⟩ rfl hl.1 (Nat.le_of_ble_eq_true rfl) ⟨Nat.zero_le _, Nat.zero_le _⟩ rfl d_Formula_readPart_148) (fun H locs hS => ?_)
    refine lv_aload_n F.hx F.hb d_Formula_readPart_151 rfl (lv_at hl 0 rfl) ?_
    refine r_iconst F.hx F.hb d_Formula_readPart_152 ?_
    refine r_putI (N := 12) (T := T3) (j := 10) F hS (Formula_lt hk0) (Formula_sh hk0) (Formula_N hk0) rfl (Nat.le_of_ble_eq_true rfl) ing3 tyok3 nm3 rfl rfl (nar_z (Or.inl rfl)) (fit_z (Or.inl rfl)) rfl (Formula_dyn hk0 _) mw_59 (inr_c rfl) d_Formula_readPart_153 (fun H locs hS => ?_)
    obtain ⟨M29, eM29⟩ : ∃ q, q = (setI q27 k0 10 0) := ⟨_, rfl⟩
    replace hS : St b C n M29 s H locs := by rw [eM29]; exact hS
    replace hT := qlet_eq hT eM29
    refine r_iconst F.hx F.hb d_Formula_readPart_156 ?_
    subst hT
    exact r_iret F hlk hr rfl hS (inr_c rfl) d_Formula_readPart_157
  · replace hT := (if_neg c26).symm.trans hT
    refine lv_aload_n F.hx F.hb d_Formula_readPart_136 rfl (lv_at hl 0 rfl) ?_
    refine r_bipush F.hx F.hb d_Formula_readPart_137 rfl ?_
    obtain ⟨q30, hq30⟩ : ∃ q, q = (t_Formula_await M25 k0 17) := ⟨_, rfl⟩
    replace hT := qlet_eq hT hq30
    refine r_backV F hS (r_runV (k := k0) (N := 12) (T := T3) (As := [vI 17]) F hS (Formula_lt hk0) (Formula_sh hk0) rfl (c_Formula_await l F.2.2.1 M25 k0 17 hk0 (inr_c rfl) _ hq30.symm) gs_Formula_73 hd_Formula_await ⟨Nat.le_of_ble_eq_true rfl, Nat.le_of_ble_eq_true rfl⟩ rfl hl.1 (Nat.le_of_ble_eq_true rfl) ⟨Nat.zero_le _, Nat.zero_le _⟩ rfl d_Formula_readPart_139) (fun H locs hS => ?_)
    refine lv_goto (tgt := 156) F.hx F.hb d_Formula_readPart_142 (by decide) ?_
    refine r_iconst F.hx F.hb d_Formula_readPart_156 ?_
    subst hT
    exact r_iret F hlk hr rfl hS (inr_c rfl) d_Formula_readPart_157
set_option maxHeartbeats 4000000 in
set_option maxRecDepth 100000 in
theorem k_Formula_readPart_L97 (l : Launch) {p : Program} {e : Env} {s : State} {m : MethodId} {below : List Frame} {meth : Method} {c : Code} {b n : Nat} {C : CT} (hlo : 191 ≤ n) (k0 : Nat) (x1 : Int) (x2 : Int) (k3 : Nat) (hk0 : isFormula k0) (hx1 : InR x1) (hx2 : InR x2) (hk3 : isTown k3) (F : Cx b p m c b_Formula_readPart 5 s ([.ref (b + k0), vI x1, vI x2, .ref (b + k3)] : List Value).toArray "WardFalls$Formula" C n 191) (hlk : meth.locks = false) (hr : meth.sig.returnType = some .int) {res : Mem × Int} (M : Mem) (v4_ : Int) (hv4_ : v4_ = 0 ∨ v4_ = 1) (H : Heap) (locs : List Loc) (ls : Array Slot) (hS : St b C n M s H locs) (hl : lv_has ls 5 [(0, .ref (b + k0)), (1, vI x1), (2, vI x2), (3, .ref (b + k3)), (4, vI v4_)]) (hT : t_Formula_readPart_L97 k0 x1 x2 k3 M v4_ = res) : W p l e (headSpec (wsM y_Formula_readPart b_Formula_readPart 5 (some .int)) (rmD 2)).room s m ([.ref (b + k0), vI x1, vI x2, .ref (b + k3)] : List Value).toArray below meth c H locs 0 0 (MQ below (QI b C n res.1 res.2) ([.ref (b + k0), vI x1, vI x2, .ref (b + k3)] : List Value).toArray s 0 0 (frb b)) (F0 m 97 ls []) := by
  unfold t_Formula_readPart_L97 at hT
  refine lv_aload_n F.hx F.hb d_Formula_readPart_97 rfl (lv_at hl 3 rfl) ?_
  refine r_get (v := vI (M.1 k3 16)) (N := 20) (T := T11) (j := 16) F hS (Town_lt hk3) (Town_sh hk3) (Town_N hk3) rfl (Nat.le_of_ble_eq_true rfl) ing11 mw_146 (fv_int rfl) d_Formula_readPart_98 ?_
  have i20 := hS.rng k3 16
  refine r_bipush F.hx F.hb d_Formula_readPart_101 rfl ?_
  refine r_icmp_ge (tgt := 119) F.hx F.hb i20 (inr_c rfl) d_Formula_readPart_103 (by decide) (fun c21 => ?_) (fun c21 => ?_)
  · replace hT := (if_pos c21).symm.trans hT
    refine r_iconst F.hx F.hb d_Formula_readPart_119 ?_
    subst hT
    exact r_iret F hlk hr rfl hS (inr_c rfl) d_Formula_readPart_120
  · replace hT := (if_neg c21).symm.trans hT
    refine lv_iload_n F.hx F.hb d_Formula_readPart_106 rfl (lv_at hl 1 rfl) ?_
    refine r_bipush F.hx F.hb d_Formula_readPart_107 rfl ?_
    refine r_icmp_ne (tgt := 121) F.hx F.hb hx1 (inr_c rfl) d_Formula_readPart_109 (by decide) (fun c22 => ?_) (fun c22 => ?_)
    · replace hT := (if_neg c22).symm.trans hT
      exact k_Formula_readPart_L121 l hlo k0 x1 x2 k3 hk0 hx1 hx2 hk3 F hlk hr M v4_ hv4_ _ _ _ hS (lv_sub hl [0, 1, 2, 3, 4] rfl) hT
    · replace hT := (if_pos c22).symm.trans hT
      refine lv_iload_n F.hx F.hb d_Formula_readPart_112 rfl (lv_at hl 2 rfl) ?_
      refine r_sipush F.hx F.hb d_Formula_readPart_113 rfl ?_
      refine r_icmp_le (tgt := 121) F.hx F.hb hx2 (inr_c rfl) d_Formula_readPart_116 (by decide) (fun c23 => ?_) (fun c23 => ?_)
      · replace hT := (if_pos c23).symm.trans hT
        exact k_Formula_readPart_L121 l hlo k0 x1 x2 k3 hk0 hx1 hx2 hk3 F hlk hr M v4_ hv4_ _ _ _ hS (lv_sub hl [0, 1, 2, 3, 4] rfl) hT
      · replace hT := (if_neg c23).symm.trans hT
        refine r_iconst F.hx F.hb d_Formula_readPart_119 ?_
        subst hT
        exact r_iret F hlk hr rfl hS (inr_c rfl) d_Formula_readPart_120
set_option maxHeartbeats 4000000 in
set_option maxRecDepth 100000 in
theorem k_Formula_readPart_L75 (l : Launch) {p : Program} {e : Env} {s : State} {m : MethodId} {below : List Frame} {meth : Method} {c : Code} {b n : Nat} {C : CT} (hlo : 191 ≤ n) (k0 : Nat) (x1 : Int) (x2 : Int) (k3 : Nat) (hk0 : isFormula k0) (hx1 : InR x1) (hx2 : InR x2) (hk3 : isTown k3) (F : Cx b p m c b_Formula_readPart 5 s ([.ref (b + k0), vI x1, vI x2, .ref (b + k3)] : List Value).toArray "WardFalls$Formula" C n 191) (hlk : meth.locks = false) (hr : meth.sig.returnType = some .int) {res : Mem × Int} (M : Mem) (v4_ : Int) (hv4_ : v4_ = 0 ∨ v4_ = 1) (H : Heap) (locs : List Loc) (ls : Array Slot) (hS : St b C n M s H locs) (hl : lv_has ls 5 [(0, .ref (b + k0)), (1, vI x1), (2, vI x2), (3, .ref (b + k3))]) (hT : t_Formula_readPart_L75 k0 x1 x2 k3 M v4_ = res) : W p l e (headSpec (wsM y_Formula_readPart b_Formula_readPart 5 (some .int)) (rmD 2)).room s m ([.ref (b + k0), vI x1, vI x2, .ref (b + k3)] : List Value).toArray below meth c H locs 0 0 (MQ below (QI b C n res.1 res.2) ([.ref (b + k0), vI x1, vI x2, .ref (b + k3)] : List Value).toArray s 0 0 (frb b)) (F0 m 75 ls [vI v4_]) := by
  unfold t_Formula_readPart_L75 at hT
  refine lv_istore (lv' := [(4, vI v4_), (0, .ref (b + k0)), (1, vI x1), (2, vI x2), (3, .ref (b + k3))]) F.hx F.hb d_Formula_readPart_75 hl (Nat.le_of_ble_eq_true rfl) rfl (fun ls hl => ?_)
  refine lv_iload F.hx F.hb d_Formula_readPart_77 (lv_at hl 0 rfl) ?_
  refine r_if_ne (tgt := 97) F.hx F.hb (inr_z hv4_) d_Formula_readPart_79 (by decide) (fun c15 => ?_) (fun c15 => ?_)
  · replace hT := (if_neg c15).symm.trans hT
    exact k_Formula_readPart_L97 l hlo k0 x1 x2 k3 hk0 hx1 hx2 hk3 F hlk hr M v4_ hv4_ _ _ _ hS (lv_sub hl [1, 2, 3, 4, 0] rfl) hT
  · replace hT := (if_pos c15).symm.trans hT
    refine lv_iload_n F.hx F.hb d_Formula_readPart_82 rfl (lv_at hl 2 rfl) ?_
    refine r_bipush F.hx F.hb d_Formula_readPart_83 rfl ?_
    refine r_icmp_eq (tgt := 97) F.hx F.hb hx1 (inr_c rfl) d_Formula_readPart_85 (by decide) (fun c16 => ?_) (fun c16 => ?_)
    · replace hT := (if_pos c16).symm.trans hT
      exact k_Formula_readPart_L97 l hlo k0 x1 x2 k3 hk0 hx1 hx2 hk3 F hlk hr M v4_ hv4_ _ _ _ hS (lv_sub hl [1, 2, 3, 4, 0] rfl) hT
    · replace hT := (if_neg c16).symm.trans hT
      refine lv_iload_n F.hx F.hb d_Formula_readPart_88 rfl (lv_at hl 2 rfl) ?_
      obtain ⟨q17, hq17⟩ : ∃ q, q = (t_Formula_isName M x1) := ⟨_, rfl⟩
      replace hT := qlet_eq hT hq17
      refine r_backZ F hS (r_runS (As := [vI x1]) F hS (c_Formula_isName l F.2.2.1 M x1 hx1 _ hq17.symm) gs_Formula_76 hd_Formula_isName ⟨Nat.le_of_ble_eq_true rfl, Nat.le_of_ble_eq_true rfl⟩ rfl hl.1 (Nat.le_of_ble_eq_true rfl) ⟨Nat.zero_le _, Nat.zero_le _⟩ rfl d_Formula_readPart_89) (fun H locs hS h18 => ?_)
      refine r_if_ne (tgt := 97) F.hx F.hb (inr_z h18) d_Formula_readPart_92 (by decide) (fun c19 => ?_) (fun c19 => ?_)
      · replace hT := (if_neg c19).symm.trans hT
        exact k_Formula_readPart_L97 l hlo k0 x1 x2 k3 hk0 hx1 hx2 hk3 F hlk hr M v4_ hv4_ _ _ _ hS (lv_sub hl [1, 2, 3, 4, 0] rfl) hT
      · replace hT := (if_pos c19).symm.trans hT
        refine r_iconst F.hx F.hb d_Formula_readPart_95 ?_
        subst hT
        exact r_iret F hlk hr rfl hS (inr_c rfl) d_Formula_readPart_96
set_option maxHeartbeats 4000000 in
set_option maxRecDepth 100000 in
theorem k_Formula_readPart_L74 (l : Launch) {p : Program} {e : Env} {s : State} {m : MethodId} {below : List Frame} {meth : Method} {c : Code} {b n : Nat} {C : CT} (hlo : 191 ≤ n) (k0 : Nat) (x1 : Int) (x2 : Int) (k3 : Nat) (hk0 : isFormula k0) (hx1 : InR x1) (hx2 : InR x2) (hk3 : isTown k3) (F : Cx b p m c b_Formula_readPart 5 s ([.ref (b + k0), vI x1, vI x2, .ref (b + k3)] : List Value).toArray "WardFalls$Formula" C n 191) (hlk : meth.locks = false) (hr : meth.sig.returnType = some .int) {res : Mem × Int} (M : Mem)  (H : Heap) (locs : List Loc) (ls : Array Slot) (hS : St b C n M s H locs) (hl : lv_has ls 5 [(0, .ref (b + k0)), (1, vI x1), (2, vI x2), (3, .ref (b + k3))]) (hT : t_Formula_readPart_L74 k0 x1 x2 k3 M = res) : W p l e (headSpec (wsM y_Formula_readPart b_Formula_readPart 5 (some .int)) (rmD 2)).room s m ([.ref (b + k0), vI x1, vI x2, .ref (b + k3)] : List Value).toArray below meth c H locs 0 0 (MQ below (QI b C n res.1 res.2) ([.ref (b + k0), vI x1, vI x2, .ref (b + k3)] : List Value).toArray s 0 0 (frb b)) (F0 m 74 ls []) := by
  unfold t_Formula_readPart_L74 at hT
  refine r_iconst F.hx F.hb d_Formula_readPart_74 ?_
  exact k_Formula_readPart_L75 l hlo k0 x1 x2 k3 hk0 hx1 hx2 hk3 F hlk hr M 0 (Or.inl rfl) _ _ _ hS (lv_sub hl [0, 1, 2, 3] rfl) hT
set_option maxHeartbeats 4000000 in
set_option maxRecDepth 100000 in
theorem c_Formula_readPart (l : Launch) {b n : Nat} {C : CT} (hlo : 191 ≤ n) (M : Mem) (k0 : Nat) (x1 : Int) (x2 : Int) (k3 : Nat) (hk0 : isFormula k0) (hx1 : InR x1) (hx2 : InR x2) (hk3 : isTown k3) (res : Mem × Int) (hT : t_Formula_readPart M k0 x1 x2 k3 = res) : CM l b C n 2 y_Formula_readPart b_Formula_readPart 5 (some .int) [.ref (b + k0), vI x1, vI x2, .ref (b + k3)] M (QI b C n res.1 res.2) := by
  refine CM.of (lo := 191) (ow := "WardFalls$Formula") (by decide) rfl (Nat.le_of_ble_eq_true rfl) hlo (fun p e s m below meth c F hlk hr hS ls hl => ?_)
  have hl : lv_has ls 5 [(0, .ref (b + k0)), (1, vI x1), (2, vI x2), (3, .ref (b + k3))] := hl
  unfold t_Formula_readPart at hT
  refine lv_iload_n F.hx F.hb d_Formula_readPart_0 rfl (lv_at hl 1 rfl) ?_
  refine r_bipush F.hx F.hb d_Formula_readPart_1 rfl ?_
  refine r_icmp_ne (tgt := 57) F.hx F.hb hx1 (inr_c rfl) d_Formula_readPart_3 (by decide) (fun c1 => ?_) (fun c1 => ?_)
  · replace hT := (if_neg c1).symm.trans hT
    refine lv_iload_n F.hx F.hb d_Formula_readPart_57 rfl (lv_at hl 1 rfl) ?_
    refine r_bipush F.hx F.hb d_Formula_readPart_58 rfl ?_
    refine r_icmp_ne (tgt := 74) F.hx F.hb hx1 (inr_c rfl) d_Formula_readPart_60 (by decide) (fun c2 => ?_) (fun c2 => ?_)
    · replace hT := (if_neg c2).symm.trans hT
      exact k_Formula_readPart_L74 l hlo k0 x1 x2 k3 hk0 hx1 hx2 hk3 F hlk hr M _ _ _ hS (lv_sub hl [0, 1, 2, 3] rfl) hT
    · replace hT := (if_pos c2).symm.trans hT
      refine lv_aload_n F.hx F.hb d_Formula_readPart_63 rfl (lv_at hl 0 rfl) ?_
      refine r_get (v := vI (M.1 k0 11)) (N := 12) (T := T3) (j := 11) F hS (Formula_lt hk0) (Formula_sh hk0) (Formula_N hk0) rfl (Nat.le_of_ble_eq_true rfl) ing3 mw_60 (fv_int rfl) d_Formula_readPart_64 ?_
      have i3 := hS.rng k0 11
      refine r_if_eq (tgt := 74) F.hx F.hb i3 d_Formula_readPart_67 (by decide) (fun c4 => ?_) (fun c4 => ?_)
      · replace hT := (if_pos c4).symm.trans hT
        exact k_Formula_readPart_L74 l hlo k0 x1 x2 k3 hk0 hx1 hx2 hk3 F hlk hr M _ _ _ hS (lv_sub hl [0, 1, 2, 3] rfl) hT
      · replace hT := (if_neg c4).symm.trans hT
        refine r_iconst F.hx F.hb d_Formula_readPart_70 ?_
        refine lv_goto (tgt := 75) F.hx F.hb d_Formula_readPart_71 (by decide) ?_
        exact k_Formula_readPart_L75 l hlo k0 x1 x2 k3 hk0 hx1 hx2 hk3 F hlk hr M 1 (Or.inr rfl) _ _ _ hS (lv_sub hl [0, 1, 2, 3] rfl) hT
  · replace hT := (if_pos c1).symm.trans hT
    refine lv_aload_n F.hx F.hb d_Formula_readPart_6 rfl (lv_at hl 0 rfl) ?_
    refine r_get (v := vI (M.1 k0 8)) (N := 12) (T := T3) (j := 8) F hS (Formula_lt hk0) (Formula_sh hk0) (Formula_N hk0) rfl (Nat.le_of_ble_eq_true rfl) ing3 mw_57 (fv_int rfl) d_Formula_readPart_7 ?_
    have i5 := hS.rng k0 8
    refine r_bipush F.hx F.hb d_Formula_readPart_10 rfl ?_
    refine r_icmp_lt (tgt := 17) F.hx F.hb i5 (inr_c rfl) d_Formula_readPart_12 (by decide) (fun c6 => ?_) (fun c6 => ?_)
    · replace hT := (if_pos c6).symm.trans hT
      refine lv_aload_n F.hx F.hb d_Formula_readPart_17 rfl (lv_at hl 0 rfl) ?_
      refine lv_dup F.hx F.hb d_Formula_readPart_18 rfl ?_
      refine r_get (v := vI (M.1 k0 8)) (N := 12) (T := T3) (j := 8) F hS (Formula_lt hk0) (Formula_sh hk0) (Formula_N hk0) rfl (Nat.le_of_ble_eq_true rfl) ing3 mw_57 (fv_int rfl) d_Formula_readPart_19 ?_
      have i7 := hS.rng k0 8
      refine r_iconst F.hx F.hb d_Formula_readPart_22 ?_
      refine r_iadd F.hx F.hb d_Formula_readPart_23 ?_
      refine r_putI (N := 12) (T := T3) (j := 8) F hS (Formula_lt hk0) (Formula_sh hk0) (Formula_N hk0) rfl (Nat.le_of_ble_eq_true rfl) ing3 tyok3 nm3 rfl rfl rfl rfl rfl (Formula_dyn hk0 _) mw_57 (inr_w32 _) d_Formula_readPart_24 (fun H locs hS => ?_)
      obtain ⟨M8, eM8⟩ : ∃ q, q = (setI M k0 8 (w32 ((M.1 k0 8) + 1))) := ⟨_, rfl⟩
      replace hS : St b C n M8 s H locs := by rw [eM8]; exact hS
      replace hT := qlet_eq hT eM8
      refine lv_aload_n F.hx F.hb d_Formula_readPart_27 rfl (lv_at hl 0 rfl) ?_
      refine lv_dup F.hx F.hb d_Formula_readPart_28 rfl ?_
      refine r_get (v := vI (M8.1 k0 9)) (N := 12) (T := T3) (j := 9) F hS (Formula_lt hk0) (Formula_sh hk0) (Formula_N hk0) rfl (Nat.le_of_ble_eq_true rfl) ing3 mw_58 (fv_int rfl) d_Formula_readPart_29 ?_
      have i9 := hS.rng k0 9
      refine r_iconst F.hx F.hb d_Formula_readPart_32 ?_
      refine lv_aload_n F.hx F.hb d_Formula_readPart_33 rfl (lv_at hl 0 rfl) ?_
      refine r_get (v := vI (M8.1 k0 8)) (N := 12) (T := T3) (j := 8) F hS (Formula_lt hk0) (Formula_sh hk0) (Formula_N hk0) rfl (Nat.le_of_ble_eq_true rfl) ing3 mw_57 (fv_int rfl) d_Formula_readPart_34 ?_
      have i10 := hS.rng k0 8
      refine r_ishl F.hx F.hb d_Formula_readPart_37 ?_
      refine r_iconst F.hx F.hb d_Formula_readPart_38 ?_
      refine r_ixor F.hx F.hb d_Formula_readPart_39 ?_
      refine r_iand F.hx F.hb d_Formula_readPart_40 ?_
      refine r_putI (N := 12) (T := T3) (j := 9) F hS (Formula_lt hk0) (Formula_sh hk0) (Formula_N hk0) rfl (Nat.le_of_ble_eq_true rfl) ing3 tyok3 nm3 rfl rfl rfl rfl rfl (Formula_dyn hk0 _) mw_58 (q_inr_toInt _) d_Formula_readPart_41 (fun H locs hS => ?_)
      obtain ⟨M11, eM11⟩ : ∃ q, q = (setI M8 k0 9 (q_and (M8.1 k0 9) (q_xor (q_shl 1 (M8.1 k0 8)) (-1)))) := ⟨_, rfl⟩
      replace hS : St b C n M11 s H locs := by rw [eM11]; exact hS
      replace hT := qlet_eq hT eM11
      refine lv_aload_n F.hx F.hb d_Formula_readPart_44 rfl (lv_at hl 0 rfl) ?_
      refine r_iconst F.hx F.hb d_Formula_readPart_45 ?_
      refine r_putI (N := 12) (T := T3) (j := 11) F hS (Formula_lt hk0) (Formula_sh hk0) (Formula_N hk0) rfl (Nat.le_of_ble_eq_true rfl) ing3 tyok3 nm3 rfl rfl (nar_z (Or.inr rfl)) (fit_z (Or.inr rfl)) rfl (Formula_dyn hk0 _) mw_60 (inr_c rfl) d_Formula_readPart_46 (fun H locs hS => ?_)
      obtain ⟨M12, eM12⟩ : ∃ q, q = (setI M11 k0 11 1) := ⟨_, rfl⟩
      replace hS : St b C n M12 s H locs := by rw [eM12]; exact hS
      replace hT := qlet_eq hT eM12
      refine lv_aload_n F.hx F.hb d_Formula_readPart_49 rfl (lv_at hl 0 rfl) ?_
      refine r_bipush F.hx F.hb d_Formula_readPart_50 rfl ?_
      obtain ⟨q13, hq13⟩ : ∃ q, q = (t_Formula_await M12 k0 41) := ⟨_, rfl⟩
      replace hT := qlet_eq hT hq13
      refine r_backV F hS (r_runV (k := k0) (N := 12) (T := T3) (As := [vI 41]) F hS (Formula_lt hk0) (Formula_sh hk0) rfl (c_Formula_await l F.2.2.1 M12 k0 41 hk0 (inr_c rfl) _ hq13.symm) gs_Formula_73 hd_Formula_await ⟨Nat.le_of_ble_eq_true rfl, Nat.le_of_ble_eq_true rfl⟩ rfl hl.1 (Nat.le_of_ble_eq_true rfl) ⟨Nat.zero_le _, Nat.zero_le _⟩ rfl d_Formula_readPart_52) (fun H locs hS => ?_)
      refine r_iconst F.hx F.hb d_Formula_readPart_55 ?_
      subst hT
      exact r_iret F hlk hr rfl hS (inr_c rfl) d_Formula_readPart_56
    · replace hT := (if_neg c6).symm.trans hT
      refine r_iconst F.hx F.hb d_Formula_readPart_15 ?_
      subst hT
      exact r_iret F hlk hr rfl hS (inr_c rfl) d_Formula_readPart_16
theorem wn_Formula_readSign_0 : ∀ i, i < 96 → bA b_Formula_readSign (0 + i) = wB [27, 16, 42, 160, 0, 39, 42, 180, 0, 39, 154, 0, 5, 4, 172, 42, 4, 182, 0, 58, 42, 89, 180, 0, 36, 4, 100, 181, 0, 36, 42, 89, 180, 0, 39, 4, 100, 181, 0, 39, 3, 172, 27, 184, 0, 89, 62, 29, 7, 160, 0, 7, 4, 167, 0, 4, 3, 54, 4, 29, 153, 0, 24, 21, 4, 153, 0, 21, 42, 180, 0, 42, 133, 42, 180, 0, 39, 184, 0, 93, 4, 160, 0, 5, 4, 172, 44, 180, 0, 80, 16, 64, 161, 0, 5, 5] i := wB_of (by decide +kernel)
theorem d_Formula_readSign_0 : decode b_Formula_readSign 0 = .ok (.iload_n 1, 1) := dc_27 (q0_win (r := 0) wn_Formula_readSign_0 (by decide +kernel))
theorem d_Formula_readSign_1 : decode b_Formula_readSign 1 = .ok (.bipush 42, 2) := dc_16 (qS1_win (r := 1) wn_Formula_readSign_0 (by decide +kernel))
theorem d_Formula_readSign_3 : decode b_Formula_readSign 3 = .ok (.if_icmp .ne 39, 3) := dc_160 (qS2_win (r := 3) wn_Formula_readSign_0 (by decide +kernel))
theorem d_Formula_readSign_6 : decode b_Formula_readSign 6 = .ok (.aload_n 0, 1) := dc_42 (q0_win (r := 6) wn_Formula_readSign_0 (by decide +kernel))
theorem d_Formula_readSign_7 : decode b_Formula_readSign 7 = .ok (.getfield 39, 3) := dc_180 (qU2_win (r := 7) wn_Formula_readSign_0 (by decide +kernel))
theorem d_Formula_readSign_10 : decode b_Formula_readSign 10 = .ok (.ifCond .ne 5, 3) := dc_154 (qS2_win (r := 10) wn_Formula_readSign_0 (by decide +kernel))
theorem d_Formula_readSign_13 : decode b_Formula_readSign 13 = .ok (.iconst 1, 1) := dc_4 (q0_win (r := 13) wn_Formula_readSign_0 (by decide +kernel))
theorem d_Formula_readSign_14 : decode b_Formula_readSign 14 = .ok (.ireturn, 1) := dc_172 (q0_win (r := 14) wn_Formula_readSign_0 (by decide +kernel))
theorem d_Formula_readSign_15 : decode b_Formula_readSign 15 = .ok (.aload_n 0, 1) := dc_42 (q0_win (r := 15) wn_Formula_readSign_0 (by decide +kernel))
theorem d_Formula_readSign_16 : decode b_Formula_readSign 16 = .ok (.iconst 1, 1) := dc_4 (q0_win (r := 16) wn_Formula_readSign_0 (by decide +kernel))
theorem d_Formula_readSign_17 : decode b_Formula_readSign 17 = .ok (.invokevirtual 58, 3) := dc_182 (qU2_win (r := 17) wn_Formula_readSign_0 (by decide +kernel))
theorem d_Formula_readSign_20 : decode b_Formula_readSign 20 = .ok (.aload_n 0, 1) := dc_42 (q0_win (r := 20) wn_Formula_readSign_0 (by decide +kernel))
theorem d_Formula_readSign_21 : decode b_Formula_readSign 21 = .ok (.dup, 1) := dc_89 (q0_win (r := 21) wn_Formula_readSign_0 (by decide +kernel))
theorem d_Formula_readSign_22 : decode b_Formula_readSign 22 = .ok (.getfield 36, 3) := dc_180 (qU2_win (r := 22) wn_Formula_readSign_0 (by decide +kernel))
theorem d_Formula_readSign_25 : decode b_Formula_readSign 25 = .ok (.iconst 1, 1) := dc_4 (q0_win (r := 25) wn_Formula_readSign_0 (by decide +kernel))
theorem d_Formula_readSign_26 : decode b_Formula_readSign 26 = .ok (.isub, 1) := dc_100 (q0_win (r := 26) wn_Formula_readSign_0 (by decide +kernel))
theorem d_Formula_readSign_27 : decode b_Formula_readSign 27 = .ok (.putfield 36, 3) := dc_181 (qU2_win (r := 27) wn_Formula_readSign_0 (by decide +kernel))
theorem d_Formula_readSign_30 : decode b_Formula_readSign 30 = .ok (.aload_n 0, 1) := dc_42 (q0_win (r := 30) wn_Formula_readSign_0 (by decide +kernel))
theorem d_Formula_readSign_31 : decode b_Formula_readSign 31 = .ok (.dup, 1) := dc_89 (q0_win (r := 31) wn_Formula_readSign_0 (by decide +kernel))
theorem d_Formula_readSign_32 : decode b_Formula_readSign 32 = .ok (.getfield 39, 3) := dc_180 (qU2_win (r := 32) wn_Formula_readSign_0 (by decide +kernel))
theorem d_Formula_readSign_35 : decode b_Formula_readSign 35 = .ok (.iconst 1, 1) := dc_4 (q0_win (r := 35) wn_Formula_readSign_0 (by decide +kernel))
theorem d_Formula_readSign_36 : decode b_Formula_readSign 36 = .ok (.isub, 1) := dc_100 (q0_win (r := 36) wn_Formula_readSign_0 (by decide +kernel))
theorem d_Formula_readSign_37 : decode b_Formula_readSign 37 = .ok (.putfield 39, 3) := dc_181 (qU2_win (r := 37) wn_Formula_readSign_0 (by decide +kernel))
theorem d_Formula_readSign_40 : decode b_Formula_readSign 40 = .ok (.iconst 0, 1) := dc_3 (q0_win (r := 40) wn_Formula_readSign_0 (by decide +kernel))
theorem d_Formula_readSign_41 : decode b_Formula_readSign 41 = .ok (.ireturn, 1) := dc_172 (q0_win (r := 41) wn_Formula_readSign_0 (by decide +kernel))
theorem d_Formula_readSign_42 : decode b_Formula_readSign 42 = .ok (.iload_n 1, 1) := dc_27 (q0_win (r := 42) wn_Formula_readSign_0 (by decide +kernel))
theorem d_Formula_readSign_43 : decode b_Formula_readSign 43 = .ok (.invokestatic 89, 3) := dc_184 (qU2_win (r := 43) wn_Formula_readSign_0 (by decide +kernel))
theorem d_Formula_readSign_46 : decode b_Formula_readSign 46 = .ok (.istore_n 3, 1) := dc_62 (q0_win (r := 46) wn_Formula_readSign_0 (by decide +kernel))
theorem d_Formula_readSign_47 : decode b_Formula_readSign 47 = .ok (.iload_n 3, 1) := dc_29 (q0_win (r := 47) wn_Formula_readSign_0 (by decide +kernel))
theorem d_Formula_readSign_48 : decode b_Formula_readSign 48 = .ok (.iconst 4, 1) := dc_7 (q0_win (r := 48) wn_Formula_readSign_0 (by decide +kernel))
theorem d_Formula_readSign_49 : decode b_Formula_readSign 49 = .ok (.if_icmp .ne 7, 3) := dc_160 (qS2_win (r := 49) wn_Formula_readSign_0 (by decide +kernel))
theorem d_Formula_readSign_52 : decode b_Formula_readSign 52 = .ok (.iconst 1, 1) := dc_4 (q0_win (r := 52) wn_Formula_readSign_0 (by decide +kernel))
theorem d_Formula_readSign_53 : decode b_Formula_readSign 53 = .ok (.goto 4, 3) := dc_167 (qS2_win (r := 53) wn_Formula_readSign_0 (by decide +kernel))
theorem d_Formula_readSign_56 : decode b_Formula_readSign 56 = .ok (.iconst 0, 1) := dc_3 (q0_win (r := 56) wn_Formula_readSign_0 (by decide +kernel))
theorem d_Formula_readSign_57 : decode b_Formula_readSign 57 = .ok (.istore 4, 2) := dc_54 (qU1_win (r := 57) wn_Formula_readSign_0 (by decide +kernel))
theorem d_Formula_readSign_59 : decode b_Formula_readSign 59 = .ok (.iload_n 3, 1) := dc_29 (q0_win (r := 59) wn_Formula_readSign_0 (by decide +kernel))
theorem d_Formula_readSign_60 : decode b_Formula_readSign 60 = .ok (.ifCond .eq 24, 3) := dc_153 (qS2_win (r := 60) wn_Formula_readSign_0 (by decide +kernel))
theorem d_Formula_readSign_63 : decode b_Formula_readSign 63 = .ok (.iload 4, 2) := dc_21 (qU1_win (r := 63) wn_Formula_readSign_0 (by decide +kernel))
theorem d_Formula_readSign_65 : decode b_Formula_readSign 65 = .ok (.ifCond .eq 21, 3) := dc_153 (qS2_win (r := 65) wn_Formula_readSign_0 (by decide +kernel))
theorem d_Formula_readSign_68 : decode b_Formula_readSign 68 = .ok (.aload_n 0, 1) := dc_42 (q0_win (r := 68) wn_Formula_readSign_0 (by decide +kernel))
theorem d_Formula_readSign_69 : decode b_Formula_readSign 69 = .ok (.getfield 42, 3) := dc_180 (qU2_win (r := 69) wn_Formula_readSign_0 (by decide +kernel))
theorem d_Formula_readSign_72 : decode b_Formula_readSign 72 = .ok (.i2l, 1) := dc_133 (q0_win (r := 72) wn_Formula_readSign_0 (by decide +kernel))
theorem d_Formula_readSign_73 : decode b_Formula_readSign 73 = .ok (.aload_n 0, 1) := dc_42 (q0_win (r := 73) wn_Formula_readSign_0 (by decide +kernel))
theorem d_Formula_readSign_74 : decode b_Formula_readSign 74 = .ok (.getfield 39, 3) := dc_180 (qU2_win (r := 74) wn_Formula_readSign_0 (by decide +kernel))
theorem d_Formula_readSign_77 : decode b_Formula_readSign 77 = .ok (.invokestatic 93, 3) := dc_184 (qU2_win (r := 77) wn_Formula_readSign_0 (by decide +kernel))
theorem d_Formula_readSign_80 : decode b_Formula_readSign 80 = .ok (.iconst 1, 1) := dc_4 (q0_win (r := 80) wn_Formula_readSign_0 (by decide +kernel))
theorem d_Formula_readSign_81 : decode b_Formula_readSign 81 = .ok (.if_icmp .ne 5, 3) := dc_160 (qS2_win (r := 81) wn_Formula_readSign_0 (by decide +kernel))
theorem d_Formula_readSign_84 : decode b_Formula_readSign 84 = .ok (.iconst 1, 1) := dc_4 (q0_win (r := 84) wn_Formula_readSign_0 (by decide +kernel))
theorem d_Formula_readSign_85 : decode b_Formula_readSign 85 = .ok (.ireturn, 1) := dc_172 (q0_win (r := 85) wn_Formula_readSign_0 (by decide +kernel))
theorem d_Formula_readSign_86 : decode b_Formula_readSign 86 = .ok (.aload_n 2, 1) := dc_44 (q0_win (r := 86) wn_Formula_readSign_0 (by decide +kernel))
theorem d_Formula_readSign_87 : decode b_Formula_readSign 87 = .ok (.getfield 80, 3) := dc_180 (qU2_win (r := 87) wn_Formula_readSign_0 (by decide +kernel))
theorem d_Formula_readSign_90 : decode b_Formula_readSign 90 = .ok (.bipush 64, 2) := dc_16 (qS1_win (r := 90) wn_Formula_readSign_0 (by decide +kernel))
theorem d_Formula_readSign_92 : decode b_Formula_readSign 92 = .ok (.if_icmp .lt 5, 3) := dc_161 (qS2_win (r := 92) wn_Formula_readSign_0 (by decide +kernel))
theorem d_Formula_readSign_95 : decode b_Formula_readSign 95 = .ok (.iconst 2, 1) := dc_5 (q0_win (r := 95) wn_Formula_readSign_0 (by decide +kernel))
theorem wn_Formula_readSign_96 : ∀ i, i < 89 → bA b_Formula_readSign (96 + i) = wB [172, 44, 89, 180, 0, 80, 4, 96, 181, 0, 80, 42, 29, 182, 0, 58, 42, 27, 182, 0, 73, 42, 4, 181, 0, 45, 42, 29, 7, 162, 0, 7, 4, 167, 0, 4, 3, 181, 0, 48, 21, 4, 153, 0, 21, 42, 89, 180, 0, 42, 4, 42, 180, 0, 39, 120, 128, 181, 0, 42, 167, 0, 27, 42, 180, 0, 48, 153, 0, 20, 42, 89, 180, 0, 42, 4, 42, 180, 0, 39, 120, 2, 130, 126, 181, 0, 42, 3, 172] i := wB_of (by decide +kernel)
theorem d_Formula_readSign_96 : decode b_Formula_readSign 96 = .ok (.ireturn, 1) := dc_172 (q0_win (r := 0) wn_Formula_readSign_96 (by decide +kernel))
theorem d_Formula_readSign_97 : decode b_Formula_readSign 97 = .ok (.aload_n 2, 1) := dc_44 (q0_win (r := 1) wn_Formula_readSign_96 (by decide +kernel))
theorem d_Formula_readSign_98 : decode b_Formula_readSign 98 = .ok (.dup, 1) := dc_89 (q0_win (r := 2) wn_Formula_readSign_96 (by decide +kernel))
theorem d_Formula_readSign_99 : decode b_Formula_readSign 99 = .ok (.getfield 80, 3) := dc_180 (qU2_win (r := 3) wn_Formula_readSign_96 (by decide +kernel))
theorem d_Formula_readSign_102 : decode b_Formula_readSign 102 = .ok (.iconst 1, 1) := dc_4 (q0_win (r := 6) wn_Formula_readSign_96 (by decide +kernel))
theorem d_Formula_readSign_103 : decode b_Formula_readSign 103 = .ok (.iadd, 1) := dc_96 (q0_win (r := 7) wn_Formula_readSign_96 (by decide +kernel))
theorem d_Formula_readSign_104 : decode b_Formula_readSign 104 = .ok (.putfield 80, 3) := dc_181 (qU2_win (r := 8) wn_Formula_readSign_96 (by decide +kernel))
theorem d_Formula_readSign_107 : decode b_Formula_readSign 107 = .ok (.aload_n 0, 1) := dc_42 (q0_win (r := 11) wn_Formula_readSign_96 (by decide +kernel))
theorem d_Formula_readSign_108 : decode b_Formula_readSign 108 = .ok (.iload_n 3, 1) := dc_29 (q0_win (r := 12) wn_Formula_readSign_96 (by decide +kernel))
theorem d_Formula_readSign_109 : decode b_Formula_readSign 109 = .ok (.invokevirtual 58, 3) := dc_182 (qU2_win (r := 13) wn_Formula_readSign_96 (by decide +kernel))
theorem d_Formula_readSign_112 : decode b_Formula_readSign 112 = .ok (.aload_n 0, 1) := dc_42 (q0_win (r := 16) wn_Formula_readSign_96 (by decide +kernel))
theorem d_Formula_readSign_113 : decode b_Formula_readSign 113 = .ok (.iload_n 1, 1) := dc_27 (q0_win (r := 17) wn_Formula_readSign_96 (by decide +kernel))
theorem d_Formula_readSign_114 : decode b_Formula_readSign 114 = .ok (.invokevirtual 73, 3) := dc_182 (qU2_win (r := 18) wn_Formula_readSign_96 (by decide +kernel))
theorem d_Formula_readSign_117 : decode b_Formula_readSign 117 = .ok (.aload_n 0, 1) := dc_42 (q0_win (r := 21) wn_Formula_readSign_96 (by decide +kernel))
theorem d_Formula_readSign_118 : decode b_Formula_readSign 118 = .ok (.iconst 1, 1) := dc_4 (q0_win (r := 22) wn_Formula_readSign_96 (by decide +kernel))
theorem d_Formula_readSign_119 : decode b_Formula_readSign 119 = .ok (.putfield 45, 3) := dc_181 (qU2_win (r := 23) wn_Formula_readSign_96 (by decide +kernel))
theorem d_Formula_readSign_122 : decode b_Formula_readSign 122 = .ok (.aload_n 0, 1) := dc_42 (q0_win (r := 26) wn_Formula_readSign_96 (by decide +kernel))
theorem d_Formula_readSign_123 : decode b_Formula_readSign 123 = .ok (.iload_n 3, 1) := dc_29 (q0_win (r := 27) wn_Formula_readSign_96 (by decide +kernel))
theorem d_Formula_readSign_124 : decode b_Formula_readSign 124 = .ok (.iconst 4, 1) := dc_7 (q0_win (r := 28) wn_Formula_readSign_96 (by decide +kernel))
theorem d_Formula_readSign_125 : decode b_Formula_readSign 125 = .ok (.if_icmp .ge 7, 3) := dc_162 (qS2_win (r := 29) wn_Formula_readSign_96 (by decide +kernel))
theorem d_Formula_readSign_128 : decode b_Formula_readSign 128 = .ok (.iconst 1, 1) := dc_4 (q0_win (r := 32) wn_Formula_readSign_96 (by decide +kernel))
theorem d_Formula_readSign_129 : decode b_Formula_readSign 129 = .ok (.goto 4, 3) := dc_167 (qS2_win (r := 33) wn_Formula_readSign_96 (by decide +kernel))
theorem d_Formula_readSign_132 : decode b_Formula_readSign 132 = .ok (.iconst 0, 1) := dc_3 (q0_win (r := 36) wn_Formula_readSign_96 (by decide +kernel))
theorem d_Formula_readSign_133 : decode b_Formula_readSign 133 = .ok (.putfield 48, 3) := dc_181 (qU2_win (r := 37) wn_Formula_readSign_96 (by decide +kernel))
theorem d_Formula_readSign_136 : decode b_Formula_readSign 136 = .ok (.iload 4, 2) := dc_21 (qU1_win (r := 40) wn_Formula_readSign_96 (by decide +kernel))
theorem d_Formula_readSign_138 : decode b_Formula_readSign 138 = .ok (.ifCond .eq 21, 3) := dc_153 (qS2_win (r := 42) wn_Formula_readSign_96 (by decide +kernel))
theorem d_Formula_readSign_141 : decode b_Formula_readSign 141 = .ok (.aload_n 0, 1) := dc_42 (q0_win (r := 45) wn_Formula_readSign_96 (by decide +kernel))
theorem d_Formula_readSign_142 : decode b_Formula_readSign 142 = .ok (.dup, 1) := dc_89 (q0_win (r := 46) wn_Formula_readSign_96 (by decide +kernel))
theorem d_Formula_readSign_143 : decode b_Formula_readSign 143 = .ok (.getfield 42, 3) := dc_180 (qU2_win (r := 47) wn_Formula_readSign_96 (by decide +kernel))
theorem d_Formula_readSign_146 : decode b_Formula_readSign 146 = .ok (.iconst 1, 1) := dc_4 (q0_win (r := 50) wn_Formula_readSign_96 (by decide +kernel))
theorem d_Formula_readSign_147 : decode b_Formula_readSign 147 = .ok (.aload_n 0, 1) := dc_42 (q0_win (r := 51) wn_Formula_readSign_96 (by decide +kernel))
theorem d_Formula_readSign_148 : decode b_Formula_readSign 148 = .ok (.getfield 39, 3) := dc_180 (qU2_win (r := 52) wn_Formula_readSign_96 (by decide +kernel))
theorem d_Formula_readSign_151 : decode b_Formula_readSign 151 = .ok (.ishl, 1) := dc_120 (q0_win (r := 55) wn_Formula_readSign_96 (by decide +kernel))
theorem d_Formula_readSign_152 : decode b_Formula_readSign 152 = .ok (.ior, 1) := dc_128 (q0_win (r := 56) wn_Formula_readSign_96 (by decide +kernel))
theorem d_Formula_readSign_153 : decode b_Formula_readSign 153 = .ok (.putfield 42, 3) := dc_181 (qU2_win (r := 57) wn_Formula_readSign_96 (by decide +kernel))
theorem d_Formula_readSign_156 : decode b_Formula_readSign 156 = .ok (.goto 27, 3) := dc_167 (qS2_win (r := 60) wn_Formula_readSign_96 (by decide +kernel))
theorem d_Formula_readSign_159 : decode b_Formula_readSign 159 = .ok (.aload_n 0, 1) := dc_42 (q0_win (r := 63) wn_Formula_readSign_96 (by decide +kernel))
theorem d_Formula_readSign_160 : decode b_Formula_readSign 160 = .ok (.getfield 48, 3) := dc_180 (qU2_win (r := 64) wn_Formula_readSign_96 (by decide +kernel))
theorem d_Formula_readSign_163 : decode b_Formula_readSign 163 = .ok (.ifCond .eq 20, 3) := dc_153 (qS2_win (r := 67) wn_Formula_readSign_96 (by decide +kernel))
theorem d_Formula_readSign_166 : decode b_Formula_readSign 166 = .ok (.aload_n 0, 1) := dc_42 (q0_win (r := 70) wn_Formula_readSign_96 (by decide +kernel))
theorem d_Formula_readSign_167 : decode b_Formula_readSign 167 = .ok (.dup, 1) := dc_89 (q0_win (r := 71) wn_Formula_readSign_96 (by decide +kernel))
theorem d_Formula_readSign_168 : decode b_Formula_readSign 168 = .ok (.getfield 42, 3) := dc_180 (qU2_win (r := 72) wn_Formula_readSign_96 (by decide +kernel))
theorem d_Formula_readSign_171 : decode b_Formula_readSign 171 = .ok (.iconst 1, 1) := dc_4 (q0_win (r := 75) wn_Formula_readSign_96 (by decide +kernel))
theorem d_Formula_readSign_172 : decode b_Formula_readSign 172 = .ok (.aload_n 0, 1) := dc_42 (q0_win (r := 76) wn_Formula_readSign_96 (by decide +kernel))
theorem d_Formula_readSign_173 : decode b_Formula_readSign 173 = .ok (.getfield 39, 3) := dc_180 (qU2_win (r := 77) wn_Formula_readSign_96 (by decide +kernel))
theorem d_Formula_readSign_176 : decode b_Formula_readSign 176 = .ok (.ishl, 1) := dc_120 (q0_win (r := 80) wn_Formula_readSign_96 (by decide +kernel))
theorem d_Formula_readSign_177 : decode b_Formula_readSign 177 = .ok (.iconst (-1), 1) := dc_2 (q0_win (r := 81) wn_Formula_readSign_96 (by decide +kernel))
theorem d_Formula_readSign_178 : decode b_Formula_readSign 178 = .ok (.ixor, 1) := dc_130 (q0_win (r := 82) wn_Formula_readSign_96 (by decide +kernel))
theorem d_Formula_readSign_179 : decode b_Formula_readSign 179 = .ok (.iand, 1) := dc_126 (q0_win (r := 83) wn_Formula_readSign_96 (by decide +kernel))
theorem d_Formula_readSign_180 : decode b_Formula_readSign 180 = .ok (.putfield 42, 3) := dc_181 (qU2_win (r := 84) wn_Formula_readSign_96 (by decide +kernel))
theorem d_Formula_readSign_183 : decode b_Formula_readSign 183 = .ok (.iconst 0, 1) := dc_3 (q0_win (r := 87) wn_Formula_readSign_96 (by decide +kernel))
theorem d_Formula_readSign_184 : decode b_Formula_readSign 184 = .ok (.ireturn, 1) := dc_172 (q0_win (r := 88) wn_Formula_readSign_96 (by decide +kernel))
def t_Formula_readSign_L133 (k0 : Nat) (x1 : Int) (k2 : Nat)  (M : Mem) (v1_ : Int) (v3_ : Int) : Option (Mem × Int) := (qlet (setI M k0 11 v3_) fun M30 => (if v1_ = 0 then (if (M30.1 k0 11) = 0 then (some (M30, 0)) else (qlet (setI M30 k0 9 (q_and (M30.1 k0 9) (q_xor (q_shl 1 (M30.1 k0 8)) (-1)))) fun M36 => (some (M36, 0)))) else (qlet (setI M30 k0 9 (q_or (M30.1 k0 9) (q_shl 1 (M30.1 k0 8)))) fun M39 => (some (M39, 0)))))
def t_Formula_readSign_L86 (k0 : Nat) (x1 : Int) (k2 : Nat)  (M : Mem) (v3_ : Int) (v4_ : Int) : Option (Mem × Int) := (if (M.1 k2 16) < 64 then (qlet (setI M k2 16 (w32 ((M.1 k2 16) + 1))) fun M23 => (obind (t_Formula_release M23 k0 v3_) fun q24 => (qlet (t_Formula_await q24 k0 x1) fun q26 => (qlet (setI q26 k0 10 1) fun M28 => (if 4 ≤ v3_ then (t_Formula_readSign_L133 k0 x1 k2 M28 v4_ 0) else (t_Formula_readSign_L133 k0 x1 k2 M28 v4_ 1)))))) else (some (M, 2)))
def t_Formula_readSign_L57 (k0 : Nat) (x1 : Int) (k2 : Nat)  (M : Mem) (v3_ : Int) (v4_ : Int) : Option (Mem × Int) := (if v3_ = 0 then (some (M, 1)) else (if v4_ = 0 then (t_Formula_readSign_L86 k0 x1 k2 M v3_ v4_) else (qlet (t_WF_bitOf M (q_i2l (M.1 k0 9)) (M.1 k0 8)) fun q17 => (if q17 = 1 then (some (M, 1)) else (t_Formula_readSign_L86 k0 x1 k2 M v3_ v4_)))))
def t_Formula_readSign (M : Mem) (k0 : Nat) (x1 : Int) (k2 : Nat) : Option (Mem × Int) := (if x1 = 42 then (if (M.1 k0 8) = 0 then (some (M, 1)) else (obind (t_Formula_release M k0 1) fun q7 => (qlet (setI q7 k0 6 (w32 ((q7.1 k0 6) - 1))) fun M10 => (qlet (setI M10 k0 8 (w32 ((M10.1 k0 8) - 1))) fun M12 => (some (M12, 0)))))) else (qlet (t_Formula_strengthOf M x1) fun q2 => (if q2 = 4 then (t_Formula_readSign_L57 k0 x1 k2 M q2 1) else (t_Formula_readSign_L57 k0 x1 k2 M q2 0))))
set_option maxHeartbeats 4000000 in
set_option maxRecDepth 100000 in
theorem k_Formula_readSign_L133 (l : Launch) {p : Program} {e : Env} {s : State} {m : MethodId} {below : List Frame} {meth : Method} {c : Code} {b n : Nat} {C : CT} (hlo : 191 ≤ n) (k0 : Nat) (x1 : Int) (k2 : Nat) (hk0 : isFormula k0) (hx1 : InR x1) (hk2 : isTown k2) (F : Cx b p m c b_Formula_readSign 5 s ([.ref (b + k0), vI x1, .ref (b + k2)] : List Value).toArray "WardFalls$Formula" C n 191) (hlk : meth.locks = false) (hr : meth.sig.returnType = some .int) {res : Mem × Int} (M : Mem) (v1_ : Int) (hv1_ : v1_ = 0 ∨ v1_ = 1) (v3_ : Int) (hv3_ : v3_ = 0 ∨ v3_ = 1) (H : Heap) (locs : List Loc) (ls : Array Slot) (hS : St b C n M s H locs) (hl : lv_has ls 5 [(0, .ref (b + k0)), (4, vI v1_)]) (hT : t_Formula_readSign_L133 k0 x1 k2 M v1_ v3_ = some res) : W p l e (headSpec (wsM y_Formula_readSign b_Formula_readSign 5 (some .int)) (rmD 3)).room s m ([.ref (b + k0), vI x1, .ref (b + k2)] : List Value).toArray below meth c H locs 0 0 (MQ below (QI b C n res.1 res.2) ([.ref (b + k0), vI x1, .ref (b + k2)] : List Value).toArray s 0 0 (frb b)) (F0 m 133 ls [vI v3_, .ref (b + k0)]) := by
  unfold t_Formula_readSign_L133 at hT
  refine r_putI (N := 12) (T := T3) (j := 11) F hS (Formula_lt hk0) (Formula_sh hk0) (Formula_N hk0) rfl (Nat.le_of_ble_eq_true rfl) ing3 tyok3 nm3 rfl rfl (nar_z hv3_) (fit_z hv3_) rfl (Formula_dyn hk0 _) mw_60 (inr_z hv3_) d_Formula_readSign_133 (fun H locs hS => ?_)
  obtain ⟨M30, eM30⟩ : ∃ q, q = (setI M k0 11 v3_) := ⟨_, rfl⟩
  replace hS : St b C n M30 s H locs := by rw [eM30]; exact hS
  replace hT := qlet_eq hT eM30
  refine lv_iload F.hx F.hb d_Formula_readSign_136 (lv_at hl 1 rfl) ?_
  refine r_if_eq (tgt := 159) F.hx F.hb (inr_z hv1_) d_Formula_readSign_138 (by decide) (fun c31 => ?_) (fun c31 => ?_)
  · replace hT := (if_pos c31).symm.trans hT
    refine lv_aload_n F.hx F.hb d_Formula_readSign_159 rfl (lv_at hl 0 rfl) ?_
    refine r_get (v := vI (M30.1 k0 11)) (N := 12) (T := T3) (j := 11) F hS (Formula_lt hk0) (Formula_sh hk0) (Formula_N hk0) rfl (Nat.le_of_ble_eq_true rfl) ing3 mw_60 (fv_int rfl) d_Formula_readSign_160 ?_
    have i32 := hS.rng k0 11
    refine r_if_eq (tgt := 183) F.hx F.hb i32 d_Formula_readSign_163 (by decide) (fun c33 => ?_) (fun c33 => ?_)
    · replace hT := (if_pos c33).symm.trans hT
      refine r_iconst F.hx F.hb d_Formula_readSign_183 ?_
      cases hT
      exact r_iret F hlk hr rfl hS (inr_c rfl) d_Formula_readSign_184
    · replace hT := (if_neg c33).symm.trans hT
      refine lv_aload_n F.hx F.hb d_Formula_readSign_166 rfl (lv_at hl 0 rfl) ?_
      refine lv_dup F.hx F.hb d_Formula_readSign_167 rfl ?_
      refine r_get (v := vI (M30.1 k0 9)) (N := 12) (T := T3) (j := 9) F hS (Formula_lt hk0) (Formula_sh hk0) (Formula_N hk0) rfl (Nat.le_of_ble_eq_true rfl) ing3 mw_58 (fv_int rfl) d_Formula_readSign_168 ?_
      have i34 := hS.rng k0 9
      refine r_iconst F.hx F.hb d_Formula_readSign_171 ?_
      refine lv_aload_n F.hx F.hb d_Formula_readSign_172 rfl (lv_at hl 0 rfl) ?_
      refine r_get (v := vI (M30.1 k0 8)) (N := 12) (T := T3) (j := 8) F hS (Formula_lt hk0) (Formula_sh hk0) (Formula_N hk0) rfl (Nat.le_of_ble_eq_true rfl) ing3 mw_57 (fv_int rfl) d_Formula_readSign_173 ?_
      have i35 := hS.rng k0 8
      refine r_ishl F.hx F.hb d_Formula_readSign_176 ?_
      refine r_iconst F.hx F.hb d_Formula_readSign_177 ?_
      refine r_ixor F.hx F.hb d_Formula_readSign_178 ?_
      refine r_iand F.hx F.hb d_Formula_readSign_179 ?_
      refine r_putI (N := 12) (T := T3) (j := 9) F hS (Formula_lt hk0) (Formula_sh hk0) (Formula_N hk0) rfl (Nat.le_of_ble_eq_true rfl) ing3 tyok3 nm3 rfl rfl rfl rfl rfl (Formula_dyn hk0 _) mw_58 (q_inr_toInt _) d_Formula_readSign_180 (fun H locs hS => ?_)
      obtain ⟨M36, eM36⟩ : ∃ q, q = (setI M30 k0 9 (q_and (M30.1 k0 9) (q_xor (q_shl 1 (M30.1 k0 8)) (-1)))) := ⟨_, rfl⟩
      replace hS : St b C n M36 s H locs := by rw [eM36]; exact hS
      replace hT := qlet_eq hT eM36
      refine r_iconst F.hx F.hb d_Formula_readSign_183 ?_
      cases hT
      exact r_iret F hlk hr rfl hS (inr_c rfl) d_Formula_readSign_184
  · replace hT := (if_neg c31).symm.trans hT
    refine lv_aload_n F.hx F.hb d_Formula_readSign_141 rfl (lv_at hl 0 rfl) ?_
    refine lv_dup F.hx F.hb d_Formula_readSign_142 rfl ?_
    refine r_get (v := vI (M30.1 k0 9)) (N := 12) (T := T3) (j := 9) F hS (Formula_lt hk0) (Formula_sh hk0) (Formula_N hk0) rfl (Nat.le_of_ble_eq_true rfl) ing3 mw_58 (fv_int rfl) d_Formula_readSign_143 ?_
    have i37 := hS.rng k0 9
    refine r_iconst F.hx F.hb d_Formula_readSign_146 ?_
    refine lv_aload_n F.hx F.hb d_Formula_readSign_147 rfl (lv_at hl 0 rfl) ?_
    refine r_get (v := vI (M30.1 k0 8)) (N := 12) (T := T3) (j := 8) F hS (Formula_lt hk0) (Formula_sh hk0) (Formula_N hk0) rfl (Nat.le_of_ble_eq_true rfl) ing3 mw_57 (fv_int rfl) d_Formula_readSign_148 ?_
    have i38 := hS.rng k0 8
    refine r_ishl F.hx F.hb d_Formula_readSign_151 ?_
    refine r_ior F.hx F.hb d_Formula_readSign_152 ?_
    refine r_putI (N := 12) (T := T3) (j := 9) F hS (Formula_lt hk0) (Formula_sh hk0) (Formula_N hk0) rfl (Nat.le_of_ble_eq_true rfl) ing3 tyok3 nm3 rfl rfl rfl rfl rfl (Formula_dyn hk0 _) mw_58 (q_inr_toInt _) d_Formula_readSign_153 (fun H locs hS => ?_)
    obtain ⟨M39, eM39⟩ : ∃ q, q = (setI M30 k0 9 (q_or (M30.1 k0 9) (q_shl 1 (M30.1 k0 8)))) := ⟨_, rfl⟩
    replace hS : St b C n M39 s H locs := by rw [eM39]; exact hS
    replace hT := qlet_eq hT eM39
    refine lv_goto (tgt := 183) F.hx F.hb d_Formula_readSign_156 (by decide) ?_
    refine r_iconst F.hx F.hb d_Formula_readSign_183 ?_
    cases hT
    exact r_iret F hlk hr rfl hS (inr_c rfl) d_Formula_readSign_184
set_option maxHeartbeats 4000000 in
set_option maxRecDepth 100000 in
theorem k_Formula_readSign_L86 (l : Launch) {p : Program} {e : Env} {s : State} {m : MethodId} {below : List Frame} {meth : Method} {c : Code} {b n : Nat} {C : CT} (hlo : 191 ≤ n) (k0 : Nat) (x1 : Int) (k2 : Nat) (hk0 : isFormula k0) (hx1 : InR x1) (hk2 : isTown k2) (F : Cx b p m c b_Formula_readSign 5 s ([.ref (b + k0), vI x1, .ref (b + k2)] : List Value).toArray "WardFalls$Formula" C n 191) (hlk : meth.locks = false) (hr : meth.sig.returnType = some .int) {res : Mem × Int} (M : Mem) (v3_ : Int) (hv3_ : InR v3_) (v4_ : Int) (hv4_ : v4_ = 0 ∨ v4_ = 1) (H : Heap) (locs : List Loc) (ls : Array Slot) (hS : St b C n M s H locs) (hl : lv_has ls 5 [(0, .ref (b + k0)), (1, vI x1), (2, .ref (b + k2)), (3, vI v3_), (4, vI v4_)]) (hT : t_Formula_readSign_L86 k0 x1 k2 M v3_ v4_ = some res) : W p l e (headSpec (wsM y_Formula_readSign b_Formula_readSign 5 (some .int)) (rmD 3)).room s m ([.ref (b + k0), vI x1, .ref (b + k2)] : List Value).toArray below meth c H locs 0 0 (MQ below (QI b C n res.1 res.2) ([.ref (b + k0), vI x1, .ref (b + k2)] : List Value).toArray s 0 0 (frb b)) (F0 m 86 ls []) := by
  unfold t_Formula_readSign_L86 at hT
  refine lv_aload_n F.hx F.hb d_Formula_readSign_86 rfl (lv_at hl 2 rfl) ?_
  refine r_get (v := vI (M.1 k2 16)) (N := 20) (T := T11) (j := 16) F hS (Town_lt hk2) (Town_sh hk2) (Town_N hk2) rfl (Nat.le_of_ble_eq_true rfl) ing11 mw_146 (fv_int rfl) d_Formula_readSign_87 ?_
  have i20 := hS.rng k2 16
  refine r_bipush F.hx F.hb d_Formula_readSign_90 rfl ?_
  refine r_icmp_lt (tgt := 97) F.hx F.hb i20 (inr_c rfl) d_Formula_readSign_92 (by decide) (fun c21 => ?_) (fun c21 => ?_)
  · replace hT := (if_pos c21).symm.trans hT
    refine lv_aload_n F.hx F.hb d_Formula_readSign_97 rfl (lv_at hl 2 rfl) ?_
    refine lv_dup F.hx F.hb d_Formula_readSign_98 rfl ?_
    refine r_get (v := vI (M.1 k2 16)) (N := 20) (T := T11) (j := 16) F hS (Town_lt hk2) (Town_sh hk2) (Town_N hk2) rfl (Nat.le_of_ble_eq_true rfl) ing11 mw_146 (fv_int rfl) d_Formula_readSign_99 ?_
    have i22 := hS.rng k2 16
    refine r_iconst F.hx F.hb d_Formula_readSign_102 ?_
    refine r_iadd F.hx F.hb d_Formula_readSign_103 ?_
    refine r_putI (N := 20) (T := T11) (j := 16) F hS (Town_lt hk2) (Town_sh hk2) (Town_N hk2) rfl (Nat.le_of_ble_eq_true rfl) ing11 tyok11 nm11 rfl rfl rfl rfl rfl (Town_dyn hk2 _) mw_146 (inr_w32 _) d_Formula_readSign_104 (fun H locs hS => ?_)
    obtain ⟨M23, eM23⟩ : ∃ q, q = (setI M k2 16 (w32 ((M.1 k2 16) + 1))) := ⟨_, rfl⟩
    replace hS : St b C n M23 s H locs := by rw [eM23]; exact hS
    replace hT := qlet_eq hT eM23
    refine lv_aload_n F.hx F.hb d_Formula_readSign_107 rfl (lv_at hl 0 rfl) ?_
    refine lv_iload_n F.hx F.hb d_Formula_readSign_108 rfl (lv_at hl 3 rfl) ?_
    obtain ⟨q24, hq24, hT⟩ := q_obind hT
    refine r_backV F hS (r_runV (k := k0) (N := 12) (T := T3) (As := [vI v3_]) F hS (Formula_lt hk0) (Formula_sh hk0) rfl (c_Formula_release l F.2.2.1 M23 k0 v3_ hk0 hv3_ _ hq24) gs_Formula_58 hd_Formula_release ⟨Nat.le_of_ble_eq_true rfl, Nat.le_of_ble_eq_true rfl⟩ rfl hl.1 (Nat.le_of_ble_eq_true rfl) ⟨Nat.zero_le _, Nat.zero_le _⟩ rfl d_Formula_readSign_109) (fun H locs hS => ?_)
    refine lv_aload_n F.hx F.hb d_Formula_readSign_112 rfl (lv_at hl 0 rfl) ?_
    refine lv_iload_n F.hx F.hb d_Formula_readSign_113 rfl (lv_at hl 1 rfl) ?_
    obtain ⟨q26, hq26⟩ : ∃ q, q = (t_Formula_await q24 k0 x1) := ⟨_, rfl⟩
    replace hT := qlet_eq hT hq26
    refine r_backV F hS (r_runV (k := k0) (N := 12) (T := T3) (As := [vI x1]) F hS (Formula_lt hk0) (Formula_sh hk0) rfl (c_Formula_await l F.2.2.1 q24 k0 x1 hk0 hx1 _ hq26.symm) gs_Formula_73 hd_Formula_await ⟨Nat.le_of_ble_eq_true rfl, Nat.le_of_ble_eq_true rfl⟩ rfl hl.1 (Nat.le_of_ble_eq_true rfl) ⟨Nat.zero_le _, Nat.zero_le _⟩ rfl d_Formula_readSign_114) (fun H locs hS => ?_)
    refine lv_aload_n F.hx F.hb d_Formula_readSign_117 rfl (lv_at hl 0 rfl) ?_
    refine r_iconst F.hx F.hb d_Formula_readSign_118 ?_
    refine r_putI (N := 12) (T := T3) (j := 10) F hS (Formula_lt hk0) (Formula_sh hk0) (Formula_N hk0) rfl (Nat.le_of_ble_eq_true rfl) ing3 tyok3 nm3 rfl rfl (nar_z (Or.inr rfl)) (fit_z (Or.inr rfl)) rfl (Formula_dyn hk0 _) mw_59 (inr_c rfl) d_Formula_readSign_119 (fun H locs hS => ?_)
    obtain ⟨M28, eM28⟩ : ∃ q, q = (setI q26 k0 10 1) := ⟨_, rfl⟩
    replace hS : St b C n M28 s H locs := by rw [eM28]; exact hS
    replace hT := qlet_eq hT eM28
    refine lv_aload_n F.hx F.hb d_Formula_readSign_122 rfl (lv_at hl 0 rfl) ?_
    refine lv_iload_n F.hx F.hb d_Formula_readSign_123 rfl (lv_at hl 3 rfl) ?_
    refine r_iconst F.hx F.hb d_Formula_readSign_124 ?_
    refine r_icmp_ge (tgt := 132) F.hx F.hb hv3_ (inr_c rfl) d_Formula_readSign_125 (by decide) (fun c29 => ?_) (fun c29 => ?_)
    · replace hT := (if_pos c29).symm.trans hT
      refine r_iconst F.hx F.hb d_Formula_readSign_132 ?_
      exact k_Formula_readSign_L133 l hlo k0 x1 k2 hk0 hx1 hk2 F hlk hr M28 v4_ hv4_ 0 (Or.inl rfl) _ _ _ hS (lv_sub hl [0, 4] rfl) hT
    · replace hT := (if_neg c29).symm.trans hT
      refine r_iconst F.hx F.hb d_Formula_readSign_128 ?_
      refine lv_goto (tgt := 133) F.hx F.hb d_Formula_readSign_129 (by decide) ?_
      exact k_Formula_readSign_L133 l hlo k0 x1 k2 hk0 hx1 hk2 F hlk hr M28 v4_ hv4_ 1 (Or.inr rfl) _ _ _ hS (lv_sub hl [0, 4] rfl) hT
  · replace hT := (if_neg c21).symm.trans hT
    refine r_iconst F.hx F.hb d_Formula_readSign_95 ?_
    cases hT
    exact r_iret F hlk hr rfl hS (inr_c rfl) d_Formula_readSign_96
set_option maxHeartbeats 4000000 in
set_option maxRecDepth 100000 in
theorem k_Formula_readSign_L57 (l : Launch) {p : Program} {e : Env} {s : State} {m : MethodId} {below : List Frame} {meth : Method} {c : Code} {b n : Nat} {C : CT} (hlo : 191 ≤ n) (k0 : Nat) (x1 : Int) (k2 : Nat) (hk0 : isFormula k0) (hx1 : InR x1) (hk2 : isTown k2) (F : Cx b p m c b_Formula_readSign 5 s ([.ref (b + k0), vI x1, .ref (b + k2)] : List Value).toArray "WardFalls$Formula" C n 191) (hlk : meth.locks = false) (hr : meth.sig.returnType = some .int) {res : Mem × Int} (M : Mem) (v3_ : Int) (hv3_ : InR v3_) (v4_ : Int) (hv4_ : v4_ = 0 ∨ v4_ = 1) (H : Heap) (locs : List Loc) (ls : Array Slot) (hS : St b C n M s H locs) (hl : lv_has ls 5 [(0, .ref (b + k0)), (1, vI x1), (2, .ref (b + k2)), (3, vI v3_)]) (hT : t_Formula_readSign_L57 k0 x1 k2 M v3_ v4_ = some res) : W p l e (headSpec (wsM y_Formula_readSign b_Formula_readSign 5 (some .int)) (rmD 3)).room s m ([.ref (b + k0), vI x1, .ref (b + k2)] : List Value).toArray below meth c H locs 0 0 (MQ below (QI b C n res.1 res.2) ([.ref (b + k0), vI x1, .ref (b + k2)] : List Value).toArray s 0 0 (frb b)) (F0 m 57 ls [vI v4_]) := by
  unfold t_Formula_readSign_L57 at hT
  refine lv_istore (lv' := [(4, vI v4_), (0, .ref (b + k0)), (1, vI x1), (2, .ref (b + k2)), (3, vI v3_)]) F.hx F.hb d_Formula_readSign_57 hl (Nat.le_of_ble_eq_true rfl) rfl (fun ls hl => ?_)
  refine lv_iload_n F.hx F.hb d_Formula_readSign_59 rfl (lv_at hl 4 rfl) ?_
  refine r_if_eq (tgt := 84) F.hx F.hb hv3_ d_Formula_readSign_60 (by decide) (fun c13 => ?_) (fun c13 => ?_)
  · replace hT := (if_pos c13).symm.trans hT
    refine r_iconst F.hx F.hb d_Formula_readSign_84 ?_
    cases hT
    exact r_iret F hlk hr rfl hS (inr_c rfl) d_Formula_readSign_85
  · replace hT := (if_neg c13).symm.trans hT
    refine lv_iload F.hx F.hb d_Formula_readSign_63 (lv_at hl 0 rfl) ?_
    refine r_if_eq (tgt := 86) F.hx F.hb (inr_z hv4_) d_Formula_readSign_65 (by decide) (fun c14 => ?_) (fun c14 => ?_)
    · replace hT := (if_pos c14).symm.trans hT
      exact k_Formula_readSign_L86 l hlo k0 x1 k2 hk0 hx1 hk2 F hlk hr M v3_ hv3_ v4_ hv4_ _ _ _ hS (lv_sub hl [1, 2, 3, 4, 0] rfl) hT
    · replace hT := (if_neg c14).symm.trans hT
      refine lv_aload_n F.hx F.hb d_Formula_readSign_68 rfl (lv_at hl 1 rfl) ?_
      refine r_get (v := vI (M.1 k0 9)) (N := 12) (T := T3) (j := 9) F hS (Formula_lt hk0) (Formula_sh hk0) (Formula_N hk0) rfl (Nat.le_of_ble_eq_true rfl) ing3 mw_58 (fv_int rfl) d_Formula_readSign_69 ?_
      have i15 := hS.rng k0 9
      refine r_i2l F.hx F.hb d_Formula_readSign_72 ?_
      refine lv_aload_n F.hx F.hb d_Formula_readSign_73 rfl (lv_at hl 1 rfl) ?_
      refine r_get (v := vI (M.1 k0 8)) (N := 12) (T := T3) (j := 8) F hS (Formula_lt hk0) (Formula_sh hk0) (Formula_N hk0) rfl (Nat.le_of_ble_eq_true rfl) ing3 mw_57 (fv_int rfl) d_Formula_readSign_74 ?_
      have i16 := hS.rng k0 8
      obtain ⟨q17, hq17⟩ : ∃ q, q = (t_WF_bitOf M (q_i2l (M.1 k0 9)) (M.1 k0 8)) := ⟨_, rfl⟩
      replace hT := qlet_eq hT hq17
      refine r_backI F hS (r_runSN (As := [.long (q_i2l (M.1 k0 9)), vI (M.1 k0 8)]) F hS (c_WF_bitOf l F.2.2.1 M (q_i2l (M.1 k0 9)) (M.1 k0 8) i16 _ hq17.symm) mw_773 mw_772 mw_1 gs_Formula_93 hd_WF_bitOf ⟨Nat.le_of_ble_eq_true rfl, Nat.le_of_ble_eq_true rfl⟩ rfl hl.1 (Nat.le_of_ble_eq_true rfl) ⟨Nat.zero_le _, Nat.zero_le _⟩ rfl d_Formula_readSign_77) (fun H locs hS h18 => ?_)
      refine r_iconst F.hx F.hb d_Formula_readSign_80 ?_
      refine r_icmp_ne (tgt := 86) F.hx F.hb h18 (inr_c rfl) d_Formula_readSign_81 (by decide) (fun c19 => ?_) (fun c19 => ?_)
      · replace hT := (if_neg c19).symm.trans hT
        exact k_Formula_readSign_L86 l hlo k0 x1 k2 hk0 hx1 hk2 F hlk hr M v3_ hv3_ v4_ hv4_ _ _ _ hS (lv_sub hl [1, 2, 3, 4, 0] rfl) hT
      · replace hT := (if_pos c19).symm.trans hT
        refine r_iconst F.hx F.hb d_Formula_readSign_84 ?_
        cases hT
        exact r_iret F hlk hr rfl hS (inr_c rfl) d_Formula_readSign_85
set_option maxHeartbeats 4000000 in
set_option maxRecDepth 100000 in
theorem c_Formula_readSign (l : Launch) {b n : Nat} {C : CT} (hlo : 191 ≤ n) (M : Mem) (k0 : Nat) (x1 : Int) (k2 : Nat) (hk0 : isFormula k0) (hx1 : InR x1) (hk2 : isTown k2) (res : Mem × Int) (hT : t_Formula_readSign M k0 x1 k2 = some res) : CM l b C n 3 y_Formula_readSign b_Formula_readSign 5 (some .int) [.ref (b + k0), vI x1, .ref (b + k2)] M (QI b C n res.1 res.2) := by
  refine CM.of (lo := 191) (ow := "WardFalls$Formula") (by decide) rfl (Nat.le_of_ble_eq_true rfl) hlo (fun p e s m below meth c F hlk hr hS ls hl => ?_)
  have hl : lv_has ls 5 [(0, .ref (b + k0)), (1, vI x1), (2, .ref (b + k2))] := hl
  unfold t_Formula_readSign at hT
  refine lv_iload_n F.hx F.hb d_Formula_readSign_0 rfl (lv_at hl 1 rfl) ?_
  refine r_bipush F.hx F.hb d_Formula_readSign_1 rfl ?_
  refine r_icmp_ne (tgt := 42) F.hx F.hb hx1 (inr_c rfl) d_Formula_readSign_3 (by decide) (fun c1 => ?_) (fun c1 => ?_)
  · replace hT := (if_neg c1).symm.trans hT
    refine lv_iload_n F.hx F.hb d_Formula_readSign_42 rfl (lv_at hl 1 rfl) ?_
    obtain ⟨q2, hq2⟩ : ∃ q, q = (t_Formula_strengthOf M x1) := ⟨_, rfl⟩
    replace hT := qlet_eq hT hq2
    refine r_backI F hS (r_runS (As := [vI x1]) F hS (c_Formula_strengthOf l F.2.2.1 M x1 hx1 _ hq2.symm) gs_Formula_89 hd_Formula_strengthOf ⟨Nat.le_of_ble_eq_true rfl, Nat.le_of_ble_eq_true rfl⟩ rfl hl.1 (Nat.le_of_ble_eq_true rfl) ⟨Nat.zero_le _, Nat.zero_le _⟩ rfl d_Formula_readSign_43) (fun H locs hS h3 => ?_)
    refine lv_istore_n (lv' := [(3, vI q2), (0, .ref (b + k0)), (1, vI x1), (2, .ref (b + k2))]) F.hx F.hb d_Formula_readSign_46 rfl hl (Nat.le_of_ble_eq_true rfl) rfl (fun ls hl => ?_)
    refine lv_iload_n F.hx F.hb d_Formula_readSign_47 rfl (lv_at hl 0 rfl) ?_
    refine r_iconst F.hx F.hb d_Formula_readSign_48 ?_
    refine r_icmp_ne (tgt := 56) F.hx F.hb h3 (inr_c rfl) d_Formula_readSign_49 (by decide) (fun c4 => ?_) (fun c4 => ?_)
    · replace hT := (if_neg c4).symm.trans hT
      refine r_iconst F.hx F.hb d_Formula_readSign_56 ?_
      exact k_Formula_readSign_L57 l hlo k0 x1 k2 hk0 hx1 hk2 F hlk hr M q2 h3 0 (Or.inl rfl) _ _ _ hS (lv_sub hl [1, 2, 3, 0] rfl) hT
    · replace hT := (if_pos c4).symm.trans hT
      refine r_iconst F.hx F.hb d_Formula_readSign_52 ?_
      refine lv_goto (tgt := 57) F.hx F.hb d_Formula_readSign_53 (by decide) ?_
      exact k_Formula_readSign_L57 l hlo k0 x1 k2 hk0 hx1 hk2 F hlk hr M q2 h3 1 (Or.inr rfl) _ _ _ hS (lv_sub hl [1, 2, 3, 0] rfl) hT
  · replace hT := (if_pos c1).symm.trans hT
    refine lv_aload_n F.hx F.hb d_Formula_readSign_6 rfl (lv_at hl 0 rfl) ?_
    refine r_get (v := vI (M.1 k0 8)) (N := 12) (T := T3) (j := 8) F hS (Formula_lt hk0) (Formula_sh hk0) (Formula_N hk0) rfl (Nat.le_of_ble_eq_true rfl) ing3 mw_57 (fv_int rfl) d_Formula_readSign_7 ?_
    have i5 := hS.rng k0 8
    refine r_if_ne (tgt := 15) F.hx F.hb i5 d_Formula_readSign_10 (by decide) (fun c6 => ?_) (fun c6 => ?_)
    · replace hT := (if_neg c6).symm.trans hT
      refine lv_aload_n F.hx F.hb d_Formula_readSign_15 rfl (lv_at hl 0 rfl) ?_
      refine r_iconst F.hx F.hb d_Formula_readSign_16 ?_
      obtain ⟨q7, hq7, hT⟩ := q_obind hT
      refine r_backV F hS (r_runV (k := k0) (N := 12) (T := T3) (As := [vI 1]) F hS (Formula_lt hk0) (Formula_sh hk0) rfl (c_Formula_release l F.2.2.1 M k0 1 hk0 (inr_c rfl) _ hq7) gs_Formula_58 hd_Formula_release ⟨Nat.le_of_ble_eq_true rfl, Nat.le_of_ble_eq_true rfl⟩ rfl hl.1 (Nat.le_of_ble_eq_true rfl) ⟨Nat.zero_le _, Nat.zero_le _⟩ rfl d_Formula_readSign_17) (fun H locs hS => ?_)
      refine lv_aload_n F.hx F.hb d_Formula_readSign_20 rfl (lv_at hl 0 rfl) ?_
      refine lv_dup F.hx F.hb d_Formula_readSign_21 rfl ?_
      refine r_get (v := vI (q7.1 k0 6)) (N := 12) (T := T3) (j := 6) F hS (Formula_lt hk0) (Formula_sh hk0) (Formula_N hk0) rfl (Nat.le_of_ble_eq_true rfl) ing3 mw_54 (fv_int rfl) d_Formula_readSign_22 ?_
      have i9 := hS.rng k0 6
      refine r_iconst F.hx F.hb d_Formula_readSign_25 ?_
      refine r_isub F.hx F.hb d_Formula_readSign_26 ?_
      refine r_putI (N := 12) (T := T3) (j := 6) F hS (Formula_lt hk0) (Formula_sh hk0) (Formula_N hk0) rfl (Nat.le_of_ble_eq_true rfl) ing3 tyok3 nm3 rfl rfl rfl rfl rfl (Formula_dyn hk0 _) mw_54 (inr_w32 _) d_Formula_readSign_27 (fun H locs hS => ?_)
      obtain ⟨M10, eM10⟩ : ∃ q, q = (setI q7 k0 6 (w32 ((q7.1 k0 6) - 1))) := ⟨_, rfl⟩
      replace hS : St b C n M10 s H locs := by rw [eM10]; exact hS
      replace hT := qlet_eq hT eM10
      refine lv_aload_n F.hx F.hb d_Formula_readSign_30 rfl (lv_at hl 0 rfl) ?_
      refine lv_dup F.hx F.hb d_Formula_readSign_31 rfl ?_
      refine r_get (v := vI (M10.1 k0 8)) (N := 12) (T := T3) (j := 8) F hS (Formula_lt hk0) (Formula_sh hk0) (Formula_N hk0) rfl (Nat.le_of_ble_eq_true rfl) ing3 mw_57 (fv_int rfl) d_Formula_readSign_32 ?_
      have i11 := hS.rng k0 8
      refine r_iconst F.hx F.hb d_Formula_readSign_35 ?_
      refine r_isub F.hx F.hb d_Formula_readSign_36 ?_
      refine r_putI (N := 12) (T := T3) (j := 8) F hS (Formula_lt hk0) (Formula_sh hk0) (Formula_N hk0) rfl (Nat.le_of_ble_eq_true rfl) ing3 tyok3 nm3 rfl rfl rfl rfl rfl (Formula_dyn hk0 _) mw_57 (inr_w32 _) d_Formula_readSign_37 (fun H locs hS => ?_)
      obtain ⟨M12, eM12⟩ : ∃ q, q = (setI M10 k0 8 (w32 ((M10.1 k0 8) - 1))) := ⟨_, rfl⟩
      replace hS : St b C n M12 s H locs := by rw [eM12]; exact hS
      replace hT := qlet_eq hT eM12
      refine r_iconst F.hx F.hb d_Formula_readSign_40 ?_
      cases hT
      exact r_iret F hlk hr rfl hS (inr_c rfl) d_Formula_readSign_41
    · replace hT := (if_pos c6).symm.trans hT
      refine r_iconst F.hx F.hb d_Formula_readSign_13 ?_
      cases hT
      exact r_iret F hlk hr rfl hS (inr_c rfl) d_Formula_readSign_14
theorem wn_Formula_read_0 : ∀ i, i < 95 → bA b_Formula_read (0 + i) = wB [42, 28, 181, 0, 33, 42, 3, 181, 0, 36, 42, 3, 181, 0, 39, 42, 3, 181, 0, 42, 42, 4, 181, 0, 45, 42, 4, 181, 0, 48, 3, 54, 4, 21, 4, 17, 2, 188, 163, 0, 110, 43, 180, 0, 51, 42, 180, 0, 33, 184, 0, 54, 54, 5, 21, 5, 16, 40, 160, 0, 29, 42, 180, 0, 45, 154, 0, 22, 42, 180, 0, 39, 154, 0, 15, 42, 4, 182, 0, 58, 42, 4, 181, 0, 29, 3, 172, 42, 180, 0, 45, 153, 0, 24, 42] i := wB_of (by decide +kernel)
theorem d_Formula_read_0 : decode b_Formula_read 0 = .ok (.aload_n 0, 1) := dc_42 (q0_win (r := 0) wn_Formula_read_0 (by decide +kernel))
theorem d_Formula_read_1 : decode b_Formula_read 1 = .ok (.iload_n 2, 1) := dc_28 (q0_win (r := 1) wn_Formula_read_0 (by decide +kernel))
theorem d_Formula_read_2 : decode b_Formula_read 2 = .ok (.putfield 33, 3) := dc_181 (qU2_win (r := 2) wn_Formula_read_0 (by decide +kernel))
theorem d_Formula_read_5 : decode b_Formula_read 5 = .ok (.aload_n 0, 1) := dc_42 (q0_win (r := 5) wn_Formula_read_0 (by decide +kernel))
theorem d_Formula_read_6 : decode b_Formula_read 6 = .ok (.iconst 0, 1) := dc_3 (q0_win (r := 6) wn_Formula_read_0 (by decide +kernel))
theorem d_Formula_read_7 : decode b_Formula_read 7 = .ok (.putfield 36, 3) := dc_181 (qU2_win (r := 7) wn_Formula_read_0 (by decide +kernel))
theorem d_Formula_read_10 : decode b_Formula_read 10 = .ok (.aload_n 0, 1) := dc_42 (q0_win (r := 10) wn_Formula_read_0 (by decide +kernel))
theorem d_Formula_read_11 : decode b_Formula_read 11 = .ok (.iconst 0, 1) := dc_3 (q0_win (r := 11) wn_Formula_read_0 (by decide +kernel))
theorem d_Formula_read_12 : decode b_Formula_read 12 = .ok (.putfield 39, 3) := dc_181 (qU2_win (r := 12) wn_Formula_read_0 (by decide +kernel))
theorem d_Formula_read_15 : decode b_Formula_read 15 = .ok (.aload_n 0, 1) := dc_42 (q0_win (r := 15) wn_Formula_read_0 (by decide +kernel))
theorem d_Formula_read_16 : decode b_Formula_read 16 = .ok (.iconst 0, 1) := dc_3 (q0_win (r := 16) wn_Formula_read_0 (by decide +kernel))
theorem d_Formula_read_17 : decode b_Formula_read 17 = .ok (.putfield 42, 3) := dc_181 (qU2_win (r := 17) wn_Formula_read_0 (by decide +kernel))
theorem d_Formula_read_20 : decode b_Formula_read 20 = .ok (.aload_n 0, 1) := dc_42 (q0_win (r := 20) wn_Formula_read_0 (by decide +kernel))
theorem d_Formula_read_21 : decode b_Formula_read 21 = .ok (.iconst 1, 1) := dc_4 (q0_win (r := 21) wn_Formula_read_0 (by decide +kernel))
theorem d_Formula_read_22 : decode b_Formula_read 22 = .ok (.putfield 45, 3) := dc_181 (qU2_win (r := 22) wn_Formula_read_0 (by decide +kernel))
theorem d_Formula_read_25 : decode b_Formula_read 25 = .ok (.aload_n 0, 1) := dc_42 (q0_win (r := 25) wn_Formula_read_0 (by decide +kernel))
theorem d_Formula_read_26 : decode b_Formula_read 26 = .ok (.iconst 1, 1) := dc_4 (q0_win (r := 26) wn_Formula_read_0 (by decide +kernel))
theorem d_Formula_read_27 : decode b_Formula_read 27 = .ok (.putfield 48, 3) := dc_181 (qU2_win (r := 27) wn_Formula_read_0 (by decide +kernel))
theorem d_Formula_read_30 : decode b_Formula_read 30 = .ok (.iconst 0, 1) := dc_3 (q0_win (r := 30) wn_Formula_read_0 (by decide +kernel))
theorem d_Formula_read_31 : decode b_Formula_read 31 = .ok (.istore 4, 2) := dc_54 (qU1_win (r := 31) wn_Formula_read_0 (by decide +kernel))
theorem d_Formula_read_33 : decode b_Formula_read 33 = .ok (.iload 4, 2) := dc_21 (qU1_win (r := 33) wn_Formula_read_0 (by decide +kernel))
theorem d_Formula_read_35 : decode b_Formula_read 35 = .ok (.sipush 700, 3) := dc_17 (qS2_win (r := 35) wn_Formula_read_0 (by decide +kernel))
theorem d_Formula_read_38 : decode b_Formula_read 38 = .ok (.if_icmp .gt 110, 3) := dc_163 (qS2_win (r := 38) wn_Formula_read_0 (by decide +kernel))
theorem d_Formula_read_41 : decode b_Formula_read 41 = .ok (.aload_n 1, 1) := dc_43 (q0_win (r := 41) wn_Formula_read_0 (by decide +kernel))
theorem d_Formula_read_42 : decode b_Formula_read 42 = .ok (.getfield 51, 3) := dc_180 (qU2_win (r := 42) wn_Formula_read_0 (by decide +kernel))
theorem d_Formula_read_45 : decode b_Formula_read 45 = .ok (.aload_n 0, 1) := dc_42 (q0_win (r := 45) wn_Formula_read_0 (by decide +kernel))
theorem d_Formula_read_46 : decode b_Formula_read 46 = .ok (.getfield 33, 3) := dc_180 (qU2_win (r := 46) wn_Formula_read_0 (by decide +kernel))
theorem d_Formula_read_49 : decode b_Formula_read 49 = .ok (.invokestatic 54, 3) := dc_184 (qU2_win (r := 49) wn_Formula_read_0 (by decide +kernel))
theorem d_Formula_read_52 : decode b_Formula_read 52 = .ok (.istore 5, 2) := dc_54 (qU1_win (r := 52) wn_Formula_read_0 (by decide +kernel))
theorem d_Formula_read_54 : decode b_Formula_read 54 = .ok (.iload 5, 2) := dc_21 (qU1_win (r := 54) wn_Formula_read_0 (by decide +kernel))
theorem d_Formula_read_56 : decode b_Formula_read 56 = .ok (.bipush 40, 2) := dc_16 (qS1_win (r := 56) wn_Formula_read_0 (by decide +kernel))
theorem d_Formula_read_58 : decode b_Formula_read 58 = .ok (.if_icmp .ne 29, 3) := dc_160 (qS2_win (r := 58) wn_Formula_read_0 (by decide +kernel))
theorem d_Formula_read_61 : decode b_Formula_read 61 = .ok (.aload_n 0, 1) := dc_42 (q0_win (r := 61) wn_Formula_read_0 (by decide +kernel))
theorem d_Formula_read_62 : decode b_Formula_read 62 = .ok (.getfield 45, 3) := dc_180 (qU2_win (r := 62) wn_Formula_read_0 (by decide +kernel))
theorem d_Formula_read_65 : decode b_Formula_read 65 = .ok (.ifCond .ne 22, 3) := dc_154 (qS2_win (r := 65) wn_Formula_read_0 (by decide +kernel))
theorem d_Formula_read_68 : decode b_Formula_read 68 = .ok (.aload_n 0, 1) := dc_42 (q0_win (r := 68) wn_Formula_read_0 (by decide +kernel))
theorem d_Formula_read_69 : decode b_Formula_read 69 = .ok (.getfield 39, 3) := dc_180 (qU2_win (r := 69) wn_Formula_read_0 (by decide +kernel))
theorem d_Formula_read_72 : decode b_Formula_read 72 = .ok (.ifCond .ne 15, 3) := dc_154 (qS2_win (r := 72) wn_Formula_read_0 (by decide +kernel))
theorem d_Formula_read_75 : decode b_Formula_read 75 = .ok (.aload_n 0, 1) := dc_42 (q0_win (r := 75) wn_Formula_read_0 (by decide +kernel))
theorem d_Formula_read_76 : decode b_Formula_read 76 = .ok (.iconst 1, 1) := dc_4 (q0_win (r := 76) wn_Formula_read_0 (by decide +kernel))
theorem d_Formula_read_77 : decode b_Formula_read 77 = .ok (.invokevirtual 58, 3) := dc_182 (qU2_win (r := 77) wn_Formula_read_0 (by decide +kernel))
theorem d_Formula_read_80 : decode b_Formula_read 80 = .ok (.aload_n 0, 1) := dc_42 (q0_win (r := 80) wn_Formula_read_0 (by decide +kernel))
theorem d_Formula_read_81 : decode b_Formula_read 81 = .ok (.iconst 1, 1) := dc_4 (q0_win (r := 81) wn_Formula_read_0 (by decide +kernel))
theorem d_Formula_read_82 : decode b_Formula_read 82 = .ok (.putfield 29, 3) := dc_181 (qU2_win (r := 82) wn_Formula_read_0 (by decide +kernel))
theorem d_Formula_read_85 : decode b_Formula_read 85 = .ok (.iconst 0, 1) := dc_3 (q0_win (r := 85) wn_Formula_read_0 (by decide +kernel))
theorem d_Formula_read_86 : decode b_Formula_read 86 = .ok (.ireturn, 1) := dc_172 (q0_win (r := 86) wn_Formula_read_0 (by decide +kernel))
theorem d_Formula_read_87 : decode b_Formula_read 87 = .ok (.aload_n 0, 1) := dc_42 (q0_win (r := 87) wn_Formula_read_0 (by decide +kernel))
theorem d_Formula_read_88 : decode b_Formula_read 88 = .ok (.getfield 45, 3) := dc_180 (qU2_win (r := 88) wn_Formula_read_0 (by decide +kernel))
theorem d_Formula_read_91 : decode b_Formula_read 91 = .ok (.ifCond .eq 24, 3) := dc_153 (qS2_win (r := 91) wn_Formula_read_0 (by decide +kernel))
theorem d_Formula_read_94 : decode b_Formula_read 94 = .ok (.aload_n 0, 1) := dc_42 (q0_win (r := 94) wn_Formula_read_0 (by decide +kernel))
theorem wn_Formula_read_95 : ∀ i, i < 55 → bA b_Formula_read (95 + i) = wB [21, 5, 43, 180, 0, 62, 42, 180, 0, 33, 184, 0, 54, 45, 182, 0, 65, 167, 0, 10, 42, 21, 5, 45, 182, 0, 69, 54, 6, 21, 6, 153, 0, 6, 21, 6, 172, 42, 89, 180, 0, 33, 4, 96, 181, 0, 33, 132, 4, 1, 167, 255, 144, 4, 172] i := wB_of (by decide +kernel)
theorem d_Formula_read_95 : decode b_Formula_read 95 = .ok (.iload 5, 2) := dc_21 (qU1_win (r := 0) wn_Formula_read_95 (by decide +kernel))
theorem d_Formula_read_97 : decode b_Formula_read 97 = .ok (.aload_n 1, 1) := dc_43 (q0_win (r := 2) wn_Formula_read_95 (by decide +kernel))
theorem d_Formula_read_98 : decode b_Formula_read 98 = .ok (.getfield 62, 3) := dc_180 (qU2_win (r := 3) wn_Formula_read_95 (by decide +kernel))
theorem d_Formula_read_101 : decode b_Formula_read 101 = .ok (.aload_n 0, 1) := dc_42 (q0_win (r := 6) wn_Formula_read_95 (by decide +kernel))
theorem d_Formula_read_102 : decode b_Formula_read 102 = .ok (.getfield 33, 3) := dc_180 (qU2_win (r := 7) wn_Formula_read_95 (by decide +kernel))
theorem d_Formula_read_105 : decode b_Formula_read 105 = .ok (.invokestatic 54, 3) := dc_184 (qU2_win (r := 10) wn_Formula_read_95 (by decide +kernel))
theorem d_Formula_read_108 : decode b_Formula_read 108 = .ok (.aload_n 3, 1) := dc_45 (q0_win (r := 13) wn_Formula_read_95 (by decide +kernel))
theorem d_Formula_read_109 : decode b_Formula_read 109 = .ok (.invokevirtual 65, 3) := dc_182 (qU2_win (r := 14) wn_Formula_read_95 (by decide +kernel))
theorem d_Formula_read_112 : decode b_Formula_read 112 = .ok (.goto 10, 3) := dc_167 (qS2_win (r := 17) wn_Formula_read_95 (by decide +kernel))
theorem d_Formula_read_115 : decode b_Formula_read 115 = .ok (.aload_n 0, 1) := dc_42 (q0_win (r := 20) wn_Formula_read_95 (by decide +kernel))
theorem d_Formula_read_116 : decode b_Formula_read 116 = .ok (.iload 5, 2) := dc_21 (qU1_win (r := 21) wn_Formula_read_95 (by decide +kernel))
theorem d_Formula_read_118 : decode b_Formula_read 118 = .ok (.aload_n 3, 1) := dc_45 (q0_win (r := 23) wn_Formula_read_95 (by decide +kernel))
theorem d_Formula_read_119 : decode b_Formula_read 119 = .ok (.invokevirtual 69, 3) := dc_182 (qU2_win (r := 24) wn_Formula_read_95 (by decide +kernel))
theorem d_Formula_read_122 : decode b_Formula_read 122 = .ok (.istore 6, 2) := dc_54 (qU1_win (r := 27) wn_Formula_read_95 (by decide +kernel))
theorem d_Formula_read_124 : decode b_Formula_read 124 = .ok (.iload 6, 2) := dc_21 (qU1_win (r := 29) wn_Formula_read_95 (by decide +kernel))
theorem d_Formula_read_126 : decode b_Formula_read 126 = .ok (.ifCond .eq 6, 3) := dc_153 (qS2_win (r := 31) wn_Formula_read_95 (by decide +kernel))
theorem d_Formula_read_129 : decode b_Formula_read 129 = .ok (.iload 6, 2) := dc_21 (qU1_win (r := 34) wn_Formula_read_95 (by decide +kernel))
theorem d_Formula_read_131 : decode b_Formula_read 131 = .ok (.ireturn, 1) := dc_172 (q0_win (r := 36) wn_Formula_read_95 (by decide +kernel))
theorem d_Formula_read_132 : decode b_Formula_read 132 = .ok (.aload_n 0, 1) := dc_42 (q0_win (r := 37) wn_Formula_read_95 (by decide +kernel))
theorem d_Formula_read_133 : decode b_Formula_read 133 = .ok (.dup, 1) := dc_89 (q0_win (r := 38) wn_Formula_read_95 (by decide +kernel))
theorem d_Formula_read_134 : decode b_Formula_read 134 = .ok (.getfield 33, 3) := dc_180 (qU2_win (r := 39) wn_Formula_read_95 (by decide +kernel))
theorem d_Formula_read_137 : decode b_Formula_read 137 = .ok (.iconst 1, 1) := dc_4 (q0_win (r := 42) wn_Formula_read_95 (by decide +kernel))
theorem d_Formula_read_138 : decode b_Formula_read 138 = .ok (.iadd, 1) := dc_96 (q0_win (r := 43) wn_Formula_read_95 (by decide +kernel))
theorem d_Formula_read_139 : decode b_Formula_read 139 = .ok (.putfield 33, 3) := dc_181 (qU2_win (r := 44) wn_Formula_read_95 (by decide +kernel))
theorem d_Formula_read_142 : decode b_Formula_read 142 = .ok (.iinc 4 1, 3) := dc_132 (qI_win (r := 47) wn_Formula_read_95 (by decide +kernel))
theorem d_Formula_read_145 : decode b_Formula_read 145 = .ok (.goto (-112), 3) := dc_167 (qS2_win (r := 50) wn_Formula_read_95 (by decide +kernel))
theorem d_Formula_read_148 : decode b_Formula_read 148 = .ok (.iconst 1, 1) := dc_4 (q0_win (r := 53) wn_Formula_read_95 (by decide +kernel))
theorem d_Formula_read_149 : decode b_Formula_read 149 = .ok (.ireturn, 1) := dc_172 (q0_win (r := 54) wn_Formula_read_95 (by decide +kernel))
def t_Formula_read_L122 (k0 : Nat) (x2 : Int) (k3 : Nat) (bk33 : Mem → Int → Option (Mem × Int)) (M : Mem) (v3_ : Int) (v4_ : Int) : Option (Mem × Int) := (if v4_ = 0 then (qlet (setI M k0 7 (w32 ((M.1 k0 7) + 1))) fun M30 => (bk33 M30 (w32 (v3_ + 1)))) else (some (M, v4_)))
def t_Formula_read_L87 (k0 : Nat) (x2 : Int) (k3 : Nat) (bk33 : Mem → Int → Option (Mem × Int)) (M : Mem) (v3_ : Int) (v4_ : Int) : Option (Mem × Int) := (if (M.1 k0 10) = 0 then (obind (t_Formula_readSign M k0 v4_ k3) fun q21 => (t_Formula_read_L122 k0 x2 k3 bk33 (q21.1) v3_ (q21.2))) else (qlet (t_WF_look M 44 701 (M.1 k0 7)) fun q24 => (qlet (t_Formula_readPart M k0 v4_ q24 k3) fun q26 => (t_Formula_read_L122 k0 x2 k3 bk33 (q26.1) v3_ (q26.2)))))
def t_Formula_read_L33 (k0 : Nat) (x2 : Int) (k3 : Nat)  : Nat → Mem → Int → Option (Mem × Int)
  | 0, _, _ => none
  | fu + 1, M, v3_ => (if 700 < v3_ then (some (M, 1)) else (qlet (t_WF_look M 43 701 (M.1 k0 7)) fun q9 => (if q9 = 40 then (if (M.1 k0 10) = 0 then (if (M.1 k0 8) = 0 then (obind (t_Formula_release M k0 1) fun q16 => (qlet (setI q16 k0 4 1) fun M18 => (some (M18, 0)))) else (t_Formula_read_L87 k0 x2 k3 (fun a0_ a1_ => t_Formula_read_L33 k0 x2 k3 fu a0_ a1_) M v3_ q9)) else (t_Formula_read_L87 k0 x2 k3 (fun a0_ a1_ => t_Formula_read_L33 k0 x2 k3 fu a0_ a1_) M v3_ q9)) else (t_Formula_read_L87 k0 x2 k3 (fun a0_ a1_ => t_Formula_read_L33 k0 x2 k3 fu a0_ a1_) M v3_ q9))))
def t_Formula_read (M : Mem) (k0 : Nat) (x2 : Int) (k3 : Nat) : Option (Mem × Int) := (qlet (setI M k0 7 x2) fun M1 => (qlet (setI M1 k0 6 0) fun M2 => (qlet (setI M2 k0 8 0) fun M3 => (qlet (setI M3 k0 9 0) fun M4 => (qlet (setI M4 k0 10 1) fun M5 => (qlet (setI M5 k0 11 1) fun M6 => (t_Formula_read_L33 k0 x2 k3 FU M6 0)))))))
set_option maxHeartbeats 4000000 in
set_option maxRecDepth 100000 in
theorem k_Formula_read_L122 (l : Launch) {p : Program} {e : Env} {s : State} {m : MethodId} {below : List Frame} {meth : Method} {c : Code} {b n : Nat} {C : CT} (hlo : 191 ≤ n) (k0 : Nat) (x2 : Int) (k3 : Nat) (hk0 : isFormula k0) (hx2 : InR x2) (hk3 : isTown k3) (F : Cx b p m c b_Formula_read 7 s ([.ref (b + k0), .ref (b + 42), vI x2, .ref (b + k3)] : List Value).toArray "WardFalls$Formula" C n 191) (hlk : meth.locks = false) (hr : meth.sig.returnType = some .int) {res : Mem × Int} (bk33 : Mem → Int → Option (Mem × Int)) (hbk33 : ∀ (M : Mem) (v3_ : Int) (hv3_ : InR v3_) (H : Heap) (locs : List Loc) (ls : Array Slot), St b C n M s H locs → lv_has ls 7 [(0, .ref (b + k0)), (1, .ref (b + 42)), (3, .ref (b + k3)), (4, vI v3_)] → bk33 M v3_ = some res → W p l e (headSpec (wsM y_Formula_read b_Formula_read 7 (some .int)) (rmD 4)).room s m ([.ref (b + k0), .ref (b + 42), vI x2, .ref (b + k3)] : List Value).toArray below meth c H locs 0 0 (MQ below (QI b C n res.1 res.2) ([.ref (b + k0), .ref (b + 42), vI x2, .ref (b + k3)] : List Value).toArray s 0 0 (frb b)) (F0 m 33 ls [])) (M : Mem) (v3_ : Int) (hv3_ : InR v3_) (v4_ : Int) (hv4_ : InR v4_) (H : Heap) (locs : List Loc) (ls : Array Slot) (hS : St b C n M s H locs) (hl : lv_has ls 7 [(0, .ref (b + k0)), (1, .ref (b + 42)), (3, .ref (b + k3)), (4, vI v3_)]) (hT : t_Formula_read_L122 k0 x2 k3 bk33 M v3_ v4_ = some res) : W p l e (headSpec (wsM y_Formula_read b_Formula_read 7 (some .int)) (rmD 4)).room s m ([.ref (b + k0), .ref (b + 42), vI x2, .ref (b + k3)] : List Value).toArray below meth c H locs 0 0 (MQ below (QI b C n res.1 res.2) ([.ref (b + k0), .ref (b + 42), vI x2, .ref (b + k3)] : List Value).toArray s 0 0 (frb b)) (F0 m 122 ls [vI v4_]) := by
  unfold t_Formula_read_L122 at hT
  refine lv_istore (lv' := [(6, vI v4_), (0, .ref (b + k0)), (1, .ref (b + 42)), (3, .ref (b + k3)), (4, vI v3_)]) F.hx F.hb d_Formula_read_122 hl (Nat.le_of_ble_eq_true rfl) rfl (fun ls hl => ?_)
  refine lv_iload F.hx F.hb d_Formula_read_124 (lv_at hl 0 rfl) ?_
  refine r_if_eq (tgt := 132) F.hx F.hb hv4_ d_Formula_read_126 (by decide) (fun c28 => ?_) (fun c28 => ?_)
  · replace hT := (if_pos c28).symm.trans hT
    refine lv_aload_n F.hx F.hb d_Formula_read_132 rfl (lv_at hl 1 rfl) ?_
    refine lv_dup F.hx F.hb d_Formula_read_133 rfl ?_
    refine r_get (v := vI (M.1 k0 7)) (N := 12) (T := T3) (j := 7) F hS (Formula_lt hk0) (Formula_sh hk0) (Formula_N hk0) rfl (Nat.le_of_ble_eq_true rfl) ing3 mw_55 (fv_int rfl) d_Formula_read_134 ?_
    have i29 := hS.rng k0 7
    refine r_iconst F.hx F.hb d_Formula_read_137 ?_
    refine r_iadd F.hx F.hb d_Formula_read_138 ?_
    refine r_putI (N := 12) (T := T3) (j := 7) F hS (Formula_lt hk0) (Formula_sh hk0) (Formula_N hk0) rfl (Nat.le_of_ble_eq_true rfl) ing3 tyok3 nm3 rfl rfl rfl rfl rfl (Formula_dyn hk0 _) mw_55 (inr_w32 _) d_Formula_read_139 (fun H locs hS => ?_)
    obtain ⟨M30, eM30⟩ : ∃ q, q = (setI M k0 7 (w32 ((M.1 k0 7) + 1))) := ⟨_, rfl⟩
    replace hS : St b C n M30 s H locs := by rw [eM30]; exact hS
    replace hT := qlet_eq hT eM30
    refine lv_iinc (v := Int32.ofInt (w32 (v3_ + 1))) (lv' := [(4, vI (w32 (v3_ + 1))), (6, vI v4_), (0, .ref (b + k0)), (1, .ref (b + 42)), (3, .ref (b + k3))]) F.hx F.hb d_Formula_read_142 hl (k := 4) rfl (q_of_add _ _) (Nat.le_of_ble_eq_true rfl) rfl (fun ls hl => ?_)
    refine lv_goto (tgt := 33) F.hx F.hb d_Formula_read_145 (by decide) ?_
    exact hbk33 M30 (w32 (v3_ + 1)) (inr_w32 _) _ _ _ hS (lv_sub hl [2, 3, 4, 0] rfl) hT
  · replace hT := (if_neg c28).symm.trans hT
    refine lv_iload F.hx F.hb d_Formula_read_129 (lv_at hl 0 rfl) ?_
    cases hT
    exact r_iret F hlk hr rfl hS hv4_ d_Formula_read_131
set_option maxHeartbeats 4000000 in
set_option maxRecDepth 100000 in
theorem k_Formula_read_L87 (l : Launch) {p : Program} {e : Env} {s : State} {m : MethodId} {below : List Frame} {meth : Method} {c : Code} {b n : Nat} {C : CT} (hlo : 191 ≤ n) (k0 : Nat) (x2 : Int) (k3 : Nat) (hk0 : isFormula k0) (hx2 : InR x2) (hk3 : isTown k3) (F : Cx b p m c b_Formula_read 7 s ([.ref (b + k0), .ref (b + 42), vI x2, .ref (b + k3)] : List Value).toArray "WardFalls$Formula" C n 191) (hlk : meth.locks = false) (hr : meth.sig.returnType = some .int) {res : Mem × Int} (bk33 : Mem → Int → Option (Mem × Int)) (hbk33 : ∀ (M : Mem) (v3_ : Int) (hv3_ : InR v3_) (H : Heap) (locs : List Loc) (ls : Array Slot), St b C n M s H locs → lv_has ls 7 [(0, .ref (b + k0)), (1, .ref (b + 42)), (3, .ref (b + k3)), (4, vI v3_)] → bk33 M v3_ = some res → W p l e (headSpec (wsM y_Formula_read b_Formula_read 7 (some .int)) (rmD 4)).room s m ([.ref (b + k0), .ref (b + 42), vI x2, .ref (b + k3)] : List Value).toArray below meth c H locs 0 0 (MQ below (QI b C n res.1 res.2) ([.ref (b + k0), .ref (b + 42), vI x2, .ref (b + k3)] : List Value).toArray s 0 0 (frb b)) (F0 m 33 ls [])) (M : Mem) (v3_ : Int) (hv3_ : InR v3_) (v4_ : Int) (hv4_ : InR v4_) (H : Heap) (locs : List Loc) (ls : Array Slot) (hS : St b C n M s H locs) (hl : lv_has ls 7 [(0, .ref (b + k0)), (1, .ref (b + 42)), (3, .ref (b + k3)), (4, vI v3_), (5, vI v4_)]) (hT : t_Formula_read_L87 k0 x2 k3 bk33 M v3_ v4_ = some res) : W p l e (headSpec (wsM y_Formula_read b_Formula_read 7 (some .int)) (rmD 4)).room s m ([.ref (b + k0), .ref (b + 42), vI x2, .ref (b + k3)] : List Value).toArray below meth c H locs 0 0 (MQ below (QI b C n res.1 res.2) ([.ref (b + k0), .ref (b + 42), vI x2, .ref (b + k3)] : List Value).toArray s 0 0 (frb b)) (F0 m 87 ls []) := by
  unfold t_Formula_read_L87 at hT
  refine lv_aload_n F.hx F.hb d_Formula_read_87 rfl (lv_at hl 0 rfl) ?_
  refine r_get (v := vI (M.1 k0 10)) (N := 12) (T := T3) (j := 10) F hS (Formula_lt hk0) (Formula_sh hk0) (Formula_N hk0) rfl (Nat.le_of_ble_eq_true rfl) ing3 mw_59 (fv_int rfl) d_Formula_read_88 ?_
  have i19 := hS.rng k0 10
  refine r_if_eq (tgt := 115) F.hx F.hb i19 d_Formula_read_91 (by decide) (fun c20 => ?_) (fun c20 => ?_)
  · replace hT := (if_pos c20).symm.trans hT
    refine lv_aload_n F.hx F.hb d_Formula_read_115 rfl (lv_at hl 0 rfl) ?_
    refine lv_iload F.hx F.hb d_Formula_read_116 (lv_at hl 4 rfl) ?_
    refine lv_aload_n F.hx F.hb d_Formula_read_118 rfl (lv_at hl 2 rfl) ?_
    obtain ⟨q21, hq21, hT⟩ := q_obind hT
    refine r_backI F hS (r_runV (k := k0) (N := 12) (T := T3) (As := [vI v4_, .ref (b + k3)]) F hS (Formula_lt hk0) (Formula_sh hk0) rfl (c_Formula_readSign l F.2.2.1 M k0 v4_ k3 hk0 hv4_ hk3 _ hq21) gs_Formula_69 hd_Formula_readSign ⟨Nat.le_of_ble_eq_true rfl, Nat.le_of_ble_eq_true rfl⟩ rfl hl.1 (Nat.le_of_ble_eq_true rfl) ⟨Nat.zero_le _, Nat.zero_le _⟩ rfl d_Formula_read_119) (fun H locs hS h22 => ?_)
    exact k_Formula_read_L122 l hlo k0 x2 k3 hk0 hx2 hk3 F hlk hr bk33 hbk33 (q21.1) v3_ hv3_ (q21.2) h22 _ _ _ hS (lv_sub hl [0, 1, 2, 3] rfl) hT
  · replace hT := (if_neg c20).symm.trans hT
    refine lv_aload_n F.hx F.hb d_Formula_read_94 rfl (lv_at hl 0 rfl) ?_
    refine lv_iload F.hx F.hb d_Formula_read_95 (lv_at hl 4 rfl) ?_
    refine lv_aload_n F.hx F.hb d_Formula_read_97 rfl (lv_at hl 1 rfl) ?_
    refine r_get (v := .ref (b + 44)) (N := 4) (T := T10) (j := 1) F hS (show 42 < 191 by decide) (show shK 42 = 14 from rfl) (show shN 42 = 4 from rfl) rfl (Nat.le_of_ble_eq_true rfl) ing10 mw_210 (fv_sg rfl rfl rfl) d_Formula_read_98 ?_
    refine lv_aload_n F.hx F.hb d_Formula_read_101 rfl (lv_at hl 0 rfl) ?_
    refine r_get (v := vI (M.1 k0 7)) (N := 12) (T := T3) (j := 7) F hS (Formula_lt hk0) (Formula_sh hk0) (Formula_N hk0) rfl (Nat.le_of_ble_eq_true rfl) ing3 mw_55 (fv_int rfl) d_Formula_read_102 ?_
    have i23 := hS.rng k0 7
    obtain ⟨q24, hq24⟩ : ∃ q, q = (t_WF_look M 44 701 (M.1 k0 7)) := ⟨_, rfl⟩
    replace hT := qlet_eq hT hq24
    refine r_backI F hS (r_runSN (As := [.ref (b + 44), vI (M.1 k0 7)]) F hS (c_WF_look l F.2.2.1 M 44 701 (M.1 k0 7) (show arrP 0 44 701 191 from ⟨rfl, rfl, by decide⟩) i23 _ hq24.symm) mw_519 mw_518 mw_1 gs_Formula_54 hd_WF_look ⟨Nat.le_of_ble_eq_true rfl, Nat.le_of_ble_eq_true rfl⟩ rfl hl.1 (Nat.le_of_ble_eq_true rfl) ⟨Nat.zero_le _, Nat.zero_le _⟩ rfl d_Formula_read_105) (fun H locs hS h25 => ?_)
    refine lv_aload_n F.hx F.hb d_Formula_read_108 rfl (lv_at hl 2 rfl) ?_
    obtain ⟨q26, hq26⟩ : ∃ q, q = (t_Formula_readPart M k0 v4_ q24 k3) := ⟨_, rfl⟩
    replace hT := qlet_eq hT hq26
    refine r_backI F hS (r_runV (k := k0) (N := 12) (T := T3) (As := [vI v4_, vI q24, .ref (b + k3)]) F hS (Formula_lt hk0) (Formula_sh hk0) rfl (c_Formula_readPart l F.2.2.1 M k0 v4_ q24 k3 hk0 hv4_ h25 hk3 _ hq26.symm) gs_Formula_65 hd_Formula_readPart ⟨Nat.le_of_ble_eq_true rfl, Nat.le_of_ble_eq_true rfl⟩ rfl hl.1 (Nat.le_of_ble_eq_true rfl) ⟨Nat.zero_le _, Nat.zero_le _⟩ rfl d_Formula_read_109) (fun H locs hS h27 => ?_)
    refine lv_goto (tgt := 122) F.hx F.hb d_Formula_read_112 (by decide) ?_
    exact k_Formula_read_L122 l hlo k0 x2 k3 hk0 hx2 hk3 F hlk hr bk33 hbk33 (q26.1) v3_ hv3_ (q26.2) h27 _ _ _ hS (lv_sub hl [0, 1, 2, 3] rfl) hT
set_option maxHeartbeats 4000000 in
set_option maxRecDepth 100000 in
theorem k_Formula_read_L33 (l : Launch) {p : Program} {e : Env} {s : State} {m : MethodId} {below : List Frame} {meth : Method} {c : Code} {b n : Nat} {C : CT} (hlo : 191 ≤ n) (k0 : Nat) (x2 : Int) (k3 : Nat) (hk0 : isFormula k0) (hx2 : InR x2) (hk3 : isTown k3) (F : Cx b p m c b_Formula_read 7 s ([.ref (b + k0), .ref (b + 42), vI x2, .ref (b + k3)] : List Value).toArray "WardFalls$Formula" C n 191) (hlk : meth.locks = false) (hr : meth.sig.returnType = some .int) {res : Mem × Int} : ∀ (fu : Nat) (M : Mem) (v3_ : Int) (hv3_ : InR v3_) (H : Heap) (locs : List Loc) (ls : Array Slot), St b C n M s H locs → lv_has ls 7 [(0, .ref (b + k0)), (1, .ref (b + 42)), (3, .ref (b + k3)), (4, vI v3_)] → t_Formula_read_L33 k0 x2 k3 fu M v3_ = some res → W p l e (headSpec (wsM y_Formula_read b_Formula_read 7 (some .int)) (rmD 4)).room s m ([.ref (b + k0), .ref (b + 42), vI x2, .ref (b + k3)] : List Value).toArray below meth c H locs 0 0 (MQ below (QI b C n res.1 res.2) ([.ref (b + k0), .ref (b + 42), vI x2, .ref (b + k3)] : List Value).toArray s 0 0 (frb b)) (F0 m 33 ls []) := by
  intro fu
  induction fu with
  | zero => intro M v3_ hv3_ H locs ls hS hl hT; exact absurd hT (by simp [t_Formula_read_L33])
  | succ fu ih =>
    intro M v3_ hv3_ H locs ls hS hl hT
    rw [t_Formula_read_L33] at hT
    refine lv_iload F.hx F.hb d_Formula_read_33 (lv_at hl 3 rfl) ?_
    refine r_sipush F.hx F.hb d_Formula_read_35 rfl ?_
    refine r_icmp_gt (tgt := 148) F.hx F.hb hv3_ (inr_c rfl) d_Formula_read_38 (by decide) (fun c7 => ?_) (fun c7 => ?_)
    · replace hT := (if_pos c7).symm.trans hT
      refine r_iconst F.hx F.hb d_Formula_read_148 ?_
      cases hT
      exact r_iret F hlk hr rfl hS (inr_c rfl) d_Formula_read_149
    · replace hT := (if_neg c7).symm.trans hT
      refine lv_aload_n F.hx F.hb d_Formula_read_41 rfl (lv_at hl 1 rfl) ?_
      refine r_get (v := .ref (b + 43)) (N := 4) (T := T10) (j := 0) F hS (show 42 < 191 by decide) (show shK 42 = 14 from rfl) (show shN 42 = 4 from rfl) rfl (Nat.le_of_ble_eq_true rfl) ing10 mw_207 (fv_sg rfl rfl rfl) d_Formula_read_42 ?_
      refine lv_aload_n F.hx F.hb d_Formula_read_45 rfl (lv_at hl 0 rfl) ?_
      refine r_get (v := vI (M.1 k0 7)) (N := 12) (T := T3) (j := 7) F hS (Formula_lt hk0) (Formula_sh hk0) (Formula_N hk0) rfl (Nat.le_of_ble_eq_true rfl) ing3 mw_55 (fv_int rfl) d_Formula_read_46 ?_
      have i8 := hS.rng k0 7
      obtain ⟨q9, hq9⟩ : ∃ q, q = (t_WF_look M 43 701 (M.1 k0 7)) := ⟨_, rfl⟩
      replace hT := qlet_eq hT hq9
      refine r_backI F hS (r_runSN (As := [.ref (b + 43), vI (M.1 k0 7)]) F hS (c_WF_look l F.2.2.1 M 43 701 (M.1 k0 7) (show arrP 0 43 701 191 from ⟨rfl, rfl, by decide⟩) i8 _ hq9.symm) mw_519 mw_518 mw_1 gs_Formula_54 hd_WF_look ⟨Nat.le_of_ble_eq_true rfl, Nat.le_of_ble_eq_true rfl⟩ rfl hl.1 (Nat.le_of_ble_eq_true rfl) ⟨Nat.zero_le _, Nat.zero_le _⟩ rfl d_Formula_read_49) (fun H locs hS h10 => ?_)
      refine lv_istore (lv' := [(5, vI q9), (0, .ref (b + k0)), (1, .ref (b + 42)), (3, .ref (b + k3)), (4, vI v3_)]) F.hx F.hb d_Formula_read_52 hl (Nat.le_of_ble_eq_true rfl) rfl (fun ls hl => ?_)
      refine lv_iload F.hx F.hb d_Formula_read_54 (lv_at hl 0 rfl) ?_
      refine r_bipush F.hx F.hb d_Formula_read_56 rfl ?_
      refine r_icmp_ne (tgt := 87) F.hx F.hb h10 (inr_c rfl) d_Formula_read_58 (by decide) (fun c11 => ?_) (fun c11 => ?_)
      · replace hT := (if_neg c11).symm.trans hT
        exact k_Formula_read_L87 l hlo k0 x2 k3 hk0 hx2 hk3 F hlk hr (fun a0_ a1_ => t_Formula_read_L33 k0 x2 k3 fu a0_ a1_) ih M v3_ hv3_ q9 h10 _ _ _ hS (lv_sub hl [1, 2, 3, 4, 0] rfl) hT
      · replace hT := (if_pos c11).symm.trans hT
        refine lv_aload_n F.hx F.hb d_Formula_read_61 rfl (lv_at hl 1 rfl) ?_
        refine r_get (v := vI (M.1 k0 10)) (N := 12) (T := T3) (j := 10) F hS (Formula_lt hk0) (Formula_sh hk0) (Formula_N hk0) rfl (Nat.le_of_ble_eq_true rfl) ing3 mw_59 (fv_int rfl) d_Formula_read_62 ?_
        have i12 := hS.rng k0 10
        refine r_if_ne (tgt := 87) F.hx F.hb i12 d_Formula_read_65 (by decide) (fun c13 => ?_) (fun c13 => ?_)
        · replace hT := (if_neg c13).symm.trans hT
          exact k_Formula_read_L87 l hlo k0 x2 k3 hk0 hx2 hk3 F hlk hr (fun a0_ a1_ => t_Formula_read_L33 k0 x2 k3 fu a0_ a1_) ih M v3_ hv3_ q9 h10 _ _ _ hS (lv_sub hl [1, 2, 3, 4, 0] rfl) hT
        · replace hT := (if_pos c13).symm.trans hT
          refine lv_aload_n F.hx F.hb d_Formula_read_68 rfl (lv_at hl 1 rfl) ?_
          refine r_get (v := vI (M.1 k0 8)) (N := 12) (T := T3) (j := 8) F hS (Formula_lt hk0) (Formula_sh hk0) (Formula_N hk0) rfl (Nat.le_of_ble_eq_true rfl) ing3 mw_57 (fv_int rfl) d_Formula_read_69 ?_
          have i14 := hS.rng k0 8
          refine r_if_ne (tgt := 87) F.hx F.hb i14 d_Formula_read_72 (by decide) (fun c15 => ?_) (fun c15 => ?_)
          · replace hT := (if_neg c15).symm.trans hT
            exact k_Formula_read_L87 l hlo k0 x2 k3 hk0 hx2 hk3 F hlk hr (fun a0_ a1_ => t_Formula_read_L33 k0 x2 k3 fu a0_ a1_) ih M v3_ hv3_ q9 h10 _ _ _ hS (lv_sub hl [1, 2, 3, 4, 0] rfl) hT
          · replace hT := (if_pos c15).symm.trans hT
            refine lv_aload_n F.hx F.hb d_Formula_read_75 rfl (lv_at hl 1 rfl) ?_
            refine r_iconst F.hx F.hb d_Formula_read_76 ?_
            obtain ⟨q16, hq16, hT⟩ := q_obind hT
            refine r_backV F hS (r_runV (k := k0) (N := 12) (T := T3) (As := [vI 1]) F hS (Formula_lt hk0) (Formula_sh hk0) rfl (c_Formula_release l F.2.2.1 M k0 1 hk0 (inr_c rfl) _ hq16) gs_Formula_58 hd_Formula_release ⟨Nat.le_of_ble_eq_true rfl, Nat.le_of_ble_eq_true rfl⟩ rfl hl.1 (Nat.le_of_ble_eq_true rfl) ⟨Nat.zero_le _, Nat.zero_le _⟩ rfl d_Formula_read_77) (fun H locs hS => ?_)
            refine lv_aload_n F.hx F.hb d_Formula_read_80 rfl (lv_at hl 1 rfl) ?_
            refine r_iconst F.hx F.hb d_Formula_read_81 ?_
            refine r_putI (N := 12) (T := T3) (j := 4) F hS (Formula_lt hk0) (Formula_sh hk0) (Formula_N hk0) rfl (Nat.le_of_ble_eq_true rfl) ing3 tyok3 nm3 rfl rfl (nar_z (Or.inr rfl)) (fit_z (Or.inr rfl)) rfl (Formula_dyn hk0 _) mw_51 (inr_c rfl) d_Formula_read_82 (fun H locs hS => ?_)
            obtain ⟨M18, eM18⟩ : ∃ q, q = (setI q16 k0 4 1) := ⟨_, rfl⟩
            replace hS : St b C n M18 s H locs := by rw [eM18]; exact hS
            replace hT := qlet_eq hT eM18
            refine r_iconst F.hx F.hb d_Formula_read_85 ?_
            cases hT
            exact r_iret F hlk hr rfl hS (inr_c rfl) d_Formula_read_86
set_option maxHeartbeats 4000000 in
set_option maxRecDepth 100000 in
theorem c_Formula_read (l : Launch) {b n : Nat} {C : CT} (hlo : 191 ≤ n) (M : Mem) (k0 : Nat) (x2 : Int) (k3 : Nat) (hk0 : isFormula k0) (hx2 : InR x2) (hk3 : isTown k3) (res : Mem × Int) (hT : t_Formula_read M k0 x2 k3 = some res) : CM l b C n 4 y_Formula_read b_Formula_read 7 (some .int) [.ref (b + k0), .ref (b + 42), vI x2, .ref (b + k3)] M (QI b C n res.1 res.2) := by
  refine CM.of (lo := 191) (ow := "WardFalls$Formula") (by decide) rfl (Nat.le_of_ble_eq_true rfl) hlo (fun p e s m below meth c F hlk hr hS ls hl => ?_)
  have hl : lv_has ls 7 [(0, .ref (b + k0)), (1, .ref (b + 42)), (2, vI x2), (3, .ref (b + k3))] := hl
  unfold t_Formula_read at hT
  refine lv_aload_n F.hx F.hb d_Formula_read_0 rfl (lv_at hl 0 rfl) ?_
  refine lv_iload_n F.hx F.hb d_Formula_read_1 rfl (lv_at hl 2 rfl) ?_
  refine r_putI (N := 12) (T := T3) (j := 7) F hS (Formula_lt hk0) (Formula_sh hk0) (Formula_N hk0) rfl (Nat.le_of_ble_eq_true rfl) ing3 tyok3 nm3 rfl rfl rfl rfl rfl (Formula_dyn hk0 _) mw_55 hx2 d_Formula_read_2 (fun H locs hS => ?_)
  obtain ⟨M1, eM1⟩ : ∃ q, q = (setI M k0 7 x2) := ⟨_, rfl⟩
  replace hS : St b C n M1 s H locs := by rw [eM1]; exact hS
  replace hT := qlet_eq hT eM1
  refine lv_aload_n F.hx F.hb d_Formula_read_5 rfl (lv_at hl 0 rfl) ?_
  refine r_iconst F.hx F.hb d_Formula_read_6 ?_
  refine r_putI (N := 12) (T := T3) (j := 6) F hS (Formula_lt hk0) (Formula_sh hk0) (Formula_N hk0) rfl (Nat.le_of_ble_eq_true rfl) ing3 tyok3 nm3 rfl rfl rfl rfl rfl (Formula_dyn hk0 _) mw_54 (inr_c rfl) d_Formula_read_7 (fun H locs hS => ?_)
  obtain ⟨M2, eM2⟩ : ∃ q, q = (setI M1 k0 6 0) := ⟨_, rfl⟩
  replace hS : St b C n M2 s H locs := by rw [eM2]; exact hS
  replace hT := qlet_eq hT eM2
  refine lv_aload_n F.hx F.hb d_Formula_read_10 rfl (lv_at hl 0 rfl) ?_
  refine r_iconst F.hx F.hb d_Formula_read_11 ?_
  refine r_putI (N := 12) (T := T3) (j := 8) F hS (Formula_lt hk0) (Formula_sh hk0) (Formula_N hk0) rfl (Nat.le_of_ble_eq_true rfl) ing3 tyok3 nm3 rfl rfl rfl rfl rfl (Formula_dyn hk0 _) mw_57 (inr_c rfl) d_Formula_read_12 (fun H locs hS => ?_)
  obtain ⟨M3, eM3⟩ : ∃ q, q = (setI M2 k0 8 0) := ⟨_, rfl⟩
  replace hS : St b C n M3 s H locs := by rw [eM3]; exact hS
  replace hT := qlet_eq hT eM3
  refine lv_aload_n F.hx F.hb d_Formula_read_15 rfl (lv_at hl 0 rfl) ?_
  refine r_iconst F.hx F.hb d_Formula_read_16 ?_
  refine r_putI (N := 12) (T := T3) (j := 9) F hS (Formula_lt hk0) (Formula_sh hk0) (Formula_N hk0) rfl (Nat.le_of_ble_eq_true rfl) ing3 tyok3 nm3 rfl rfl rfl rfl rfl (Formula_dyn hk0 _) mw_58 (inr_c rfl) d_Formula_read_17 (fun H locs hS => ?_)
  obtain ⟨M4, eM4⟩ : ∃ q, q = (setI M3 k0 9 0) := ⟨_, rfl⟩
  replace hS : St b C n M4 s H locs := by rw [eM4]; exact hS
  replace hT := qlet_eq hT eM4
  refine lv_aload_n F.hx F.hb d_Formula_read_20 rfl (lv_at hl 0 rfl) ?_
  refine r_iconst F.hx F.hb d_Formula_read_21 ?_
  refine r_putI (N := 12) (T := T3) (j := 10) F hS (Formula_lt hk0) (Formula_sh hk0) (Formula_N hk0) rfl (Nat.le_of_ble_eq_true rfl) ing3 tyok3 nm3 rfl rfl (nar_z (Or.inr rfl)) (fit_z (Or.inr rfl)) rfl (Formula_dyn hk0 _) mw_59 (inr_c rfl) d_Formula_read_22 (fun H locs hS => ?_)
  obtain ⟨M5, eM5⟩ : ∃ q, q = (setI M4 k0 10 1) := ⟨_, rfl⟩
  replace hS : St b C n M5 s H locs := by rw [eM5]; exact hS
  replace hT := qlet_eq hT eM5
  refine lv_aload_n F.hx F.hb d_Formula_read_25 rfl (lv_at hl 0 rfl) ?_
  refine r_iconst F.hx F.hb d_Formula_read_26 ?_
  refine r_putI (N := 12) (T := T3) (j := 11) F hS (Formula_lt hk0) (Formula_sh hk0) (Formula_N hk0) rfl (Nat.le_of_ble_eq_true rfl) ing3 tyok3 nm3 rfl rfl (nar_z (Or.inr rfl)) (fit_z (Or.inr rfl)) rfl (Formula_dyn hk0 _) mw_60 (inr_c rfl) d_Formula_read_27 (fun H locs hS => ?_)
  obtain ⟨M6, eM6⟩ : ∃ q, q = (setI M5 k0 11 1) := ⟨_, rfl⟩
  replace hS : St b C n M6 s H locs := by rw [eM6]; exact hS
  replace hT := qlet_eq hT eM6
  refine r_iconst F.hx F.hb d_Formula_read_30 ?_
  refine lv_istore (lv' := [(4, vI 0), (0, .ref (b + k0)), (1, .ref (b + 42)), (2, vI x2), (3, .ref (b + k3))]) F.hx F.hb d_Formula_read_31 hl (Nat.le_of_ble_eq_true rfl) rfl (fun ls hl => ?_)
  exact k_Formula_read_L33 l hlo k0 x2 k3 hk0 hx2 hk3 F hlk hr FU M6 0 (inr_c rfl) _ _ _ hS (lv_sub hl [1, 2, 4, 0] rfl) hT
theorem wn_Reader_readLaw_0 : ∀ i, i < 96 → bA b_Reader_readLaw (0 + i) = wB [42, 42, 180, 0, 94, 4, 96, 182, 0, 80, 42, 180, 0, 15, 16, 13, 159, 0, 22, 42, 180, 0, 15, 16, 14, 159, 0, 13, 42, 4, 42, 180, 0, 44, 182, 0, 47, 172, 42, 180, 0, 15, 16, 13, 160, 0, 10, 43, 180, 0, 171, 167, 0, 7, 43, 180, 0, 175, 77, 44, 180, 0, 178, 153, 0, 13, 42, 6, 42, 180, 0, 44, 182, 0, 47, 172, 42, 180, 0, 60, 199, 0, 7, 4, 167, 0, 18, 44, 42, 180, 0, 60, 42, 180, 0, 94] i := wB_of (by decide +kernel)
theorem d_Reader_readLaw_0 : decode b_Reader_readLaw 0 = .ok (.aload_n 0, 1) := dc_42 (q0_win (r := 0) wn_Reader_readLaw_0 (by decide +kernel))
theorem d_Reader_readLaw_1 : decode b_Reader_readLaw 1 = .ok (.aload_n 0, 1) := dc_42 (q0_win (r := 1) wn_Reader_readLaw_0 (by decide +kernel))
theorem d_Reader_readLaw_2 : decode b_Reader_readLaw 2 = .ok (.getfield 94, 3) := dc_180 (qU2_win (r := 2) wn_Reader_readLaw_0 (by decide +kernel))
theorem d_Reader_readLaw_5 : decode b_Reader_readLaw 5 = .ok (.iconst 1, 1) := dc_4 (q0_win (r := 5) wn_Reader_readLaw_0 (by decide +kernel))
theorem d_Reader_readLaw_6 : decode b_Reader_readLaw 6 = .ok (.iadd, 1) := dc_96 (q0_win (r := 6) wn_Reader_readLaw_0 (by decide +kernel))
theorem d_Reader_readLaw_7 : decode b_Reader_readLaw 7 = .ok (.invokevirtual 80, 3) := dc_182 (qU2_win (r := 7) wn_Reader_readLaw_0 (by decide +kernel))
theorem d_Reader_readLaw_10 : decode b_Reader_readLaw 10 = .ok (.aload_n 0, 1) := dc_42 (q0_win (r := 10) wn_Reader_readLaw_0 (by decide +kernel))
theorem d_Reader_readLaw_11 : decode b_Reader_readLaw 11 = .ok (.getfield 15, 3) := dc_180 (qU2_win (r := 11) wn_Reader_readLaw_0 (by decide +kernel))
theorem d_Reader_readLaw_14 : decode b_Reader_readLaw 14 = .ok (.bipush 13, 2) := dc_16 (qS1_win (r := 14) wn_Reader_readLaw_0 (by decide +kernel))
theorem d_Reader_readLaw_16 : decode b_Reader_readLaw 16 = .ok (.if_icmp .eq 22, 3) := dc_159 (qS2_win (r := 16) wn_Reader_readLaw_0 (by decide +kernel))
theorem d_Reader_readLaw_19 : decode b_Reader_readLaw 19 = .ok (.aload_n 0, 1) := dc_42 (q0_win (r := 19) wn_Reader_readLaw_0 (by decide +kernel))
theorem d_Reader_readLaw_20 : decode b_Reader_readLaw 20 = .ok (.getfield 15, 3) := dc_180 (qU2_win (r := 20) wn_Reader_readLaw_0 (by decide +kernel))
theorem d_Reader_readLaw_23 : decode b_Reader_readLaw 23 = .ok (.bipush 14, 2) := dc_16 (qS1_win (r := 23) wn_Reader_readLaw_0 (by decide +kernel))
theorem d_Reader_readLaw_25 : decode b_Reader_readLaw 25 = .ok (.if_icmp .eq 13, 3) := dc_159 (qS2_win (r := 25) wn_Reader_readLaw_0 (by decide +kernel))
theorem d_Reader_readLaw_28 : decode b_Reader_readLaw 28 = .ok (.aload_n 0, 1) := dc_42 (q0_win (r := 28) wn_Reader_readLaw_0 (by decide +kernel))
theorem d_Reader_readLaw_29 : decode b_Reader_readLaw 29 = .ok (.iconst 1, 1) := dc_4 (q0_win (r := 29) wn_Reader_readLaw_0 (by decide +kernel))
theorem d_Reader_readLaw_30 : decode b_Reader_readLaw 30 = .ok (.aload_n 0, 1) := dc_42 (q0_win (r := 30) wn_Reader_readLaw_0 (by decide +kernel))
theorem d_Reader_readLaw_31 : decode b_Reader_readLaw 31 = .ok (.getfield 44, 3) := dc_180 (qU2_win (r := 31) wn_Reader_readLaw_0 (by decide +kernel))
theorem d_Reader_readLaw_34 : decode b_Reader_readLaw 34 = .ok (.invokevirtual 47, 3) := dc_182 (qU2_win (r := 34) wn_Reader_readLaw_0 (by decide +kernel))
theorem d_Reader_readLaw_37 : decode b_Reader_readLaw 37 = .ok (.ireturn, 1) := dc_172 (q0_win (r := 37) wn_Reader_readLaw_0 (by decide +kernel))
theorem d_Reader_readLaw_38 : decode b_Reader_readLaw 38 = .ok (.aload_n 0, 1) := dc_42 (q0_win (r := 38) wn_Reader_readLaw_0 (by decide +kernel))
theorem d_Reader_readLaw_39 : decode b_Reader_readLaw 39 = .ok (.getfield 15, 3) := dc_180 (qU2_win (r := 39) wn_Reader_readLaw_0 (by decide +kernel))
theorem d_Reader_readLaw_42 : decode b_Reader_readLaw 42 = .ok (.bipush 13, 2) := dc_16 (qS1_win (r := 42) wn_Reader_readLaw_0 (by decide +kernel))
theorem d_Reader_readLaw_44 : decode b_Reader_readLaw 44 = .ok (.if_icmp .ne 10, 3) := dc_160 (qS2_win (r := 44) wn_Reader_readLaw_0 (by decide +kernel))
theorem d_Reader_readLaw_47 : decode b_Reader_readLaw 47 = .ok (.aload_n 1, 1) := dc_43 (q0_win (r := 47) wn_Reader_readLaw_0 (by decide +kernel))
theorem d_Reader_readLaw_48 : decode b_Reader_readLaw 48 = .ok (.getfield 171, 3) := dc_180 (qU2_win (r := 48) wn_Reader_readLaw_0 (by decide +kernel))
theorem d_Reader_readLaw_51 : decode b_Reader_readLaw 51 = .ok (.goto 7, 3) := dc_167 (qS2_win (r := 51) wn_Reader_readLaw_0 (by decide +kernel))
theorem d_Reader_readLaw_54 : decode b_Reader_readLaw 54 = .ok (.aload_n 1, 1) := dc_43 (q0_win (r := 54) wn_Reader_readLaw_0 (by decide +kernel))
theorem d_Reader_readLaw_55 : decode b_Reader_readLaw 55 = .ok (.getfield 175, 3) := dc_180 (qU2_win (r := 55) wn_Reader_readLaw_0 (by decide +kernel))
theorem d_Reader_readLaw_58 : decode b_Reader_readLaw 58 = .ok (.astore_n 2, 1) := dc_77 (q0_win (r := 58) wn_Reader_readLaw_0 (by decide +kernel))
theorem d_Reader_readLaw_59 : decode b_Reader_readLaw 59 = .ok (.aload_n 2, 1) := dc_44 (q0_win (r := 59) wn_Reader_readLaw_0 (by decide +kernel))
theorem d_Reader_readLaw_60 : decode b_Reader_readLaw 60 = .ok (.getfield 178, 3) := dc_180 (qU2_win (r := 60) wn_Reader_readLaw_0 (by decide +kernel))
theorem d_Reader_readLaw_63 : decode b_Reader_readLaw 63 = .ok (.ifCond .eq 13, 3) := dc_153 (qS2_win (r := 63) wn_Reader_readLaw_0 (by decide +kernel))
theorem d_Reader_readLaw_66 : decode b_Reader_readLaw 66 = .ok (.aload_n 0, 1) := dc_42 (q0_win (r := 66) wn_Reader_readLaw_0 (by decide +kernel))
theorem d_Reader_readLaw_67 : decode b_Reader_readLaw 67 = .ok (.iconst 3, 1) := dc_6 (q0_win (r := 67) wn_Reader_readLaw_0 (by decide +kernel))
theorem d_Reader_readLaw_68 : decode b_Reader_readLaw 68 = .ok (.aload_n 0, 1) := dc_42 (q0_win (r := 68) wn_Reader_readLaw_0 (by decide +kernel))
theorem d_Reader_readLaw_69 : decode b_Reader_readLaw 69 = .ok (.getfield 44, 3) := dc_180 (qU2_win (r := 69) wn_Reader_readLaw_0 (by decide +kernel))
theorem d_Reader_readLaw_72 : decode b_Reader_readLaw 72 = .ok (.invokevirtual 47, 3) := dc_182 (qU2_win (r := 72) wn_Reader_readLaw_0 (by decide +kernel))
theorem d_Reader_readLaw_75 : decode b_Reader_readLaw 75 = .ok (.ireturn, 1) := dc_172 (q0_win (r := 75) wn_Reader_readLaw_0 (by decide +kernel))
theorem d_Reader_readLaw_76 : decode b_Reader_readLaw 76 = .ok (.aload_n 0, 1) := dc_42 (q0_win (r := 76) wn_Reader_readLaw_0 (by decide +kernel))
theorem d_Reader_readLaw_77 : decode b_Reader_readLaw 77 = .ok (.getfield 60, 3) := dc_180 (qU2_win (r := 77) wn_Reader_readLaw_0 (by decide +kernel))
theorem d_Reader_readLaw_80 : decode b_Reader_readLaw 80 = .ok (.ifnonnull 7, 3) := dc_199 (qS2_win (r := 80) wn_Reader_readLaw_0 (by decide +kernel))
theorem d_Reader_readLaw_83 : decode b_Reader_readLaw 83 = .ok (.iconst 1, 1) := dc_4 (q0_win (r := 83) wn_Reader_readLaw_0 (by decide +kernel))
theorem d_Reader_readLaw_84 : decode b_Reader_readLaw 84 = .ok (.goto 18, 3) := dc_167 (qS2_win (r := 84) wn_Reader_readLaw_0 (by decide +kernel))
theorem d_Reader_readLaw_87 : decode b_Reader_readLaw 87 = .ok (.aload_n 2, 1) := dc_44 (q0_win (r := 87) wn_Reader_readLaw_0 (by decide +kernel))
theorem d_Reader_readLaw_88 : decode b_Reader_readLaw 88 = .ok (.aload_n 0, 1) := dc_42 (q0_win (r := 88) wn_Reader_readLaw_0 (by decide +kernel))
theorem d_Reader_readLaw_89 : decode b_Reader_readLaw 89 = .ok (.getfield 60, 3) := dc_180 (qU2_win (r := 89) wn_Reader_readLaw_0 (by decide +kernel))
theorem d_Reader_readLaw_92 : decode b_Reader_readLaw 92 = .ok (.aload_n 0, 1) := dc_42 (q0_win (r := 92) wn_Reader_readLaw_0 (by decide +kernel))
theorem d_Reader_readLaw_93 : decode b_Reader_readLaw 93 = .ok (.getfield 94, 3) := dc_180 (qU2_win (r := 93) wn_Reader_readLaw_0 (by decide +kernel))
theorem wn_Reader_readLaw_96 : ∀ i, i < 37 → bA b_Reader_readLaw (96 + i) = wB [4, 96, 43, 182, 0, 183, 62, 42, 44, 180, 0, 187, 182, 0, 80, 29, 153, 0, 15, 42, 29, 42, 180, 0, 44, 182, 0, 47, 153, 0, 7, 4, 167, 0, 4, 3, 172] i := wB_of (by decide +kernel)
theorem d_Reader_readLaw_96 : decode b_Reader_readLaw 96 = .ok (.iconst 1, 1) := dc_4 (q0_win (r := 0) wn_Reader_readLaw_96 (by decide +kernel))
theorem d_Reader_readLaw_97 : decode b_Reader_readLaw 97 = .ok (.iadd, 1) := dc_96 (q0_win (r := 1) wn_Reader_readLaw_96 (by decide +kernel))
theorem d_Reader_readLaw_98 : decode b_Reader_readLaw 98 = .ok (.aload_n 1, 1) := dc_43 (q0_win (r := 2) wn_Reader_readLaw_96 (by decide +kernel))
theorem d_Reader_readLaw_99 : decode b_Reader_readLaw 99 = .ok (.invokevirtual 183, 3) := dc_182 (qU2_win (r := 3) wn_Reader_readLaw_96 (by decide +kernel))
theorem d_Reader_readLaw_102 : decode b_Reader_readLaw 102 = .ok (.istore_n 3, 1) := dc_62 (q0_win (r := 6) wn_Reader_readLaw_96 (by decide +kernel))
theorem d_Reader_readLaw_103 : decode b_Reader_readLaw 103 = .ok (.aload_n 0, 1) := dc_42 (q0_win (r := 7) wn_Reader_readLaw_96 (by decide +kernel))
theorem d_Reader_readLaw_104 : decode b_Reader_readLaw 104 = .ok (.aload_n 2, 1) := dc_44 (q0_win (r := 8) wn_Reader_readLaw_96 (by decide +kernel))
theorem d_Reader_readLaw_105 : decode b_Reader_readLaw 105 = .ok (.getfield 187, 3) := dc_180 (qU2_win (r := 9) wn_Reader_readLaw_96 (by decide +kernel))
theorem d_Reader_readLaw_108 : decode b_Reader_readLaw 108 = .ok (.invokevirtual 80, 3) := dc_182 (qU2_win (r := 12) wn_Reader_readLaw_96 (by decide +kernel))
theorem d_Reader_readLaw_111 : decode b_Reader_readLaw 111 = .ok (.iload_n 3, 1) := dc_29 (q0_win (r := 15) wn_Reader_readLaw_96 (by decide +kernel))
theorem d_Reader_readLaw_112 : decode b_Reader_readLaw 112 = .ok (.ifCond .eq 15, 3) := dc_153 (qS2_win (r := 16) wn_Reader_readLaw_96 (by decide +kernel))
theorem d_Reader_readLaw_115 : decode b_Reader_readLaw 115 = .ok (.aload_n 0, 1) := dc_42 (q0_win (r := 19) wn_Reader_readLaw_96 (by decide +kernel))
theorem d_Reader_readLaw_116 : decode b_Reader_readLaw 116 = .ok (.iload_n 3, 1) := dc_29 (q0_win (r := 20) wn_Reader_readLaw_96 (by decide +kernel))
theorem d_Reader_readLaw_117 : decode b_Reader_readLaw 117 = .ok (.aload_n 0, 1) := dc_42 (q0_win (r := 21) wn_Reader_readLaw_96 (by decide +kernel))
theorem d_Reader_readLaw_118 : decode b_Reader_readLaw 118 = .ok (.getfield 44, 3) := dc_180 (qU2_win (r := 22) wn_Reader_readLaw_96 (by decide +kernel))
theorem d_Reader_readLaw_121 : decode b_Reader_readLaw 121 = .ok (.invokevirtual 47, 3) := dc_182 (qU2_win (r := 25) wn_Reader_readLaw_96 (by decide +kernel))
theorem d_Reader_readLaw_124 : decode b_Reader_readLaw 124 = .ok (.ifCond .eq 7, 3) := dc_153 (qS2_win (r := 28) wn_Reader_readLaw_96 (by decide +kernel))
theorem d_Reader_readLaw_127 : decode b_Reader_readLaw 127 = .ok (.iconst 1, 1) := dc_4 (q0_win (r := 31) wn_Reader_readLaw_96 (by decide +kernel))
theorem d_Reader_readLaw_128 : decode b_Reader_readLaw 128 = .ok (.goto 4, 3) := dc_167 (qS2_win (r := 32) wn_Reader_readLaw_96 (by decide +kernel))
theorem d_Reader_readLaw_131 : decode b_Reader_readLaw 131 = .ok (.iconst 0, 1) := dc_3 (q0_win (r := 35) wn_Reader_readLaw_96 (by decide +kernel))
theorem d_Reader_readLaw_132 : decode b_Reader_readLaw 132 = .ok (.ireturn, 1) := dc_172 (q0_win (r := 36) wn_Reader_readLaw_96 (by decide +kernel))
def t_Reader_readLaw_L102 (k1 : Nat)  (M : Mem) (u1_ : Nat) (v2_ : Int) : Option (Mem × Int) := (obind (t_Reader_goTo M (M.1 u1_ 7)) fun q24 => (if v2_ = 0 then (some (q24, 1)) else (qlet (t_Reader_refuse q24 v2_ (q24.1 46 4)) fun q28 => (if (q28.2) = 0 then (some ((q28.1), 0)) else (some ((q28.1), 1))))))
def t_Reader_readLaw_L58 (k1 : Nat)  (M : Mem) (u2_ : Nat) : Option (Mem × Int) := (if (M.1 u2_ 4) = 0 then (if M.1 46 0 < 0 then (t_Reader_readLaw_L102 k1 M u2_ 1) else (if M.1 46 0 < 0 then none else (obind (t_Formula_read M u2_ (w32 ((M.1 46 1) + 1)) k1) fun q18 => (t_Reader_readLaw_L102 k1 (q18.1) u2_ (q18.2))))) else (qlet (t_Reader_refuse M 3 (M.1 46 4)) fun q21 => (some ((q21.1), (q21.2)))))
def t_Reader_readLaw_L38 (k1 : Nat)  (M : Mem)  : Option (Mem × Int) := (if (M.1 46 2) = 13 then (t_Reader_readLaw_L58 k1 M (k1 + 10)) else (t_Reader_readLaw_L58 k1 M (k1 + 15)))
def t_Reader_readLaw (M : Mem) (k1 : Nat) : Option (Mem × Int) := (obind (t_Reader_goTo M (w32 ((M.1 46 1) + 1))) fun q2 => (if (q2.1 46 2) = 13 then (t_Reader_readLaw_L38 k1 q2) else (if (q2.1 46 2) = 14 then (t_Reader_readLaw_L38 k1 q2) else (qlet (t_Reader_refuse q2 1 (q2.1 46 4)) fun q9 => (some ((q9.1), (q9.2)))))))
set_option maxHeartbeats 4000000 in
set_option maxRecDepth 100000 in
theorem k_Reader_readLaw_L102 (l : Launch) {p : Program} {e : Env} {s : State} {m : MethodId} {below : List Frame} {meth : Method} {c : Code} {b n : Nat} {C : CT} (hlo : 191 ≤ n) (k1 : Nat) (hk1 : isTown k1) (F : Cx b p m c b_Reader_readLaw 4 s ([.ref (b + 46), .ref (b + k1)] : List Value).toArray "WardFalls$Reader" C n 191) (hlk : meth.locks = false) (hr : meth.sig.returnType = some .boolean) {res : Mem × Int} (M : Mem) (u1_ : Nat) (hu1_ : isFormula u1_) (v2_ : Int) (hv2_ : InR v2_) (H : Heap) (locs : List Loc) (ls : Array Slot) (hS : St b C n M s H locs) (hl : lv_has ls 4 [(0, .ref (b + 46)), (2, .ref (b + u1_))]) (hT : t_Reader_readLaw_L102 k1 M u1_ v2_ = some res) : W p l e (headSpec (wsM y_Reader_readLaw b_Reader_readLaw 4 (some .boolean)) (rmD 5)).room s m ([.ref (b + 46), .ref (b + k1)] : List Value).toArray below meth c H locs 0 0 (MQ below (QZ b C n res.1 res.2) ([.ref (b + 46), .ref (b + k1)] : List Value).toArray s 0 0 (frb b)) (F0 m 102 ls [vI v2_]) := by
  unfold t_Reader_readLaw_L102 at hT
  refine lv_istore_n (lv' := [(3, vI v2_), (0, .ref (b + 46)), (2, .ref (b + u1_))]) F.hx F.hb d_Reader_readLaw_102 rfl hl (Nat.le_of_ble_eq_true rfl) rfl (fun ls hl => ?_)
  refine lv_aload_n F.hx F.hb d_Reader_readLaw_103 rfl (lv_at hl 1 rfl) ?_
  refine lv_aload_n F.hx F.hb d_Reader_readLaw_104 rfl (lv_at hl 2 rfl) ?_
  refine r_get (v := vI (M.1 u1_ 7)) (N := 12) (T := T3) (j := 7) F hS (Formula_lt hu1_) (Formula_sh hu1_) (Formula_N hu1_) rfl (Nat.le_of_ble_eq_true rfl) ing3 mw_56 (fv_int rfl) d_Reader_readLaw_105 ?_
  have i23 := hS.rng u1_ 7
  obtain ⟨q24, hq24, hT⟩ := q_obind hT
  refine r_backV F hS (r_runV (k := 46) (N := 11) (T := T8) (As := [vI (M.1 u1_ 7)]) F hS (show 46 < 191 by decide) (show shK 46 = 12 from rfl) rfl (c_Reader_goTo l F.2.2.1 M (M.1 u1_ 7) i23 _ hq24) gs_Reader_80 hd_Reader_goTo ⟨Nat.le_of_ble_eq_true rfl, Nat.le_of_ble_eq_true rfl⟩ rfl hl.1 (Nat.le_of_ble_eq_true rfl) ⟨Nat.zero_le _, Nat.zero_le _⟩ rfl d_Reader_readLaw_108) (fun H locs hS => ?_)
  refine lv_iload_n F.hx F.hb d_Reader_readLaw_111 rfl (lv_at hl 0 rfl) ?_
  refine r_if_eq (tgt := 127) F.hx F.hb hv2_ d_Reader_readLaw_112 (by decide) (fun c26 => ?_) (fun c26 => ?_)
  · replace hT := (if_pos c26).symm.trans hT
    refine r_iconst F.hx F.hb d_Reader_readLaw_127 ?_
    refine lv_goto (tgt := 132) F.hx F.hb d_Reader_readLaw_128 (by decide) ?_
    cases hT
    exact r_zret F hlk hr hS (Or.inr rfl) d_Reader_readLaw_132
  · replace hT := (if_neg c26).symm.trans hT
    refine lv_aload_n F.hx F.hb d_Reader_readLaw_115 rfl (lv_at hl 1 rfl) ?_
    refine lv_iload_n F.hx F.hb d_Reader_readLaw_116 rfl (lv_at hl 0 rfl) ?_
    refine lv_aload_n F.hx F.hb d_Reader_readLaw_117 rfl (lv_at hl 1 rfl) ?_
    refine r_get (v := vI (q24.1 46 4)) (N := 11) (T := T8) (j := 4) F hS (show 46 < 191 by decide) (show shK 46 = 12 from rfl) (show shN 46 = 11 from rfl) rfl (Nat.le_of_ble_eq_true rfl) ing8 mw_234 (fv_int rfl) d_Reader_readLaw_118 ?_
    have i27 := hS.rng 46 4
    obtain ⟨q28, hq28⟩ : ∃ q, q = (t_Reader_refuse q24 v2_ (q24.1 46 4)) := ⟨_, rfl⟩
    replace hT := qlet_eq hT hq28
    refine r_backZ F hS (r_runV (k := 46) (N := 11) (T := T8) (As := [vI v2_, vI (q24.1 46 4)]) F hS (show 46 < 191 by decide) (show shK 46 = 12 from rfl) rfl (c_Reader_refuse l F.2.2.1 q24 v2_ (q24.1 46 4) hv2_ i27 _ hq28.symm) gs_Reader_47 hd_Reader_refuse ⟨Nat.le_of_ble_eq_true rfl, Nat.le_of_ble_eq_true rfl⟩ rfl hl.1 (Nat.le_of_ble_eq_true rfl) ⟨Nat.zero_le _, Nat.zero_le _⟩ rfl d_Reader_readLaw_121) (fun H locs hS h29 => ?_)
    refine r_if_eq (tgt := 131) F.hx F.hb (inr_z h29) d_Reader_readLaw_124 (by decide) (fun c30 => ?_) (fun c30 => ?_)
    · replace hT := (if_pos c30).symm.trans hT
      refine r_iconst F.hx F.hb d_Reader_readLaw_131 ?_
      cases hT
      exact r_zret F hlk hr hS (Or.inl rfl) d_Reader_readLaw_132
    · replace hT := (if_neg c30).symm.trans hT
      refine r_iconst F.hx F.hb d_Reader_readLaw_127 ?_
      refine lv_goto (tgt := 132) F.hx F.hb d_Reader_readLaw_128 (by decide) ?_
      cases hT
      exact r_zret F hlk hr hS (Or.inr rfl) d_Reader_readLaw_132
set_option maxHeartbeats 4000000 in
set_option maxRecDepth 100000 in
theorem k_Reader_readLaw_L58 (l : Launch) {p : Program} {e : Env} {s : State} {m : MethodId} {below : List Frame} {meth : Method} {c : Code} {b n : Nat} {C : CT} (hlo : 191 ≤ n) (k1 : Nat) (hk1 : isTown k1) (F : Cx b p m c b_Reader_readLaw 4 s ([.ref (b + 46), .ref (b + k1)] : List Value).toArray "WardFalls$Reader" C n 191) (hlk : meth.locks = false) (hr : meth.sig.returnType = some .boolean) {res : Mem × Int} (M : Mem) (u2_ : Nat) (hu2_ : isFormula u2_) (H : Heap) (locs : List Loc) (ls : Array Slot) (hS : St b C n M s H locs) (hl : lv_has ls 4 [(0, .ref (b + 46)), (1, .ref (b + k1))]) (hT : t_Reader_readLaw_L58 k1 M u2_ = some res) : W p l e (headSpec (wsM y_Reader_readLaw b_Reader_readLaw 4 (some .boolean)) (rmD 5)).room s m ([.ref (b + 46), .ref (b + k1)] : List Value).toArray below meth c H locs 0 0 (MQ below (QZ b C n res.1 res.2) ([.ref (b + 46), .ref (b + k1)] : List Value).toArray s 0 0 (frb b)) (F0 m 58 ls [.ref (b + u2_)]) := by
  unfold t_Reader_readLaw_L58 at hT
  refine lv_astore_n (lv' := [(2, .ref (b + u2_)), (0, .ref (b + 46)), (1, .ref (b + k1))]) F.hx F.hb d_Reader_readLaw_58 rfl hl (Nat.le_of_ble_eq_true rfl) rfl (fun ls hl => ?_)
  refine lv_aload_n F.hx F.hb d_Reader_readLaw_59 rfl (lv_at hl 0 rfl) ?_
  refine r_get (v := vI (M.1 u2_ 4)) (N := 12) (T := T3) (j := 4) F hS (Formula_lt hu2_) (Formula_sh hu2_) (Formula_N hu2_) rfl (Nat.le_of_ble_eq_true rfl) ing3 mw_52 (fv_int rfl) d_Reader_readLaw_60 ?_
  have i13 := hS.rng u2_ 4
  refine r_if_eq (tgt := 76) F.hx F.hb i13 d_Reader_readLaw_63 (by decide) (fun c14 => ?_) (fun c14 => ?_)
  · replace hT := (if_pos c14).symm.trans hT
    refine lv_aload_n F.hx F.hb d_Reader_readLaw_76 rfl (lv_at hl 1 rfl) ?_
    rcases q_ite hT with ⟨c15, hT⟩ | ⟨c15, hT⟩
    · refine r_get (v := .null) (N := 11) (T := T8) (j := 0) F hS (show 46 < 191 by decide) (show shK 46 = 12 from rfl) (show shN 46 = 11 from rfl) rfl (Nat.le_of_ble_eq_true rfl) ing8 mw_230 (tok_null hS c15) d_Reader_readLaw_77 ?_
      refine lv_ifnonnullN F.hx F.hb d_Reader_readLaw_80 ?_
      refine r_iconst F.hx F.hb d_Reader_readLaw_83 ?_
      refine lv_goto (tgt := 102) F.hx F.hb d_Reader_readLaw_84 (by decide) ?_
      exact k_Reader_readLaw_L102 l hlo k1 hk1 F hlk hr M u2_ hu2_ 1 (inr_c rfl) _ _ _ hS (lv_sub hl [1, 0] rfl) hT
    · refine r_get (v := .ref (b + 42)) (N := 11) (T := T8) (j := 0) F hS (show 46 < 191 by decide) (show shK 46 = 12 from rfl) (show shN 46 = 11 from rfl) rfl (Nat.le_of_ble_eq_true rfl) ing8 mw_230 (tok_some hS c15) d_Reader_readLaw_77 ?_
      refine lv_ifnonnull (tgt := 87) F.hx F.hb d_Reader_readLaw_80 (by decide) ?_
      refine lv_aload_n F.hx F.hb d_Reader_readLaw_87 rfl (lv_at hl 0 rfl) ?_
      refine lv_aload_n F.hx F.hb d_Reader_readLaw_88 rfl (lv_at hl 1 rfl) ?_
      rcases q_ite hT with ⟨c16, hT⟩ | ⟨c16, hT⟩
      · exact absurd hT (by simp)
      · refine r_get (v := .ref (b + 42)) (N := 11) (T := T8) (j := 0) F hS (show 46 < 191 by decide) (show shK 46 = 12 from rfl) (show shN 46 = 11 from rfl) rfl (Nat.le_of_ble_eq_true rfl) ing8 mw_230 (tok_some hS c16) d_Reader_readLaw_89 ?_
        refine lv_aload_n F.hx F.hb d_Reader_readLaw_92 rfl (lv_at hl 1 rfl) ?_
        refine r_get (v := vI (M.1 46 1)) (N := 11) (T := T8) (j := 1) F hS (show 46 < 191 by decide) (show shK 46 = 12 from rfl) (show shN 46 = 11 from rfl) rfl (Nat.le_of_ble_eq_true rfl) ing8 mw_231 (fv_int rfl) d_Reader_readLaw_93 ?_
        have i17 := hS.rng 46 1
        refine r_iconst F.hx F.hb d_Reader_readLaw_96 ?_
        refine r_iadd F.hx F.hb d_Reader_readLaw_97 ?_
        refine lv_aload_n F.hx F.hb d_Reader_readLaw_98 rfl (lv_at hl 2 rfl) ?_
        obtain ⟨q18, hq18, hT⟩ := q_obind hT
        refine r_backI F hS (r_runV (k := u2_) (N := 12) (T := T3) (As := [.ref (b + 42), vI (w32 ((M.1 46 1) + 1)), .ref (b + k1)]) F hS (Formula_lt hu2_) (Formula_sh hu2_) rfl (c_Formula_read l F.2.2.1 M u2_ (w32 ((M.1 46 1) + 1)) k1 hu2_ (inr_w32 _) hk1 _ hq18) gs_Reader_183 hd_Formula_read ⟨Nat.le_of_ble_eq_true rfl, Nat.le_of_ble_eq_true rfl⟩ rfl hl.1 (Nat.le_of_ble_eq_true rfl) ⟨Nat.zero_le _, Nat.zero_le _⟩ rfl d_Reader_readLaw_99) (fun H locs hS h19 => ?_)
        exact k_Reader_readLaw_L102 l hlo k1 hk1 F hlk hr (q18.1) u2_ hu2_ (q18.2) h19 _ _ _ hS (lv_sub hl [1, 0] rfl) hT
  · replace hT := (if_neg c14).symm.trans hT
    refine lv_aload_n F.hx F.hb d_Reader_readLaw_66 rfl (lv_at hl 1 rfl) ?_
    refine r_iconst F.hx F.hb d_Reader_readLaw_67 ?_
    refine lv_aload_n F.hx F.hb d_Reader_readLaw_68 rfl (lv_at hl 1 rfl) ?_
    refine r_get (v := vI (M.1 46 4)) (N := 11) (T := T8) (j := 4) F hS (show 46 < 191 by decide) (show shK 46 = 12 from rfl) (show shN 46 = 11 from rfl) rfl (Nat.le_of_ble_eq_true rfl) ing8 mw_234 (fv_int rfl) d_Reader_readLaw_69 ?_
    have i20 := hS.rng 46 4
    obtain ⟨q21, hq21⟩ : ∃ q, q = (t_Reader_refuse M 3 (M.1 46 4)) := ⟨_, rfl⟩
    replace hT := qlet_eq hT hq21
    refine r_backZ F hS (r_runV (k := 46) (N := 11) (T := T8) (As := [vI 3, vI (M.1 46 4)]) F hS (show 46 < 191 by decide) (show shK 46 = 12 from rfl) rfl (c_Reader_refuse l F.2.2.1 M 3 (M.1 46 4) (inr_c rfl) i20 _ hq21.symm) gs_Reader_47 hd_Reader_refuse ⟨Nat.le_of_ble_eq_true rfl, Nat.le_of_ble_eq_true rfl⟩ rfl hl.1 (Nat.le_of_ble_eq_true rfl) ⟨Nat.zero_le _, Nat.zero_le _⟩ rfl d_Reader_readLaw_72) (fun H locs hS h22 => ?_)
    cases hT
    exact r_zret F hlk hr hS h22 d_Reader_readLaw_75
set_option maxHeartbeats 4000000 in
set_option maxRecDepth 100000 in
theorem k_Reader_readLaw_L38 (l : Launch) {p : Program} {e : Env} {s : State} {m : MethodId} {below : List Frame} {meth : Method} {c : Code} {b n : Nat} {C : CT} (hlo : 191 ≤ n) (k1 : Nat) (hk1 : isTown k1) (F : Cx b p m c b_Reader_readLaw 4 s ([.ref (b + 46), .ref (b + k1)] : List Value).toArray "WardFalls$Reader" C n 191) (hlk : meth.locks = false) (hr : meth.sig.returnType = some .boolean) {res : Mem × Int} (M : Mem)  (H : Heap) (locs : List Loc) (ls : Array Slot) (hS : St b C n M s H locs) (hl : lv_has ls 4 [(0, .ref (b + 46)), (1, .ref (b + k1))]) (hT : t_Reader_readLaw_L38 k1 M = some res) : W p l e (headSpec (wsM y_Reader_readLaw b_Reader_readLaw 4 (some .boolean)) (rmD 5)).room s m ([.ref (b + 46), .ref (b + k1)] : List Value).toArray below meth c H locs 0 0 (MQ below (QZ b C n res.1 res.2) ([.ref (b + 46), .ref (b + k1)] : List Value).toArray s 0 0 (frb b)) (F0 m 38 ls []) := by
  unfold t_Reader_readLaw_L38 at hT
  refine lv_aload_n F.hx F.hb d_Reader_readLaw_38 rfl (lv_at hl 0 rfl) ?_
  refine r_get (v := vI (M.1 46 2)) (N := 11) (T := T8) (j := 2) F hS (show 46 < 191 by decide) (show shK 46 = 12 from rfl) (show shN 46 = 11 from rfl) rfl (Nat.le_of_ble_eq_true rfl) ing8 mw_232 (fv_int rfl) d_Reader_readLaw_39 ?_
  have i11 := hS.rng 46 2
  refine r_bipush F.hx F.hb d_Reader_readLaw_42 rfl ?_
  refine r_icmp_ne (tgt := 54) F.hx F.hb i11 (inr_c rfl) d_Reader_readLaw_44 (by decide) (fun c12 => ?_) (fun c12 => ?_)
  · replace hT := (if_neg c12).symm.trans hT
    refine lv_aload_n F.hx F.hb d_Reader_readLaw_54 rfl (lv_at hl 1 rfl) ?_
    refine r_get (v := .ref (b + (k1 + 15))) (N := 20) (T := T11) (j := 10) F hS (Town_lt hk1) (Town_sh hk1) (Town_N hk1) rfl (Nat.le_of_ble_eq_true rfl) ing11 mw_120 (Town_g10 hk1 _) d_Reader_readLaw_55 ?_
    exact k_Reader_readLaw_L58 l hlo k1 hk1 F hlk hr M (k1 + 15) (Town_f10 hk1) _ _ _ hS (lv_sub hl [0, 1] rfl) hT
  · replace hT := (if_pos c12).symm.trans hT
    refine lv_aload_n F.hx F.hb d_Reader_readLaw_47 rfl (lv_at hl 1 rfl) ?_
    refine r_get (v := .ref (b + (k1 + 10))) (N := 20) (T := T11) (j := 9) F hS (Town_lt hk1) (Town_sh hk1) (Town_N hk1) rfl (Nat.le_of_ble_eq_true rfl) ing11 mw_117 (Town_g9 hk1 _) d_Reader_readLaw_48 ?_
    refine lv_goto (tgt := 58) F.hx F.hb d_Reader_readLaw_51 (by decide) ?_
    exact k_Reader_readLaw_L58 l hlo k1 hk1 F hlk hr M (k1 + 10) (Town_f9 hk1) _ _ _ hS (lv_sub hl [0, 1] rfl) hT
set_option maxHeartbeats 4000000 in
set_option maxRecDepth 100000 in
theorem c_Reader_readLaw (l : Launch) {b n : Nat} {C : CT} (hlo : 191 ≤ n) (M : Mem) (k1 : Nat) (hk1 : isTown k1) (res : Mem × Int) (hT : t_Reader_readLaw M k1 = some res) : CM l b C n 5 y_Reader_readLaw b_Reader_readLaw 4 (some .boolean) [.ref (b + 46), .ref (b + k1)] M (QZ b C n res.1 res.2) := by
  refine CM.of (lo := 191) (ow := "WardFalls$Reader") (by decide) rfl (Nat.le_of_ble_eq_true rfl) hlo (fun p e s m below meth c F hlk hr hS ls hl => ?_)
  have hl : lv_has ls 4 [(0, .ref (b + 46)), (1, .ref (b + k1))] := hl
  unfold t_Reader_readLaw at hT
  refine lv_aload_n F.hx F.hb d_Reader_readLaw_0 rfl (lv_at hl 0 rfl) ?_
  refine lv_aload_n F.hx F.hb d_Reader_readLaw_1 rfl (lv_at hl 0 rfl) ?_
  refine r_get (v := vI (M.1 46 1)) (N := 11) (T := T8) (j := 1) F hS (show 46 < 191 by decide) (show shK 46 = 12 from rfl) (show shN 46 = 11 from rfl) rfl (Nat.le_of_ble_eq_true rfl) ing8 mw_231 (fv_int rfl) d_Reader_readLaw_2 ?_
  have i1 := hS.rng 46 1
  refine r_iconst F.hx F.hb d_Reader_readLaw_5 ?_
  refine r_iadd F.hx F.hb d_Reader_readLaw_6 ?_
  obtain ⟨q2, hq2, hT⟩ := q_obind hT
  refine r_backV F hS (r_runV (k := 46) (N := 11) (T := T8) (As := [vI (w32 ((M.1 46 1) + 1))]) F hS (show 46 < 191 by decide) (show shK 46 = 12 from rfl) rfl (c_Reader_goTo l F.2.2.1 M (w32 ((M.1 46 1) + 1)) (inr_w32 _) _ hq2) gs_Reader_80 hd_Reader_goTo ⟨Nat.le_of_ble_eq_true rfl, Nat.le_of_ble_eq_true rfl⟩ rfl hl.1 (Nat.le_of_ble_eq_true rfl) ⟨Nat.zero_le _, Nat.zero_le _⟩ rfl d_Reader_readLaw_7) (fun H locs hS => ?_)
  refine lv_aload_n F.hx F.hb d_Reader_readLaw_10 rfl (lv_at hl 0 rfl) ?_
  refine r_get (v := vI (q2.1 46 2)) (N := 11) (T := T8) (j := 2) F hS (show 46 < 191 by decide) (show shK 46 = 12 from rfl) (show shN 46 = 11 from rfl) rfl (Nat.le_of_ble_eq_true rfl) ing8 mw_232 (fv_int rfl) d_Reader_readLaw_11 ?_
  have i4 := hS.rng 46 2
  refine r_bipush F.hx F.hb d_Reader_readLaw_14 rfl ?_
  refine r_icmp_eq (tgt := 38) F.hx F.hb i4 (inr_c rfl) d_Reader_readLaw_16 (by decide) (fun c5 => ?_) (fun c5 => ?_)
  · replace hT := (if_pos c5).symm.trans hT
    exact k_Reader_readLaw_L38 l hlo k1 hk1 F hlk hr q2 _ _ _ hS (lv_sub hl [0, 1] rfl) hT
  · replace hT := (if_neg c5).symm.trans hT
    refine lv_aload_n F.hx F.hb d_Reader_readLaw_19 rfl (lv_at hl 0 rfl) ?_
    refine r_get (v := vI (q2.1 46 2)) (N := 11) (T := T8) (j := 2) F hS (show 46 < 191 by decide) (show shK 46 = 12 from rfl) (show shN 46 = 11 from rfl) rfl (Nat.le_of_ble_eq_true rfl) ing8 mw_232 (fv_int rfl) d_Reader_readLaw_20 ?_
    have i6 := hS.rng 46 2
    refine r_bipush F.hx F.hb d_Reader_readLaw_23 rfl ?_
    refine r_icmp_eq (tgt := 38) F.hx F.hb i6 (inr_c rfl) d_Reader_readLaw_25 (by decide) (fun c7 => ?_) (fun c7 => ?_)
    · replace hT := (if_pos c7).symm.trans hT
      exact k_Reader_readLaw_L38 l hlo k1 hk1 F hlk hr q2 _ _ _ hS (lv_sub hl [0, 1] rfl) hT
    · replace hT := (if_neg c7).symm.trans hT
      refine lv_aload_n F.hx F.hb d_Reader_readLaw_28 rfl (lv_at hl 0 rfl) ?_
      refine r_iconst F.hx F.hb d_Reader_readLaw_29 ?_
      refine lv_aload_n F.hx F.hb d_Reader_readLaw_30 rfl (lv_at hl 0 rfl) ?_
      refine r_get (v := vI (q2.1 46 4)) (N := 11) (T := T8) (j := 4) F hS (show 46 < 191 by decide) (show shK 46 = 12 from rfl) (show shN 46 = 11 from rfl) rfl (Nat.le_of_ble_eq_true rfl) ing8 mw_234 (fv_int rfl) d_Reader_readLaw_31 ?_
      have i8 := hS.rng 46 4
      obtain ⟨q9, hq9⟩ : ∃ q, q = (t_Reader_refuse q2 1 (q2.1 46 4)) := ⟨_, rfl⟩
      replace hT := qlet_eq hT hq9
      refine r_backZ F hS (r_runV (k := 46) (N := 11) (T := T8) (As := [vI 1, vI (q2.1 46 4)]) F hS (show 46 < 191 by decide) (show shK 46 = 12 from rfl) rfl (c_Reader_refuse l F.2.2.1 q2 1 (q2.1 46 4) (inr_c rfl) i8 _ hq9.symm) gs_Reader_47 hd_Reader_refuse ⟨Nat.le_of_ble_eq_true rfl, Nat.le_of_ble_eq_true rfl⟩ rfl hl.1 (Nat.le_of_ble_eq_true rfl) ⟨Nat.zero_le _, Nat.zero_le _⟩ rfl d_Reader_readLaw_34) (fun H locs hS h10 => ?_)
      cases hT
      exact r_zret F hlk hr hS h10 d_Reader_readLaw_37
