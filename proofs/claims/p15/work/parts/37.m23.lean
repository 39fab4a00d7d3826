theorem d_MO_keepNow_0 : decode b_MO_keepNow 0 = .ok (.aload_n 0, 1) := dc_42 (by decide +kernel)
theorem d_MO_keepNow_1 : decode b_MO_keepNow 1 = .ok (.getfield 326, 3) := dc_180 (by decide +kernel)
theorem d_MO_keepNow_4 : decode b_MO_keepNow 4 = .ok (.bipush 20, 2) := dc_16 (by decide +kernel)
theorem d_MO_keepNow_6 : decode b_MO_keepNow 6 = .ok (.if_icmp .ne 39, 3) := dc_160 (by decide +kernel)
theorem d_MO_keepNow_9 : decode b_MO_keepNow 9 = .ok (.iconst 1, 1) := dc_4 (by decide +kernel)
theorem d_MO_keepNow_10 : decode b_MO_keepNow 10 = .ok (.istore_n 1, 1) := dc_60 (by decide +kernel)
theorem d_MO_keepNow_11 : decode b_MO_keepNow 11 = .ok (.iload_n 1, 1) := dc_27 (by decide +kernel)
theorem d_MO_keepNow_12 : decode b_MO_keepNow 12 = .ok (.bipush 20, 2) := dc_16 (by decide +kernel)
theorem d_MO_keepNow_14 : decode b_MO_keepNow 14 = .ok (.if_icmp .ge 21, 3) := dc_162 (by decide +kernel)
theorem d_MO_keepNow_17 : decode b_MO_keepNow 17 = .ok (.aload_n 0, 1) := dc_42 (by decide +kernel)
theorem d_MO_keepNow_18 : decode b_MO_keepNow 18 = .ok (.iconst 3, 1) := dc_6 (by decide +kernel)
theorem d_MO_keepNow_19 : decode b_MO_keepNow 19 = .ok (.iload_n 1, 1) := dc_27 (by decide +kernel)
theorem d_MO_keepNow_20 : decode b_MO_keepNow 20 = .ok (.iadd, 1) := dc_96 (by decide +kernel)
theorem d_MO_keepNow_21 : decode b_MO_keepNow 21 = .ok (.iconst 1, 1) := dc_4 (by decide +kernel)
theorem d_MO_keepNow_22 : decode b_MO_keepNow 22 = .ok (.isub, 1) := dc_100 (by decide +kernel)
theorem d_MO_keepNow_23 : decode b_MO_keepNow 23 = .ok (.iconst 3, 1) := dc_6 (by decide +kernel)
theorem d_MO_keepNow_24 : decode b_MO_keepNow 24 = .ok (.iload_n 1, 1) := dc_27 (by decide +kernel)
theorem d_MO_keepNow_25 : decode b_MO_keepNow 25 = .ok (.iadd, 1) := dc_96 (by decide +kernel)
theorem d_MO_keepNow_26 : decode b_MO_keepNow 26 = .ok (.invokevirtual 437, 3) := dc_182 (by decide +kernel)
theorem d_MO_keepNow_29 : decode b_MO_keepNow 29 = .ok (.iinc 1 1, 3) := dc_132 (by decide +kernel)
theorem d_MO_keepNow_32 : decode b_MO_keepNow 32 = .ok (.goto (-21), 3) := dc_167 (by decide +kernel)
theorem d_MO_keepNow_35 : decode b_MO_keepNow 35 = .ok (.aload_n 0, 1) := dc_42 (by decide +kernel)
theorem d_MO_keepNow_36 : decode b_MO_keepNow 36 = .ok (.dup, 1) := dc_89 (by decide +kernel)
theorem d_MO_keepNow_37 : decode b_MO_keepNow 37 = .ok (.getfield 326, 3) := dc_180 (by decide +kernel)
theorem d_MO_keepNow_40 : decode b_MO_keepNow 40 = .ok (.iconst 1, 1) := dc_4 (by decide +kernel)
theorem d_MO_keepNow_41 : decode b_MO_keepNow 41 = .ok (.isub, 1) := dc_100 (by decide +kernel)
theorem d_MO_keepNow_42 : decode b_MO_keepNow 42 = .ok (.putfield 326, 3) := dc_181 (by decide +kernel)
theorem d_MO_keepNow_45 : decode b_MO_keepNow 45 = .ok (.aload_n 0, 1) := dc_42 (by decide +kernel)
theorem d_MO_keepNow_46 : decode b_MO_keepNow 46 = .ok (.iconst 3, 1) := dc_6 (by decide +kernel)
theorem d_MO_keepNow_47 : decode b_MO_keepNow 47 = .ok (.aload_n 0, 1) := dc_42 (by decide +kernel)
theorem d_MO_keepNow_48 : decode b_MO_keepNow 48 = .ok (.getfield 326, 3) := dc_180 (by decide +kernel)
theorem d_MO_keepNow_51 : decode b_MO_keepNow 51 = .ok (.iadd, 1) := dc_96 (by decide +kernel)
theorem d_MO_keepNow_52 : decode b_MO_keepNow 52 = .ok (.iconst 0, 1) := dc_3 (by decide +kernel)
theorem d_MO_keepNow_53 : decode b_MO_keepNow 53 = .ok (.invokevirtual 437, 3) := dc_182 (by decide +kernel)
theorem d_MO_keepNow_56 : decode b_MO_keepNow 56 = .ok (.aload_n 0, 1) := dc_42 (by decide +kernel)
theorem d_MO_keepNow_57 : decode b_MO_keepNow 57 = .ok (.dup, 1) := dc_89 (by decide +kernel)
theorem d_MO_keepNow_58 : decode b_MO_keepNow 58 = .ok (.getfield 326, 3) := dc_180 (by decide +kernel)
theorem d_MO_keepNow_61 : decode b_MO_keepNow 61 = .ok (.iconst 1, 1) := dc_4 (by decide +kernel)
theorem d_MO_keepNow_62 : decode b_MO_keepNow 62 = .ok (.iadd, 1) := dc_96 (by decide +kernel)
theorem d_MO_keepNow_63 : decode b_MO_keepNow 63 = .ok (.putfield 326, 3) := dc_181 (by decide +kernel)
theorem d_MO_keepNow_66 : decode b_MO_keepNow 66 = .ok (.return_, 1) := dc_177 (by decide +kernel)
def t_MO_keepNow_L45   (M : Mem)  : Option (Mem) := (obind (t_MO_copies M (w32 (3 + (M.1 191 43))) 0) fun q4 => (qlet (setI q4 191 43 (w32 ((q4.1 191 43) + 1))) fun M7 => (some M7)))
def t_MO_keepNow_L11   : Nat → Mem → Int → Option (Mem)
  | 0, _, _ => none
  | fu + 1, M, v1_ => (if 20 ≤ v1_ then (qlet (setI M 191 43 (w32 ((M.1 191 43) - 1))) fun M10 => (t_MO_keepNow_L45 M10)) else (obind (t_MO_copies M (w32 ((w32 (3 + v1_)) - 1)) (w32 (3 + v1_))) fun q11 => (t_MO_keepNow_L11 fu q11 (w32 (v1_ + 1)))))
def t_MO_keepNow (M : Mem)  : Option (Mem) := (if (M.1 191 43) = 20 then (t_MO_keepNow_L11 FU M 1) else (t_MO_keepNow_L45 M))
set_option maxHeartbeats 4000000 in
set_option maxRecDepth 100000 in
theorem k_MO_keepNow_L45 (l : Launch) {p : Program} {e : Env} {s : State} {m : MethodId} {below : List Frame} {meth : Method} {c : Code} {b n : Nat} {C : CT} (hlo : 231 ≤ n)   (F : Cx b p m c b_MO_keepNow 2 s ([.ref (b + 191)] : List Value).toArray "WardFallsModel" C n 231) (hlk : meth.locks = false) (hr : meth.sig.returnType = none) {res : Mem} (M : Mem)  (H : Heap) (locs : List Loc) (ls : Array Slot) (hS : St b C n M s H locs) (hl : lv_has ls 2 [(0, .ref (b + 191))]) (hT : t_MO_keepNow_L45 M = some res) : W p l e (headSpec (wsM y_MO_keepNow b_MO_keepNow 2 (none)) (rmD 1)).room s m ([.ref (b + 191)] : List Value).toArray below meth c H locs 0 0 (MQ below (QV b C n res) ([.ref (b + 191)] : List Value).toArray s 0 0 (frb b)) (F0 m 45 ls []) := by
  unfold t_MO_keepNow_L45 at hT
  refine lv_aload_n F.hx F.hb d_MO_keepNow_45 rfl (lv_at hl 0 rfl) ?_
  refine r_iconst F.hx F.hb d_MO_keepNow_46 ?_
  refine lv_aload_n F.hx F.hb d_MO_keepNow_47 rfl (lv_at hl 0 rfl) ?_
  refine r_get (v := vI (M.1 191 43)) (N := 68) (T := T1) (j := 43) F hS (show 191 < 231 by decide) (show shK 191 = 5 from rfl) (show shN 191 = 68 from rfl) rfl (Nat.le_of_ble_eq_true rfl) ing1 mw_1432 (fv_int rfl) d_MO_keepNow_48 ?_
  have i3 := hS.rng 191 43
  refine r_iadd F.hx F.hb d_MO_keepNow_51 ?_
  refine r_iconst F.hx F.hb d_MO_keepNow_52 ?_
  obtain ⟨q4, hq4, hT⟩ := q_obind hT
  refine r_backV F hS (r_runV (k := 191) (N := 68) (T := T1) (As := [vI (w32 (3 + (M.1 191 43))), vI 0]) F hS (show 191 < 231 by decide) (show shK 191 = 5 from rfl) rfl (c_MO_copies l F.2.2.1 M (w32 (3 + (M.1 191 43))) 0 (inr_w32 _) (inr_c rfl) _ hq4) gs_MO_437 hd_MO_copies ⟨Nat.le_of_ble_eq_true rfl, Nat.le_of_ble_eq_true rfl⟩ rfl hl.1 (Nat.le_of_ble_eq_true rfl) ⟨Nat.zero_le _, Nat.zero_le _⟩ rfl d_MO_keepNow_53) (fun H locs hS => ?_)
  refine lv_aload_n F.hx F.hb d_MO_keepNow_56 rfl (lv_at hl 0 rfl) ?_
  refine lv_dup F.hx F.hb d_MO_keepNow_57 rfl ?_
  refine r_get (v := vI (q4.1 191 43)) (N := 68) (T := T1) (j := 43) F hS (show 191 < 231 by decide) (show shK 191 = 5 from rfl) (show shN 191 = 68 from rfl) rfl (Nat.le_of_ble_eq_true rfl) ing1 mw_1432 (fv_int rfl) d_MO_keepNow_58 ?_
  have i6 := hS.rng 191 43
  refine r_iconst F.hx F.hb d_MO_keepNow_61 ?_
  refine r_iadd F.hx F.hb d_MO_keepNow_62 ?_
  refine r_putI (N := 68) (T := T1) (j := 43) F hS (show 191 < 231 by decide) (show shK 191 = 5 from rfl) (show shN 191 = 68 from rfl) rfl (Nat.le_of_ble_eq_true rfl) ing1 tyok1 nm1 rfl rfl rfl rfl rfl rfl mw_1432 (inr_w32 _) d_MO_keepNow_63 (fun H locs hS => ?_)
  obtain ⟨M7, eM7⟩ : ∃ q, q = (setI q4 191 43 (w32 ((q4.1 191 43) + 1))) := ⟨_, rfl⟩
  replace hS : St b C n M7 s H locs := by rw [eM7]; exact hS
  replace hT := qlet_eq hT eM7
  cases hT
  exact r_vret F hlk hr hS d_MO_keepNow_66
set_option maxHeartbeats 4000000 in
set_option maxRecDepth 100000 in
theorem k_MO_keepNow_L11 (l : Launch) {p : Program} {e : Env} {s : State} {m : MethodId} {below : List Frame} {meth : Method} {c : Code} {b n : Nat} {C : CT} (hlo : 231 ≤ n)   (F : Cx b p m c b_MO_keepNow 2 s ([.ref (b + 191)] : List Value).toArray "WardFallsModel" C n 231) (hlk : meth.locks = false) (hr : meth.sig.returnType = none) {res : Mem} : ∀ (fu : Nat) (M : Mem) (v1_ : Int) (hv1_ : InR v1_) (H : Heap) (locs : List Loc) (ls : Array Slot), St b C n M s H locs → lv_has ls 2 [(0, .ref (b + 191)), (1, vI v1_)] → t_MO_keepNow_L11 fu M v1_ = some res → W p l e (headSpec (wsM y_MO_keepNow b_MO_keepNow 2 (none)) (rmD 1)).room s m ([.ref (b + 191)] : List Value).toArray below meth c H locs 0 0 (MQ below (QV b C n res) ([.ref (b + 191)] : List Value).toArray s 0 0 (frb b)) (F0 m 11 ls []) := by
  intro fu
  induction fu with
  | zero => intro M v1_ hv1_ H locs ls hS hl hT; exact absurd hT (by simp [t_MO_keepNow_L11])
  | succ fu ih =>
    intro M v1_ hv1_ H locs ls hS hl hT
    rw [t_MO_keepNow_L11] at hT
    refine lv_iload_n F.hx F.hb d_MO_keepNow_11 rfl (lv_at hl 1 rfl) ?_
    refine r_bipush F.hx F.hb d_MO_keepNow_12 rfl ?_
    refine r_icmp_ge (tgt := 35) F.hx F.hb hv1_ (inr_c rfl) d_MO_keepNow_14 (by decide) (fun c8 => ?_) (fun c8 => ?_)
    · replace hT := (if_pos c8).symm.trans hT
      refine lv_aload_n F.hx F.hb d_MO_keepNow_35 rfl (lv_at hl 0 rfl) ?_
      refine lv_dup F.hx F.hb d_MO_keepNow_36 rfl ?_
      refine r_get (v := vI (M.1 191 43)) (N := 68) (T := T1) (j := 43) F hS (show 191 < 231 by decide) (show shK 191 = 5 from rfl) (show shN 191 = 68 from rfl) rfl (Nat.le_of_ble_eq_true rfl) ing1 mw_1432 (fv_int rfl) d_MO_keepNow_37 ?_
      have i9 := hS.rng 191 43
      refine r_iconst F.hx F.hb d_MO_keepNow_40 ?_
      refine r_isub F.hx F.hb d_MO_keepNow_41 ?_
      refine r_putI (N := 68) (T := T1) (j := 43) F hS (show 191 < 231 by decide) (show shK 191 = 5 from rfl) (show shN 191 = 68 from rfl) rfl (Nat.le_of_ble_eq_true rfl) ing1 tyok1 nm1 rfl rfl rfl rfl rfl rfl mw_1432 (inr_w32 _) d_MO_keepNow_42 (fun H locs hS => ?_)
      obtain ⟨M10, eM10⟩ : ∃ q, q = (setI M 191 43 (w32 ((M.1 191 43) - 1))) := ⟨_, rfl⟩
      replace hS : St b C n M10 s H locs := by rw [eM10]; exact hS
      replace hT := qlet_eq hT eM10
      exact k_MO_keepNow_L45 l hlo F hlk hr M10 _ _ _ hS (lv_sub hl [0] rfl) hT
    · replace hT := (if_neg c8).symm.trans hT
      refine lv_aload_n F.hx F.hb d_MO_keepNow_17 rfl (lv_at hl 0 rfl) ?_
      refine r_iconst F.hx F.hb d_MO_keepNow_18 ?_
      refine lv_iload_n F.hx F.hb d_MO_keepNow_19 rfl (lv_at hl 1 rfl) ?_
      refine r_iadd F.hx F.hb d_MO_keepNow_20 ?_
      refine r_iconst F.hx F.hb d_MO_keepNow_21 ?_
      refine r_isub F.hx F.hb d_MO_keepNow_22 ?_
      refine r_iconst F.hx F.hb d_MO_keepNow_23 ?_
      refine lv_iload_n F.hx F.hb d_MO_keepNow_24 rfl (lv_at hl 1 rfl) ?_
      refine r_iadd F.hx F.hb d_MO_keepNow_25 ?_
      obtain ⟨q11, hq11, hT⟩ := q_obind hT
      refine r_backV F hS (r_runV (k := 191) (N := 68) (T := T1) (As := [vI (w32 ((w32 (3 + v1_)) - 1)), vI (w32 (3 + v1_))]) F hS (show 191 < 231 by decide) (show shK 191 = 5 from rfl) rfl (c_MO_copies l F.2.2.1 M (w32 ((w32 (3 + v1_)) - 1)) (w32 (3 + v1_)) (inr_w32 _) (inr_w32 _) _ hq11) gs_MO_437 hd_MO_copies ⟨Nat.le_of_ble_eq_true rfl, Nat.le_of_ble_eq_true rfl⟩ rfl hl.1 (Nat.le_of_ble_eq_true rfl) ⟨Nat.zero_le _, Nat.zero_le _⟩ rfl d_MO_keepNow_26) (fun H locs hS => ?_)
      refine lv_iinc (v := Int32.ofInt (w32 (v1_ + 1))) (lv' := [(1, vI (w32 (v1_ + 1))), (0, .ref (b + 191))]) F.hx F.hb d_MO_keepNow_29 hl (k := 1) rfl (q_of_add _ _) (Nat.le_of_ble_eq_true rfl) rfl (fun ls hl => ?_)
      refine lv_goto (tgt := 11) F.hx F.hb d_MO_keepNow_32 (by decide) ?_
      exact ih q11 (w32 (v1_ + 1)) (inr_w32 _) _ _ _ hS (lv_sub hl [1, 0] rfl) hT
set_option maxHeartbeats 4000000 in
set_option maxRecDepth 100000 in
theorem c_MO_keepNow (l : Launch) {b n : Nat} {C : CT} (hlo : 231 ≤ n) (M : Mem)   (res : Mem) (hT : t_MO_keepNow M  = some res) : CM l b C n 1 y_MO_keepNow b_MO_keepNow 2 (none) [.ref (b + 191)] M (QV b C n res) := by
  refine CM.of (lo := 231) (ow := "WardFallsModel") (by decide) rfl (Nat.le_of_ble_eq_true rfl) hlo (fun p e s m below meth c F hlk hr hS ls hl => ?_)
  have hl : lv_has ls 2 [(0, .ref (b + 191))] := hl
  unfold t_MO_keepNow at hT
  refine lv_aload_n F.hx F.hb d_MO_keepNow_0 rfl (lv_at hl 0 rfl) ?_
  refine r_get (v := vI (M.1 191 43)) (N := 68) (T := T1) (j := 43) F hS (show 191 < 231 by decide) (show shK 191 = 5 from rfl) (show shN 191 = 68 from rfl) rfl (Nat.le_of_ble_eq_true rfl) ing1 mw_1432 (fv_int rfl) d_MO_keepNow_1 ?_
  have i1 := hS.rng 191 43
  refine r_bipush F.hx F.hb d_MO_keepNow_4 rfl ?_
  refine r_icmp_ne (tgt := 45) F.hx F.hb i1 (inr_c rfl) d_MO_keepNow_6 (by decide) (fun c2 => ?_) (fun c2 => ?_)
  · replace hT := (if_neg c2).symm.trans hT
    exact k_MO_keepNow_L45 l hlo F hlk hr M _ _ _ hS (lv_sub hl [0] rfl) hT
  · replace hT := (if_pos c2).symm.trans hT
    refine r_iconst F.hx F.hb d_MO_keepNow_9 ?_
    refine lv_istore_n (lv' := [(1, vI 1), (0, .ref (b + 191))]) F.hx F.hb d_MO_keepNow_10 rfl hl (Nat.le_of_ble_eq_true rfl) rfl (fun ls hl => ?_)
    exact k_MO_keepNow_L11 l hlo F hlk hr FU M 1 (inr_c rfl) _ _ _ hS (lv_sub hl [1, 0] rfl) hT
theorem d_MO_isDown_0 : decode b_MO_isDown 0 = .ok (.iload_n 0, 1) := dc_26 (by decide +kernel)
theorem d_MO_isDown_1 : decode b_MO_isDown 1 = .ok (.ifCond .lt 12, 3) := dc_155 (by decide +kernel)
theorem d_MO_isDown_4 : decode b_MO_isDown 4 = .ok (.iload_n 0, 1) := dc_26 (by decide +kernel)
theorem d_MO_isDown_5 : decode b_MO_isDown 5 = .ok (.iconst 4, 1) := dc_7 (by decide +kernel)
theorem d_MO_isDown_6 : decode b_MO_isDown 6 = .ok (.if_icmp .gt 7, 3) := dc_163 (by decide +kernel)
theorem d_MO_isDown_9 : decode b_MO_isDown 9 = .ok (.iconst 1, 1) := dc_4 (by decide +kernel)
theorem d_MO_isDown_10 : decode b_MO_isDown 10 = .ok (.goto 4, 3) := dc_167 (by decide +kernel)
theorem d_MO_isDown_13 : decode b_MO_isDown 13 = .ok (.iconst 0, 1) := dc_3 (by decide +kernel)
theorem d_MO_isDown_14 : decode b_MO_isDown 14 = .ok (.ireturn, 1) := dc_172 (by decide +kernel)
def t_MO_isDown (M : Mem) (x1 : Int) : Int := (if x1 < 0 then 0 else (if 4 < x1 then 0 else 1))
set_option maxHeartbeats 4000000 in
set_option maxRecDepth 100000 in
theorem c_MO_isDown (l : Launch) {b n : Nat} {C : CT} (hlo : 231 ≤ n) (M : Mem) (x1 : Int) (hx1 : InR x1) (res : Int) (hT : t_MO_isDown M x1 = res) : CM l b C n 0 y_MO_isDown b_MO_isDown 1 (some .boolean) [vI x1] M (QZ b C n M res) := by
  refine CM.of (lo := 231) (ow := "WardFallsModel") (by decide) rfl (Nat.le_of_ble_eq_true rfl) hlo (fun p e s m below meth c F hlk hr hS ls hl => ?_)
  have hl : lv_has ls 1 [(0, vI x1)] := hl
  unfold t_MO_isDown at hT
  refine lv_iload_n F.hx F.hb d_MO_isDown_0 rfl (lv_at hl 0 rfl) ?_
  refine r_if_lt (tgt := 13) F.hx F.hb hx1 d_MO_isDown_1 (by decide) (fun c1 => ?_) (fun c1 => ?_)
  · replace hT := (if_pos c1).symm.trans hT
    refine r_iconst F.hx F.hb d_MO_isDown_13 ?_
    subst hT
    exact r_zret F hlk hr hS (Or.inl rfl) d_MO_isDown_14
  · replace hT := (if_neg c1).symm.trans hT
    refine lv_iload_n F.hx F.hb d_MO_isDown_4 rfl (lv_at hl 0 rfl) ?_
    refine r_iconst F.hx F.hb d_MO_isDown_5 ?_
    refine r_icmp_gt (tgt := 13) F.hx F.hb hx1 (inr_c rfl) d_MO_isDown_6 (by decide) (fun c2 => ?_) (fun c2 => ?_)
    · replace hT := (if_pos c2).symm.trans hT
      refine r_iconst F.hx F.hb d_MO_isDown_13 ?_
      subst hT
      exact r_zret F hlk hr hS (Or.inl rfl) d_MO_isDown_14
    · replace hT := (if_neg c2).symm.trans hT
      refine r_iconst F.hx F.hb d_MO_isDown_9 ?_
      refine lv_goto (tgt := 14) F.hx F.hb d_MO_isDown_10 (by decide) ?_
      subst hT
      exact r_zret F hlk hr hS (Or.inr rfl) d_MO_isDown_14
theorem d_MO_pours_0 : decode b_MO_pours 0 = .ok (.iload_n 2, 1) := dc_28 (by decide +kernel)
theorem d_MO_pours_1 : decode b_MO_pours 1 = .ok (.istore_n 3, 1) := dc_62 (by decide +kernel)
theorem d_MO_pours_2 : decode b_MO_pours 2 = .ok (.iconst 0, 1) := dc_3 (by decide +kernel)
theorem d_MO_pours_3 : decode b_MO_pours 3 = .ok (.istore 4, 2) := dc_54 (by decide +kernel)
theorem d_MO_pours_5 : decode b_MO_pours 5 = .ok (.iload 4, 2) := dc_21 (by decide +kernel)
theorem d_MO_pours_7 : decode b_MO_pours 7 = .ok (.bipush 48, 2) := dc_16 (by decide +kernel)
theorem d_MO_pours_9 : decode b_MO_pours 9 = .ok (.if_icmp .gt 73, 3) := dc_163 (by decide +kernel)
theorem d_MO_pours_12 : decode b_MO_pours 12 = .ok (.aload_n 0, 1) := dc_42 (by decide +kernel)
theorem d_MO_pours_13 : decode b_MO_pours 13 = .ok (.iload_n 1, 1) := dc_27 (by decide +kernel)
theorem d_MO_pours_14 : decode b_MO_pours 14 = .ok (.iload_n 3, 1) := dc_29 (by decide +kernel)
theorem d_MO_pours_15 : decode b_MO_pours 15 = .ok (.invokevirtual 350, 3) := dc_182 (by decide +kernel)
theorem d_MO_pours_18 : decode b_MO_pours 18 = .ok (.istore 5, 2) := dc_54 (by decide +kernel)
theorem d_MO_pours_20 : decode b_MO_pours 20 = .ok (.iload 5, 2) := dc_21 (by decide +kernel)
theorem d_MO_pours_22 : decode b_MO_pours 22 = .ok (.iconst (-1), 1) := dc_2 (by decide +kernel)
theorem d_MO_pours_23 : decode b_MO_pours 23 = .ok (.if_icmp .eq 19, 3) := dc_159 (by decide +kernel)
theorem d_MO_pours_26 : decode b_MO_pours 26 = .ok (.aload_n 0, 1) := dc_42 (by decide +kernel)
theorem d_MO_pours_27 : decode b_MO_pours 27 = .ok (.getfield 73, 3) := dc_180 (by decide +kernel)
theorem d_MO_pours_30 : decode b_MO_pours 30 = .ok (.iload_n 1, 1) := dc_27 (by decide +kernel)
theorem d_MO_pours_31 : decode b_MO_pours 31 = .ok (.laload, 1) := dc_47 (by decide +kernel)
theorem d_MO_pours_32 : decode b_MO_pours 32 = .ok (.iload 5, 2) := dc_21 (by decide +kernel)
theorem d_MO_pours_34 : decode b_MO_pours 34 = .ok (.lshr, 1) := dc_123 (by decide +kernel)
theorem d_MO_pours_35 : decode b_MO_pours 35 = .ok (.lconst 1, 1) := dc_10 (by decide +kernel)
theorem d_MO_pours_36 : decode b_MO_pours 36 = .ok (.land, 1) := dc_127 (by decide +kernel)
theorem d_MO_pours_37 : decode b_MO_pours 37 = .ok (.lconst 1, 1) := dc_10 (by decide +kernel)
theorem d_MO_pours_38 : decode b_MO_pours 38 = .ok (.lcmp, 1) := dc_148 (by decide +kernel)
theorem d_MO_pours_39 : decode b_MO_pours 39 = .ok (.ifCond .ne 34, 3) := dc_154 (by decide +kernel)
theorem d_MO_pours_42 : decode b_MO_pours 42 = .ok (.aload_n 0, 1) := dc_42 (by decide +kernel)
theorem d_MO_pours_43 : decode b_MO_pours 43 = .ok (.getfield 73, 3) := dc_180 (by decide +kernel)
theorem d_MO_pours_46 : decode b_MO_pours 46 = .ok (.iload_n 1, 1) := dc_27 (by decide +kernel)
theorem d_MO_pours_47 : decode b_MO_pours 47 = .ok (.laload, 1) := dc_47 (by decide +kernel)
theorem d_MO_pours_48 : decode b_MO_pours 48 = .ok (.iload_n 3, 1) := dc_29 (by decide +kernel)
theorem d_MO_pours_49 : decode b_MO_pours 49 = .ok (.lshr, 1) := dc_123 (by decide +kernel)
theorem d_MO_pours_50 : decode b_MO_pours 50 = .ok (.lconst 1, 1) := dc_10 (by decide +kernel)
theorem d_MO_pours_51 : decode b_MO_pours 51 = .ok (.land, 1) := dc_127 (by decide +kernel)
theorem d_MO_pours_52 : decode b_MO_pours 52 = .ok (.lconst 1, 1) := dc_10 (by decide +kernel)
theorem d_MO_pours_53 : decode b_MO_pours 53 = .ok (.lcmp, 1) := dc_148 (by decide +kernel)
theorem d_MO_pours_54 : decode b_MO_pours 54 = .ok (.ifCond .ne 5, 3) := dc_154 (by decide +kernel)
theorem d_MO_pours_57 : decode b_MO_pours 57 = .ok (.iconst 0, 1) := dc_3 (by decide +kernel)
theorem d_MO_pours_58 : decode b_MO_pours 58 = .ok (.ireturn, 1) := dc_172 (by decide +kernel)
theorem d_MO_pours_59 : decode b_MO_pours 59 = .ok (.aload_n 0, 1) := dc_42 (by decide +kernel)
theorem d_MO_pours_60 : decode b_MO_pours 60 = .ok (.getfield 73, 3) := dc_180 (by decide +kernel)
theorem d_MO_pours_63 : decode b_MO_pours 63 = .ok (.iload_n 1, 1) := dc_27 (by decide +kernel)
theorem d_MO_pours_64 : decode b_MO_pours 64 = .ok (.dup2, 1) := dc_92 (by decide +kernel)
theorem d_MO_pours_65 : decode b_MO_pours 65 = .ok (.laload, 1) := dc_47 (by decide +kernel)
theorem d_MO_pours_66 : decode b_MO_pours 66 = .ok (.lconst 1, 1) := dc_10 (by decide +kernel)
theorem d_MO_pours_67 : decode b_MO_pours 67 = .ok (.iload_n 3, 1) := dc_29 (by decide +kernel)
theorem d_MO_pours_68 : decode b_MO_pours 68 = .ok (.lshl, 1) := dc_121 (by decide +kernel)
theorem d_MO_pours_69 : decode b_MO_pours 69 = .ok (.lor, 1) := dc_129 (by decide +kernel)
theorem d_MO_pours_70 : decode b_MO_pours 70 = .ok (.lastore, 1) := dc_80 (by decide +kernel)
theorem d_MO_pours_71 : decode b_MO_pours 71 = .ok (.iconst 1, 1) := dc_4 (by decide +kernel)
theorem d_MO_pours_72 : decode b_MO_pours 72 = .ok (.ireturn, 1) := dc_172 (by decide +kernel)
theorem d_MO_pours_73 : decode b_MO_pours 73 = .ok (.iload 5, 2) := dc_21 (by decide +kernel)
theorem d_MO_pours_75 : decode b_MO_pours 75 = .ok (.istore_n 3, 1) := dc_62 (by decide +kernel)
theorem d_MO_pours_76 : decode b_MO_pours 76 = .ok (.iinc 4 1, 3) := dc_132 (by decide +kernel)
theorem d_MO_pours_79 : decode b_MO_pours 79 = .ok (.goto (-74), 3) := dc_167 (by decide +kernel)
theorem d_MO_pours_82 : decode b_MO_pours 82 = .ok (.iconst 0, 1) := dc_3 (by decide +kernel)
theorem d_MO_pours_83 : decode b_MO_pours 83 = .ok (.ireturn, 1) := dc_172 (by decide +kernel)
def t_MO_pours_L42 (x1 : Int) (x2 : Int)  (M : Mem) (v2_ : Int) : Option (Mem × Int) := (qguard (0 ≤ x1 ∧ x1 < 23) (if ((q_lshr (M.2 211 x1) v2_) &&& 1) = 1 then (some (M, 0)) else (qguard (0 ≤ x1 ∧ x1 < 23) (qguard (0 ≤ x1 ∧ x1 < 23) (qlet (setL M 211 x1 ((M.2 211 x1) ||| (q_lshl 1 v2_))) fun M11 => (some (M11, 1)))))))
def t_MO_pours_L5 (x1 : Int) (x2 : Int)  : Nat → Mem → Int → Int → Option (Mem × Int)
  | 0, _, _, _ => none
  | fu + 1, M, v2_, v3_ => (if 48 < v3_ then (some (M, 0)) else (obind (t_MO_nextOf M x1 v2_) fun q2 => (if q2 = (-1) then (t_MO_pours_L42 x1 x2 M v2_) else (qguard (0 ≤ x1 ∧ x1 < 23) (if ((q_lshr (M.2 211 x1) q2) &&& 1) = 1 then (t_MO_pours_L42 x1 x2 M v2_) else (t_MO_pours_L5 x1 x2 fu M q2 (w32 (v3_ + 1))))))))
def t_MO_pours (M : Mem) (x1 : Int) (x2 : Int) : Option (Mem × Int) := (t_MO_pours_L5 x1 x2 FU M x2 0)
set_option maxHeartbeats 4000000 in
set_option maxRecDepth 100000 in
theorem k_MO_pours_L42 (l : Launch) {p : Program} {e : Env} {s : State} {m : MethodId} {below : List Frame} {meth : Method} {c : Code} {b n : Nat} {C : CT} (hlo : 231 ≤ n) (x1 : Int) (x2 : Int) (hx1 : InR x1) (hx2 : InR x2) (F : Cx b p m c b_MO_pours 6 s ([.ref (b + 191), vI x1, vI x2] : List Value).toArray "WardFallsModel" C n 231) (hlk : meth.locks = false) (hr : meth.sig.returnType = some .boolean) {res : Mem × Int} (M : Mem) (v2_ : Int) (hv2_ : InR v2_) (H : Heap) (locs : List Loc) (ls : Array Slot) (hS : St b C n M s H locs) (hl : lv_has ls 6 [(0, .ref (b + 191)), (1, vI x1), (3, vI v2_)]) (hT : t_MO_pours_L42 x1 x2 M v2_ = some res) : W p l e (headSpec (wsM y_MO_pours b_MO_pours 6 (some .boolean)) (rmD 2)).room s m ([.ref (b + 191), vI x1, vI x2] : List Value).toArray below meth c H locs 0 0 (MQ below (QZ b C n res.1 res.2) ([.ref (b + 191), vI x1, vI x2] : List Value).toArray s 0 0 (frb b)) (F0 m 42 ls []) := by
  unfold t_MO_pours_L42 at hT
  refine lv_aload_n F.hx F.hb d_MO_pours_42 rfl (lv_at hl 0 rfl) ?_
  refine r_get (v := .ref (b + 211)) (N := 68) (T := T1) (j := 34) F hS (show 191 < 231 by decide) (show shK 191 = 5 from rfl) (show shN 191 = 68 from rfl) rfl (Nat.le_of_ble_eq_true rfl) ing1 mw_1423 (fv_sg rfl rfl rfl) d_MO_pours_43 ?_
  refine lv_iload_n F.hx F.hb d_MO_pours_46 rfl (lv_at hl 1 rfl) ?_
  obtain ⟨⟨g7a, g7b⟩, hT⟩ := q_guard hT
  refine r_lald F hS (show 211 < 231 by decide) (show shK 211 = 2 from rfl) (show shN 211 = 23 from rfl) hx1 g7a g7b d_MO_pours_47 ?_
  refine lv_iload_n F.hx F.hb d_MO_pours_48 rfl (lv_at hl 2 rfl) ?_
  refine r_lshr F.hx F.hb d_MO_pours_49 ?_
  refine lv_lconst (v := 1) F.hx F.hb d_MO_pours_50 rfl ?_
  refine lv_land F.hx F.hb d_MO_pours_51 ?_
  refine lv_lconst (v := 1) F.hx F.hb d_MO_pours_52 rfl ?_
  refine W.lcmp F.hx F.hb d_MO_pours_53 ?_
  refine r_lif_ne (tgt := 59) F.hx F.hb  d_MO_pours_54 (by decide) (fun c8 => ?_) (fun c8 => ?_)
  · replace hT := (if_neg c8).symm.trans hT
    refine lv_aload_n F.hx F.hb d_MO_pours_59 rfl (lv_at hl 0 rfl) ?_
    refine r_get (v := .ref (b + 211)) (N := 68) (T := T1) (j := 34) F hS (show 191 < 231 by decide) (show shK 191 = 5 from rfl) (show shN 191 = 68 from rfl) rfl (Nat.le_of_ble_eq_true rfl) ing1 mw_1423 (fv_sg rfl rfl rfl) d_MO_pours_60 ?_
    refine lv_iload_n F.hx F.hb d_MO_pours_63 rfl (lv_at hl 1 rfl) ?_
    refine lv_dup2_11 F.hx F.hb d_MO_pours_64 rfl rfl ?_
    obtain ⟨⟨g9a, g9b⟩, hT⟩ := q_guard hT
    refine r_lald F hS (show 211 < 231 by decide) (show shK 211 = 2 from rfl) (show shN 211 = 23 from rfl) hx1 g9a g9b d_MO_pours_65 ?_
    refine lv_lconst (v := 1) F.hx F.hb d_MO_pours_66 rfl ?_
    refine lv_iload_n F.hx F.hb d_MO_pours_67 rfl (lv_at hl 2 rfl) ?_
    refine r_lshl F.hx F.hb d_MO_pours_68 ?_
    refine lv_lor F.hx F.hb d_MO_pours_69 ?_
    obtain ⟨⟨g10a, g10b⟩, hT⟩ := q_guard hT
    refine r_last F hS (show 211 < 231 by decide) (show shK 211 = 2 from rfl) (show shN 211 = 23 from rfl) hx1 g10a g10b d_MO_pours_70 (fun H locs hS => ?_)
    obtain ⟨M11, eM11⟩ : ∃ q, q = (setL M 211 x1 ((M.2 211 x1) ||| (q_lshl 1 v2_))) := ⟨_, rfl⟩
    replace hS : St b C n M11 s H locs := by rw [eM11]; exact hS
    replace hT := qlet_eq hT eM11
    refine r_iconst F.hx F.hb d_MO_pours_71 ?_
    cases hT
    exact r_zret F hlk hr hS (Or.inr rfl) d_MO_pours_72
  · replace hT := (if_pos c8).symm.trans hT
    refine r_iconst F.hx F.hb d_MO_pours_57 ?_
    cases hT
    exact r_zret F hlk hr hS (Or.inl rfl) d_MO_pours_58
set_option maxHeartbeats 4000000 in
set_option maxRecDepth 100000 in
theorem k_MO_pours_L5 (l : Launch) {p : Program} {e : Env} {s : State} {m : MethodId} {below : List Frame} {meth : Method} {c : Code} {b n : Nat} {C : CT} (hlo : 231 ≤ n) (x1 : Int) (x2 : Int) (hx1 : InR x1) (hx2 : InR x2) (F : Cx b p m c b_MO_pours 6 s ([.ref (b + 191), vI x1, vI x2] : List Value).toArray "WardFallsModel" C n 231) (hlk : meth.locks = false) (hr : meth.sig.returnType = some .boolean) {res : Mem × Int} : ∀ (fu : Nat) (M : Mem) (v2_ : Int) (hv2_ : InR v2_) (v3_ : Int) (hv3_ : InR v3_) (H : Heap) (locs : List Loc) (ls : Array Slot), St b C n M s H locs → lv_has ls 6 [(0, .ref (b + 191)), (1, vI x1), (3, vI v2_), (4, vI v3_)] → t_MO_pours_L5 x1 x2 fu M v2_ v3_ = some res → W p l e (headSpec (wsM y_MO_pours b_MO_pours 6 (some .boolean)) (rmD 2)).room s m ([.ref (b + 191), vI x1, vI x2] : List Value).toArray below meth c H locs 0 0 (MQ below (QZ b C n res.1 res.2) ([.ref (b + 191), vI x1, vI x2] : List Value).toArray s 0 0 (frb b)) (F0 m 5 ls []) := by
  intro fu
  induction fu with
  | zero => intro M v2_ hv2_ v3_ hv3_ H locs ls hS hl hT; exact absurd hT (by simp [t_MO_pours_L5])
  | succ fu ih =>
    intro M v2_ hv2_ v3_ hv3_ H locs ls hS hl hT
    rw [t_MO_pours_L5] at hT
    refine lv_iload F.hx F.hb d_MO_pours_5 (lv_at hl 3 rfl) ?_
    refine r_bipush F.hx F.hb d_MO_pours_7 rfl ?_
    refine r_icmp_gt (tgt := 82) F.hx F.hb hv3_ (inr_c rfl) d_MO_pours_9 (by decide) (fun c1 => ?_) (fun c1 => ?_)
    · replace hT := (if_pos c1).symm.trans hT
      refine r_iconst F.hx F.hb d_MO_pours_82 ?_
      cases hT
      exact r_zret F hlk hr hS (Or.inl rfl) d_MO_pours_83
    · replace hT := (if_neg c1).symm.trans hT
      refine lv_aload_n F.hx F.hb d_MO_pours_12 rfl (lv_at hl 0 rfl) ?_
      refine lv_iload_n F.hx F.hb d_MO_pours_13 rfl (lv_at hl 1 rfl) ?_
      refine lv_iload_n F.hx F.hb d_MO_pours_14 rfl (lv_at hl 2 rfl) ?_
      obtain ⟨q2, hq2, hT⟩ := q_obind hT
      refine r_backI F hS (r_runV (k := 191) (N := 68) (T := T1) (As := [vI x1, vI v2_]) F hS (show 191 < 231 by decide) (show shK 191 = 5 from rfl) rfl (c_MO_nextOf l F.2.2.1 M x1 v2_ hx1 hv2_ _ hq2) gs_MO_350 hd_MO_nextOf ⟨Nat.le_of_ble_eq_true rfl, Nat.le_of_ble_eq_true rfl⟩ rfl hl.1 (Nat.le_of_ble_eq_true rfl) ⟨Nat.zero_le _, Nat.zero_le _⟩ rfl d_MO_pours_15) (fun H locs hS h3 => ?_)
      refine lv_istore (lv' := [(5, vI q2), (0, .ref (b + 191)), (1, vI x1), (3, vI v2_), (4, vI v3_)]) F.hx F.hb d_MO_pours_18 hl (Nat.le_of_ble_eq_true rfl) rfl (fun ls hl => ?_)
      refine lv_iload F.hx F.hb d_MO_pours_20 (lv_at hl 0 rfl) ?_
      refine r_iconst F.hx F.hb d_MO_pours_22 ?_
      refine r_icmp_eq (tgt := 42) F.hx F.hb h3 (inr_c rfl) d_MO_pours_23 (by decide) (fun c4 => ?_) (fun c4 => ?_)
      · replace hT := (if_pos c4).symm.trans hT
        exact k_MO_pours_L42 l hlo x1 x2 hx1 hx2 F hlk hr M v2_ hv2_ _ _ _ hS (lv_sub hl [1, 2, 3] rfl) hT
      · replace hT := (if_neg c4).symm.trans hT
        refine lv_aload_n F.hx F.hb d_MO_pours_26 rfl (lv_at hl 1 rfl) ?_
        refine r_get (v := .ref (b + 211)) (N := 68) (T := T1) (j := 34) F hS (show 191 < 231 by decide) (show shK 191 = 5 from rfl) (show shN 191 = 68 from rfl) rfl (Nat.le_of_ble_eq_true rfl) ing1 mw_1423 (fv_sg rfl rfl rfl) d_MO_pours_27 ?_
        refine lv_iload_n F.hx F.hb d_MO_pours_30 rfl (lv_at hl 2 rfl) ?_
        obtain ⟨⟨g5a, g5b⟩, hT⟩ := q_guard hT
        refine r_lald F hS (show 211 < 231 by decide) (show shK 211 = 2 from rfl) (show shN 211 = 23 from rfl) hx1 g5a g5b d_MO_pours_31 ?_
        refine lv_iload F.hx F.hb d_MO_pours_32 (lv_at hl 0 rfl) ?_
        refine r_lshr F.hx F.hb d_MO_pours_34 ?_
        refine lv_lconst (v := 1) F.hx F.hb d_MO_pours_35 rfl ?_
        refine lv_land F.hx F.hb d_MO_pours_36 ?_
        refine lv_lconst (v := 1) F.hx F.hb d_MO_pours_37 rfl ?_
        refine W.lcmp F.hx F.hb d_MO_pours_38 ?_
        refine r_lif_ne (tgt := 73) F.hx F.hb  d_MO_pours_39 (by decide) (fun c6 => ?_) (fun c6 => ?_)
        · replace hT := (if_neg c6).symm.trans hT
          refine lv_iload F.hx F.hb d_MO_pours_73 (lv_at hl 0 rfl) ?_
          refine lv_istore_n (lv' := [(3, vI q2), (5, vI q2), (0, .ref (b + 191)), (1, vI x1), (4, vI v3_)]) F.hx F.hb d_MO_pours_75 rfl hl (Nat.le_of_ble_eq_true rfl) rfl (fun ls hl => ?_)
          refine lv_iinc (v := Int32.ofInt (w32 (v3_ + 1))) (lv' := [(4, vI (w32 (v3_ + 1))), (3, vI q2), (5, vI q2), (0, .ref (b + 191)), (1, vI x1)]) F.hx F.hb d_MO_pours_76 hl (k := 4) rfl (q_of_add _ _) (Nat.le_of_ble_eq_true rfl) rfl (fun ls hl => ?_)
          refine lv_goto (tgt := 5) F.hx F.hb d_MO_pours_79 (by decide) ?_
          exact ih M q2 h3 (w32 (v3_ + 1)) (inr_w32 _) _ _ _ hS (lv_sub hl [3, 4, 1, 0] rfl) hT
        · replace hT := (if_pos c6).symm.trans hT
          exact k_MO_pours_L42 l hlo x1 x2 hx1 hx2 F hlk hr M v2_ hv2_ _ _ _ hS (lv_sub hl [1, 2, 3] rfl) hT
set_option maxHeartbeats 4000000 in
set_option maxRecDepth 100000 in
theorem c_MO_pours (l : Launch) {b n : Nat} {C : CT} (hlo : 231 ≤ n) (M : Mem) (x1 : Int) (x2 : Int) (hx1 : InR x1) (hx2 : InR x2) (res : Mem × Int) (hT : t_MO_pours M x1 x2 = some res) : CM l b C n 2 y_MO_pours b_MO_pours 6 (some .boolean) [.ref (b + 191), vI x1, vI x2] M (QZ b C n res.1 res.2) := by
  refine CM.of (lo := 231) (ow := "WardFallsModel") (by decide) rfl (Nat.le_of_ble_eq_true rfl) hlo (fun p e s m below meth c F hlk hr hS ls hl => ?_)
  have hl : lv_has ls 6 [(0, .ref (b + 191)), (1, vI x1), (2, vI x2)] := hl
  unfold t_MO_pours at hT
  refine lv_iload_n F.hx F.hb d_MO_pours_0 rfl (lv_at hl 2 rfl) ?_
  refine lv_istore_n (lv' := [(3, vI x2), (0, .ref (b + 191)), (1, vI x1), (2, vI x2)]) F.hx F.hb d_MO_pours_1 rfl hl (Nat.le_of_ble_eq_true rfl) rfl (fun ls hl => ?_)
  refine r_iconst F.hx F.hb d_MO_pours_2 ?_
  refine lv_istore (lv' := [(4, vI 0), (3, vI x2), (0, .ref (b + 191)), (1, vI x1), (2, vI x2)]) F.hx F.hb d_MO_pours_3 hl (Nat.le_of_ble_eq_true rfl) rfl (fun ls hl => ?_)
  exact k_MO_pours_L5 l hlo x1 x2 hx1 hx2 F hlk hr FU M x2 hx2 0 (inr_c rfl) _ _ _ hS (lv_sub hl [2, 3, 1, 0] rfl) hT
theorem d_MO_floods_0 : decode b_MO_floods 0 = .ok (.aload_n 0, 1) := dc_42 (by decide +kernel)
theorem d_MO_floods_1 : decode b_MO_floods 1 = .ok (.getfield 73, 3) := dc_180 (by decide +kernel)
theorem d_MO_floods_4 : decode b_MO_floods 4 = .ok (.iload_n 1, 1) := dc_27 (by decide +kernel)
theorem d_MO_floods_5 : decode b_MO_floods 5 = .ok (.laload, 1) := dc_47 (by decide +kernel)
theorem d_MO_floods_6 : decode b_MO_floods 6 = .ok (.lstore_n 2, 1) := dc_65 (by decide +kernel)
theorem d_MO_floods_7 : decode b_MO_floods 7 = .ok (.aload_n 0, 1) := dc_42 (by decide +kernel)
theorem d_MO_floods_8 : decode b_MO_floods 8 = .ok (.getfield 73, 3) := dc_180 (by decide +kernel)
theorem d_MO_floods_11 : decode b_MO_floods 11 = .ok (.iload_n 1, 1) := dc_27 (by decide +kernel)
theorem d_MO_floods_12 : decode b_MO_floods 12 = .ok (.lconst 0, 1) := dc_9 (by decide +kernel)
theorem d_MO_floods_13 : decode b_MO_floods 13 = .ok (.lastore, 1) := dc_80 (by decide +kernel)
theorem d_MO_floods_14 : decode b_MO_floods 14 = .ok (.iconst 0, 1) := dc_3 (by decide +kernel)
theorem d_MO_floods_15 : decode b_MO_floods 15 = .ok (.istore 4, 2) := dc_54 (by decide +kernel)
theorem d_MO_floods_17 : decode b_MO_floods 17 = .ok (.iload 4, 2) := dc_21 (by decide +kernel)
theorem d_MO_floods_19 : decode b_MO_floods 19 = .ok (.aload_n 0, 1) := dc_42 (by decide +kernel)
theorem d_MO_floods_20 : decode b_MO_floods 20 = .ok (.invokevirtual 329, 3) := dc_182 (by decide +kernel)
theorem d_MO_floods_23 : decode b_MO_floods 23 = .ok (.if_icmp .ge 28, 3) := dc_162 (by decide +kernel)
theorem d_MO_floods_26 : decode b_MO_floods 26 = .ok (.lload_n 2, 1) := dc_32 (by decide +kernel)
theorem d_MO_floods_27 : decode b_MO_floods 27 = .ok (.iload 4, 2) := dc_21 (by decide +kernel)
theorem d_MO_floods_29 : decode b_MO_floods 29 = .ok (.lshr, 1) := dc_123 (by decide +kernel)
theorem d_MO_floods_30 : decode b_MO_floods 30 = .ok (.lconst 1, 1) := dc_10 (by decide +kernel)
theorem d_MO_floods_31 : decode b_MO_floods 31 = .ok (.land, 1) := dc_127 (by decide +kernel)
theorem d_MO_floods_32 : decode b_MO_floods 32 = .ok (.lconst 1, 1) := dc_10 (by decide +kernel)
theorem d_MO_floods_33 : decode b_MO_floods 33 = .ok (.lcmp, 1) := dc_148 (by decide +kernel)
theorem d_MO_floods_34 : decode b_MO_floods 34 = .ok (.ifCond .ne 11, 3) := dc_154 (by decide +kernel)
theorem d_MO_floods_37 : decode b_MO_floods 37 = .ok (.aload_n 0, 1) := dc_42 (by decide +kernel)
theorem d_MO_floods_38 : decode b_MO_floods 38 = .ok (.iload_n 1, 1) := dc_27 (by decide +kernel)
theorem d_MO_floods_39 : decode b_MO_floods 39 = .ok (.iload 4, 2) := dc_21 (by decide +kernel)
theorem d_MO_floods_41 : decode b_MO_floods 41 = .ok (.invokevirtual 449, 3) := dc_182 (by decide +kernel)
theorem d_MO_floods_44 : decode b_MO_floods 44 = .ok (.pop, 1) := dc_87 (by decide +kernel)
theorem d_MO_floods_45 : decode b_MO_floods 45 = .ok (.iinc 4 1, 3) := dc_132 (by decide +kernel)
theorem d_MO_floods_48 : decode b_MO_floods 48 = .ok (.goto (-31), 3) := dc_167 (by decide +kernel)
theorem d_MO_floods_51 : decode b_MO_floods 51 = .ok (.return_, 1) := dc_177 (by decide +kernel)
def t_MO_floods_L45 (x1 : Int) (bk17 : Mem → Int64 → Int → Option (Mem)) (M : Mem) (v2_ : Int64) (v3_ : Int) : Option (Mem) := (bk17 M v2_ (w32 (v3_ + 1)))
def t_MO_floods_L17 (x1 : Int)  : Nat → Mem → Int64 → Int → Option (Mem)
  | 0, _, _, _ => none
  | fu + 1, M, v2_, v3_ => (qlet (t_MO_cells M) fun q4 => (if q4 ≤ v3_ then (some M) else (if ((q_lshr v2_ v3_) &&& 1) = 1 then (obind (t_MO_pours M x1 v3_) fun q8 => (t_MO_floods_L45 x1 (fun a0_ a1_ a2_ => t_MO_floods_L17 x1 fu a0_ a1_ a2_) (q8.1) v2_ v3_)) else (t_MO_floods_L45 x1 (fun a0_ a1_ a2_ => t_MO_floods_L17 x1 fu a0_ a1_ a2_) M v2_ v3_))))
def t_MO_floods (M : Mem) (x1 : Int) : Option (Mem) := (qguard (0 ≤ x1 ∧ x1 < 23) (qguard (0 ≤ x1 ∧ x1 < 23) (qlet (setL M 211 x1 0) fun M3 => (t_MO_floods_L17 x1 FU M3 (M.2 211 x1) 0))))
set_option maxHeartbeats 4000000 in
set_option maxRecDepth 100000 in
theorem k_MO_floods_L45 (l : Launch) {p : Program} {e : Env} {s : State} {m : MethodId} {below : List Frame} {meth : Method} {c : Code} {b n : Nat} {C : CT} (hlo : 231 ≤ n) (x1 : Int) (hx1 : InR x1) (F : Cx b p m c b_MO_floods 5 s ([.ref (b + 191), vI x1] : List Value).toArray "WardFallsModel" C n 231) (hlk : meth.locks = false) (hr : meth.sig.returnType = none) {res : Mem} (bk17 : Mem → Int64 → Int → Option (Mem)) (hbk17 : ∀ (M : Mem) (v2_ : Int64) (v3_ : Int) (hv3_ : InR v3_) (H : Heap) (locs : List Loc) (ls : Array Slot), St b C n M s H locs → lv_has ls 5 [(0, .ref (b + 191)), (1, vI x1), (2, .long v2_), (4, vI v3_)] → bk17 M v2_ v3_ = some res → W p l e (headSpec (wsM y_MO_floods b_MO_floods 5 (none)) (rmD 3)).room s m ([.ref (b + 191), vI x1] : List Value).toArray below meth c H locs 0 0 (MQ below (QV b C n res) ([.ref (b + 191), vI x1] : List Value).toArray s 0 0 (frb b)) (F0 m 17 ls [])) (M : Mem) (v2_ : Int64) (v3_ : Int) (hv3_ : InR v3_) (H : Heap) (locs : List Loc) (ls : Array Slot) (hS : St b C n M s H locs) (hl : lv_has ls 5 [(0, .ref (b + 191)), (1, vI x1), (2, .long v2_), (4, vI v3_)]) (hT : t_MO_floods_L45 x1 bk17 M v2_ v3_ = some res) : W p l e (headSpec (wsM y_MO_floods b_MO_floods 5 (none)) (rmD 3)).room s m ([.ref (b + 191), vI x1] : List Value).toArray below meth c H locs 0 0 (MQ below (QV b C n res) ([.ref (b + 191), vI x1] : List Value).toArray s 0 0 (frb b)) (F0 m 45 ls []) := by
  unfold t_MO_floods_L45 at hT
  refine lv_iinc (v := Int32.ofInt (w32 (v3_ + 1))) (lv' := [(4, vI (w32 (v3_ + 1))), (0, .ref (b + 191)), (1, vI x1), (2, .long v2_)]) F.hx F.hb d_MO_floods_45 hl (k := 3) rfl (q_of_add _ _) (Nat.le_of_ble_eq_true rfl) rfl (fun ls hl => ?_)
  refine lv_goto (tgt := 17) F.hx F.hb d_MO_floods_48 (by decide) ?_
  exact hbk17 M v2_ (w32 (v3_ + 1)) (inr_w32 _) _ _ _ hS (lv_sub hl [1, 2, 3, 0] rfl) hT
set_option maxHeartbeats 4000000 in
set_option maxRecDepth 100000 in
theorem k_MO_floods_L17 (l : Launch) {p : Program} {e : Env} {s : State} {m : MethodId} {below : List Frame} {meth : Method} {c : Code} {b n : Nat} {C : CT} (hlo : 231 ≤ n) (x1 : Int) (hx1 : InR x1) (F : Cx b p m c b_MO_floods 5 s ([.ref (b + 191), vI x1] : List Value).toArray "WardFallsModel" C n 231) (hlk : meth.locks = false) (hr : meth.sig.returnType = none) {res : Mem} : ∀ (fu : Nat) (M : Mem) (v2_ : Int64) (v3_ : Int) (hv3_ : InR v3_) (H : Heap) (locs : List Loc) (ls : Array Slot), St b C n M s H locs → lv_has ls 5 [(0, .ref (b + 191)), (1, vI x1), (2, .long v2_), (4, vI v3_)] → t_MO_floods_L17 x1 fu M v2_ v3_ = some res → W p l e (headSpec (wsM y_MO_floods b_MO_floods 5 (none)) (rmD 3)).room s m ([.ref (b + 191), vI x1] : List Value).toArray below meth c H locs 0 0 (MQ below (QV b C n res) ([.ref (b + 191), vI x1] : List Value).toArray s 0 0 (frb b)) (F0 m 17 ls []) := by
  intro fu
  induction fu with
  | zero => intro M v2_ v3_ hv3_ H locs ls hS hl hT; exact absurd hT (by simp [t_MO_floods_L17])
  | succ fu ih =>
    intro M v2_ v3_ hv3_ H locs ls hS hl hT
    rw [t_MO_floods_L17] at hT
    refine lv_iload F.hx F.hb d_MO_floods_17 (lv_at hl 3 rfl) ?_
    refine lv_aload_n F.hx F.hb d_MO_floods_19 rfl (lv_at hl 0 rfl) ?_
    obtain ⟨q4, hq4⟩ : ∃ q, q = (t_MO_cells M) := ⟨_, rfl⟩
    replace hT := qlet_eq hT hq4
    refine r_backI F hS (r_runV (k := 191) (N := 68) (T := T1) (As := []) F hS (show 191 < 231 by decide) (show shK 191 = 5 from rfl) rfl (c_MO_cells l F.2.2.1 M _ hq4.symm) gs_MO_329 hd_MO_cells ⟨Nat.le_of_ble_eq_true rfl, Nat.le_of_ble_eq_true rfl⟩ rfl hl.1 (Nat.le_of_ble_eq_true rfl) ⟨Nat.zero_le _, Nat.zero_le _⟩ rfl d_MO_floods_20) (fun H locs hS h5 => ?_)
    refine r_icmp_ge (tgt := 51) F.hx F.hb hv3_ h5 d_MO_floods_23 (by decide) (fun c6 => ?_) (fun c6 => ?_)
    · replace hT := (if_pos c6).symm.trans hT
      cases hT
      exact r_vret F hlk hr hS d_MO_floods_51
    · replace hT := (if_neg c6).symm.trans hT
      refine lv_lload_n F.hx F.hb d_MO_floods_26 rfl (lv_at hl 2 rfl) ?_
      refine lv_iload F.hx F.hb d_MO_floods_27 (lv_at hl 3 rfl) ?_
      refine r_lshr F.hx F.hb d_MO_floods_29 ?_
      refine lv_lconst (v := 1) F.hx F.hb d_MO_floods_30 rfl ?_
      refine lv_land F.hx F.hb d_MO_floods_31 ?_
      refine lv_lconst (v := 1) F.hx F.hb d_MO_floods_32 rfl ?_
      refine W.lcmp F.hx F.hb d_MO_floods_33 ?_
      refine r_lif_ne (tgt := 45) F.hx F.hb  d_MO_floods_34 (by decide) (fun c7 => ?_) (fun c7 => ?_)
      · replace hT := (if_neg c7).symm.trans hT
        exact k_MO_floods_L45 l hlo x1 hx1 F hlk hr (fun a0_ a1_ a2_ => t_MO_floods_L17 x1 fu a0_ a1_ a2_) ih M v2_ v3_ hv3_ _ _ _ hS (lv_sub hl [0, 1, 2, 3] rfl) hT
      · replace hT := (if_pos c7).symm.trans hT
        refine lv_aload_n F.hx F.hb d_MO_floods_37 rfl (lv_at hl 0 rfl) ?_
        refine lv_iload_n F.hx F.hb d_MO_floods_38 rfl (lv_at hl 1 rfl) ?_
        refine lv_iload F.hx F.hb d_MO_floods_39 (lv_at hl 3 rfl) ?_
        obtain ⟨q8, hq8, hT⟩ := q_obind hT
        refine r_backZ F hS (r_runV (k := 191) (N := 68) (T := T1) (As := [vI x1, vI v3_]) F hS (show 191 < 231 by decide) (show shK 191 = 5 from rfl) rfl (c_MO_pours l F.2.2.1 M x1 v3_ hx1 hv3_ _ hq8) gs_MO_449 hd_MO_pours ⟨Nat.le_of_ble_eq_true rfl, Nat.le_of_ble_eq_true rfl⟩ rfl hl.1 (Nat.le_of_ble_eq_true rfl) ⟨Nat.zero_le _, Nat.zero_le _⟩ rfl d_MO_floods_41) (fun H locs hS h9 => ?_)
        refine lv_pop F.hx F.hb d_MO_floods_44 rfl ?_
        exact k_MO_floods_L45 l hlo x1 hx1 F hlk hr (fun a0_ a1_ a2_ => t_MO_floods_L17 x1 fu a0_ a1_ a2_) ih (q8.1) v2_ v3_ hv3_ _ _ _ hS (lv_sub hl [0, 1, 2, 3] rfl) hT
set_option maxHeartbeats 4000000 in
set_option maxRecDepth 100000 in
theorem c_MO_floods (l : Launch) {b n : Nat} {C : CT} (hlo : 231 ≤ n) (M : Mem) (x1 : Int) (hx1 : InR x1) (res : Mem) (hT : t_MO_floods M x1 = some res) : CM l b C n 3 y_MO_floods b_MO_floods 5 (none) [.ref (b + 191), vI x1] M (QV b C n res) := by
  refine CM.of (lo := 231) (ow := "WardFallsModel") (by decide) rfl (Nat.le_of_ble_eq_true rfl) hlo (fun p e s m below meth c F hlk hr hS ls hl => ?_)
  have hl : lv_has ls 5 [(0, .ref (b + 191)), (1, vI x1)] := hl
  unfold t_MO_floods at hT
  refine lv_aload_n F.hx F.hb d_MO_floods_0 rfl (lv_at hl 0 rfl) ?_
  refine r_get (v := .ref (b + 211)) (N := 68) (T := T1) (j := 34) F hS (show 191 < 231 by decide) (show shK 191 = 5 from rfl) (show shN 191 = 68 from rfl) rfl (Nat.le_of_ble_eq_true rfl) ing1 mw_1423 (fv_sg rfl rfl rfl) d_MO_floods_1 ?_
  refine lv_iload_n F.hx F.hb d_MO_floods_4 rfl (lv_at hl 1 rfl) ?_
  obtain ⟨⟨g1a, g1b⟩, hT⟩ := q_guard hT
  refine r_lald F hS (show 211 < 231 by decide) (show shK 211 = 2 from rfl) (show shN 211 = 23 from rfl) hx1 g1a g1b d_MO_floods_5 ?_
  refine lv_lstore_n (lv' := [(2, .long (M.2 211 x1)), (0, .ref (b + 191)), (1, vI x1)]) F.hx F.hb d_MO_floods_6 rfl hl (Nat.le_of_ble_eq_true rfl) rfl (fun ls hl => ?_)
  refine lv_aload_n F.hx F.hb d_MO_floods_7 rfl (lv_at hl 1 rfl) ?_
  refine r_get (v := .ref (b + 211)) (N := 68) (T := T1) (j := 34) F hS (show 191 < 231 by decide) (show shK 191 = 5 from rfl) (show shN 191 = 68 from rfl) rfl (Nat.le_of_ble_eq_true rfl) ing1 mw_1423 (fv_sg rfl rfl rfl) d_MO_floods_8 ?_
  refine lv_iload_n F.hx F.hb d_MO_floods_11 rfl (lv_at hl 2 rfl) ?_
  refine lv_lconst (v := 0) F.hx F.hb d_MO_floods_12 rfl ?_
  obtain ⟨⟨g2a, g2b⟩, hT⟩ := q_guard hT
  refine r_last F hS (show 211 < 231 by decide) (show shK 211 = 2 from rfl) (show shN 211 = 23 from rfl) hx1 g2a g2b d_MO_floods_13 (fun H locs hS => ?_)
  obtain ⟨M3, eM3⟩ : ∃ q, q = (setL M 211 x1 0) := ⟨_, rfl⟩
  replace hS : St b C n M3 s H locs := by rw [eM3]; exact hS
  replace hT := qlet_eq hT eM3
  refine r_iconst F.hx F.hb d_MO_floods_14 ?_
  refine lv_istore (lv' := [(4, vI 0), (2, .long (M.2 211 x1)), (0, .ref (b + 191)), (1, vI x1)]) F.hx F.hb d_MO_floods_15 hl (Nat.le_of_ble_eq_true rfl) rfl (fun ls hl => ?_)
  exact k_MO_floods_L17 l hlo x1 hx1 F hlk hr FU M3 (M.2 211 x1) 0 (inr_c rfl) _ _ _ hS (lv_sub hl [2, 3, 1, 0] rfl) hT
theorem d_MO_vote_0 : decode b_MO_vote 0 = .ok (.aload_n 0, 1) := dc_42 (by decide +kernel)
theorem d_MO_vote_1 : decode b_MO_vote 1 = .ok (.iconst 0, 1) := dc_3 (by decide +kernel)
theorem d_MO_vote_2 : decode b_MO_vote 2 = .ok (.putfield 145, 3) := dc_181 (by decide +kernel)
theorem d_MO_vote_5 : decode b_MO_vote 5 = .ok (.aload_n 0, 1) := dc_42 (by decide +kernel)
theorem d_MO_vote_6 : decode b_MO_vote 6 = .ok (.iload_n 1, 1) := dc_27 (by decide +kernel)
theorem d_MO_vote_7 : decode b_MO_vote 7 = .ok (.invokevirtual 369, 3) := dc_182 (by decide +kernel)
theorem d_MO_vote_10 : decode b_MO_vote 10 = .ok (.ifCond .eq 20, 3) := dc_153 (by decide +kernel)
theorem d_MO_vote_13 : decode b_MO_vote 13 = .ok (.iload_n 2, 1) := dc_28 (by decide +kernel)
theorem d_MO_vote_14 : decode b_MO_vote 14 = .ok (.invokestatic 440, 3) := dc_184 (by decide +kernel)
theorem d_MO_vote_17 : decode b_MO_vote 17 = .ok (.ifCond .eq 13, 3) := dc_153 (by decide +kernel)
theorem d_MO_vote_20 : decode b_MO_vote 20 = .ok (.aload_n 0, 1) := dc_42 (by decide +kernel)
theorem d_MO_vote_21 : decode b_MO_vote 21 = .ok (.getfield 76, 3) := dc_180 (by decide +kernel)
theorem d_MO_vote_24 : decode b_MO_vote 24 = .ok (.iload_n 1, 1) := dc_27 (by decide +kernel)
theorem d_MO_vote_25 : decode b_MO_vote 25 = .ok (.iaload, 1) := dc_46 (by decide +kernel)
theorem d_MO_vote_26 : decode b_MO_vote 26 = .ok (.iload_n 2, 1) := dc_28 (by decide +kernel)
theorem d_MO_vote_27 : decode b_MO_vote 27 = .ok (.if_icmp .ne 5, 3) := dc_160 (by decide +kernel)
theorem d_MO_vote_30 : decode b_MO_vote 30 = .ok (.iconst 0, 1) := dc_3 (by decide +kernel)
theorem d_MO_vote_31 : decode b_MO_vote 31 = .ok (.ireturn, 1) := dc_172 (by decide +kernel)
theorem d_MO_vote_32 : decode b_MO_vote 32 = .ok (.aload_n 0, 1) := dc_42 (by decide +kernel)
theorem d_MO_vote_33 : decode b_MO_vote 33 = .ok (.invokevirtual 443, 3) := dc_182 (by decide +kernel)
theorem d_MO_vote_36 : decode b_MO_vote 36 = .ok (.aload_n 0, 1) := dc_42 (by decide +kernel)
theorem d_MO_vote_37 : decode b_MO_vote 37 = .ok (.getfield 76, 3) := dc_180 (by decide +kernel)
theorem d_MO_vote_40 : decode b_MO_vote 40 = .ok (.iload_n 1, 1) := dc_27 (by decide +kernel)
theorem d_MO_vote_41 : decode b_MO_vote 41 = .ok (.iload_n 2, 1) := dc_28 (by decide +kernel)
theorem d_MO_vote_42 : decode b_MO_vote 42 = .ok (.iastore, 1) := dc_79 (by decide +kernel)
theorem d_MO_vote_43 : decode b_MO_vote 43 = .ok (.aload_n 0, 1) := dc_42 (by decide +kernel)
theorem d_MO_vote_44 : decode b_MO_vote 44 = .ok (.iconst 0, 1) := dc_3 (by decide +kernel)
theorem d_MO_vote_45 : decode b_MO_vote 45 = .ok (.invokevirtual 446, 3) := dc_182 (by decide +kernel)
theorem d_MO_vote_48 : decode b_MO_vote 48 = .ok (.iconst 1, 1) := dc_4 (by decide +kernel)
theorem d_MO_vote_49 : decode b_MO_vote 49 = .ok (.ireturn, 1) := dc_172 (by decide +kernel)
def t_MO_vote (M : Mem) (x1 : Int) (x2 : Int) : Option (Mem × Int) := (qlet (setI M 191 0 0) fun M1 => (qlet (t_MO_isWard M1 x1) fun q2 => (if q2 = 0 then (some (M1, 0)) else (qlet (t_MO_isDown M1 x2) fun q5 => (if q5 = 0 then (some (M1, 0)) else (qguard (0 ≤ x1 ∧ x1 < 92) (if (M1.1 212 x1) = x2 then (some (M1, 0)) else (obind (t_MO_keepNow M1) fun q11 => (qguard (0 ≤ x1 ∧ x1 < 92) (qlet (setI q11 212 x1 x2) fun M14 => (obind (t_MO_floods M14 0) fun q15 => (some (q15, 1)))))))))))))
set_option maxHeartbeats 4000000 in
set_option maxRecDepth 100000 in
theorem c_MO_vote (l : Launch) {b n : Nat} {C : CT} (hlo : 231 ≤ n) (M : Mem) (x1 : Int) (x2 : Int) (hx1 : InR x1) (hx2 : InR x2) (res : Mem × Int) (hT : t_MO_vote M x1 x2 = some res) : CM l b C n 4 y_MO_vote b_MO_vote 3 (some .boolean) [.ref (b + 191), vI x1, vI x2] M (QZ b C n res.1 res.2) := by
  refine CM.of (lo := 231) (ow := "WardFallsModel") (by decide) rfl (Nat.le_of_ble_eq_true rfl) hlo (fun p e s m below meth c F hlk hr hS ls hl => ?_)
  have hl : lv_has ls 3 [(0, .ref (b + 191)), (1, vI x1), (2, vI x2)] := hl
  unfold t_MO_vote at hT
  refine lv_aload_n F.hx F.hb d_MO_vote_0 rfl (lv_at hl 0 rfl) ?_
  refine r_iconst F.hx F.hb d_MO_vote_1 ?_
  refine r_putI (N := 68) (T := T1) (j := 0) F hS (show 191 < 231 by decide) (show shK 191 = 5 from rfl) (show shN 191 = 68 from rfl) rfl (Nat.le_of_ble_eq_true rfl) ing1 tyok1 nm1 rfl rfl rfl rfl rfl rfl mw_1389 (inr_c rfl) d_MO_vote_2 (fun H locs hS => ?_)
  obtain ⟨M1, eM1⟩ : ∃ q, q = (setI M 191 0 0) := ⟨_, rfl⟩
  replace hS : St b C n M1 s H locs := by rw [eM1]; exact hS
  replace hT := qlet_eq hT eM1
  refine lv_aload_n F.hx F.hb d_MO_vote_5 rfl (lv_at hl 0 rfl) ?_
  refine lv_iload_n F.hx F.hb d_MO_vote_6 rfl (lv_at hl 1 rfl) ?_
  obtain ⟨q2, hq2⟩ : ∃ q, q = (t_MO_isWard M1 x1) := ⟨_, rfl⟩
  replace hT := qlet_eq hT hq2
  refine r_backZ F hS (r_runV (k := 191) (N := 68) (T := T1) (As := [vI x1]) F hS (show 191 < 231 by decide) (show shK 191 = 5 from rfl) rfl (c_MO_isWard l F.2.2.1 M1 x1 hx1 _ hq2.symm) gs_MO_369 hd_MO_isWard ⟨Nat.le_of_ble_eq_true rfl, Nat.le_of_ble_eq_true rfl⟩ rfl hl.1 (Nat.le_of_ble_eq_true rfl) ⟨Nat.zero_le _, Nat.zero_le _⟩ rfl d_MO_vote_7) (fun H locs hS h3 => ?_)
  refine r_if_eq (tgt := 30) F.hx F.hb (inr_z h3) d_MO_vote_10 (by decide) (fun c4 => ?_) (fun c4 => ?_)
  · replace hT := (if_pos c4).symm.trans hT
    refine r_iconst F.hx F.hb d_MO_vote_30 ?_
    cases hT
    exact r_zret F hlk hr hS (Or.inl rfl) d_MO_vote_31
  · replace hT := (if_neg c4).symm.trans hT
    refine lv_iload_n F.hx F.hb d_MO_vote_13 rfl (lv_at hl 2 rfl) ?_
    obtain ⟨q5, hq5⟩ : ∃ q, q = (t_MO_isDown M1 x2) := ⟨_, rfl⟩
    replace hT := qlet_eq hT hq5
    refine r_backZ F hS (r_runS (As := [vI x2]) F hS (c_MO_isDown l F.2.2.1 M1 x2 hx2 _ hq5.symm) gs_MO_440 hd_MO_isDown ⟨Nat.le_of_ble_eq_true rfl, Nat.le_of_ble_eq_true rfl⟩ rfl hl.1 (Nat.le_of_ble_eq_true rfl) ⟨Nat.zero_le _, Nat.zero_le _⟩ rfl d_MO_vote_14) (fun H locs hS h6 => ?_)
    refine r_if_eq (tgt := 30) F.hx F.hb (inr_z h6) d_MO_vote_17 (by decide) (fun c7 => ?_) (fun c7 => ?_)
    · replace hT := (if_pos c7).symm.trans hT
      refine r_iconst F.hx F.hb d_MO_vote_30 ?_
      cases hT
      exact r_zret F hlk hr hS (Or.inl rfl) d_MO_vote_31
    · replace hT := (if_neg c7).symm.trans hT
      refine lv_aload_n F.hx F.hb d_MO_vote_20 rfl (lv_at hl 0 rfl) ?_
      refine r_get (v := .ref (b + 212)) (N := 68) (T := T1) (j := 35) F hS (show 191 < 231 by decide) (show shK 191 = 5 from rfl) (show shN 191 = 68 from rfl) rfl (Nat.le_of_ble_eq_true rfl) ing1 mw_1424 (fv_sg rfl rfl rfl) d_MO_vote_21 ?_
      refine lv_iload_n F.hx F.hb d_MO_vote_24 rfl (lv_at hl 1 rfl) ?_
      obtain ⟨⟨g8a, g8b⟩, hT⟩ := q_guard hT
      refine r_iald F hS (show 212 < 231 by decide) (show shK 212 = 0 from rfl) (show shN 212 = 92 from rfl) hx1 g8a g8b d_MO_vote_25 ?_
      have i9 := hS.rng 212 x1
      refine lv_iload_n F.hx F.hb d_MO_vote_26 rfl (lv_at hl 2 rfl) ?_
      refine r_icmp_ne (tgt := 32) F.hx F.hb i9 hx2 d_MO_vote_27 (by decide) (fun c10 => ?_) (fun c10 => ?_)
      · replace hT := (if_neg c10).symm.trans hT
        refine lv_aload_n F.hx F.hb d_MO_vote_32 rfl (lv_at hl 0 rfl) ?_
        obtain ⟨q11, hq11, hT⟩ := q_obind hT
        refine r_backV F hS (r_runV (k := 191) (N := 68) (T := T1) (As := []) F hS (show 191 < 231 by decide) (show shK 191 = 5 from rfl) rfl (c_MO_keepNow l F.2.2.1 M1 _ hq11) gs_MO_443 hd_MO_keepNow ⟨Nat.le_of_ble_eq_true rfl, Nat.le_of_ble_eq_true rfl⟩ rfl hl.1 (Nat.le_of_ble_eq_true rfl) ⟨Nat.zero_le _, Nat.zero_le _⟩ rfl d_MO_vote_33) (fun H locs hS => ?_)
        refine lv_aload_n F.hx F.hb d_MO_vote_36 rfl (lv_at hl 0 rfl) ?_
        refine r_get (v := .ref (b + 212)) (N := 68) (T := T1) (j := 35) F hS (show 191 < 231 by decide) (show shK 191 = 5 from rfl) (show shN 191 = 68 from rfl) rfl (Nat.le_of_ble_eq_true rfl) ing1 mw_1424 (fv_sg rfl rfl rfl) d_MO_vote_37 ?_
        refine lv_iload_n F.hx F.hb d_MO_vote_40 rfl (lv_at hl 1 rfl) ?_
        refine lv_iload_n F.hx F.hb d_MO_vote_41 rfl (lv_at hl 2 rfl) ?_
        obtain ⟨⟨g13a, g13b⟩, hT⟩ := q_guard hT
        refine r_iast F hS (show 212 < 231 by decide) (show shK 212 = 0 from rfl) (show shN 212 = 92 from rfl) hx1 hx2 g13a g13b d_MO_vote_42 (fun H locs hS => ?_)
        obtain ⟨M14, eM14⟩ : ∃ q, q = (setI q11 212 x1 x2) := ⟨_, rfl⟩
        replace hS : St b C n M14 s H locs := by rw [eM14]; exact hS
        replace hT := qlet_eq hT eM14
        refine lv_aload_n F.hx F.hb d_MO_vote_43 rfl (lv_at hl 0 rfl) ?_
        refine r_iconst F.hx F.hb d_MO_vote_44 ?_
        obtain ⟨q15, hq15, hT⟩ := q_obind hT
        refine r_backV F hS (r_runV (k := 191) (N := 68) (T := T1) (As := [vI 0]) F hS (show 191 < 231 by decide) (show shK 191 = 5 from rfl) rfl (c_MO_floods l F.2.2.1 M14 0 (inr_c rfl) _ hq15) gs_MO_446 hd_MO_floods ⟨Nat.le_of_ble_eq_true rfl, Nat.le_of_ble_eq_true rfl⟩ rfl hl.1 (Nat.le_of_ble_eq_true rfl) ⟨Nat.zero_le _, Nat.zero_le _⟩ rfl d_MO_vote_45) (fun H locs hS => ?_)
        refine r_iconst F.hx F.hb d_MO_vote_48 ?_
        cases hT
        exact r_zret F hlk hr hS (Or.inr rfl) d_MO_vote_49
      · replace hT := (if_pos c10).symm.trans hT
        refine r_iconst F.hx F.hb d_MO_vote_30 ?_
        cases hT
        exact r_zret F hlk hr hS (Or.inl rfl) d_MO_vote_31
theorem d_MO_net_0 : decode b_MO_net 0 = .ok (.aload_n 0, 1) := dc_42 (by decide +kernel)
theorem d_MO_net_1 : decode b_MO_net 1 = .ok (.iconst 0, 1) := dc_3 (by decide +kernel)
theorem d_MO_net_2 : decode b_MO_net 2 = .ok (.putfield 145, 3) := dc_181 (by decide +kernel)
theorem d_MO_net_5 : decode b_MO_net 5 = .ok (.aload_n 0, 1) := dc_42 (by decide +kernel)
theorem d_MO_net_6 : decode b_MO_net 6 = .ok (.iload_n 1, 1) := dc_27 (by decide +kernel)
theorem d_MO_net_7 : decode b_MO_net 7 = .ok (.invokevirtual 428, 3) := dc_182 (by decide +kernel)
theorem d_MO_net_10 : decode b_MO_net 10 = .ok (.ifCond .eq 27, 3) := dc_153 (by decide +kernel)
theorem d_MO_net_13 : decode b_MO_net 13 = .ok (.aload_n 0, 1) := dc_42 (by decide +kernel)
theorem d_MO_net_14 : decode b_MO_net 14 = .ok (.getfield 69, 3) := dc_180 (by decide +kernel)
theorem d_MO_net_17 : decode b_MO_net 17 = .ok (.iconst 0, 1) := dc_3 (by decide +kernel)
theorem d_MO_net_18 : decode b_MO_net 18 = .ok (.laload, 1) := dc_47 (by decide +kernel)
theorem d_MO_net_19 : decode b_MO_net 19 = .ok (.iload_n 1, 1) := dc_27 (by decide +kernel)
theorem d_MO_net_20 : decode b_MO_net 20 = .ok (.lshr, 1) := dc_123 (by decide +kernel)
theorem d_MO_net_21 : decode b_MO_net 21 = .ok (.lconst 1, 1) := dc_10 (by decide +kernel)
theorem d_MO_net_22 : decode b_MO_net 22 = .ok (.land, 1) := dc_127 (by decide +kernel)
theorem d_MO_net_23 : decode b_MO_net 23 = .ok (.lconst 1, 1) := dc_10 (by decide +kernel)
theorem d_MO_net_24 : decode b_MO_net 24 = .ok (.lcmp, 1) := dc_148 (by decide +kernel)
theorem d_MO_net_25 : decode b_MO_net 25 = .ok (.ifCond .ne 7, 3) := dc_154 (by decide +kernel)
theorem d_MO_net_28 : decode b_MO_net 28 = .ok (.iconst 1, 1) := dc_4 (by decide +kernel)
theorem d_MO_net_29 : decode b_MO_net 29 = .ok (.goto 4, 3) := dc_167 (by decide +kernel)
theorem d_MO_net_32 : decode b_MO_net 32 = .ok (.iconst 0, 1) := dc_3 (by decide +kernel)
theorem d_MO_net_33 : decode b_MO_net 33 = .ok (.iload_n 2, 1) := dc_28 (by decide +kernel)
theorem d_MO_net_34 : decode b_MO_net 34 = .ok (.if_icmp .ne 5, 3) := dc_160 (by decide +kernel)
theorem d_MO_net_37 : decode b_MO_net 37 = .ok (.iconst 0, 1) := dc_3 (by decide +kernel)
theorem d_MO_net_38 : decode b_MO_net 38 = .ok (.ireturn, 1) := dc_172 (by decide +kernel)
theorem d_MO_net_39 : decode b_MO_net 39 = .ok (.aload_n 0, 1) := dc_42 (by decide +kernel)
theorem d_MO_net_40 : decode b_MO_net 40 = .ok (.invokevirtual 443, 3) := dc_182 (by decide +kernel)
theorem d_MO_net_43 : decode b_MO_net 43 = .ok (.aload_n 0, 1) := dc_42 (by decide +kernel)
theorem d_MO_net_44 : decode b_MO_net 44 = .ok (.getfield 69, 3) := dc_180 (by decide +kernel)
theorem d_MO_net_47 : decode b_MO_net 47 = .ok (.iconst 0, 1) := dc_3 (by decide +kernel)
theorem d_MO_net_48 : decode b_MO_net 48 = .ok (.dup2, 1) := dc_92 (by decide +kernel)
theorem d_MO_net_49 : decode b_MO_net 49 = .ok (.laload, 1) := dc_47 (by decide +kernel)
theorem d_MO_net_50 : decode b_MO_net 50 = .ok (.lconst 1, 1) := dc_10 (by decide +kernel)
theorem d_MO_net_51 : decode b_MO_net 51 = .ok (.iload_n 1, 1) := dc_27 (by decide +kernel)
theorem d_MO_net_52 : decode b_MO_net 52 = .ok (.lshl, 1) := dc_121 (by decide +kernel)
theorem d_MO_net_53 : decode b_MO_net 53 = .ok (.lxor, 1) := dc_131 (by decide +kernel)
theorem d_MO_net_54 : decode b_MO_net 54 = .ok (.lastore, 1) := dc_80 (by decide +kernel)
theorem d_MO_net_55 : decode b_MO_net 55 = .ok (.iconst 1, 1) := dc_4 (by decide +kernel)
theorem d_MO_net_56 : decode b_MO_net 56 = .ok (.ireturn, 1) := dc_172 (by decide +kernel)
def t_MO_net_L33 (x1 : Int) (x2 : Int)  (M : Mem) (v3_ : Int) : Option (Mem × Int) := (if v3_ = x2 then (some (M, 0)) else (obind (t_MO_keepNow M) fun q7 => (qlet (setL q7 210 0 ((q7.2 210 0) ^^^ (q_lshl 1 x1))) fun M9 => (some (M9, 1)))))
def t_MO_net (M : Mem) (x1 : Int) (x2 : Int) : Option (Mem × Int) := (qlet (setI M 191 0 0) fun M1 => (obind (t_MO_isOpen M1 x1) fun q2 => (if q2 = 0 then (some (M1, 0)) else (if ((q_lshr (M1.2 210 0) x1) &&& 1) = 1 then (t_MO_net_L33 x1 x2 M1 1) else (t_MO_net_L33 x1 x2 M1 0)))))
set_option maxHeartbeats 4000000 in
set_option maxRecDepth 100000 in
theorem k_MO_net_L33 (l : Launch) {p : Program} {e : Env} {s : State} {m : MethodId} {below : List Frame} {meth : Method} {c : Code} {b n : Nat} {C : CT} (hlo : 231 ≤ n) (x1 : Int) (x2 : Int) (hx1 : InR x1) (hx2 : InR x2) (F : Cx b p m c b_MO_net 3 s ([.ref (b + 191), vI x1, vI x2] : List Value).toArray "WardFallsModel" C n 231) (hlk : meth.locks = false) (hr : meth.sig.returnType = some .boolean) {res : Mem × Int} (M : Mem) (v3_ : Int) (hv3_ : v3_ = 0 ∨ v3_ = 1) (H : Heap) (locs : List Loc) (ls : Array Slot) (hS : St b C n M s H locs) (hl : lv_has ls 3 [(0, .ref (b + 191)), (1, vI x1), (2, vI x2)]) (hT : t_MO_net_L33 x1 x2 M v3_ = some res) : W p l e (headSpec (wsM y_MO_net b_MO_net 3 (some .boolean)) (rmD 3)).room s m ([.ref (b + 191), vI x1, vI x2] : List Value).toArray below meth c H locs 0 0 (MQ below (QZ b C n res.1 res.2) ([.ref (b + 191), vI x1, vI x2] : List Value).toArray s 0 0 (frb b)) (F0 m 33 ls [vI v3_]) := by
  unfold t_MO_net_L33 at hT
  refine lv_iload_n F.hx F.hb d_MO_net_33 rfl (lv_at hl 2 rfl) ?_
  refine r_icmp_ne (tgt := 39) F.hx F.hb (inr_z hv3_) hx2 d_MO_net_34 (by decide) (fun c6 => ?_) (fun c6 => ?_)
  · replace hT := (if_neg c6).symm.trans hT
    refine lv_aload_n F.hx F.hb d_MO_net_39 rfl (lv_at hl 0 rfl) ?_
    obtain ⟨q7, hq7, hT⟩ := q_obind hT
    refine r_backV F hS (r_runV (k := 191) (N := 68) (T := T1) (As := []) F hS (show 191 < 231 by decide) (show shK 191 = 5 from rfl) rfl (c_MO_keepNow l F.2.2.1 M _ hq7) gs_MO_443 hd_MO_keepNow ⟨Nat.le_of_ble_eq_true rfl, Nat.le_of_ble_eq_true rfl⟩ rfl hl.1 (Nat.le_of_ble_eq_true rfl) ⟨Nat.zero_le _, Nat.zero_le _⟩ rfl d_MO_net_40) (fun H locs hS => ?_)
    refine lv_aload_n F.hx F.hb d_MO_net_43 rfl (lv_at hl 0 rfl) ?_
    refine r_get (v := .ref (b + 210)) (N := 68) (T := T1) (j := 33) F hS (show 191 < 231 by decide) (show shK 191 = 5 from rfl) (show shN 191 = 68 from rfl) rfl (Nat.le_of_ble_eq_true rfl) ing1 mw_1422 (fv_sg rfl rfl rfl) d_MO_net_44 ?_
    refine r_iconst F.hx F.hb d_MO_net_47 ?_
    refine lv_dup2_11 F.hx F.hb d_MO_net_48 rfl rfl ?_
    refine r_lald F hS (show 210 < 231 by decide) (show shK 210 = 2 from rfl) (show shN 210 = 23 from rfl) (inr_c rfl) (by omega) (by omega) d_MO_net_49 ?_
    refine lv_lconst (v := 1) F.hx F.hb d_MO_net_50 rfl ?_
    refine lv_iload_n F.hx F.hb d_MO_net_51 rfl (lv_at hl 1 rfl) ?_
    refine r_lshl F.hx F.hb d_MO_net_52 ?_
    refine lv_lxor F.hx F.hb d_MO_net_53 ?_
    refine r_last F hS (show 210 < 231 by decide) (show shK 210 = 2 from rfl) (show shN 210 = 23 from rfl) (inr_c rfl) (by omega) (by omega) d_MO_net_54 (fun H locs hS => ?_)
    obtain ⟨M9, eM9⟩ : ∃ q, q = (setL q7 210 0 ((q7.2 210 0) ^^^ (q_lshl 1 x1))) := ⟨_, rfl⟩
    replace hS : St b C n M9 s H locs := by rw [eM9]; exact hS
    replace hT := qlet_eq hT eM9
    refine r_iconst F.hx F.hb d_MO_net_55 ?_
    cases hT
    exact r_zret F hlk hr hS (Or.inr rfl) d_MO_net_56
  · replace hT := (if_pos c6).symm.trans hT
    refine r_iconst F.hx F.hb d_MO_net_37 ?_
    cases hT
    exact r_zret F hlk hr hS (Or.inl rfl) d_MO_net_38
set_option maxHeartbeats 4000000 in
set_option maxRecDepth 100000 in
theorem c_MO_net (l : Launch) {b n : Nat} {C : CT} (hlo : 231 ≤ n) (M : Mem) (x1 : Int) (x2 : Int) (hx1 : InR x1) (hx2 : InR x2) (res : Mem × Int) (hT : t_MO_net M x1 x2 = some res) : CM l b C n 3 y_MO_net b_MO_net 3 (some .boolean) [.ref (b + 191), vI x1, vI x2] M (QZ b C n res.1 res.2) := by
  refine CM.of (lo := 231) (ow := "WardFallsModel") (by decide) rfl (Nat.le_of_ble_eq_true rfl) hlo (fun p e s m below meth c F hlk hr hS ls hl => ?_)
  have hl : lv_has ls 3 [(0, .ref (b + 191)), (1, vI x1), (2, vI x2)] := hl
  unfold t_MO_net at hT
  refine lv_aload_n F.hx F.hb d_MO_net_0 rfl (lv_at hl 0 rfl) ?_
  refine r_iconst F.hx F.hb d_MO_net_1 ?_
  refine r_putI (N := 68) (T := T1) (j := 0) F hS (show 191 < 231 by decide) (show shK 191 = 5 from rfl) (show shN 191 = 68 from rfl) rfl (Nat.le_of_ble_eq_true rfl) ing1 tyok1 nm1 rfl rfl rfl rfl rfl rfl mw_1389 (inr_c rfl) d_MO_net_2 (fun H locs hS => ?_)
  obtain ⟨M1, eM1⟩ : ∃ q, q = (setI M 191 0 0) := ⟨_, rfl⟩
  replace hS : St b C n M1 s H locs := by rw [eM1]; exact hS
  replace hT := qlet_eq hT eM1
  refine lv_aload_n F.hx F.hb d_MO_net_5 rfl (lv_at hl 0 rfl) ?_
  refine lv_iload_n F.hx F.hb d_MO_net_6 rfl (lv_at hl 1 rfl) ?_
  obtain ⟨q2, hq2, hT⟩ := q_obind hT
  refine r_backZ F hS (r_runV (k := 191) (N := 68) (T := T1) (As := [vI x1]) F hS (show 191 < 231 by decide) (show shK 191 = 5 from rfl) rfl (c_MO_isOpen l F.2.2.1 M1 x1 hx1 _ hq2) gs_MO_428 hd_MO_isOpen ⟨Nat.le_of_ble_eq_true rfl, Nat.le_of_ble_eq_true rfl⟩ rfl hl.1 (Nat.le_of_ble_eq_true rfl) ⟨Nat.zero_le _, Nat.zero_le _⟩ rfl d_MO_net_7) (fun H locs hS h3 => ?_)
  refine r_if_eq (tgt := 37) F.hx F.hb (inr_z h3) d_MO_net_10 (by decide) (fun c4 => ?_) (fun c4 => ?_)
  · replace hT := (if_pos c4).symm.trans hT
    refine r_iconst F.hx F.hb d_MO_net_37 ?_
    cases hT
    exact r_zret F hlk hr hS (Or.inl rfl) d_MO_net_38
  · replace hT := (if_neg c4).symm.trans hT
    refine lv_aload_n F.hx F.hb d_MO_net_13 rfl (lv_at hl 0 rfl) ?_
    refine r_get (v := .ref (b + 210)) (N := 68) (T := T1) (j := 33) F hS (show 191 < 231 by decide) (show shK 191 = 5 from rfl) (show shN 191 = 68 from rfl) rfl (Nat.le_of_ble_eq_true rfl) ing1 mw_1422 (fv_sg rfl rfl rfl) d_MO_net_14 ?_
    refine r_iconst F.hx F.hb d_MO_net_17 ?_
    refine r_lald F hS (show 210 < 231 by decide) (show shK 210 = 2 from rfl) (show shN 210 = 23 from rfl) (inr_c rfl) (by omega) (by omega) d_MO_net_18 ?_
    refine lv_iload_n F.hx F.hb d_MO_net_19 rfl (lv_at hl 1 rfl) ?_
    refine r_lshr F.hx F.hb d_MO_net_20 ?_
    refine lv_lconst (v := 1) F.hx F.hb d_MO_net_21 rfl ?_
    refine lv_land F.hx F.hb d_MO_net_22 ?_
    refine lv_lconst (v := 1) F.hx F.hb d_MO_net_23 rfl ?_
    refine W.lcmp F.hx F.hb d_MO_net_24 ?_
    refine r_lif_ne (tgt := 32) F.hx F.hb  d_MO_net_25 (by decide) (fun c5 => ?_) (fun c5 => ?_)
    · replace hT := (if_neg c5).symm.trans hT
      refine r_iconst F.hx F.hb d_MO_net_32 ?_
      exact k_MO_net_L33 l hlo x1 x2 hx1 hx2 F hlk hr M1 0 (Or.inl rfl) _ _ _ hS (lv_sub hl [0, 1, 2] rfl) hT
    · replace hT := (if_pos c5).symm.trans hT
      refine r_iconst F.hx F.hb d_MO_net_28 ?_
      refine lv_goto (tgt := 33) F.hx F.hb d_MO_net_29 (by decide) ?_
      exact k_MO_net_L33 l hlo x1 x2 hx1 hx2 F hlk hr M1 1 (Or.inr rfl) _ _ _ hS (lv_sub hl [0, 1, 2] rfl) hT
theorem d_MO_lay_0 : decode b_MO_lay 0 = .ok (.aload_n 0, 1) := dc_42 (by decide +kernel)
theorem d_MO_lay_1 : decode b_MO_lay 1 = .ok (.iconst 0, 1) := dc_3 (by decide +kernel)
theorem d_MO_lay_2 : decode b_MO_lay 2 = .ok (.putfield 145, 3) := dc_181 (by decide +kernel)
theorem d_MO_lay_5 : decode b_MO_lay 5 = .ok (.aload_n 0, 1) := dc_42 (by decide +kernel)
theorem d_MO_lay_6 : decode b_MO_lay 6 = .ok (.iload_n 1, 1) := dc_27 (by decide +kernel)
theorem d_MO_lay_7 : decode b_MO_lay 7 = .ok (.invokevirtual 378, 3) := dc_182 (by decide +kernel)
theorem d_MO_lay_10 : decode b_MO_lay 10 = .ok (.ifCond .eq 21, 3) := dc_153 (by decide +kernel)
theorem d_MO_lay_13 : decode b_MO_lay 13 = .ok (.aload_n 0, 1) := dc_42 (by decide +kernel)
theorem d_MO_lay_14 : decode b_MO_lay 14 = .ok (.iload_n 2, 1) := dc_28 (by decide +kernel)
theorem d_MO_lay_15 : decode b_MO_lay 15 = .ok (.invokevirtual 428, 3) := dc_182 (by decide +kernel)
theorem d_MO_lay_18 : decode b_MO_lay 18 = .ok (.ifCond .eq 13, 3) := dc_153 (by decide +kernel)
theorem d_MO_lay_21 : decode b_MO_lay 21 = .ok (.aload_n 0, 1) := dc_42 (by decide +kernel)
theorem d_MO_lay_22 : decode b_MO_lay 22 = .ok (.iconst 0, 1) := dc_3 (by decide +kernel)
theorem d_MO_lay_23 : decode b_MO_lay 23 = .ok (.iload_n 2, 1) := dc_28 (by decide +kernel)
theorem d_MO_lay_24 : decode b_MO_lay 24 = .ok (.invokevirtual 363, 3) := dc_182 (by decide +kernel)
theorem d_MO_lay_27 : decode b_MO_lay 27 = .ok (.iconst (-1), 1) := dc_2 (by decide +kernel)
theorem d_MO_lay_28 : decode b_MO_lay 28 = .ok (.if_icmp .eq 5, 3) := dc_159 (by decide +kernel)
theorem d_MO_lay_31 : decode b_MO_lay 31 = .ok (.iconst 0, 1) := dc_3 (by decide +kernel)
theorem d_MO_lay_32 : decode b_MO_lay 32 = .ok (.ireturn, 1) := dc_172 (by decide +kernel)
theorem d_MO_lay_33 : decode b_MO_lay 33 = .ok (.aload_n 0, 1) := dc_42 (by decide +kernel)
theorem d_MO_lay_34 : decode b_MO_lay 34 = .ok (.invokevirtual 443, 3) := dc_182 (by decide +kernel)
theorem d_MO_lay_37 : decode b_MO_lay 37 = .ok (.aload_n 0, 1) := dc_42 (by decide +kernel)
theorem d_MO_lay_38 : decode b_MO_lay 38 = .ok (.getfield 79, 3) := dc_180 (by decide +kernel)
theorem d_MO_lay_41 : decode b_MO_lay 41 = .ok (.iload_n 1, 1) := dc_27 (by decide +kernel)
theorem d_MO_lay_42 : decode b_MO_lay 42 = .ok (.iload_n 2, 1) := dc_28 (by decide +kernel)
theorem d_MO_lay_43 : decode b_MO_lay 43 = .ok (.iastore, 1) := dc_79 (by decide +kernel)
theorem d_MO_lay_44 : decode b_MO_lay 44 = .ok (.iconst 1, 1) := dc_4 (by decide +kernel)
theorem d_MO_lay_45 : decode b_MO_lay 45 = .ok (.ireturn, 1) := dc_172 (by decide +kernel)
def t_MO_lay (M : Mem) (x1 : Int) (x2 : Int) : Option (Mem × Int) := (qlet (setI M 191 0 0) fun M1 => (qlet (t_MO_isThing M1 x1) fun q2 => (if q2 = 0 then (some (M1, 0)) else (obind (t_MO_isOpen M1 x2) fun q5 => (if q5 = 0 then (some (M1, 0)) else (obind (t_MO_thingIn M1 0 x2) fun q8 => (if q8 = (-1) then (obind (t_MO_keepNow M1) fun q11 => (qguard (0 ≤ x1 ∧ x1 < 184) (qlet (setI q11 213 x1 x2) fun M14 => (some (M14, 1))))) else (some (M1, 0)))))))))
set_option maxHeartbeats 4000000 in
set_option maxRecDepth 100000 in
theorem c_MO_lay (l : Launch) {b n : Nat} {C : CT} (hlo : 231 ≤ n) (M : Mem) (x1 : Int) (x2 : Int) (hx1 : InR x1) (hx2 : InR x2) (res : Mem × Int) (hT : t_MO_lay M x1 x2 = some res) : CM l b C n 3 y_MO_lay b_MO_lay 3 (some .boolean) [.ref (b + 191), vI x1, vI x2] M (QZ b C n res.1 res.2) := by
  refine CM.of (lo := 231) (ow := "WardFallsModel") (by decide) rfl (Nat.le_of_ble_eq_true rfl) hlo (fun p e s m below meth c F hlk hr hS ls hl => ?_)
  have hl : lv_has ls 3 [(0, .ref (b + 191)), (1, vI x1), (2, vI x2)] := hl
  unfold t_MO_lay at hT
  refine lv_aload_n F.hx F.hb d_MO_lay_0 rfl (lv_at hl 0 rfl) ?_
  refine r_iconst F.hx F.hb d_MO_lay_1 ?_
  refine r_putI (N := 68) (T := T1) (j := 0) F hS (show 191 < 231 by decide) (show shK 191 = 5 from rfl) (show shN 191 = 68 from rfl) rfl (Nat.le_of_ble_eq_true rfl) ing1 tyok1 nm1 rfl rfl rfl rfl rfl rfl mw_1389 (inr_c rfl) d_MO_lay_2 (fun H locs hS => ?_)
  obtain ⟨M1, eM1⟩ : ∃ q, q = (setI M 191 0 0) := ⟨_, rfl⟩
  replace hS : St b C n M1 s H locs := by rw [eM1]; exact hS
  replace hT := qlet_eq hT eM1
  refine lv_aload_n F.hx F.hb d_MO_lay_5 rfl (lv_at hl 0 rfl) ?_
  refine lv_iload_n F.hx F.hb d_MO_lay_6 rfl (lv_at hl 1 rfl) ?_
  obtain ⟨q2, hq2⟩ : ∃ q, q = (t_MO_isThing M1 x1) := ⟨_, rfl⟩
  replace hT := qlet_eq hT hq2
  refine r_backZ F hS (r_runV (k := 191) (N := 68) (T := T1) (As := [vI x1]) F hS (show 191 < 231 by decide) (show shK 191 = 5 from rfl) rfl (c_MO_isThing l F.2.2.1 M1 x1 hx1 _ hq2.symm) gs_MO_378 hd_MO_isThing ⟨Nat.le_of_ble_eq_true rfl, Nat.le_of_ble_eq_true rfl⟩ rfl hl.1 (Nat.le_of_ble_eq_true rfl) ⟨Nat.zero_le _, Nat.zero_le _⟩ rfl d_MO_lay_7) (fun H locs hS h3 => ?_)
  refine r_if_eq (tgt := 31) F.hx F.hb (inr_z h3) d_MO_lay_10 (by decide) (fun c4 => ?_) (fun c4 => ?_)
  · replace hT := (if_pos c4).symm.trans hT
    refine r_iconst F.hx F.hb d_MO_lay_31 ?_
    cases hT
    exact r_zret F hlk hr hS (Or.inl rfl) d_MO_lay_32
  · replace hT := (if_neg c4).symm.trans hT
    refine lv_aload_n F.hx F.hb d_MO_lay_13 rfl (lv_at hl 0 rfl) ?_
    refine lv_iload_n F.hx F.hb d_MO_lay_14 rfl (lv_at hl 2 rfl) ?_
    obtain ⟨q5, hq5, hT⟩ := q_obind hT
    refine r_backZ F hS (r_runV (k := 191) (N := 68) (T := T1) (As := [vI x2]) F hS (show 191 < 231 by decide) (show shK 191 = 5 from rfl) rfl (c_MO_isOpen l F.2.2.1 M1 x2 hx2 _ hq5) gs_MO_428 hd_MO_isOpen ⟨Nat.le_of_ble_eq_true rfl, Nat.le_of_ble_eq_true rfl⟩ rfl hl.1 (Nat.le_of_ble_eq_true rfl) ⟨Nat.zero_le _, Nat.zero_le _⟩ rfl d_MO_lay_15) (fun H locs hS h6 => ?_)
    refine r_if_eq (tgt := 31) F.hx F.hb (inr_z h6) d_MO_lay_18 (by decide) (fun c7 => ?_) (fun c7 => ?_)
    · replace hT := (if_pos c7).symm.trans hT
      refine r_iconst F.hx F.hb d_MO_lay_31 ?_
      cases hT
      exact r_zret F hlk hr hS (Or.inl rfl) d_MO_lay_32
    · replace hT := (if_neg c7).symm.trans hT
      refine lv_aload_n F.hx F.hb d_MO_lay_21 rfl (lv_at hl 0 rfl) ?_
      refine r_iconst F.hx F.hb d_MO_lay_22 ?_
      refine lv_iload_n F.hx F.hb d_MO_lay_23 rfl (lv_at hl 2 rfl) ?_
      obtain ⟨q8, hq8, hT⟩ := q_obind hT
      refine r_backI F hS (r_runV (k := 191) (N := 68) (T := T1) (As := [vI 0, vI x2]) F hS (show 191 < 231 by decide) (show shK 191 = 5 from rfl) rfl (c_MO_thingIn l F.2.2.1 M1 0 x2 (inr_c rfl) hx2 _ hq8) gs_MO_363 hd_MO_thingIn ⟨Nat.le_of_ble_eq_true rfl, Nat.le_of_ble_eq_true rfl⟩ rfl hl.1 (Nat.le_of_ble_eq_true rfl) ⟨Nat.zero_le _, Nat.zero_le _⟩ rfl d_MO_lay_24) (fun H locs hS h9 => ?_)
      refine r_iconst F.hx F.hb d_MO_lay_27 ?_
      refine r_icmp_eq (tgt := 33) F.hx F.hb h9 (inr_c rfl) d_MO_lay_28 (by decide) (fun c10 => ?_) (fun c10 => ?_)
      · replace hT := (if_pos c10).symm.trans hT
        refine lv_aload_n F.hx F.hb d_MO_lay_33 rfl (lv_at hl 0 rfl) ?_
        obtain ⟨q11, hq11, hT⟩ := q_obind hT
        refine r_backV F hS (r_runV (k := 191) (N := 68) (T := T1) (As := []) F hS (show 191 < 231 by decide) (show shK 191 = 5 from rfl) rfl (c_MO_keepNow l F.2.2.1 M1 _ hq11) gs_MO_443 hd_MO_keepNow ⟨Nat.le_of_ble_eq_true rfl, Nat.le_of_ble_eq_true rfl⟩ rfl hl.1 (Nat.le_of_ble_eq_true rfl) ⟨Nat.zero_le _, Nat.zero_le _⟩ rfl d_MO_lay_34) (fun H locs hS => ?_)
        refine lv_aload_n F.hx F.hb d_MO_lay_37 rfl (lv_at hl 0 rfl) ?_
        refine r_get (v := .ref (b + 213)) (N := 68) (T := T1) (j := 36) F hS (show 191 < 231 by decide) (show shK 191 = 5 from rfl) (show shN 191 = 68 from rfl) rfl (Nat.le_of_ble_eq_true rfl) ing1 mw_1425 (fv_sg rfl rfl rfl) d_MO_lay_38 ?_
        refine lv_iload_n F.hx F.hb d_MO_lay_41 rfl (lv_at hl 1 rfl) ?_
        refine lv_iload_n F.hx F.hb d_MO_lay_42 rfl (lv_at hl 2 rfl) ?_
        obtain ⟨⟨g13a, g13b⟩, hT⟩ := q_guard hT
        refine r_iast F hS (show 213 < 231 by decide) (show shK 213 = 0 from rfl) (show shN 213 = 184 from rfl) hx1 hx2 g13a g13b d_MO_lay_43 (fun H locs hS => ?_)
        obtain ⟨M14, eM14⟩ : ∃ q, q = (setI q11 213 x1 x2) := ⟨_, rfl⟩
        replace hS : St b C n M14 s H locs := by rw [eM14]; exact hS
        replace hT := qlet_eq hT eM14
        refine r_iconst F.hx F.hb d_MO_lay_44 ?_
        cases hT
        exact r_zret F hlk hr hS (Or.inr rfl) d_MO_lay_45
      · replace hT := (if_neg c10).symm.trans hT
        refine r_iconst F.hx F.hb d_MO_lay_31 ?_
        cases hT
        exact r_zret F hlk hr hS (Or.inl rfl) d_MO_lay_32
theorem d_MO_pour_0 : decode b_MO_pour 0 = .ok (.aload_n 0, 1) := dc_42 (by decide +kernel)
theorem d_MO_pour_1 : decode b_MO_pour 1 = .ok (.iconst 0, 1) := dc_3 (by decide +kernel)
theorem d_MO_pour_2 : decode b_MO_pour 2 = .ok (.putfield 145, 3) := dc_181 (by decide +kernel)
theorem d_MO_pour_5 : decode b_MO_pour 5 = .ok (.aload_n 0, 1) := dc_42 (by decide +kernel)
theorem d_MO_pour_6 : decode b_MO_pour 6 = .ok (.iload_n 1, 1) := dc_27 (by decide +kernel)
theorem d_MO_pour_7 : decode b_MO_pour 7 = .ok (.invokevirtual 428, 3) := dc_182 (by decide +kernel)
theorem d_MO_pour_10 : decode b_MO_pour 10 = .ok (.ifCond .eq 14, 3) := dc_153 (by decide +kernel)
theorem d_MO_pour_13 : decode b_MO_pour 13 = .ok (.iload_n 2, 1) := dc_28 (by decide +kernel)
theorem d_MO_pour_14 : decode b_MO_pour 14 = .ok (.iconst 1, 1) := dc_4 (by decide +kernel)
theorem d_MO_pour_15 : decode b_MO_pour 15 = .ok (.if_icmp .lt 9, 3) := dc_161 (by decide +kernel)
theorem d_MO_pour_18 : decode b_MO_pour 18 = .ok (.iload_n 2, 1) := dc_28 (by decide +kernel)
theorem d_MO_pour_19 : decode b_MO_pour 19 = .ok (.bipush 99, 2) := dc_16 (by decide +kernel)
theorem d_MO_pour_21 : decode b_MO_pour 21 = .ok (.if_icmp .le 5, 3) := dc_164 (by decide +kernel)
theorem d_MO_pour_24 : decode b_MO_pour 24 = .ok (.iconst (-1), 1) := dc_2 (by decide +kernel)
theorem d_MO_pour_25 : decode b_MO_pour 25 = .ok (.ireturn, 1) := dc_172 (by decide +kernel)
theorem d_MO_pour_26 : decode b_MO_pour 26 = .ok (.aload_n 0, 1) := dc_42 (by decide +kernel)
theorem d_MO_pour_27 : decode b_MO_pour 27 = .ok (.iconst 1, 1) := dc_4 (by decide +kernel)
theorem d_MO_pour_28 : decode b_MO_pour 28 = .ok (.iconst 0, 1) := dc_3 (by decide +kernel)
theorem d_MO_pour_29 : decode b_MO_pour 29 = .ok (.invokevirtual 437, 3) := dc_182 (by decide +kernel)
theorem d_MO_pour_32 : decode b_MO_pour 32 = .ok (.iconst 0, 1) := dc_3 (by decide +kernel)
theorem d_MO_pour_33 : decode b_MO_pour 33 = .ok (.istore_n 3, 1) := dc_62 (by decide +kernel)
theorem d_MO_pour_34 : decode b_MO_pour 34 = .ok (.iconst 0, 1) := dc_3 (by decide +kernel)
theorem d_MO_pour_35 : decode b_MO_pour 35 = .ok (.istore 4, 2) := dc_54 (by decide +kernel)
theorem d_MO_pour_37 : decode b_MO_pour 37 = .ok (.iload 4, 2) := dc_21 (by decide +kernel)
theorem d_MO_pour_39 : decode b_MO_pour 39 = .ok (.iload_n 2, 1) := dc_28 (by decide +kernel)
theorem d_MO_pour_40 : decode b_MO_pour 40 = .ok (.if_icmp .ge 26, 3) := dc_162 (by decide +kernel)
theorem d_MO_pour_43 : decode b_MO_pour 43 = .ok (.iload_n 3, 1) := dc_29 (by decide +kernel)
theorem d_MO_pour_44 : decode b_MO_pour 44 = .ok (.aload_n 0, 1) := dc_42 (by decide +kernel)
theorem d_MO_pour_45 : decode b_MO_pour 45 = .ok (.iconst 1, 1) := dc_4 (by decide +kernel)
theorem d_MO_pour_46 : decode b_MO_pour 46 = .ok (.iload_n 1, 1) := dc_27 (by decide +kernel)
theorem d_MO_pour_47 : decode b_MO_pour 47 = .ok (.invokevirtual 449, 3) := dc_182 (by decide +kernel)
theorem d_MO_pour_50 : decode b_MO_pour 50 = .ok (.ifCond .eq 7, 3) := dc_153 (by decide +kernel)
theorem d_MO_pour_53 : decode b_MO_pour 53 = .ok (.iconst 1, 1) := dc_4 (by decide +kernel)
theorem d_MO_pour_54 : decode b_MO_pour 54 = .ok (.goto 4, 3) := dc_167 (by decide +kernel)
theorem d_MO_pour_57 : decode b_MO_pour 57 = .ok (.iconst 0, 1) := dc_3 (by decide +kernel)
theorem d_MO_pour_58 : decode b_MO_pour 58 = .ok (.iadd, 1) := dc_96 (by decide +kernel)
theorem d_MO_pour_59 : decode b_MO_pour 59 = .ok (.istore_n 3, 1) := dc_62 (by decide +kernel)
theorem d_MO_pour_60 : decode b_MO_pour 60 = .ok (.iinc 4 1, 3) := dc_132 (by decide +kernel)
theorem d_MO_pour_63 : decode b_MO_pour 63 = .ok (.goto (-26), 3) := dc_167 (by decide +kernel)
theorem d_MO_pour_66 : decode b_MO_pour 66 = .ok (.iload_n 3, 1) := dc_29 (by decide +kernel)
theorem d_MO_pour_67 : decode b_MO_pour 67 = .ok (.ifCond .ne 5, 3) := dc_154 (by decide +kernel)
theorem d_MO_pour_70 : decode b_MO_pour 70 = .ok (.iconst 0, 1) := dc_3 (by decide +kernel)
theorem d_MO_pour_71 : decode b_MO_pour 71 = .ok (.ireturn, 1) := dc_172 (by decide +kernel)
theorem d_MO_pour_72 : decode b_MO_pour 72 = .ok (.aload_n 0, 1) := dc_42 (by decide +kernel)
theorem d_MO_pour_73 : decode b_MO_pour 73 = .ok (.invokevirtual 443, 3) := dc_182 (by decide +kernel)
theorem d_MO_pour_76 : decode b_MO_pour 76 = .ok (.aload_n 0, 1) := dc_42 (by decide +kernel)
theorem d_MO_pour_77 : decode b_MO_pour 77 = .ok (.getfield 73, 3) := dc_180 (by decide +kernel)
theorem d_MO_pour_80 : decode b_MO_pour 80 = .ok (.iconst 0, 1) := dc_3 (by decide +kernel)
theorem d_MO_pour_81 : decode b_MO_pour 81 = .ok (.aload_n 0, 1) := dc_42 (by decide +kernel)
theorem d_MO_pour_82 : decode b_MO_pour 82 = .ok (.getfield 73, 3) := dc_180 (by decide +kernel)
theorem d_MO_pour_85 : decode b_MO_pour 85 = .ok (.iconst 1, 1) := dc_4 (by decide +kernel)
theorem d_MO_pour_86 : decode b_MO_pour 86 = .ok (.laload, 1) := dc_47 (by decide +kernel)
theorem d_MO_pour_87 : decode b_MO_pour 87 = .ok (.lastore, 1) := dc_80 (by decide +kernel)
theorem d_MO_pour_88 : decode b_MO_pour 88 = .ok (.iload_n 3, 1) := dc_29 (by decide +kernel)
theorem d_MO_pour_89 : decode b_MO_pour 89 = .ok (.ireturn, 1) := dc_172 (by decide +kernel)
def t_MO_pour_L58 (x1 : Int) (x2 : Int) (bk37 : Mem → Int → Int → Option (Mem × Int)) (M : Mem) (v3_ : Int) (v4_ : Int) (v5_ : Int) : Option (Mem × Int) := (bk37 M (w32 (v4_ + v5_)) (w32 (v3_ + 1)))
def t_MO_pour_L37 (x1 : Int) (x2 : Int)  : Nat → Mem → Int → Int → Option (Mem × Int)
  | 0, _, _, _ => none
  | fu + 1, M, v3_, v4_ => (if x2 ≤ v4_ then (if v3_ = 0 then (some (M, 0)) else (obind (t_MO_keepNow M) fun q11 => (qlet (setL q11 211 0 (q11.2 211 1)) fun M13 => (some (M13, v3_))))) else (obind (t_MO_pours M 1 x1) fun q14 => (if (q14.2) = 0 then (t_MO_pour_L58 x1 x2 (fun a0_ a1_ a2_ => t_MO_pour_L37 x1 x2 fu a0_ a1_ a2_) (q14.1) v4_ v3_ 0) else (t_MO_pour_L58 x1 x2 (fun a0_ a1_ a2_ => t_MO_pour_L37 x1 x2 fu a0_ a1_ a2_) (q14.1) v4_ v3_ 1))))
def t_MO_pour (M : Mem) (x1 : Int) (x2 : Int) : Option (Mem × Int) := (qlet (setI M 191 0 0) fun M1 => (obind (t_MO_isOpen M1 x1) fun q2 => (if q2 = 0 then (some (M1, (-1))) else (if x2 < 1 then (some (M1, (-1))) else (if x2 ≤ 99 then (obind (t_MO_copies M1 1 0) fun q7 => (t_MO_pour_L37 x1 x2 FU q7 0 0)) else (some (M1, (-1))))))))
set_option maxHeartbeats 4000000 in
set_option maxRecDepth 100000 in
theorem k_MO_pour_L58 (l : Launch) {p : Program} {e : Env} {s : State} {m : MethodId} {below : List Frame} {meth : Method} {c : Code} {b n : Nat} {C : CT} (hlo : 231 ≤ n) (x1 : Int) (x2 : Int) (hx1 : InR x1) (hx2 : InR x2) (F : Cx b p m c b_MO_pour 5 s ([.ref (b + 191), vI x1, vI x2] : List Value).toArray "WardFallsModel" C n 231) (hlk : meth.locks = false) (hr : meth.sig.returnType = some .int) {res : Mem × Int} (bk37 : Mem → Int → Int → Option (Mem × Int)) (hbk37 : ∀ (M : Mem) (v3_ : Int) (hv3_ : InR v3_) (v4_ : Int) (hv4_ : InR v4_) (H : Heap) (locs : List Loc) (ls : Array Slot), St b C n M s H locs → lv_has ls 5 [(0, .ref (b + 191)), (1, vI x1), (2, vI x2), (3, vI v3_), (4, vI v4_)] → bk37 M v3_ v4_ = some res → W p l e (headSpec (wsM y_MO_pour b_MO_pour 5 (some .int)) (rmD 3)).room s m ([.ref (b + 191), vI x1, vI x2] : List Value).toArray below meth c H locs 0 0 (MQ below (QI b C n res.1 res.2) ([.ref (b + 191), vI x1, vI x2] : List Value).toArray s 0 0 (frb b)) (F0 m 37 ls [])) (M : Mem) (v3_ : Int) (hv3_ : InR v3_) (v4_ : Int) (hv4_ : InR v4_) (v5_ : Int) (hv5_ : v5_ = 0 ∨ v5_ = 1) (H : Heap) (locs : List Loc) (ls : Array Slot) (hS : St b C n M s H locs) (hl : lv_has ls 5 [(0, .ref (b + 191)), (1, vI x1), (2, vI x2), (4, vI v3_)]) (hT : t_MO_pour_L58 x1 x2 bk37 M v3_ v4_ v5_ = some res) : W p l e (headSpec (wsM y_MO_pour b_MO_pour 5 (some .int)) (rmD 3)).room s m ([.ref (b + 191), vI x1, vI x2] : List Value).toArray below meth c H locs 0 0 (MQ below (QI b C n res.1 res.2) ([.ref (b + 191), vI x1, vI x2] : List Value).toArray s 0 0 (frb b)) (F0 m 58 ls [vI v5_, vI v4_]) := by
  unfold t_MO_pour_L58 at hT
  refine r_iadd F.hx F.hb d_MO_pour_58 ?_
  refine lv_istore_n (lv' := [(3, vI (w32 (v4_ + v5_))), (0, .ref (b + 191)), (1, vI x1), (2, vI x2), (4, vI v3_)]) F.hx F.hb d_MO_pour_59 rfl hl (Nat.le_of_ble_eq_true rfl) rfl (fun ls hl => ?_)
  refine lv_iinc (v := Int32.ofInt (w32 (v3_ + 1))) (lv' := [(4, vI (w32 (v3_ + 1))), (3, vI (w32 (v4_ + v5_))), (0, .ref (b + 191)), (1, vI x1), (2, vI x2)]) F.hx F.hb d_MO_pour_60 hl (k := 4) rfl (q_of_add _ _) (Nat.le_of_ble_eq_true rfl) rfl (fun ls hl => ?_)
  refine lv_goto (tgt := 37) F.hx F.hb d_MO_pour_63 (by decide) ?_
  exact hbk37 M (w32 (v4_ + v5_)) (inr_w32 _) (w32 (v3_ + 1)) (inr_w32 _) _ _ _ hS (lv_sub hl [2, 3, 4, 1, 0] rfl) hT
set_option maxHeartbeats 4000000 in
set_option maxRecDepth 100000 in
theorem k_MO_pour_L37 (l : Launch) {p : Program} {e : Env} {s : State} {m : MethodId} {below : List Frame} {meth : Method} {c : Code} {b n : Nat} {C : CT} (hlo : 231 ≤ n) (x1 : Int) (x2 : Int) (hx1 : InR x1) (hx2 : InR x2) (F : Cx b p m c b_MO_pour 5 s ([.ref (b + 191), vI x1, vI x2] : List Value).toArray "WardFallsModel" C n 231) (hlk : meth.locks = false) (hr : meth.sig.returnType = some .int) {res : Mem × Int} : ∀ (fu : Nat) (M : Mem) (v3_ : Int) (hv3_ : InR v3_) (v4_ : Int) (hv4_ : InR v4_) (H : Heap) (locs : List Loc) (ls : Array Slot), St b C n M s H locs → lv_has ls 5 [(0, .ref (b + 191)), (1, vI x1), (2, vI x2), (3, vI v3_), (4, vI v4_)] → t_MO_pour_L37 x1 x2 fu M v3_ v4_ = some res → W p l e (headSpec (wsM y_MO_pour b_MO_pour 5 (some .int)) (rmD 3)).room s m ([.ref (b + 191), vI x1, vI x2] : List Value).toArray below meth c H locs 0 0 (MQ below (QI b C n res.1 res.2) ([.ref (b + 191), vI x1, vI x2] : List Value).toArray s 0 0 (frb b)) (F0 m 37 ls []) := by
  intro fu
  induction fu with
  | zero => intro M v3_ hv3_ v4_ hv4_ H locs ls hS hl hT; exact absurd hT (by simp [t_MO_pour_L37])
  | succ fu ih =>
    intro M v3_ hv3_ v4_ hv4_ H locs ls hS hl hT
    rw [t_MO_pour_L37] at hT
    refine lv_iload F.hx F.hb d_MO_pour_37 (lv_at hl 4 rfl) ?_
    refine lv_iload_n F.hx F.hb d_MO_pour_39 rfl (lv_at hl 2 rfl) ?_
    refine r_icmp_ge (tgt := 66) F.hx F.hb hv4_ hx2 d_MO_pour_40 (by decide) (fun c9 => ?_) (fun c9 => ?_)
    · replace hT := (if_pos c9).symm.trans hT
      refine lv_iload_n F.hx F.hb d_MO_pour_66 rfl (lv_at hl 3 rfl) ?_
      refine r_if_ne (tgt := 72) F.hx F.hb hv3_ d_MO_pour_67 (by decide) (fun c10 => ?_) (fun c10 => ?_)
      · replace hT := (if_neg c10).symm.trans hT
        refine lv_aload_n F.hx F.hb d_MO_pour_72 rfl (lv_at hl 0 rfl) ?_
        obtain ⟨q11, hq11, hT⟩ := q_obind hT
        refine r_backV F hS (r_runV (k := 191) (N := 68) (T := T1) (As := []) F hS (show 191 < 231 by decide) (show shK 191 = 5 from rfl) rfl (c_MO_keepNow l F.2.2.1 M _ hq11) gs_MO_443 hd_MO_keepNow ⟨Nat.le_of_ble_eq_true rfl, Nat.le_of_ble_eq_true rfl⟩ rfl hl.1 (Nat.le_of_ble_eq_true rfl) ⟨Nat.zero_le _, Nat.zero_le _⟩ rfl d_MO_pour_73) (fun H locs hS => ?_)
        refine lv_aload_n F.hx F.hb d_MO_pour_76 rfl (lv_at hl 0 rfl) ?_
        refine r_get (v := .ref (b + 211)) (N := 68) (T := T1) (j := 34) F hS (show 191 < 231 by decide) (show shK 191 = 5 from rfl) (show shN 191 = 68 from rfl) rfl (Nat.le_of_ble_eq_true rfl) ing1 mw_1423 (fv_sg rfl rfl rfl) d_MO_pour_77 ?_
        refine r_iconst F.hx F.hb d_MO_pour_80 ?_
        refine lv_aload_n F.hx F.hb d_MO_pour_81 rfl (lv_at hl 0 rfl) ?_
        refine r_get (v := .ref (b + 211)) (N := 68) (T := T1) (j := 34) F hS (show 191 < 231 by decide) (show shK 191 = 5 from rfl) (show shN 191 = 68 from rfl) rfl (Nat.le_of_ble_eq_true rfl) ing1 mw_1423 (fv_sg rfl rfl rfl) d_MO_pour_82 ?_
        refine r_iconst F.hx F.hb d_MO_pour_85 ?_
        refine r_lald F hS (show 211 < 231 by decide) (show shK 211 = 2 from rfl) (show shN 211 = 23 from rfl) (inr_c rfl) (by omega) (by omega) d_MO_pour_86 ?_
        refine r_last F hS (show 211 < 231 by decide) (show shK 211 = 2 from rfl) (show shN 211 = 23 from rfl) (inr_c rfl) (by omega) (by omega) d_MO_pour_87 (fun H locs hS => ?_)
        obtain ⟨M13, eM13⟩ : ∃ q, q = (setL q11 211 0 (q11.2 211 1)) := ⟨_, rfl⟩
        replace hS : St b C n M13 s H locs := by rw [eM13]; exact hS
        replace hT := qlet_eq hT eM13
        refine lv_iload_n F.hx F.hb d_MO_pour_88 rfl (lv_at hl 3 rfl) ?_
        cases hT
        exact r_iret F hlk hr rfl hS hv3_ d_MO_pour_89
      · replace hT := (if_pos c10).symm.trans hT
        refine r_iconst F.hx F.hb d_MO_pour_70 ?_
        cases hT
        exact r_iret F hlk hr rfl hS (inr_c rfl) d_MO_pour_71
    · replace hT := (if_neg c9).symm.trans hT
      refine lv_iload_n F.hx F.hb d_MO_pour_43 rfl (lv_at hl 3 rfl) ?_
      refine lv_aload_n F.hx F.hb d_MO_pour_44 rfl (lv_at hl 0 rfl) ?_
      refine r_iconst F.hx F.hb d_MO_pour_45 ?_
      refine lv_iload_n F.hx F.hb d_MO_pour_46 rfl (lv_at hl 1 rfl) ?_
      obtain ⟨q14, hq14, hT⟩ := q_obind hT
      refine r_backZ F hS (r_runV (k := 191) (N := 68) (T := T1) (As := [vI 1, vI x1]) F hS (show 191 < 231 by decide) (show shK 191 = 5 from rfl) rfl (c_MO_pours l F.2.2.1 M 1 x1 (inr_c rfl) hx1 _ hq14) gs_MO_449 hd_MO_pours ⟨Nat.le_of_ble_eq_true rfl, Nat.le_of_ble_eq_true rfl⟩ rfl hl.1 (Nat.le_of_ble_eq_true rfl) ⟨Nat.zero_le _, Nat.zero_le _⟩ rfl d_MO_pour_47) (fun H locs hS h15 => ?_)
      refine r_if_eq (tgt := 57) F.hx F.hb (inr_z h15) d_MO_pour_50 (by decide) (fun c16 => ?_) (fun c16 => ?_)
      · replace hT := (if_pos c16).symm.trans hT
        refine r_iconst F.hx F.hb d_MO_pour_57 ?_
        exact k_MO_pour_L58 l hlo x1 x2 hx1 hx2 F hlk hr (fun a0_ a1_ a2_ => t_MO_pour_L37 x1 x2 fu a0_ a1_ a2_) ih (q14.1) v4_ hv4_ v3_ hv3_ 0 (Or.inl rfl) _ _ _ hS (lv_sub hl [0, 1, 2, 4] rfl) hT
      · replace hT := (if_neg c16).symm.trans hT
        refine r_iconst F.hx F.hb d_MO_pour_53 ?_
        refine lv_goto (tgt := 58) F.hx F.hb d_MO_pour_54 (by decide) ?_
        exact k_MO_pour_L58 l hlo x1 x2 hx1 hx2 F hlk hr (fun a0_ a1_ a2_ => t_MO_pour_L37 x1 x2 fu a0_ a1_ a2_) ih (q14.1) v4_ hv4_ v3_ hv3_ 1 (Or.inr rfl) _ _ _ hS (lv_sub hl [0, 1, 2, 4] rfl) hT
set_option maxHeartbeats 4000000 in
set_option maxRecDepth 100000 in
theorem c_MO_pour (l : Launch) {b n : Nat} {C : CT} (hlo : 231 ≤ n) (M : Mem) (x1 : Int) (x2 : Int) (hx1 : InR x1) (hx2 : InR x2) (res : Mem × Int) (hT : t_MO_pour M x1 x2 = some res) : CM l b C n 3 y_MO_pour b_MO_pour 5 (some .int) [.ref (b + 191), vI x1, vI x2] M (QI b C n res.1 res.2) := by
  refine CM.of (lo := 231) (ow := "WardFallsModel") (by decide) rfl (Nat.le_of_ble_eq_true rfl) hlo (fun p e s m below meth c F hlk hr hS ls hl => ?_)
  have hl : lv_has ls 5 [(0, .ref (b + 191)), (1, vI x1), (2, vI x2)] := hl
  unfold t_MO_pour at hT
  refine lv_aload_n F.hx F.hb d_MO_pour_0 rfl (lv_at hl 0 rfl) ?_
  refine r_iconst F.hx F.hb d_MO_pour_1 ?_
  refine r_putI (N := 68) (T := T1) (j := 0) F hS (show 191 < 231 by decide) (show shK 191 = 5 from rfl) (show shN 191 = 68 from rfl) rfl (Nat.le_of_ble_eq_true rfl) ing1 tyok1 nm1 rfl rfl rfl rfl rfl rfl mw_1389 (inr_c rfl) d_MO_pour_2 (fun H locs hS => ?_)
  obtain ⟨M1, eM1⟩ : ∃ q, q = (setI M 191 0 0) := ⟨_, rfl⟩
  replace hS : St b C n M1 s H locs := by rw [eM1]; exact hS
  replace hT := qlet_eq hT eM1
  refine lv_aload_n F.hx F.hb d_MO_pour_5 rfl (lv_at hl 0 rfl) ?_
  refine lv_iload_n F.hx F.hb d_MO_pour_6 rfl (lv_at hl 1 rfl) ?_
  obtain ⟨q2, hq2, hT⟩ := q_obind hT
  refine r_backZ F hS (r_runV (k := 191) (N := 68) (T := T1) (As := [vI x1]) F hS (show 191 < 231 by decide) (show shK 191 = 5 from rfl) rfl (c_MO_isOpen l F.2.2.1 M1 x1 hx1 _ hq2) gs_MO_428 hd_MO_isOpen ⟨Nat.le_of_ble_eq_true rfl, Nat.le_of_ble_eq_true rfl⟩ rfl hl.1 (Nat.le_of_ble_eq_true rfl) ⟨Nat.zero_le _, Nat.zero_le _⟩ rfl d_MO_pour_7) (fun H locs hS h3 => ?_)
  refine r_if_eq (tgt := 24) F.hx F.hb (inr_z h3) d_MO_pour_10 (by decide) (fun c4 => ?_) (fun c4 => ?_)
  · replace hT := (if_pos c4).symm.trans hT
    refine r_iconst F.hx F.hb d_MO_pour_24 ?_
    cases hT
    exact r_iret F hlk hr rfl hS (inr_c rfl) d_MO_pour_25
  · replace hT := (if_neg c4).symm.trans hT
    refine lv_iload_n F.hx F.hb d_MO_pour_13 rfl (lv_at hl 2 rfl) ?_
    refine r_iconst F.hx F.hb d_MO_pour_14 ?_
    refine r_icmp_lt (tgt := 24) F.hx F.hb hx2 (inr_c rfl) d_MO_pour_15 (by decide) (fun c5 => ?_) (fun c5 => ?_)
    · replace hT := (if_pos c5).symm.trans hT
      refine r_iconst F.hx F.hb d_MO_pour_24 ?_
      cases hT
      exact r_iret F hlk hr rfl hS (inr_c rfl) d_MO_pour_25
    · replace hT := (if_neg c5).symm.trans hT
      refine lv_iload_n F.hx F.hb d_MO_pour_18 rfl (lv_at hl 2 rfl) ?_
      refine r_bipush F.hx F.hb d_MO_pour_19 rfl ?_
      refine r_icmp_le (tgt := 26) F.hx F.hb hx2 (inr_c rfl) d_MO_pour_21 (by decide) (fun c6 => ?_) (fun c6 => ?_)
      · replace hT := (if_pos c6).symm.trans hT
        refine lv_aload_n F.hx F.hb d_MO_pour_26 rfl (lv_at hl 0 rfl) ?_
        refine r_iconst F.hx F.hb d_MO_pour_27 ?_
        refine r_iconst F.hx F.hb d_MO_pour_28 ?_
        obtain ⟨q7, hq7, hT⟩ := q_obind hT
        refine r_backV F hS (r_runV (k := 191) (N := 68) (T := T1) (As := [vI 1, vI 0]) F hS (show 191 < 231 by decide) (show shK 191 = 5 from rfl) rfl (c_MO_copies l F.2.2.1 M1 1 0 (inr_c rfl) (inr_c rfl) _ hq7) gs_MO_437 hd_MO_copies ⟨Nat.le_of_ble_eq_true rfl, Nat.le_of_ble_eq_true rfl⟩ rfl hl.1 (Nat.le_of_ble_eq_true rfl) ⟨Nat.zero_le _, Nat.zero_le _⟩ rfl d_MO_pour_29) (fun H locs hS => ?_)
        refine r_iconst F.hx F.hb d_MO_pour_32 ?_
        refine lv_istore_n (lv' := [(3, vI 0), (0, .ref (b + 191)), (1, vI x1), (2, vI x2)]) F.hx F.hb d_MO_pour_33 rfl hl (Nat.le_of_ble_eq_true rfl) rfl (fun ls hl => ?_)
        refine r_iconst F.hx F.hb d_MO_pour_34 ?_
        refine lv_istore (lv' := [(4, vI 0), (3, vI 0), (0, .ref (b + 191)), (1, vI x1), (2, vI x2)]) F.hx F.hb d_MO_pour_35 hl (Nat.le_of_ble_eq_true rfl) rfl (fun ls hl => ?_)
        exact k_MO_pour_L37 l hlo x1 x2 hx1 hx2 F hlk hr FU q7 0 (inr_c rfl) 0 (inr_c rfl) _ _ _ hS (lv_sub hl [2, 3, 4, 1, 0] rfl) hT
      · replace hT := (if_neg c6).symm.trans hT
        refine r_iconst F.hx F.hb d_MO_pour_24 ?_
        cases hT
        exact r_iret F hlk hr rfl hS (inr_c rfl) d_MO_pour_25
theorem d_MO_bitsOf_0 : decode b_MO_bitsOf 0 = .ok (.iconst 0, 1) := dc_3 (by decide +kernel)
theorem d_MO_bitsOf_1 : decode b_MO_bitsOf 1 = .ok (.istore_n 2, 1) := dc_61 (by decide +kernel)
theorem d_MO_bitsOf_2 : decode b_MO_bitsOf 2 = .ok (.iconst 0, 1) := dc_3 (by decide +kernel)
theorem d_MO_bitsOf_3 : decode b_MO_bitsOf 3 = .ok (.istore_n 3, 1) := dc_62 (by decide +kernel)
theorem d_MO_bitsOf_4 : decode b_MO_bitsOf 4 = .ok (.iload_n 3, 1) := dc_29 (by decide +kernel)
theorem d_MO_bitsOf_5 : decode b_MO_bitsOf 5 = .ok (.bipush 48, 2) := dc_16 (by decide +kernel)
theorem d_MO_bitsOf_7 : decode b_MO_bitsOf 7 = .ok (.if_icmp .ge 18, 3) := dc_162 (by decide +kernel)
theorem d_MO_bitsOf_10 : decode b_MO_bitsOf 10 = .ok (.iload_n 2, 1) := dc_28 (by decide +kernel)
theorem d_MO_bitsOf_11 : decode b_MO_bitsOf 11 = .ok (.lload_n 0, 1) := dc_30 (by decide +kernel)
theorem d_MO_bitsOf_12 : decode b_MO_bitsOf 12 = .ok (.iload_n 3, 1) := dc_29 (by decide +kernel)
theorem d_MO_bitsOf_13 : decode b_MO_bitsOf 13 = .ok (.lshr, 1) := dc_123 (by decide +kernel)
theorem d_MO_bitsOf_14 : decode b_MO_bitsOf 14 = .ok (.lconst 1, 1) := dc_10 (by decide +kernel)
theorem d_MO_bitsOf_15 : decode b_MO_bitsOf 15 = .ok (.land, 1) := dc_127 (by decide +kernel)
theorem d_MO_bitsOf_16 : decode b_MO_bitsOf 16 = .ok (.l2i, 1) := dc_136 (by decide +kernel)
theorem d_MO_bitsOf_17 : decode b_MO_bitsOf 17 = .ok (.iadd, 1) := dc_96 (by decide +kernel)
theorem d_MO_bitsOf_18 : decode b_MO_bitsOf 18 = .ok (.istore_n 2, 1) := dc_61 (by decide +kernel)
theorem d_MO_bitsOf_19 : decode b_MO_bitsOf 19 = .ok (.iinc 3 1, 3) := dc_132 (by decide +kernel)
theorem d_MO_bitsOf_22 : decode b_MO_bitsOf 22 = .ok (.goto (-18), 3) := dc_167 (by decide +kernel)
theorem d_MO_bitsOf_25 : decode b_MO_bitsOf 25 = .ok (.iload_n 2, 1) := dc_28 (by decide +kernel)
theorem d_MO_bitsOf_26 : decode b_MO_bitsOf 26 = .ok (.ireturn, 1) := dc_172 (by decide +kernel)
def t_MO_bitsOf_L4 (x1 : Int64)  : Nat → Mem → Int → Int → Option (Int)
  | 0, _, _, _ => none
  | fu + 1, M, v1_, v2_ => (if 48 ≤ v2_ then (some v1_) else (t_MO_bitsOf_L4 x1 fu M (w32 (v1_ + (q_l2i ((q_lshr x1 v2_) &&& 1)))) (w32 (v2_ + 1))))
def t_MO_bitsOf (M : Mem) (x1 : Int64) : Option (Int) := (t_MO_bitsOf_L4 x1 FU M 0 0)
set_option maxHeartbeats 4000000 in
set_option maxRecDepth 100000 in
theorem k_MO_bitsOf_L4 (l : Launch) {p : Program} {e : Env} {s : State} {m : MethodId} {below : List Frame} {meth : Method} {c : Code} {b n : Nat} {C : CT} (hlo : 231 ≤ n) (x1 : Int64)  (F : Cx b p m c b_MO_bitsOf 4 s ([.long x1] : List Value).toArray "WardFallsModel" C n 231) (hlk : meth.locks = false) (hr : meth.sig.returnType = some .int) {res : Int} : ∀ (fu : Nat) (M : Mem) (v1_ : Int) (hv1_ : InR v1_) (v2_ : Int) (hv2_ : InR v2_) (H : Heap) (locs : List Loc) (ls : Array Slot), St b C n M s H locs → lv_has ls 4 [(0, .long x1), (2, vI v1_), (3, vI v2_)] → t_MO_bitsOf_L4 x1 fu M v1_ v2_ = some res → W p l e (headSpec (wsM y_MO_bitsOf b_MO_bitsOf 4 (some .int)) (rmD 0)).room s m ([.long x1] : List Value).toArray below meth c H locs 0 0 (MQ below (QI b C n M res) ([.long x1] : List Value).toArray s 0 0 (frb b)) (F0 m 4 ls []) := by
  intro fu
  induction fu with
  | zero => intro M v1_ hv1_ v2_ hv2_ H locs ls hS hl hT; exact absurd hT (by simp [t_MO_bitsOf_L4])
  | succ fu ih =>
    intro M v1_ hv1_ v2_ hv2_ H locs ls hS hl hT
    rw [t_MO_bitsOf_L4] at hT
    refine lv_iload_n F.hx F.hb d_MO_bitsOf_4 rfl (lv_at hl 2 rfl) ?_
    refine r_bipush F.hx F.hb d_MO_bitsOf_5 rfl ?_
    refine r_icmp_ge (tgt := 25) F.hx F.hb hv2_ (inr_c rfl) d_MO_bitsOf_7 (by decide) (fun c1 => ?_) (fun c1 => ?_)
    · replace hT := (if_pos c1).symm.trans hT
      refine lv_iload_n F.hx F.hb d_MO_bitsOf_25 rfl (lv_at hl 1 rfl) ?_
      cases hT
      exact r_iret F hlk hr rfl hS hv1_ d_MO_bitsOf_26
    · replace hT := (if_neg c1).symm.trans hT
      refine lv_iload_n F.hx F.hb d_MO_bitsOf_10 rfl (lv_at hl 1 rfl) ?_
      refine lv_lload_n F.hx F.hb d_MO_bitsOf_11 rfl (lv_at hl 0 rfl) ?_
      refine lv_iload_n F.hx F.hb d_MO_bitsOf_12 rfl (lv_at hl 2 rfl) ?_
      refine r_lshr F.hx F.hb d_MO_bitsOf_13 ?_
      refine lv_lconst (v := 1) F.hx F.hb d_MO_bitsOf_14 rfl ?_
      refine lv_land F.hx F.hb d_MO_bitsOf_15 ?_
      refine r_l2i F.hx F.hb d_MO_bitsOf_16 ?_
      refine r_iadd F.hx F.hb d_MO_bitsOf_17 ?_
      refine lv_istore_n (lv' := [(2, vI (w32 (v1_ + (q_l2i ((q_lshr x1 v2_) &&& 1))))), (0, .long x1), (3, vI v2_)]) F.hx F.hb d_MO_bitsOf_18 rfl hl (Nat.le_of_ble_eq_true rfl) rfl (fun ls hl => ?_)
      refine lv_iinc (v := Int32.ofInt (w32 (v2_ + 1))) (lv' := [(3, vI (w32 (v2_ + 1))), (2, vI (w32 (v1_ + (q_l2i ((q_lshr x1 v2_) &&& 1))))), (0, .long x1)]) F.hx F.hb d_MO_bitsOf_19 hl (k := 2) rfl (q_of_add _ _) (Nat.le_of_ble_eq_true rfl) rfl (fun ls hl => ?_)
      refine lv_goto (tgt := 4) F.hx F.hb d_MO_bitsOf_22 (by decide) ?_
      exact ih M (w32 (v1_ + (q_l2i ((q_lshr x1 v2_) &&& 1)))) (inr_w32 _) (w32 (v2_ + 1)) (inr_w32 _) _ _ _ hS (lv_sub hl [2, 1, 0] rfl) hT
set_option maxHeartbeats 4000000 in
set_option maxRecDepth 100000 in
theorem c_MO_bitsOf (l : Launch) {b n : Nat} {C : CT} (hlo : 231 ≤ n) (M : Mem) (x1 : Int64)  (res : Int) (hT : t_MO_bitsOf M x1 = some res) : CM l b C n 0 y_MO_bitsOf b_MO_bitsOf 4 (some .int) [.long x1] M (QI b C n M res) := by
  refine CM.of (lo := 231) (ow := "WardFallsModel") (by decide) rfl (Nat.le_of_ble_eq_true rfl) hlo (fun p e s m below meth c F hlk hr hS ls hl => ?_)
  have hl : lv_has ls 4 [(0, .long x1)] := hl
  unfold t_MO_bitsOf at hT
  refine r_iconst F.hx F.hb d_MO_bitsOf_0 ?_
  refine lv_istore_n (lv' := [(2, vI 0), (0, .long x1)]) F.hx F.hb d_MO_bitsOf_1 rfl hl (Nat.le_of_ble_eq_true rfl) rfl (fun ls hl => ?_)
  refine r_iconst F.hx F.hb d_MO_bitsOf_2 ?_
  refine lv_istore_n (lv' := [(3, vI 0), (2, vI 0), (0, .long x1)]) F.hx F.hb d_MO_bitsOf_3 rfl hl (Nat.le_of_ble_eq_true rfl) rfl (fun ls hl => ?_)
  exact k_MO_bitsOf_L4 l hlo x1 F hlk hr FU M 0 (inr_c rfl) 0 (inr_c rfl) _ _ _ hS (lv_sub hl [2, 1, 0] rfl) hT
theorem d_MO_drain_0 : decode b_MO_drain 0 = .ok (.aload_n 0, 1) := dc_42 (by decide +kernel)
theorem d_MO_drain_1 : decode b_MO_drain 1 = .ok (.iconst 0, 1) := dc_3 (by decide +kernel)
theorem d_MO_drain_2 : decode b_MO_drain 2 = .ok (.putfield 145, 3) := dc_181 (by decide +kernel)
theorem d_MO_drain_5 : decode b_MO_drain 5 = .ok (.aload_n 0, 1) := dc_42 (by decide +kernel)
theorem d_MO_drain_6 : decode b_MO_drain 6 = .ok (.getfield 73, 3) := dc_180 (by decide +kernel)
theorem d_MO_drain_9 : decode b_MO_drain 9 = .ok (.iconst 0, 1) := dc_3 (by decide +kernel)
theorem d_MO_drain_10 : decode b_MO_drain 10 = .ok (.laload, 1) := dc_47 (by decide +kernel)
theorem d_MO_drain_11 : decode b_MO_drain 11 = .ok (.lconst 0, 1) := dc_9 (by decide +kernel)
theorem d_MO_drain_12 : decode b_MO_drain 12 = .ok (.lcmp, 1) := dc_148 (by decide +kernel)
theorem d_MO_drain_13 : decode b_MO_drain 13 = .ok (.ifCond .ne 5, 3) := dc_154 (by decide +kernel)
theorem d_MO_drain_16 : decode b_MO_drain 16 = .ok (.iconst 0, 1) := dc_3 (by decide +kernel)
theorem d_MO_drain_17 : decode b_MO_drain 17 = .ok (.ireturn, 1) := dc_172 (by decide +kernel)
theorem d_MO_drain_18 : decode b_MO_drain 18 = .ok (.aload_n 0, 1) := dc_42 (by decide +kernel)
theorem d_MO_drain_19 : decode b_MO_drain 19 = .ok (.invokevirtual 443, 3) := dc_182 (by decide +kernel)
theorem d_MO_drain_22 : decode b_MO_drain 22 = .ok (.aload_n 0, 1) := dc_42 (by decide +kernel)
theorem d_MO_drain_23 : decode b_MO_drain 23 = .ok (.getfield 73, 3) := dc_180 (by decide +kernel)
theorem d_MO_drain_26 : decode b_MO_drain 26 = .ok (.iconst 0, 1) := dc_3 (by decide +kernel)
theorem d_MO_drain_27 : decode b_MO_drain 27 = .ok (.laload, 1) := dc_47 (by decide +kernel)
theorem d_MO_drain_28 : decode b_MO_drain 28 = .ok (.invokestatic 452, 3) := dc_184 (by decide +kernel)
theorem d_MO_drain_31 : decode b_MO_drain 31 = .ok (.istore_n 1, 1) := dc_60 (by decide +kernel)
theorem d_MO_drain_32 : decode b_MO_drain 32 = .ok (.aload_n 0, 1) := dc_42 (by decide +kernel)
theorem d_MO_drain_33 : decode b_MO_drain 33 = .ok (.getfield 73, 3) := dc_180 (by decide +kernel)
theorem d_MO_drain_36 : decode b_MO_drain 36 = .ok (.iconst 0, 1) := dc_3 (by decide +kernel)
theorem d_MO_drain_37 : decode b_MO_drain 37 = .ok (.lconst 0, 1) := dc_9 (by decide +kernel)
theorem d_MO_drain_38 : decode b_MO_drain 38 = .ok (.lastore, 1) := dc_80 (by decide +kernel)
theorem d_MO_drain_39 : decode b_MO_drain 39 = .ok (.iload_n 1, 1) := dc_27 (by decide +kernel)
theorem d_MO_drain_40 : decode b_MO_drain 40 = .ok (.ireturn, 1) := dc_172 (by decide +kernel)
def t_MO_drain (M : Mem)  : Option (Mem × Int) := (qlet (setI M 191 0 0) fun M1 => (if (M1.2 211 0) = 0 then (some (M1, 0)) else (obind (t_MO_keepNow M1) fun q3 => (obind (t_MO_bitsOf q3 (q3.2 211 0)) fun q5 => (qlet (setL q3 211 0 0) fun M7 => (some (M7, q5)))))))
set_option maxHeartbeats 4000000 in
set_option maxRecDepth 100000 in
theorem c_MO_drain (l : Launch) {b n : Nat} {C : CT} (hlo : 231 ≤ n) (M : Mem)   (res : Mem × Int) (hT : t_MO_drain M  = some res) : CM l b C n 2 y_MO_drain b_MO_drain 2 (some .int) [.ref (b + 191)] M (QI b C n res.1 res.2) := by
  refine CM.of (lo := 231) (ow := "WardFallsModel") (by decide) rfl (Nat.le_of_ble_eq_true rfl) hlo (fun p e s m below meth c F hlk hr hS ls hl => ?_)
  have hl : lv_has ls 2 [(0, .ref (b + 191))] := hl
  unfold t_MO_drain at hT
  refine lv_aload_n F.hx F.hb d_MO_drain_0 rfl (lv_at hl 0 rfl) ?_
  refine r_iconst F.hx F.hb d_MO_drain_1 ?_
  refine r_putI (N := 68) (T := T1) (j := 0) F hS (show 191 < 231 by decide) (show shK 191 = 5 from rfl) (show shN 191 = 68 from rfl) rfl (Nat.le_of_ble_eq_true rfl) ing1 tyok1 nm1 rfl rfl rfl rfl rfl rfl mw_1389 (inr_c rfl) d_MO_drain_2 (fun H locs hS => ?_)
  obtain ⟨M1, eM1⟩ : ∃ q, q = (setI M 191 0 0) := ⟨_, rfl⟩
  replace hS : St b C n M1 s H locs := by rw [eM1]; exact hS
  replace hT := qlet_eq hT eM1
  refine lv_aload_n F.hx F.hb d_MO_drain_5 rfl (lv_at hl 0 rfl) ?_
  refine r_get (v := .ref (b + 211)) (N := 68) (T := T1) (j := 34) F hS (show 191 < 231 by decide) (show shK 191 = 5 from rfl) (show shN 191 = 68 from rfl) rfl (Nat.le_of_ble_eq_true rfl) ing1 mw_1423 (fv_sg rfl rfl rfl) d_MO_drain_6 ?_
  refine r_iconst F.hx F.hb d_MO_drain_9 ?_
  refine r_lald F hS (show 211 < 231 by decide) (show shK 211 = 2 from rfl) (show shN 211 = 23 from rfl) (inr_c rfl) (by omega) (by omega) d_MO_drain_10 ?_
  refine lv_lconst (v := 0) F.hx F.hb d_MO_drain_11 rfl ?_
  refine W.lcmp F.hx F.hb d_MO_drain_12 ?_
  refine r_lif_ne (tgt := 18) F.hx F.hb  d_MO_drain_13 (by decide) (fun c2 => ?_) (fun c2 => ?_)
  · replace hT := (if_neg c2).symm.trans hT
    refine lv_aload_n F.hx F.hb d_MO_drain_18 rfl (lv_at hl 0 rfl) ?_
    obtain ⟨q3, hq3, hT⟩ := q_obind hT
    refine r_backV F hS (r_runV (k := 191) (N := 68) (T := T1) (As := []) F hS (show 191 < 231 by decide) (show shK 191 = 5 from rfl) rfl (c_MO_keepNow l F.2.2.1 M1 _ hq3) gs_MO_443 hd_MO_keepNow ⟨Nat.le_of_ble_eq_true rfl, Nat.le_of_ble_eq_true rfl⟩ rfl hl.1 (Nat.le_of_ble_eq_true rfl) ⟨Nat.zero_le _, Nat.zero_le _⟩ rfl d_MO_drain_19) (fun H locs hS => ?_)
    refine lv_aload_n F.hx F.hb d_MO_drain_22 rfl (lv_at hl 0 rfl) ?_
    refine r_get (v := .ref (b + 211)) (N := 68) (T := T1) (j := 34) F hS (show 191 < 231 by decide) (show shK 191 = 5 from rfl) (show shN 191 = 68 from rfl) rfl (Nat.le_of_ble_eq_true rfl) ing1 mw_1423 (fv_sg rfl rfl rfl) d_MO_drain_23 ?_
    refine r_iconst F.hx F.hb d_MO_drain_26 ?_
    refine r_lald F hS (show 211 < 231 by decide) (show shK 211 = 2 from rfl) (show shN 211 = 23 from rfl) (inr_c rfl) (by omega) (by omega) d_MO_drain_27 ?_
    obtain ⟨q5, hq5, hT⟩ := q_obind hT
    refine r_backI F hS (r_runS (As := [.long (q3.2 211 0)]) F hS (c_MO_bitsOf l F.2.2.1 q3 (q3.2 211 0) _ hq5) gs_MO_452 hd_MO_bitsOf ⟨Nat.le_of_ble_eq_true rfl, Nat.le_of_ble_eq_true rfl⟩ rfl hl.1 (Nat.le_of_ble_eq_true rfl) ⟨Nat.zero_le _, Nat.zero_le _⟩ rfl d_MO_drain_28) (fun H locs hS h6 => ?_)
    refine lv_istore_n (lv' := [(1, vI q5), (0, .ref (b + 191))]) F.hx F.hb d_MO_drain_31 rfl hl (Nat.le_of_ble_eq_true rfl) rfl (fun ls hl => ?_)
    refine lv_aload_n F.hx F.hb d_MO_drain_32 rfl (lv_at hl 1 rfl) ?_
    refine r_get (v := .ref (b + 211)) (N := 68) (T := T1) (j := 34) F hS (show 191 < 231 by decide) (show shK 191 = 5 from rfl) (show shN 191 = 68 from rfl) rfl (Nat.le_of_ble_eq_true rfl) ing1 mw_1423 (fv_sg rfl rfl rfl) d_MO_drain_33 ?_
    refine r_iconst F.hx F.hb d_MO_drain_36 ?_
    refine lv_lconst (v := 0) F.hx F.hb d_MO_drain_37 rfl ?_
    refine r_last F hS (show 211 < 231 by decide) (show shK 211 = 2 from rfl) (show shN 211 = 23 from rfl) (inr_c rfl) (by omega) (by omega) d_MO_drain_38 (fun H locs hS => ?_)
    obtain ⟨M7, eM7⟩ : ∃ q, q = (setL q3 211 0 0) := ⟨_, rfl⟩
    replace hS : St b C n M7 s H locs := by rw [eM7]; exact hS
    replace hT := qlet_eq hT eM7
    refine lv_iload_n F.hx F.hb d_MO_drain_39 rfl (lv_at hl 0 rfl) ?_
    cases hT
    exact r_iret F hlk hr rfl hS h6 d_MO_drain_40
  · replace hT := (if_pos c2).symm.trans hT
    refine r_iconst F.hx F.hb d_MO_drain_16 ?_
    cases hT
    exact r_iret F hlk hr rfl hS (inr_c rfl) d_MO_drain_17
theorem d_MO_flood_0 : decode b_MO_flood 0 = .ok (.aload_n 0, 1) := dc_42 (by decide +kernel)
theorem d_MO_flood_1 : decode b_MO_flood 1 = .ok (.iconst 0, 1) := dc_3 (by decide +kernel)
theorem d_MO_flood_2 : decode b_MO_flood 2 = .ok (.putfield 145, 3) := dc_181 (by decide +kernel)
theorem d_MO_flood_5 : decode b_MO_flood 5 = .ok (.aload_n 0, 1) := dc_42 (by decide +kernel)
theorem d_MO_flood_6 : decode b_MO_flood 6 = .ok (.iload_n 1, 1) := dc_27 (by decide +kernel)
theorem d_MO_flood_7 : decode b_MO_flood 7 = .ok (.invokevirtual 369, 3) := dc_182 (by decide +kernel)
theorem d_MO_flood_10 : decode b_MO_flood 10 = .ok (.ifCond .eq 10, 3) := dc_153 (by decide +kernel)
theorem d_MO_flood_13 : decode b_MO_flood 13 = .ok (.iload_n 2, 1) := dc_28 (by decide +kernel)
theorem d_MO_flood_14 : decode b_MO_flood 14 = .ok (.invokestatic 440, 3) := dc_184 (by decide +kernel)
theorem d_MO_flood_17 : decode b_MO_flood 17 = .ok (.ifCond .ne 7, 3) := dc_154 (by decide +kernel)
theorem d_MO_flood_20 : decode b_MO_flood 20 = .ok (.ldc2_w 456, 3) := dc_20 (by decide +kernel)
theorem d_MO_flood_23 : decode b_MO_flood 23 = .ok (.lreturn, 1) := dc_173 (by decide +kernel)
theorem d_MO_flood_24 : decode b_MO_flood 24 = .ok (.aload_n 0, 1) := dc_42 (by decide +kernel)
theorem d_MO_flood_25 : decode b_MO_flood 25 = .ok (.iconst 1, 1) := dc_4 (by decide +kernel)
theorem d_MO_flood_26 : decode b_MO_flood 26 = .ok (.iconst 0, 1) := dc_3 (by decide +kernel)
theorem d_MO_flood_27 : decode b_MO_flood 27 = .ok (.invokevirtual 437, 3) := dc_182 (by decide +kernel)
theorem d_MO_flood_30 : decode b_MO_flood 30 = .ok (.aload_n 0, 1) := dc_42 (by decide +kernel)
theorem d_MO_flood_31 : decode b_MO_flood 31 = .ok (.getfield 76, 3) := dc_180 (by decide +kernel)
theorem d_MO_flood_34 : decode b_MO_flood 34 = .ok (.iconst 4, 1) := dc_7 (by decide +kernel)
theorem d_MO_flood_35 : decode b_MO_flood 35 = .ok (.iload_n 1, 1) := dc_27 (by decide +kernel)
theorem d_MO_flood_36 : decode b_MO_flood 36 = .ok (.iadd, 1) := dc_96 (by decide +kernel)
theorem d_MO_flood_37 : decode b_MO_flood 37 = .ok (.iload_n 2, 1) := dc_28 (by decide +kernel)
theorem d_MO_flood_38 : decode b_MO_flood 38 = .ok (.iastore, 1) := dc_79 (by decide +kernel)
theorem d_MO_flood_39 : decode b_MO_flood 39 = .ok (.aload_n 0, 1) := dc_42 (by decide +kernel)
theorem d_MO_flood_40 : decode b_MO_flood 40 = .ok (.iconst 1, 1) := dc_4 (by decide +kernel)
theorem d_MO_flood_41 : decode b_MO_flood 41 = .ok (.invokevirtual 446, 3) := dc_182 (by decide +kernel)
theorem d_MO_flood_44 : decode b_MO_flood 44 = .ok (.aload_n 0, 1) := dc_42 (by decide +kernel)
theorem d_MO_flood_45 : decode b_MO_flood 45 = .ok (.getfield 73, 3) := dc_180 (by decide +kernel)
theorem d_MO_flood_48 : decode b_MO_flood 48 = .ok (.iconst 1, 1) := dc_4 (by decide +kernel)
theorem d_MO_flood_49 : decode b_MO_flood 49 = .ok (.laload, 1) := dc_47 (by decide +kernel)
theorem d_MO_flood_50 : decode b_MO_flood 50 = .ok (.lreturn, 1) := dc_173 (by decide +kernel)
def t_MO_flood (M : Mem) (x1 : Int) (x2 : Int) : Option (Mem × Int64) := (qlet (setI M 191 0 0) fun M1 => (qlet (t_MO_isWard M1 x1) fun q2 => (if q2 = 0 then (some (M1, (-1))) else (qlet (t_MO_isDown M1 x2) fun q5 => (if q5 = 0 then (some (M1, (-1))) else (obind (t_MO_copies M1 1 0) fun q8 => (qguard (0 ≤ (w32 (4 + x1)) ∧ (w32 (4 + x1)) < 92) (qlet (setI q8 212 (w32 (4 + x1)) x2) fun M11 => (obind (t_MO_floods M11 1) fun q12 => (some (q12, (q12.2 211 1))))))))))))
set_option maxHeartbeats 4000000 in
set_option maxRecDepth 100000 in
theorem c_MO_flood (l : Launch) {b n : Nat} {C : CT} (hlo : 231 ≤ n) (M : Mem) (x1 : Int) (x2 : Int) (hx1 : InR x1) (hx2 : InR x2) (res : Mem × Int64) (hT : t_MO_flood M x1 x2 = some res) : CM l b C n 4 y_MO_flood b_MO_flood 3 (some .long) [.ref (b + 191), vI x1, vI x2] M (QL b C n res.1 res.2) := by
  refine CM.of (lo := 231) (ow := "WardFallsModel") (by decide) rfl (Nat.le_of_ble_eq_true rfl) hlo (fun p e s m below meth c F hlk hr hS ls hl => ?_)
  have hl : lv_has ls 3 [(0, .ref (b + 191)), (1, vI x1), (2, vI x2)] := hl
  unfold t_MO_flood at hT
  refine lv_aload_n F.hx F.hb d_MO_flood_0 rfl (lv_at hl 0 rfl) ?_
  refine r_iconst F.hx F.hb d_MO_flood_1 ?_
  refine r_putI (N := 68) (T := T1) (j := 0) F hS (show 191 < 231 by decide) (show shK 191 = 5 from rfl) (show shN 191 = 68 from rfl) rfl (Nat.le_of_ble_eq_true rfl) ing1 tyok1 nm1 rfl rfl rfl rfl rfl rfl mw_1389 (inr_c rfl) d_MO_flood_2 (fun H locs hS => ?_)
  obtain ⟨M1, eM1⟩ : ∃ q, q = (setI M 191 0 0) := ⟨_, rfl⟩
  replace hS : St b C n M1 s H locs := by rw [eM1]; exact hS
  replace hT := qlet_eq hT eM1
  refine lv_aload_n F.hx F.hb d_MO_flood_5 rfl (lv_at hl 0 rfl) ?_
  refine lv_iload_n F.hx F.hb d_MO_flood_6 rfl (lv_at hl 1 rfl) ?_
  obtain ⟨q2, hq2⟩ : ∃ q, q = (t_MO_isWard M1 x1) := ⟨_, rfl⟩
  replace hT := qlet_eq hT hq2
  refine r_backZ F hS (r_runV (k := 191) (N := 68) (T := T1) (As := [vI x1]) F hS (show 191 < 231 by decide) (show shK 191 = 5 from rfl) rfl (c_MO_isWard l F.2.2.1 M1 x1 hx1 _ hq2.symm) gs_MO_369 hd_MO_isWard ⟨Nat.le_of_ble_eq_true rfl, Nat.le_of_ble_eq_true rfl⟩ rfl hl.1 (Nat.le_of_ble_eq_true rfl) ⟨Nat.zero_le _, Nat.zero_le _⟩ rfl d_MO_flood_7) (fun H locs hS h3 => ?_)
  refine r_if_eq (tgt := 20) F.hx F.hb (inr_z h3) d_MO_flood_10 (by decide) (fun c4 => ?_) (fun c4 => ?_)
  · replace hT := (if_pos c4).symm.trans hT
    refine lv_ldc2 (v := (-1)) F.hx F.hb F.hown (F.hts mw_1930) d_MO_flood_20 ?_
    cases hT
    exact r_lret F hlk hr hS d_MO_flood_23
  · replace hT := (if_neg c4).symm.trans hT
    refine lv_iload_n F.hx F.hb d_MO_flood_13 rfl (lv_at hl 2 rfl) ?_
    obtain ⟨q5, hq5⟩ : ∃ q, q = (t_MO_isDown M1 x2) := ⟨_, rfl⟩
    replace hT := qlet_eq hT hq5
    refine r_backZ F hS (r_runS (As := [vI x2]) F hS (c_MO_isDown l F.2.2.1 M1 x2 hx2 _ hq5.symm) gs_MO_440 hd_MO_isDown ⟨Nat.le_of_ble_eq_true rfl, Nat.le_of_ble_eq_true rfl⟩ rfl hl.1 (Nat.le_of_ble_eq_true rfl) ⟨Nat.zero_le _, Nat.zero_le _⟩ rfl d_MO_flood_14) (fun H locs hS h6 => ?_)
    refine r_if_ne (tgt := 24) F.hx F.hb (inr_z h6) d_MO_flood_17 (by decide) (fun c7 => ?_) (fun c7 => ?_)
    · replace hT := (if_neg c7).symm.trans hT
      refine lv_aload_n F.hx F.hb d_MO_flood_24 rfl (lv_at hl 0 rfl) ?_
      refine r_iconst F.hx F.hb d_MO_flood_25 ?_
      refine r_iconst F.hx F.hb d_MO_flood_26 ?_
      obtain ⟨q8, hq8, hT⟩ := q_obind hT
      refine r_backV F hS (r_runV (k := 191) (N := 68) (T := T1) (As := [vI 1, vI 0]) F hS (show 191 < 231 by decide) (show shK 191 = 5 from rfl) rfl (c_MO_copies l F.2.2.1 M1 1 0 (inr_c rfl) (inr_c rfl) _ hq8) gs_MO_437 hd_MO_copies ⟨Nat.le_of_ble_eq_true rfl, Nat.le_of_ble_eq_true rfl⟩ rfl hl.1 (Nat.le_of_ble_eq_true rfl) ⟨Nat.zero_le _, Nat.zero_le _⟩ rfl d_MO_flood_27) (fun H locs hS => ?_)
      refine lv_aload_n F.hx F.hb d_MO_flood_30 rfl (lv_at hl 0 rfl) ?_
      refine r_get (v := .ref (b + 212)) (N := 68) (T := T1) (j := 35) F hS (show 191 < 231 by decide) (show shK 191 = 5 from rfl) (show shN 191 = 68 from rfl) rfl (Nat.le_of_ble_eq_true rfl) ing1 mw_1424 (fv_sg rfl rfl rfl) d_MO_flood_31 ?_
      refine r_iconst F.hx F.hb d_MO_flood_34 ?_
      refine lv_iload_n F.hx F.hb d_MO_flood_35 rfl (lv_at hl 1 rfl) ?_
      refine r_iadd F.hx F.hb d_MO_flood_36 ?_
      refine lv_iload_n F.hx F.hb d_MO_flood_37 rfl (lv_at hl 2 rfl) ?_
      obtain ⟨⟨g10a, g10b⟩, hT⟩ := q_guard hT
      refine r_iast F hS (show 212 < 231 by decide) (show shK 212 = 0 from rfl) (show shN 212 = 92 from rfl) (inr_w32 _) hx2 g10a g10b d_MO_flood_38 (fun H locs hS => ?_)
      obtain ⟨M11, eM11⟩ : ∃ q, q = (setI q8 212 (w32 (4 + x1)) x2) := ⟨_, rfl⟩
      replace hS : St b C n M11 s H locs := by rw [eM11]; exact hS
      replace hT := qlet_eq hT eM11
      refine lv_aload_n F.hx F.hb d_MO_flood_39 rfl (lv_at hl 0 rfl) ?_
      refine r_iconst F.hx F.hb d_MO_flood_40 ?_
      obtain ⟨q12, hq12, hT⟩ := q_obind hT
      refine r_backV F hS (r_runV (k := 191) (N := 68) (T := T1) (As := [vI 1]) F hS (show 191 < 231 by decide) (show shK 191 = 5 from rfl) rfl (c_MO_floods l F.2.2.1 M11 1 (inr_c rfl) _ hq12) gs_MO_446 hd_MO_floods ⟨Nat.le_of_ble_eq_true rfl, Nat.le_of_ble_eq_true rfl⟩ rfl hl.1 (Nat.le_of_ble_eq_true rfl) ⟨Nat.zero_le _, Nat.zero_le _⟩ rfl d_MO_flood_41) (fun H locs hS => ?_)
      refine lv_aload_n F.hx F.hb d_MO_flood_44 rfl (lv_at hl 0 rfl) ?_
      refine r_get (v := .ref (b + 211)) (N := 68) (T := T1) (j := 34) F hS (show 191 < 231 by decide) (show shK 191 = 5 from rfl) (show shN 191 = 68 from rfl) rfl (Nat.le_of_ble_eq_true rfl) ing1 mw_1423 (fv_sg rfl rfl rfl) d_MO_flood_45 ?_
      refine r_iconst F.hx F.hb d_MO_flood_48 ?_
      refine r_lald F hS (show 211 < 231 by decide) (show shK 211 = 2 from rfl) (show shN 211 = 23 from rfl) (inr_c rfl) (by omega) (by omega) d_MO_flood_49 ?_
      cases hT
      exact r_lret F hlk hr hS d_MO_flood_50
    · replace hT := (if_pos c7).symm.trans hT
      refine lv_ldc2 (v := (-1)) F.hx F.hb F.hown (F.hts mw_1930) d_MO_flood_20 ?_
      cases hT
      exact r_lret F hlk hr hS d_MO_flood_23
theorem d_MO_canStep_0 : decode b_MO_canStep 0 = .ok (.iload_n 2, 1) := dc_28 (by decide +kernel)
theorem d_MO_canStep_1 : decode b_MO_canStep 1 = .ok (.iconst (-1), 1) := dc_2 (by decide +kernel)
theorem d_MO_canStep_2 : decode b_MO_canStep 2 = .ok (.if_icmp .eq 50, 3) := dc_159 (by decide +kernel)
theorem d_MO_canStep_5 : decode b_MO_canStep 5 = .ok (.aload_n 0, 1) := dc_42 (by decide +kernel)
theorem d_MO_canStep_6 : decode b_MO_canStep 6 = .ok (.iload_n 1, 1) := dc_27 (by decide +kernel)
theorem d_MO_canStep_7 : decode b_MO_canStep 7 = .ok (.invokevirtual 366, 3) := dc_182 (by decide +kernel)
theorem d_MO_canStep_10 : decode b_MO_canStep 10 = .ok (.ifCond .eq 42, 3) := dc_153 (by decide +kernel)
theorem d_MO_canStep_13 : decode b_MO_canStep 13 = .ok (.aload_n 0, 1) := dc_42 (by decide +kernel)
theorem d_MO_canStep_14 : decode b_MO_canStep 14 = .ok (.iload_n 2, 1) := dc_28 (by decide +kernel)
theorem d_MO_canStep_15 : decode b_MO_canStep 15 = .ok (.invokevirtual 366, 3) := dc_182 (by decide +kernel)
theorem d_MO_canStep_18 : decode b_MO_canStep 18 = .ok (.ifCond .eq 34, 3) := dc_153 (by decide +kernel)
theorem d_MO_canStep_21 : decode b_MO_canStep 21 = .ok (.aload_n 0, 1) := dc_42 (by decide +kernel)
theorem d_MO_canStep_22 : decode b_MO_canStep 22 = .ok (.iload_n 1, 1) := dc_27 (by decide +kernel)
theorem d_MO_canStep_23 : decode b_MO_canStep 23 = .ok (.iload_n 2, 1) := dc_28 (by decide +kernel)
theorem d_MO_canStep_24 : decode b_MO_canStep 24 = .ok (.invokevirtual 359, 3) := dc_182 (by decide +kernel)
theorem d_MO_canStep_27 : decode b_MO_canStep 27 = .ok (.ifCond .eq 21, 3) := dc_153 (by decide +kernel)
theorem d_MO_canStep_30 : decode b_MO_canStep 30 = .ok (.aload_n 0, 1) := dc_42 (by decide +kernel)
theorem d_MO_canStep_31 : decode b_MO_canStep 31 = .ok (.getfield 32, 3) := dc_180 (by decide +kernel)
theorem d_MO_canStep_34 : decode b_MO_canStep 34 = .ok (.iload_n 1, 1) := dc_27 (by decide +kernel)
theorem d_MO_canStep_35 : decode b_MO_canStep 35 = .ok (.baload, 1) := dc_51 (by decide +kernel)
theorem d_MO_canStep_36 : decode b_MO_canStep 36 = .ok (.ifCond .ne 12, 3) := dc_154 (by decide +kernel)
theorem d_MO_canStep_39 : decode b_MO_canStep 39 = .ok (.aload_n 0, 1) := dc_42 (by decide +kernel)
theorem d_MO_canStep_40 : decode b_MO_canStep 40 = .ok (.getfield 32, 3) := dc_180 (by decide +kernel)
theorem d_MO_canStep_43 : decode b_MO_canStep 43 = .ok (.iload_n 2, 1) := dc_28 (by decide +kernel)
theorem d_MO_canStep_44 : decode b_MO_canStep 44 = .ok (.baload, 1) := dc_51 (by decide +kernel)
theorem d_MO_canStep_45 : decode b_MO_canStep 45 = .ok (.ifCond .eq 7, 3) := dc_153 (by decide +kernel)
theorem d_MO_canStep_48 : decode b_MO_canStep 48 = .ok (.iconst 1, 1) := dc_4 (by decide +kernel)
theorem d_MO_canStep_49 : decode b_MO_canStep 49 = .ok (.goto 4, 3) := dc_167 (by decide +kernel)
theorem d_MO_canStep_52 : decode b_MO_canStep 52 = .ok (.iconst 0, 1) := dc_3 (by decide +kernel)
theorem d_MO_canStep_53 : decode b_MO_canStep 53 = .ok (.ireturn, 1) := dc_172 (by decide +kernel)
def t_MO_canStep (M : Mem) (x1 : Int) (x2 : Int) : Option (Int) := (if x2 = (-1) then (some 0) else (obind (t_MO_stands M x1) fun q2 => (if q2 = 0 then (some 0) else (obind (t_MO_stands M x2) fun q5 => (if q5 = 0 then (some 0) else (obind (t_MO_isLine M x1 x2) fun q8 => (if q8 = 0 then (some 1) else (qguard (0 ≤ x1 ∧ x1 < 96) (if (M.1 199 x1) = 0 then (qguard (0 ≤ x2 ∧ x2 < 96) (if (M.1 199 x2) = 0 then (some 0) else (some 1))) else (some 1))))))))))
set_option maxHeartbeats 4000000 in
set_option maxRecDepth 100000 in
theorem c_MO_canStep (l : Launch) {b n : Nat} {C : CT} (hlo : 231 ≤ n) (M : Mem) (x1 : Int) (x2 : Int) (hx1 : InR x1) (hx2 : InR x2) (res : Int) (hT : t_MO_canStep M x1 x2 = some res) : CM l b C n 2 y_MO_canStep b_MO_canStep 3 (some .boolean) [.ref (b + 191), vI x1, vI x2] M (QZ b C n M res) := by
  refine CM.of (lo := 231) (ow := "WardFallsModel") (by decide) rfl (Nat.le_of_ble_eq_true rfl) hlo (fun p e s m below meth c F hlk hr hS ls hl => ?_)
  have hl : lv_has ls 3 [(0, .ref (b + 191)), (1, vI x1), (2, vI x2)] := hl
  unfold t_MO_canStep at hT
  refine lv_iload_n F.hx F.hb d_MO_canStep_0 rfl (lv_at hl 2 rfl) ?_
  refine r_iconst F.hx F.hb d_MO_canStep_1 ?_
  refine r_icmp_eq (tgt := 52) F.hx F.hb hx2 (inr_c rfl) d_MO_canStep_2 (by decide) (fun c1 => ?_) (fun c1 => ?_)
  · replace hT := (if_pos c1).symm.trans hT
    refine r_iconst F.hx F.hb d_MO_canStep_52 ?_
    cases hT
    exact r_zret F hlk hr hS (Or.inl rfl) d_MO_canStep_53
  · replace hT := (if_neg c1).symm.trans hT
    refine lv_aload_n F.hx F.hb d_MO_canStep_5 rfl (lv_at hl 0 rfl) ?_
    refine lv_iload_n F.hx F.hb d_MO_canStep_6 rfl (lv_at hl 1 rfl) ?_
    obtain ⟨q2, hq2, hT⟩ := q_obind hT
    refine r_backZ F hS (r_runV (k := 191) (N := 68) (T := T1) (As := [vI x1]) F hS (show 191 < 231 by decide) (show shK 191 = 5 from rfl) rfl (c_MO_stands l F.2.2.1 M x1 hx1 _ hq2) gs_MO_366 hd_MO_stands ⟨Nat.le_of_ble_eq_true rfl, Nat.le_of_ble_eq_true rfl⟩ rfl hl.1 (Nat.le_of_ble_eq_true rfl) ⟨Nat.zero_le _, Nat.zero_le _⟩ rfl d_MO_canStep_7) (fun H locs hS h3 => ?_)
    refine r_if_eq (tgt := 52) F.hx F.hb (inr_z h3) d_MO_canStep_10 (by decide) (fun c4 => ?_) (fun c4 => ?_)
    · replace hT := (if_pos c4).symm.trans hT
      refine r_iconst F.hx F.hb d_MO_canStep_52 ?_
      cases hT
      exact r_zret F hlk hr hS (Or.inl rfl) d_MO_canStep_53
    · replace hT := (if_neg c4).symm.trans hT
      refine lv_aload_n F.hx F.hb d_MO_canStep_13 rfl (lv_at hl 0 rfl) ?_
      refine lv_iload_n F.hx F.hb d_MO_canStep_14 rfl (lv_at hl 2 rfl) ?_
      obtain ⟨q5, hq5, hT⟩ := q_obind hT
      refine r_backZ F hS (r_runV (k := 191) (N := 68) (T := T1) (As := [vI x2]) F hS (show 191 < 231 by decide) (show shK 191 = 5 from rfl) rfl (c_MO_stands l F.2.2.1 M x2 hx2 _ hq5) gs_MO_366 hd_MO_stands ⟨Nat.le_of_ble_eq_true rfl, Nat.le_of_ble_eq_true rfl⟩ rfl hl.1 (Nat.le_of_ble_eq_true rfl) ⟨Nat.zero_le _, Nat.zero_le _⟩ rfl d_MO_canStep_15) (fun H locs hS h6 => ?_)
      refine r_if_eq (tgt := 52) F.hx F.hb (inr_z h6) d_MO_canStep_18 (by decide) (fun c7 => ?_) (fun c7 => ?_)
      · replace hT := (if_pos c7).symm.trans hT
        refine r_iconst F.hx F.hb d_MO_canStep_52 ?_
        cases hT
        exact r_zret F hlk hr hS (Or.inl rfl) d_MO_canStep_53
      · replace hT := (if_neg c7).symm.trans hT
        refine lv_aload_n F.hx F.hb d_MO_canStep_21 rfl (lv_at hl 0 rfl) ?_
        refine lv_iload_n F.hx F.hb d_MO_canStep_22 rfl (lv_at hl 1 rfl) ?_
        refine lv_iload_n F.hx F.hb d_MO_canStep_23 rfl (lv_at hl 2 rfl) ?_
        obtain ⟨q8, hq8, hT⟩ := q_obind hT
        refine r_backZ F hS (r_runV (k := 191) (N := 68) (T := T1) (As := [vI x1, vI x2]) F hS (show 191 < 231 by decide) (show shK 191 = 5 from rfl) rfl (c_MO_isLine l F.2.2.1 M x1 x2 hx1 hx2 _ hq8) gs_MO_359 hd_MO_isLine ⟨Nat.le_of_ble_eq_true rfl, Nat.le_of_ble_eq_true rfl⟩ rfl hl.1 (Nat.le_of_ble_eq_true rfl) ⟨Nat.zero_le _, Nat.zero_le _⟩ rfl d_MO_canStep_24) (fun H locs hS h9 => ?_)
        refine r_if_eq (tgt := 48) F.hx F.hb (inr_z h9) d_MO_canStep_27 (by decide) (fun c10 => ?_) (fun c10 => ?_)
        · replace hT := (if_pos c10).symm.trans hT
          refine r_iconst F.hx F.hb d_MO_canStep_48 ?_
          refine lv_goto (tgt := 53) F.hx F.hb d_MO_canStep_49 (by decide) ?_
          cases hT
          exact r_zret F hlk hr hS (Or.inr rfl) d_MO_canStep_53
        · replace hT := (if_neg c10).symm.trans hT
          refine lv_aload_n F.hx F.hb d_MO_canStep_30 rfl (lv_at hl 0 rfl) ?_
          refine r_get (v := .ref (b + 199)) (N := 68) (T := T1) (j := 9) F hS (show 191 < 231 by decide) (show shK 191 = 5 from rfl) (show shN 191 = 68 from rfl) rfl (Nat.le_of_ble_eq_true rfl) ing1 mw_1398 (fv_sg rfl rfl rfl) d_MO_canStep_31 ?_
          refine lv_iload_n F.hx F.hb d_MO_canStep_34 rfl (lv_at hl 1 rfl) ?_
          obtain ⟨⟨g11a, g11b⟩, hT⟩ := q_guard hT
          have z12 := hS.bool (show shK 199 = 1 from rfl) x1
          refine r_zald F hS (show 199 < 231 by decide) (show shK 199 = 1 from rfl) (show shN 199 = 96 from rfl) hx1 g11a g11b d_MO_canStep_35 ?_
          refine r_if_ne (tgt := 48) F.hx F.hb (inr_z z12) d_MO_canStep_36 (by decide) (fun c13 => ?_) (fun c13 => ?_)
          · replace hT := (if_neg c13).symm.trans hT
            refine r_iconst F.hx F.hb d_MO_canStep_48 ?_
            refine lv_goto (tgt := 53) F.hx F.hb d_MO_canStep_49 (by decide) ?_
            cases hT
            exact r_zret F hlk hr hS (Or.inr rfl) d_MO_canStep_53
          · replace hT := (if_pos c13).symm.trans hT
            refine lv_aload_n F.hx F.hb d_MO_canStep_39 rfl (lv_at hl 0 rfl) ?_
            refine r_get (v := .ref (b + 199)) (N := 68) (T := T1) (j := 9) F hS (show 191 < 231 by decide) (show shK 191 = 5 from rfl) (show shN 191 = 68 from rfl) rfl (Nat.le_of_ble_eq_true rfl) ing1 mw_1398 (fv_sg rfl rfl rfl) d_MO_canStep_40 ?_
            refine lv_iload_n F.hx F.hb d_MO_canStep_43 rfl (lv_at hl 2 rfl) ?_
            obtain ⟨⟨g14a, g14b⟩, hT⟩ := q_guard hT
            have z15 := hS.bool (show shK 199 = 1 from rfl) x2
            refine r_zald F hS (show 199 < 231 by decide) (show shK 199 = 1 from rfl) (show shN 199 = 96 from rfl) hx2 g14a g14b d_MO_canStep_44 ?_
            refine r_if_eq (tgt := 52) F.hx F.hb (inr_z z15) d_MO_canStep_45 (by decide) (fun c16 => ?_) (fun c16 => ?_)
            · replace hT := (if_pos c16).symm.trans hT
              refine r_iconst F.hx F.hb d_MO_canStep_52 ?_
              cases hT
              exact r_zret F hlk hr hS (Or.inl rfl) d_MO_canStep_53
            · replace hT := (if_neg c16).symm.trans hT
              refine r_iconst F.hx F.hb d_MO_canStep_48 ?_
              refine lv_goto (tgt := 53) F.hx F.hb d_MO_canStep_49 (by decide) ?_
              cases hT
              exact r_zret F hlk hr hS (Or.inr rfl) d_MO_canStep_53
