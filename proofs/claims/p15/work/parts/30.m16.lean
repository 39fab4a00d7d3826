theorem d_MO_goOn_0 : decode b_MO_goOn 0 = .ok (.aload_n 0, 1) := dc_42 (by decide +kernel)
theorem d_MO_goOn_1 : decode b_MO_goOn 1 = .ok (.getfield 199, 3) := dc_180 (by decide +kernel)
theorem d_MO_goOn_4 : decode b_MO_goOn 4 = .ok (.ifCond .ne 7, 3) := dc_154 (by decide +kernel)
theorem d_MO_goOn_7 : decode b_MO_goOn 7 = .ok (.aload_n 0, 1) := dc_42 (by decide +kernel)
theorem d_MO_goOn_8 : decode b_MO_goOn 8 = .ok (.invokevirtual 205, 3) := dc_182 (by decide +kernel)
theorem d_MO_goOn_11 : decode b_MO_goOn 11 = .ok (.return_, 1) := dc_177 (by decide +kernel)
def t_MO_goOn (M : Mem)  : Option (Mem) := (if (M.1 191 24) = 0 then (obind (t_MO_token M) fun q3 => (some q3)) else (some M))
set_option maxHeartbeats 4000000 in
set_option maxRecDepth 100000 in
theorem c_MO_goOn (l : Launch) {b n : Nat} {C : CT} (hlo : 231 ≤ n) (M : Mem)   (res : Mem) (hT : t_MO_goOn M  = some res) : CM l b C n 6 y_MO_goOn b_MO_goOn 1 (none) [.ref (b + 191)] M (QV b C n res) := by
  refine CM.of (lo := 231) (ow := "WardFallsModel") (by decide) rfl (Nat.le_of_ble_eq_true rfl) hlo (fun p e s m below meth c F hlk hr hS ls hl => ?_)
  have hl : lv_has ls 1 [(0, .ref (b + 191))] := hl
  unfold t_MO_goOn at hT
  refine lv_aload_n F.hx F.hb d_MO_goOn_0 rfl (lv_at hl 0 rfl) ?_
  refine r_get (v := vI (M.1 191 24)) (N := 68) (T := T1) (j := 24) F hS (show 191 < 231 by decide) (show shK 191 = 5 from rfl) (show shN 191 = 68 from rfl) rfl (Nat.le_of_ble_eq_true rfl) ing1 mw_1413 (fv_int rfl) d_MO_goOn_1 ?_
  have i1 := hS.rng 191 24
  refine r_if_ne (tgt := 11) F.hx F.hb i1 d_MO_goOn_4 (by decide) (fun c2 => ?_) (fun c2 => ?_)
  · replace hT := (if_neg c2).symm.trans hT
    cases hT
    exact r_vret F hlk hr hS d_MO_goOn_11
  · replace hT := (if_pos c2).symm.trans hT
    refine lv_aload_n F.hx F.hb d_MO_goOn_7 rfl (lv_at hl 0 rfl) ?_
    obtain ⟨q3, hq3, hT⟩ := q_obind hT
    refine r_backV F hS (r_runV (k := 191) (N := 68) (T := T1) (As := []) F hS (show 191 < 231 by decide) (show shK 191 = 5 from rfl) rfl (c_MO_token l F.2.2.1 M _ hq3) gs_MO_205 hd_MO_token ⟨Nat.le_of_ble_eq_true rfl, Nat.le_of_ble_eq_true rfl⟩ rfl hl.1 (Nat.le_of_ble_eq_true rfl) ⟨Nat.zero_le _, Nat.zero_le _⟩ rfl d_MO_goOn_8) (fun H locs hS => ?_)
    cases hT
    exact r_vret F hlk hr hS d_MO_goOn_11
theorem d_MO_numeralAtHand_0 : decode b_MO_numeralAtHand 0 = .ok (.aload_n 0, 1) := dc_42 (by decide +kernel)
theorem d_MO_numeralAtHand_1 : decode b_MO_numeralAtHand 1 = .ok (.getfield 199, 3) := dc_180 (by decide +kernel)
theorem d_MO_numeralAtHand_4 : decode b_MO_numeralAtHand 4 = .ok (.ifCond .eq 5, 3) := dc_153 (by decide +kernel)
theorem d_MO_numeralAtHand_7 : decode b_MO_numeralAtHand 7 = .ok (.iload_n 1, 1) := dc_27 (by decide +kernel)
theorem d_MO_numeralAtHand_8 : decode b_MO_numeralAtHand 8 = .ok (.ireturn, 1) := dc_172 (by decide +kernel)
theorem d_MO_numeralAtHand_9 : decode b_MO_numeralAtHand 9 = .ok (.aload_n 0, 1) := dc_42 (by decide +kernel)
theorem d_MO_numeralAtHand_10 : decode b_MO_numeralAtHand 10 = .ok (.getfield 164, 3) := dc_180 (by decide +kernel)
theorem d_MO_numeralAtHand_13 : decode b_MO_numeralAtHand 13 = .ok (.iconst 2, 1) := dc_5 (by decide +kernel)
theorem d_MO_numeralAtHand_14 : decode b_MO_numeralAtHand 14 = .ok (.if_icmp .eq 11, 3) := dc_159 (by decide +kernel)
theorem d_MO_numeralAtHand_17 : decode b_MO_numeralAtHand 17 = .ok (.aload_n 0, 1) := dc_42 (by decide +kernel)
theorem d_MO_numeralAtHand_18 : decode b_MO_numeralAtHand 18 = .ok (.iconst 1, 1) := dc_4 (by decide +kernel)
theorem d_MO_numeralAtHand_19 : decode b_MO_numeralAtHand 19 = .ok (.invokevirtual 208, 3) := dc_182 (by decide +kernel)
theorem d_MO_numeralAtHand_22 : decode b_MO_numeralAtHand 22 = .ok (.goto 24, 3) := dc_167 (by decide +kernel)
theorem d_MO_numeralAtHand_25 : decode b_MO_numeralAtHand 25 = .ok (.aload_n 0, 1) := dc_42 (by decide +kernel)
theorem d_MO_numeralAtHand_26 : decode b_MO_numeralAtHand 26 = .ok (.getfield 174, 3) := dc_180 (by decide +kernel)
theorem d_MO_numeralAtHand_29 : decode b_MO_numeralAtHand 29 = .ok (.iload_n 1, 1) := dc_27 (by decide +kernel)
theorem d_MO_numeralAtHand_30 : decode b_MO_numeralAtHand 30 = .ok (.if_icmp .lt 11, 3) := dc_161 (by decide +kernel)
theorem d_MO_numeralAtHand_33 : decode b_MO_numeralAtHand 33 = .ok (.aload_n 0, 1) := dc_42 (by decide +kernel)
theorem d_MO_numeralAtHand_34 : decode b_MO_numeralAtHand 34 = .ok (.getfield 174, 3) := dc_180 (by decide +kernel)
theorem d_MO_numeralAtHand_37 : decode b_MO_numeralAtHand 37 = .ok (.iload_n 2, 1) := dc_28 (by decide +kernel)
theorem d_MO_numeralAtHand_38 : decode b_MO_numeralAtHand 38 = .ok (.if_icmp .le 8, 3) := dc_164 (by decide +kernel)
theorem d_MO_numeralAtHand_41 : decode b_MO_numeralAtHand 41 = .ok (.aload_n 0, 1) := dc_42 (by decide +kernel)
theorem d_MO_numeralAtHand_42 : decode b_MO_numeralAtHand 42 = .ok (.iconst 2, 1) := dc_5 (by decide +kernel)
theorem d_MO_numeralAtHand_43 : decode b_MO_numeralAtHand 43 = .ok (.invokevirtual 208, 3) := dc_182 (by decide +kernel)
theorem d_MO_numeralAtHand_46 : decode b_MO_numeralAtHand 46 = .ok (.aload_n 0, 1) := dc_42 (by decide +kernel)
theorem d_MO_numeralAtHand_47 : decode b_MO_numeralAtHand 47 = .ok (.getfield 199, 3) := dc_180 (by decide +kernel)
theorem d_MO_numeralAtHand_50 : decode b_MO_numeralAtHand 50 = .ok (.ifCond .eq 7, 3) := dc_153 (by decide +kernel)
theorem d_MO_numeralAtHand_53 : decode b_MO_numeralAtHand 53 = .ok (.iload_n 1, 1) := dc_27 (by decide +kernel)
theorem d_MO_numeralAtHand_54 : decode b_MO_numeralAtHand 54 = .ok (.goto 7, 3) := dc_167 (by decide +kernel)
theorem d_MO_numeralAtHand_57 : decode b_MO_numeralAtHand 57 = .ok (.aload_n 0, 1) := dc_42 (by decide +kernel)
theorem d_MO_numeralAtHand_58 : decode b_MO_numeralAtHand 58 = .ok (.getfield 174, 3) := dc_180 (by decide +kernel)
theorem d_MO_numeralAtHand_61 : decode b_MO_numeralAtHand 61 = .ok (.ireturn, 1) := dc_172 (by decide +kernel)
def t_MO_numeralAtHand_L46 (x1 : Int) (x2 : Int)  (M : Mem)  : Mem × Int := (if (M.1 191 24) = 0 then (M, (M.1 191 23)) else (M, x1))
def t_MO_numeralAtHand_L41 (x1 : Int) (x2 : Int)  (M : Mem)  : Mem × Int := (qlet (t_MO_wrong M 2) fun q11 => (t_MO_numeralAtHand_L46 x1 x2 q11))
def t_MO_numeralAtHand (M : Mem) (x1 : Int) (x2 : Int) : Mem × Int := (if (M.1 191 24) = 0 then (if (M.1 191 22) = 2 then (if (M.1 191 23) < x1 then (t_MO_numeralAtHand_L41 x1 x2 M) else (if (M.1 191 23) ≤ x2 then (t_MO_numeralAtHand_L46 x1 x2 M) else (t_MO_numeralAtHand_L41 x1 x2 M))) else (qlet (t_MO_wrong M 1) fun q9 => (t_MO_numeralAtHand_L46 x1 x2 q9))) else (M, x1))
set_option maxHeartbeats 4000000 in
set_option maxRecDepth 100000 in
theorem k_MO_numeralAtHand_L46 (l : Launch) {p : Program} {e : Env} {s : State} {m : MethodId} {below : List Frame} {meth : Method} {c : Code} {b n : Nat} {C : CT} (hlo : 231 ≤ n) (x1 : Int) (x2 : Int) (hx1 : InR x1) (hx2 : InR x2) (F : Cx b p m c b_MO_numeralAtHand 3 s ([.ref (b + 191), vI x1, vI x2] : List Value).toArray "WardFallsModel" C n 231) (hlk : meth.locks = false) (hr : meth.sig.returnType = some .int) {res : Mem × Int} (M : Mem)  (H : Heap) (locs : List Loc) (ls : Array Slot) (hS : St b C n M s H locs) (hl : lv_has ls 3 [(0, .ref (b + 191)), (1, vI x1)]) (hT : t_MO_numeralAtHand_L46 x1 x2 M = res) : W p l e (headSpec (wsM y_MO_numeralAtHand b_MO_numeralAtHand 3 (some .int)) (rmD 1)).room s m ([.ref (b + 191), vI x1, vI x2] : List Value).toArray below meth c H locs 0 0 (MQ below (QI b C n res.1 res.2) ([.ref (b + 191), vI x1, vI x2] : List Value).toArray s 0 0 (frb b)) (F0 m 46 ls []) := by
  unfold t_MO_numeralAtHand_L46 at hT
  refine lv_aload_n F.hx F.hb d_MO_numeralAtHand_46 rfl (lv_at hl 0 rfl) ?_
  refine r_get (v := vI (M.1 191 24)) (N := 68) (T := T1) (j := 24) F hS (show 191 < 231 by decide) (show shK 191 = 5 from rfl) (show shN 191 = 68 from rfl) rfl (Nat.le_of_ble_eq_true rfl) ing1 mw_1413 (fv_int rfl) d_MO_numeralAtHand_47 ?_
  have i13 := hS.rng 191 24
  refine r_if_eq (tgt := 57) F.hx F.hb i13 d_MO_numeralAtHand_50 (by decide) (fun c14 => ?_) (fun c14 => ?_)
  · replace hT := (if_pos c14).symm.trans hT
    refine lv_aload_n F.hx F.hb d_MO_numeralAtHand_57 rfl (lv_at hl 0 rfl) ?_
    refine r_get (v := vI (M.1 191 23)) (N := 68) (T := T1) (j := 23) F hS (show 191 < 231 by decide) (show shK 191 = 5 from rfl) (show shN 191 = 68 from rfl) rfl (Nat.le_of_ble_eq_true rfl) ing1 mw_1412 (fv_int rfl) d_MO_numeralAtHand_58 ?_
    have i15 := hS.rng 191 23
    subst hT
    exact r_iret F hlk hr rfl hS i15 d_MO_numeralAtHand_61
  · replace hT := (if_neg c14).symm.trans hT
    refine lv_iload_n F.hx F.hb d_MO_numeralAtHand_53 rfl (lv_at hl 1 rfl) ?_
    refine lv_goto (tgt := 61) F.hx F.hb d_MO_numeralAtHand_54 (by decide) ?_
    subst hT
    exact r_iret F hlk hr rfl hS hx1 d_MO_numeralAtHand_61
set_option maxHeartbeats 4000000 in
set_option maxRecDepth 100000 in
theorem k_MO_numeralAtHand_L41 (l : Launch) {p : Program} {e : Env} {s : State} {m : MethodId} {below : List Frame} {meth : Method} {c : Code} {b n : Nat} {C : CT} (hlo : 231 ≤ n) (x1 : Int) (x2 : Int) (hx1 : InR x1) (hx2 : InR x2) (F : Cx b p m c b_MO_numeralAtHand 3 s ([.ref (b + 191), vI x1, vI x2] : List Value).toArray "WardFallsModel" C n 231) (hlk : meth.locks = false) (hr : meth.sig.returnType = some .int) {res : Mem × Int} (M : Mem)  (H : Heap) (locs : List Loc) (ls : Array Slot) (hS : St b C n M s H locs) (hl : lv_has ls 3 [(0, .ref (b + 191)), (1, vI x1)]) (hT : t_MO_numeralAtHand_L41 x1 x2 M = res) : W p l e (headSpec (wsM y_MO_numeralAtHand b_MO_numeralAtHand 3 (some .int)) (rmD 1)).room s m ([.ref (b + 191), vI x1, vI x2] : List Value).toArray below meth c H locs 0 0 (MQ below (QI b C n res.1 res.2) ([.ref (b + 191), vI x1, vI x2] : List Value).toArray s 0 0 (frb b)) (F0 m 41 ls []) := by
  unfold t_MO_numeralAtHand_L41 at hT
  refine lv_aload_n F.hx F.hb d_MO_numeralAtHand_41 rfl (lv_at hl 0 rfl) ?_
  refine r_iconst F.hx F.hb d_MO_numeralAtHand_42 ?_
  obtain ⟨q11, hq11⟩ : ∃ q, q = (t_MO_wrong M 2) := ⟨_, rfl⟩
  replace hT := qlet_eq hT hq11
  refine r_backV F hS (r_runV (k := 191) (N := 68) (T := T1) (As := [vI 2]) F hS (show 191 < 231 by decide) (show shK 191 = 5 from rfl) rfl (c_MO_wrong l F.2.2.1 M 2 (inr_c rfl) _ hq11.symm) gs_MO_208 hd_MO_wrong ⟨Nat.le_of_ble_eq_true rfl, Nat.le_of_ble_eq_true rfl⟩ rfl hl.1 (Nat.le_of_ble_eq_true rfl) ⟨Nat.zero_le _, Nat.zero_le _⟩ rfl d_MO_numeralAtHand_43) (fun H locs hS => ?_)
  exact k_MO_numeralAtHand_L46 l hlo x1 x2 hx1 hx2 F hlk hr q11 _ _ _ hS (lv_sub hl [0, 1] rfl) hT
set_option maxHeartbeats 4000000 in
set_option maxRecDepth 100000 in
theorem c_MO_numeralAtHand (l : Launch) {b n : Nat} {C : CT} (hlo : 231 ≤ n) (M : Mem) (x1 : Int) (x2 : Int) (hx1 : InR x1) (hx2 : InR x2) (res : Mem × Int) (hT : t_MO_numeralAtHand M x1 x2 = res) : CM l b C n 1 y_MO_numeralAtHand b_MO_numeralAtHand 3 (some .int) [.ref (b + 191), vI x1, vI x2] M (QI b C n res.1 res.2) := by
  refine CM.of (lo := 231) (ow := "WardFallsModel") (by decide) rfl (Nat.le_of_ble_eq_true rfl) hlo (fun p e s m below meth c F hlk hr hS ls hl => ?_)
  have hl : lv_has ls 3 [(0, .ref (b + 191)), (1, vI x1), (2, vI x2)] := hl
  unfold t_MO_numeralAtHand at hT
  refine lv_aload_n F.hx F.hb d_MO_numeralAtHand_0 rfl (lv_at hl 0 rfl) ?_
  refine r_get (v := vI (M.1 191 24)) (N := 68) (T := T1) (j := 24) F hS (show 191 < 231 by decide) (show shK 191 = 5 from rfl) (show shN 191 = 68 from rfl) rfl (Nat.le_of_ble_eq_true rfl) ing1 mw_1413 (fv_int rfl) d_MO_numeralAtHand_1 ?_
  have i1 := hS.rng 191 24
  refine r_if_eq (tgt := 9) F.hx F.hb i1 d_MO_numeralAtHand_4 (by decide) (fun c2 => ?_) (fun c2 => ?_)
  · replace hT := (if_pos c2).symm.trans hT
    refine lv_aload_n F.hx F.hb d_MO_numeralAtHand_9 rfl (lv_at hl 0 rfl) ?_
    refine r_get (v := vI (M.1 191 22)) (N := 68) (T := T1) (j := 22) F hS (show 191 < 231 by decide) (show shK 191 = 5 from rfl) (show shN 191 = 68 from rfl) rfl (Nat.le_of_ble_eq_true rfl) ing1 mw_1411 (fv_int rfl) d_MO_numeralAtHand_10 ?_
    have i3 := hS.rng 191 22
    refine r_iconst F.hx F.hb d_MO_numeralAtHand_13 ?_
    refine r_icmp_eq (tgt := 25) F.hx F.hb i3 (inr_c rfl) d_MO_numeralAtHand_14 (by decide) (fun c4 => ?_) (fun c4 => ?_)
    · replace hT := (if_pos c4).symm.trans hT
      refine lv_aload_n F.hx F.hb d_MO_numeralAtHand_25 rfl (lv_at hl 0 rfl) ?_
      refine r_get (v := vI (M.1 191 23)) (N := 68) (T := T1) (j := 23) F hS (show 191 < 231 by decide) (show shK 191 = 5 from rfl) (show shN 191 = 68 from rfl) rfl (Nat.le_of_ble_eq_true rfl) ing1 mw_1412 (fv_int rfl) d_MO_numeralAtHand_26 ?_
      have i5 := hS.rng 191 23
      refine lv_iload_n F.hx F.hb d_MO_numeralAtHand_29 rfl (lv_at hl 1 rfl) ?_
      refine r_icmp_lt (tgt := 41) F.hx F.hb i5 hx1 d_MO_numeralAtHand_30 (by decide) (fun c6 => ?_) (fun c6 => ?_)
      · replace hT := (if_pos c6).symm.trans hT
        exact k_MO_numeralAtHand_L41 l hlo x1 x2 hx1 hx2 F hlk hr M _ _ _ hS (lv_sub hl [0, 1] rfl) hT
      · replace hT := (if_neg c6).symm.trans hT
        refine lv_aload_n F.hx F.hb d_MO_numeralAtHand_33 rfl (lv_at hl 0 rfl) ?_
        refine r_get (v := vI (M.1 191 23)) (N := 68) (T := T1) (j := 23) F hS (show 191 < 231 by decide) (show shK 191 = 5 from rfl) (show shN 191 = 68 from rfl) rfl (Nat.le_of_ble_eq_true rfl) ing1 mw_1412 (fv_int rfl) d_MO_numeralAtHand_34 ?_
        have i7 := hS.rng 191 23
        refine lv_iload_n F.hx F.hb d_MO_numeralAtHand_37 rfl (lv_at hl 2 rfl) ?_
        refine r_icmp_le (tgt := 46) F.hx F.hb i7 hx2 d_MO_numeralAtHand_38 (by decide) (fun c8 => ?_) (fun c8 => ?_)
        · replace hT := (if_pos c8).symm.trans hT
          exact k_MO_numeralAtHand_L46 l hlo x1 x2 hx1 hx2 F hlk hr M _ _ _ hS (lv_sub hl [0, 1] rfl) hT
        · replace hT := (if_neg c8).symm.trans hT
          exact k_MO_numeralAtHand_L41 l hlo x1 x2 hx1 hx2 F hlk hr M _ _ _ hS (lv_sub hl [0, 1] rfl) hT
    · replace hT := (if_neg c4).symm.trans hT
      refine lv_aload_n F.hx F.hb d_MO_numeralAtHand_17 rfl (lv_at hl 0 rfl) ?_
      refine r_iconst F.hx F.hb d_MO_numeralAtHand_18 ?_
      obtain ⟨q9, hq9⟩ : ∃ q, q = (t_MO_wrong M 1) := ⟨_, rfl⟩
      replace hT := qlet_eq hT hq9
      refine r_backV F hS (r_runV (k := 191) (N := 68) (T := T1) (As := [vI 1]) F hS (show 191 < 231 by decide) (show shK 191 = 5 from rfl) rfl (c_MO_wrong l F.2.2.1 M 1 (inr_c rfl) _ hq9.symm) gs_MO_208 hd_MO_wrong ⟨Nat.le_of_ble_eq_true rfl, Nat.le_of_ble_eq_true rfl⟩ rfl hl.1 (Nat.le_of_ble_eq_true rfl) ⟨Nat.zero_le _, Nat.zero_le _⟩ rfl d_MO_numeralAtHand_19) (fun H locs hS => ?_)
      refine lv_goto (tgt := 46) F.hx F.hb d_MO_numeralAtHand_22 (by decide) ?_
      exact k_MO_numeralAtHand_L46 l hlo x1 x2 hx1 hx2 F hlk hr q9 _ _ _ hS (lv_sub hl [0, 1] rfl) hT
  · replace hT := (if_neg c2).symm.trans hT
    refine lv_iload_n F.hx F.hb d_MO_numeralAtHand_7 rfl (lv_at hl 1 rfl) ?_
    subst hT
    exact r_iret F hlk hr rfl hS hx1 d_MO_numeralAtHand_8
theorem d_MO_numeral_0 : decode b_MO_numeral 0 = .ok (.aload_n 0, 1) := dc_42 (by decide +kernel)
theorem d_MO_numeral_1 : decode b_MO_numeral 1 = .ok (.iload_n 1, 1) := dc_27 (by decide +kernel)
theorem d_MO_numeral_2 : decode b_MO_numeral 2 = .ok (.iload_n 2, 1) := dc_28 (by decide +kernel)
theorem d_MO_numeral_3 : decode b_MO_numeral 3 = .ok (.invokevirtual 211, 3) := dc_182 (by decide +kernel)
theorem d_MO_numeral_6 : decode b_MO_numeral 6 = .ok (.istore_n 3, 1) := dc_62 (by decide +kernel)
theorem d_MO_numeral_7 : decode b_MO_numeral 7 = .ok (.aload_n 0, 1) := dc_42 (by decide +kernel)
theorem d_MO_numeral_8 : decode b_MO_numeral 8 = .ok (.invokevirtual 215, 3) := dc_182 (by decide +kernel)
theorem d_MO_numeral_11 : decode b_MO_numeral 11 = .ok (.iload_n 3, 1) := dc_29 (by decide +kernel)
theorem d_MO_numeral_12 : decode b_MO_numeral 12 = .ok (.ireturn, 1) := dc_172 (by decide +kernel)
def t_MO_numeral (M : Mem) (x1 : Int) (x2 : Int) : Option (Mem × Int) := (qlet (t_MO_numeralAtHand M x1 x2) fun q1 => (obind (t_MO_goOn (q1.1)) fun q3 => (some (q3, (q1.2)))))
set_option maxHeartbeats 4000000 in
set_option maxRecDepth 100000 in
theorem c_MO_numeral (l : Launch) {b n : Nat} {C : CT} (hlo : 231 ≤ n) (M : Mem) (x1 : Int) (x2 : Int) (hx1 : InR x1) (hx2 : InR x2) (res : Mem × Int) (hT : t_MO_numeral M x1 x2 = some res) : CM l b C n 7 y_MO_numeral b_MO_numeral 4 (some .int) [.ref (b + 191), vI x1, vI x2] M (QI b C n res.1 res.2) := by
  refine CM.of (lo := 231) (ow := "WardFallsModel") (by decide) rfl (Nat.le_of_ble_eq_true rfl) hlo (fun p e s m below meth c F hlk hr hS ls hl => ?_)
  have hl : lv_has ls 4 [(0, .ref (b + 191)), (1, vI x1), (2, vI x2)] := hl
  unfold t_MO_numeral at hT
  refine lv_aload_n F.hx F.hb d_MO_numeral_0 rfl (lv_at hl 0 rfl) ?_
  refine lv_iload_n F.hx F.hb d_MO_numeral_1 rfl (lv_at hl 1 rfl) ?_
  refine lv_iload_n F.hx F.hb d_MO_numeral_2 rfl (lv_at hl 2 rfl) ?_
  obtain ⟨q1, hq1⟩ : ∃ q, q = (t_MO_numeralAtHand M x1 x2) := ⟨_, rfl⟩
  replace hT := qlet_eq hT hq1
  refine r_backI F hS (r_runV (k := 191) (N := 68) (T := T1) (As := [vI x1, vI x2]) F hS (show 191 < 231 by decide) (show shK 191 = 5 from rfl) rfl (c_MO_numeralAtHand l F.2.2.1 M x1 x2 hx1 hx2 _ hq1.symm) gs_MO_211 hd_MO_numeralAtHand ⟨Nat.le_of_ble_eq_true rfl, Nat.le_of_ble_eq_true rfl⟩ rfl hl.1 (Nat.le_of_ble_eq_true rfl) ⟨Nat.zero_le _, Nat.zero_le _⟩ rfl d_MO_numeral_3) (fun H locs hS h2 => ?_)
  refine lv_istore_n (lv' := [(3, vI (q1.2)), (0, .ref (b + 191)), (1, vI x1), (2, vI x2)]) F.hx F.hb d_MO_numeral_6 rfl hl (Nat.le_of_ble_eq_true rfl) rfl (fun ls hl => ?_)
  refine lv_aload_n F.hx F.hb d_MO_numeral_7 rfl (lv_at hl 1 rfl) ?_
  obtain ⟨q3, hq3, hT⟩ := q_obind hT
  refine r_backV F hS (r_runV (k := 191) (N := 68) (T := T1) (As := []) F hS (show 191 < 231 by decide) (show shK 191 = 5 from rfl) rfl (c_MO_goOn l F.2.2.1 (q1.1) _ hq3) gs_MO_215 hd_MO_goOn ⟨Nat.le_of_ble_eq_true rfl, Nat.le_of_ble_eq_true rfl⟩ rfl hl.1 (Nat.le_of_ble_eq_true rfl) ⟨Nat.zero_le _, Nat.zero_le _⟩ rfl d_MO_numeral_8) (fun H locs hS => ?_)
  refine lv_iload_n F.hx F.hb d_MO_numeral_11 rfl (lv_at hl 0 rfl) ?_
  cases hT
  exact r_iret F hlk hr rfl hS h2 d_MO_numeral_12
theorem d_MO_found_0 : decode b_MO_found 0 = .ok (.iconst 0, 1) := dc_3 (by decide +kernel)
theorem d_MO_found_1 : decode b_MO_found 1 = .ok (.istore 4, 2) := dc_54 (by decide +kernel)
theorem d_MO_found_3 : decode b_MO_found 3 = .ok (.iload 4, 2) := dc_21 (by decide +kernel)
theorem d_MO_found_5 : decode b_MO_found 5 = .ok (.iload_n 2, 1) := dc_28 (by decide +kernel)
theorem d_MO_found_6 : decode b_MO_found 6 = .ok (.if_icmp .ge 22, 3) := dc_162 (by decide +kernel)
theorem d_MO_found_9 : decode b_MO_found 9 = .ok (.aload_n 0, 1) := dc_42 (by decide +kernel)
theorem d_MO_found_10 : decode b_MO_found 10 = .ok (.iload_n 1, 1) := dc_27 (by decide +kernel)
theorem d_MO_found_11 : decode b_MO_found 11 = .ok (.iload 4, 2) := dc_21 (by decide +kernel)
theorem d_MO_found_13 : decode b_MO_found 13 = .ok (.iadd, 1) := dc_96 (by decide +kernel)
theorem d_MO_found_14 : decode b_MO_found 14 = .ok (.iaload, 1) := dc_46 (by decide +kernel)
theorem d_MO_found_15 : decode b_MO_found 15 = .ok (.iload_n 3, 1) := dc_29 (by decide +kernel)
theorem d_MO_found_16 : decode b_MO_found 16 = .ok (.if_icmp .ne 6, 3) := dc_160 (by decide +kernel)
theorem d_MO_found_19 : decode b_MO_found 19 = .ok (.iload 4, 2) := dc_21 (by decide +kernel)
theorem d_MO_found_21 : decode b_MO_found 21 = .ok (.ireturn, 1) := dc_172 (by decide +kernel)
theorem d_MO_found_22 : decode b_MO_found 22 = .ok (.iinc 4 1, 3) := dc_132 (by decide +kernel)
theorem d_MO_found_25 : decode b_MO_found 25 = .ok (.goto (-22), 3) := dc_167 (by decide +kernel)
theorem d_MO_found_28 : decode b_MO_found 28 = .ok (.iconst (-1), 1) := dc_2 (by decide +kernel)
theorem d_MO_found_29 : decode b_MO_found 29 = .ok (.ireturn, 1) := dc_172 (by decide +kernel)
def t_MO_found_L3 (r1 : Nat) (N1 : Nat) (x2 : Int) (x3 : Int) (x4 : Int)  : Nat → Mem → Int → Option (Int)
  | 0, _, _ => none
  | fu + 1, M, v4_ => (if x3 ≤ v4_ then (some (-1)) else (qguard (0 ≤ (w32 (x2 + v4_)) ∧ (w32 (x2 + v4_)) < (N1 : Int)) (if (M.1 r1 (w32 (x2 + v4_))) = x4 then (some v4_) else (t_MO_found_L3 r1 N1 x2 x3 x4 fu M (w32 (v4_ + 1))))))
def t_MO_found (M : Mem) (r1 : Nat) (N1 : Nat) (x2 : Int) (x3 : Int) (x4 : Int) : Option (Int) := (t_MO_found_L3 r1 N1 x2 x3 x4 FU M 0)
set_option maxHeartbeats 4000000 in
set_option maxRecDepth 100000 in
theorem k_MO_found_L3 (l : Launch) {p : Program} {e : Env} {s : State} {m : MethodId} {below : List Frame} {meth : Method} {c : Code} {b n : Nat} {C : CT} (hlo : 231 ≤ n) (r1 : Nat) (N1 : Nat) (x2 : Int) (x3 : Int) (x4 : Int) (hr1 : arrP 0 r1 N1 231) (hx2 : InR x2) (hx3 : InR x3) (hx4 : InR x4) (F : Cx b p m c b_MO_found 5 s ([.ref (b + r1), vI x2, vI x3, vI x4] : List Value).toArray "WardFallsModel" C n 231) (hlk : meth.locks = false) (hr : meth.sig.returnType = some .int) {res : Int} : ∀ (fu : Nat) (M : Mem) (v4_ : Int) (hv4_ : InR v4_) (H : Heap) (locs : List Loc) (ls : Array Slot), St b C n M s H locs → lv_has ls 5 [(0, .ref (b + r1)), (1, vI x2), (2, vI x3), (3, vI x4), (4, vI v4_)] → t_MO_found_L3 r1 N1 x2 x3 x4 fu M v4_ = some res → W p l e (headSpec (wsM y_MO_found b_MO_found 5 (some .int)) (rmD 0)).room s m ([.ref (b + r1), vI x2, vI x3, vI x4] : List Value).toArray below meth c H locs 0 0 (MQ below (QI b C n M res) ([.ref (b + r1), vI x2, vI x3, vI x4] : List Value).toArray s 0 0 (frb b)) (F0 m 3 ls []) := by
  intro fu
  induction fu with
  | zero => intro M v4_ hv4_ H locs ls hS hl hT; exact absurd hT (by simp [t_MO_found_L3])
  | succ fu ih =>
    intro M v4_ hv4_ H locs ls hS hl hT
    rw [t_MO_found_L3] at hT
    refine lv_iload F.hx F.hb d_MO_found_3 (lv_at hl 4 rfl) ?_
    refine lv_iload_n F.hx F.hb d_MO_found_5 rfl (lv_at hl 2 rfl) ?_
    refine r_icmp_ge (tgt := 28) F.hx F.hb hv4_ hx3 d_MO_found_6 (by decide) (fun c1 => ?_) (fun c1 => ?_)
    · replace hT := (if_pos c1).symm.trans hT
      refine r_iconst F.hx F.hb d_MO_found_28 ?_
      cases hT
      exact r_iret F hlk hr rfl hS (inr_c rfl) d_MO_found_29
    · replace hT := (if_neg c1).symm.trans hT
      refine lv_aload_n F.hx F.hb d_MO_found_9 rfl (lv_at hl 0 rfl) ?_
      refine lv_iload_n F.hx F.hb d_MO_found_10 rfl (lv_at hl 1 rfl) ?_
      refine lv_iload F.hx F.hb d_MO_found_11 (lv_at hl 4 rfl) ?_
      refine r_iadd F.hx F.hb d_MO_found_13 ?_
      obtain ⟨⟨g2a, g2b⟩, hT⟩ := q_guard hT
      refine r_iald F hS hr1.2.2 hr1.1 hr1.2.1 (inr_w32 _) g2a g2b d_MO_found_14 ?_
      have i3 := hS.rng r1 (w32 (x2 + v4_))
      refine lv_iload_n F.hx F.hb d_MO_found_15 rfl (lv_at hl 3 rfl) ?_
      refine r_icmp_ne (tgt := 22) F.hx F.hb i3 hx4 d_MO_found_16 (by decide) (fun c4 => ?_) (fun c4 => ?_)
      · replace hT := (if_neg c4).symm.trans hT
        refine lv_iinc (v := Int32.ofInt (w32 (v4_ + 1))) (lv' := [(4, vI (w32 (v4_ + 1))), (0, .ref (b + r1)), (1, vI x2), (2, vI x3), (3, vI x4)]) F.hx F.hb d_MO_found_22 hl (k := 4) rfl (q_of_add _ _) (Nat.le_of_ble_eq_true rfl) rfl (fun ls hl => ?_)
        refine lv_goto (tgt := 3) F.hx F.hb d_MO_found_25 (by decide) ?_
        exact ih M (w32 (v4_ + 1)) (inr_w32 _) _ _ _ hS (lv_sub hl [1, 2, 3, 4, 0] rfl) hT
      · replace hT := (if_pos c4).symm.trans hT
        refine lv_iload F.hx F.hb d_MO_found_19 (lv_at hl 4 rfl) ?_
        cases hT
        exact r_iret F hlk hr rfl hS hv4_ d_MO_found_21
set_option maxHeartbeats 4000000 in
set_option maxRecDepth 100000 in
theorem c_MO_found (l : Launch) {b n : Nat} {C : CT} (hlo : 231 ≤ n) (M : Mem) (r1 : Nat) (N1 : Nat) (x2 : Int) (x3 : Int) (x4 : Int) (hr1 : arrP 0 r1 N1 231) (hx2 : InR x2) (hx3 : InR x3) (hx4 : InR x4) (res : Int) (hT : t_MO_found M r1 N1 x2 x3 x4 = some res) : CM l b C n 0 y_MO_found b_MO_found 5 (some .int) [.ref (b + r1), vI x2, vI x3, vI x4] M (QI b C n M res) := by
  refine CM.of (lo := 231) (ow := "WardFallsModel") (by decide) rfl (Nat.le_of_ble_eq_true rfl) hlo (fun p e s m below meth c F hlk hr hS ls hl => ?_)
  have hl : lv_has ls 5 [(0, .ref (b + r1)), (1, vI x2), (2, vI x3), (3, vI x4)] := hl
  unfold t_MO_found at hT
  refine r_iconst F.hx F.hb d_MO_found_0 ?_
  refine lv_istore (lv' := [(4, vI 0), (0, .ref (b + r1)), (1, vI x2), (2, vI x3), (3, vI x4)]) F.hx F.hb d_MO_found_1 hl (Nat.le_of_ble_eq_true rfl) rfl (fun ls hl => ?_)
  exact k_MO_found_L3 l hlo r1 N1 x2 x3 x4 hr1 hx2 hx3 hx4 F hlk hr FU M 0 (inr_c rfl) _ _ _ hS (lv_sub hl [1, 2, 3, 4, 0] rfl) hT
theorem d_MO_fresh_0 : decode b_MO_fresh 0 = .ok (.aload_n 0, 1) := dc_42 (by decide +kernel)
theorem d_MO_fresh_1 : decode b_MO_fresh 1 = .ok (.getfield 199, 3) := dc_180 (by decide +kernel)
theorem d_MO_fresh_4 : decode b_MO_fresh 4 = .ok (.ifCond .eq 5, 3) := dc_153 (by decide +kernel)
theorem d_MO_fresh_7 : decode b_MO_fresh 7 = .ok (.iconst 0, 1) := dc_3 (by decide +kernel)
theorem d_MO_fresh_8 : decode b_MO_fresh 8 = .ok (.ireturn, 1) := dc_172 (by decide +kernel)
theorem d_MO_fresh_9 : decode b_MO_fresh 9 = .ok (.aload_n 0, 1) := dc_42 (by decide +kernel)
theorem d_MO_fresh_10 : decode b_MO_fresh 10 = .ok (.getfield 164, 3) := dc_180 (by decide +kernel)
theorem d_MO_fresh_13 : decode b_MO_fresh 13 = .ok (.iconst 1, 1) := dc_4 (by decide +kernel)
theorem d_MO_fresh_14 : decode b_MO_fresh 14 = .ok (.if_icmp .eq 11, 3) := dc_159 (by decide +kernel)
theorem d_MO_fresh_17 : decode b_MO_fresh 17 = .ok (.aload_n 0, 1) := dc_42 (by decide +kernel)
theorem d_MO_fresh_18 : decode b_MO_fresh 18 = .ok (.iconst 1, 1) := dc_4 (by decide +kernel)
theorem d_MO_fresh_19 : decode b_MO_fresh 19 = .ok (.invokevirtual 208, 3) := dc_182 (by decide +kernel)
theorem d_MO_fresh_22 : decode b_MO_fresh 22 = .ok (.goto 22, 3) := dc_167 (by decide +kernel)
theorem d_MO_fresh_25 : decode b_MO_fresh 25 = .ok (.aload_n 1, 1) := dc_43 (by decide +kernel)
theorem d_MO_fresh_26 : decode b_MO_fresh 26 = .ok (.iload_n 2, 1) := dc_28 (by decide +kernel)
theorem d_MO_fresh_27 : decode b_MO_fresh 27 = .ok (.iload_n 3, 1) := dc_29 (by decide +kernel)
theorem d_MO_fresh_28 : decode b_MO_fresh 28 = .ok (.aload_n 0, 1) := dc_42 (by decide +kernel)
theorem d_MO_fresh_29 : decode b_MO_fresh 29 = .ok (.getfield 174, 3) := dc_180 (by decide +kernel)
theorem d_MO_fresh_32 : decode b_MO_fresh 32 = .ok (.invokestatic 218, 3) := dc_184 (by decide +kernel)
theorem d_MO_fresh_35 : decode b_MO_fresh 35 = .ok (.iconst (-1), 1) := dc_2 (by decide +kernel)
theorem d_MO_fresh_36 : decode b_MO_fresh 36 = .ok (.if_icmp .eq 8, 3) := dc_159 (by decide +kernel)
theorem d_MO_fresh_39 : decode b_MO_fresh 39 = .ok (.aload_n 0, 1) := dc_42 (by decide +kernel)
theorem d_MO_fresh_40 : decode b_MO_fresh 40 = .ok (.iconst 3, 1) := dc_6 (by decide +kernel)
theorem d_MO_fresh_41 : decode b_MO_fresh 41 = .ok (.invokevirtual 208, 3) := dc_182 (by decide +kernel)
theorem d_MO_fresh_44 : decode b_MO_fresh 44 = .ok (.aload_n 0, 1) := dc_42 (by decide +kernel)
theorem d_MO_fresh_45 : decode b_MO_fresh 45 = .ok (.getfield 199, 3) := dc_180 (by decide +kernel)
theorem d_MO_fresh_48 : decode b_MO_fresh 48 = .ok (.ifCond .eq 5, 3) := dc_153 (by decide +kernel)
theorem d_MO_fresh_51 : decode b_MO_fresh 51 = .ok (.iconst 0, 1) := dc_3 (by decide +kernel)
theorem d_MO_fresh_52 : decode b_MO_fresh 52 = .ok (.ireturn, 1) := dc_172 (by decide +kernel)
theorem d_MO_fresh_53 : decode b_MO_fresh 53 = .ok (.aload_n 0, 1) := dc_42 (by decide +kernel)
theorem d_MO_fresh_54 : decode b_MO_fresh 54 = .ok (.getfield 174, 3) := dc_180 (by decide +kernel)
theorem d_MO_fresh_57 : decode b_MO_fresh 57 = .ok (.istore 4, 2) := dc_54 (by decide +kernel)
theorem d_MO_fresh_59 : decode b_MO_fresh 59 = .ok (.aload_n 0, 1) := dc_42 (by decide +kernel)
theorem d_MO_fresh_60 : decode b_MO_fresh 60 = .ok (.invokevirtual 205, 3) := dc_182 (by decide +kernel)
theorem d_MO_fresh_63 : decode b_MO_fresh 63 = .ok (.iload 4, 2) := dc_21 (by decide +kernel)
theorem d_MO_fresh_65 : decode b_MO_fresh 65 = .ok (.ireturn, 1) := dc_172 (by decide +kernel)
def t_MO_fresh_L44 (r1 : Nat) (N1 : Nat) (x2 : Int) (x3 : Int)  (M : Mem)  : Option (Mem × Int) := (if (M.1 191 24) = 0 then (obind (t_MO_token M) fun q16 => (some (q16, (M.1 191 23)))) else (some (M, 0)))
def t_MO_fresh (M : Mem) (r1 : Nat) (N1 : Nat) (x2 : Int) (x3 : Int) : Option (Mem × Int) := (if (M.1 191 24) = 0 then (if (M.1 191 22) = 1 then (obind (t_MO_found M r1 N1 x2 x3 (M.1 191 23)) fun q6 => (if q6 = (-1) then (t_MO_fresh_L44 r1 N1 x2 x3 M) else (qlet (t_MO_wrong M 3) fun q9 => (t_MO_fresh_L44 r1 N1 x2 x3 q9)))) else (qlet (t_MO_wrong M 1) fun q11 => (t_MO_fresh_L44 r1 N1 x2 x3 q11))) else (some (M, 0)))
set_option maxHeartbeats 4000000 in
set_option maxRecDepth 100000 in
theorem k_MO_fresh_L44 (l : Launch) {p : Program} {e : Env} {s : State} {m : MethodId} {below : List Frame} {meth : Method} {c : Code} {b n : Nat} {C : CT} (hlo : 231 ≤ n) (r1 : Nat) (N1 : Nat) (x2 : Int) (x3 : Int) (hr1 : arrP 0 r1 N1 231) (hx2 : InR x2) (hx3 : InR x3) (F : Cx b p m c b_MO_fresh 5 s ([.ref (b + 191), .ref (b + r1), vI x2, vI x3] : List Value).toArray "WardFallsModel" C n 231) (hlk : meth.locks = false) (hr : meth.sig.returnType = some .int) {res : Mem × Int} (M : Mem)  (H : Heap) (locs : List Loc) (ls : Array Slot) (hS : St b C n M s H locs) (hl : lv_has ls 5 [(0, .ref (b + 191))]) (hT : t_MO_fresh_L44 r1 N1 x2 x3 M = some res) : W p l e (headSpec (wsM y_MO_fresh b_MO_fresh 5 (some .int)) (rmD 6)).room s m ([.ref (b + 191), .ref (b + r1), vI x2, vI x3] : List Value).toArray below meth c H locs 0 0 (MQ below (QI b C n res.1 res.2) ([.ref (b + 191), .ref (b + r1), vI x2, vI x3] : List Value).toArray s 0 0 (frb b)) (F0 m 44 ls []) := by
  unfold t_MO_fresh_L44 at hT
  refine lv_aload_n F.hx F.hb d_MO_fresh_44 rfl (lv_at hl 0 rfl) ?_
  refine r_get (v := vI (M.1 191 24)) (N := 68) (T := T1) (j := 24) F hS (show 191 < 231 by decide) (show shK 191 = 5 from rfl) (show shN 191 = 68 from rfl) rfl (Nat.le_of_ble_eq_true rfl) ing1 mw_1413 (fv_int rfl) d_MO_fresh_45 ?_
  have i13 := hS.rng 191 24
  refine r_if_eq (tgt := 53) F.hx F.hb i13 d_MO_fresh_48 (by decide) (fun c14 => ?_) (fun c14 => ?_)
  · replace hT := (if_pos c14).symm.trans hT
    refine lv_aload_n F.hx F.hb d_MO_fresh_53 rfl (lv_at hl 0 rfl) ?_
    refine r_get (v := vI (M.1 191 23)) (N := 68) (T := T1) (j := 23) F hS (show 191 < 231 by decide) (show shK 191 = 5 from rfl) (show shN 191 = 68 from rfl) rfl (Nat.le_of_ble_eq_true rfl) ing1 mw_1412 (fv_int rfl) d_MO_fresh_54 ?_
    have i15 := hS.rng 191 23
    refine lv_istore (lv' := [(4, vI (M.1 191 23)), (0, .ref (b + 191))]) F.hx F.hb d_MO_fresh_57 hl (Nat.le_of_ble_eq_true rfl) rfl (fun ls hl => ?_)
    refine lv_aload_n F.hx F.hb d_MO_fresh_59 rfl (lv_at hl 1 rfl) ?_
    obtain ⟨q16, hq16, hT⟩ := q_obind hT
    refine r_backV F hS (r_runV (k := 191) (N := 68) (T := T1) (As := []) F hS (show 191 < 231 by decide) (show shK 191 = 5 from rfl) rfl (c_MO_token l F.2.2.1 M _ hq16) gs_MO_205 hd_MO_token ⟨Nat.le_of_ble_eq_true rfl, Nat.le_of_ble_eq_true rfl⟩ rfl hl.1 (Nat.le_of_ble_eq_true rfl) ⟨Nat.zero_le _, Nat.zero_le _⟩ rfl d_MO_fresh_60) (fun H locs hS => ?_)
    refine lv_iload F.hx F.hb d_MO_fresh_63 (lv_at hl 0 rfl) ?_
    cases hT
    exact r_iret F hlk hr rfl hS i15 d_MO_fresh_65
  · replace hT := (if_neg c14).symm.trans hT
    refine r_iconst F.hx F.hb d_MO_fresh_51 ?_
    cases hT
    exact r_iret F hlk hr rfl hS (inr_c rfl) d_MO_fresh_52
set_option maxHeartbeats 4000000 in
set_option maxRecDepth 100000 in
theorem c_MO_fresh (l : Launch) {b n : Nat} {C : CT} (hlo : 231 ≤ n) (M : Mem) (r1 : Nat) (N1 : Nat) (x2 : Int) (x3 : Int) (hr1 : arrP 0 r1 N1 231) (hx2 : InR x2) (hx3 : InR x3) (res : Mem × Int) (hT : t_MO_fresh M r1 N1 x2 x3 = some res) : CM l b C n 6 y_MO_fresh b_MO_fresh 5 (some .int) [.ref (b + 191), .ref (b + r1), vI x2, vI x3] M (QI b C n res.1 res.2) := by
  refine CM.of (lo := 231) (ow := "WardFallsModel") (by decide) rfl (Nat.le_of_ble_eq_true rfl) hlo (fun p e s m below meth c F hlk hr hS ls hl => ?_)
  have hl : lv_has ls 5 [(0, .ref (b + 191)), (1, .ref (b + r1)), (2, vI x2), (3, vI x3)] := hl
  unfold t_MO_fresh at hT
  refine lv_aload_n F.hx F.hb d_MO_fresh_0 rfl (lv_at hl 0 rfl) ?_
  refine r_get (v := vI (M.1 191 24)) (N := 68) (T := T1) (j := 24) F hS (show 191 < 231 by decide) (show shK 191 = 5 from rfl) (show shN 191 = 68 from rfl) rfl (Nat.le_of_ble_eq_true rfl) ing1 mw_1413 (fv_int rfl) d_MO_fresh_1 ?_
  have i1 := hS.rng 191 24
  refine r_if_eq (tgt := 9) F.hx F.hb i1 d_MO_fresh_4 (by decide) (fun c2 => ?_) (fun c2 => ?_)
  · replace hT := (if_pos c2).symm.trans hT
    refine lv_aload_n F.hx F.hb d_MO_fresh_9 rfl (lv_at hl 0 rfl) ?_
    refine r_get (v := vI (M.1 191 22)) (N := 68) (T := T1) (j := 22) F hS (show 191 < 231 by decide) (show shK 191 = 5 from rfl) (show shN 191 = 68 from rfl) rfl (Nat.le_of_ble_eq_true rfl) ing1 mw_1411 (fv_int rfl) d_MO_fresh_10 ?_
    have i3 := hS.rng 191 22
    refine r_iconst F.hx F.hb d_MO_fresh_13 ?_
    refine r_icmp_eq (tgt := 25) F.hx F.hb i3 (inr_c rfl) d_MO_fresh_14 (by decide) (fun c4 => ?_) (fun c4 => ?_)
    · replace hT := (if_pos c4).symm.trans hT
      refine lv_aload_n F.hx F.hb d_MO_fresh_25 rfl (lv_at hl 1 rfl) ?_
      refine lv_iload_n F.hx F.hb d_MO_fresh_26 rfl (lv_at hl 2 rfl) ?_
      refine lv_iload_n F.hx F.hb d_MO_fresh_27 rfl (lv_at hl 3 rfl) ?_
      refine lv_aload_n F.hx F.hb d_MO_fresh_28 rfl (lv_at hl 0 rfl) ?_
      refine r_get (v := vI (M.1 191 23)) (N := 68) (T := T1) (j := 23) F hS (show 191 < 231 by decide) (show shK 191 = 5 from rfl) (show shN 191 = 68 from rfl) rfl (Nat.le_of_ble_eq_true rfl) ing1 mw_1412 (fv_int rfl) d_MO_fresh_29 ?_
      have i5 := hS.rng 191 23
      obtain ⟨q6, hq6, hT⟩ := q_obind hT
      refine r_backI F hS (r_runS (As := [.ref (b + r1), vI x2, vI x3, vI (M.1 191 23)]) F hS (c_MO_found l F.2.2.1 M r1 N1 x2 x3 (M.1 191 23) hr1 hx2 hx3 i5 _ hq6) gs_MO_218 hd_MO_found ⟨Nat.le_of_ble_eq_true rfl, Nat.le_of_ble_eq_true rfl⟩ rfl hl.1 (Nat.le_of_ble_eq_true rfl) ⟨Nat.zero_le _, Nat.zero_le _⟩ rfl d_MO_fresh_32) (fun H locs hS h7 => ?_)
      refine r_iconst F.hx F.hb d_MO_fresh_35 ?_
      refine r_icmp_eq (tgt := 44) F.hx F.hb h7 (inr_c rfl) d_MO_fresh_36 (by decide) (fun c8 => ?_) (fun c8 => ?_)
      · replace hT := (if_pos c8).symm.trans hT
        exact k_MO_fresh_L44 l hlo r1 N1 x2 x3 hr1 hx2 hx3 F hlk hr M _ _ _ hS (lv_sub hl [0] rfl) hT
      · replace hT := (if_neg c8).symm.trans hT
        refine lv_aload_n F.hx F.hb d_MO_fresh_39 rfl (lv_at hl 0 rfl) ?_
        refine r_iconst F.hx F.hb d_MO_fresh_40 ?_
        obtain ⟨q9, hq9⟩ : ∃ q, q = (t_MO_wrong M 3) := ⟨_, rfl⟩
        replace hT := qlet_eq hT hq9
        refine r_backV F hS (r_runV (k := 191) (N := 68) (T := T1) (As := [vI 3]) F hS (show 191 < 231 by decide) (show shK 191 = 5 from rfl) rfl (c_MO_wrong l F.2.2.1 M 3 (inr_c rfl) _ hq9.symm) gs_MO_208 hd_MO_wrong ⟨Nat.le_of_ble_eq_true rfl, Nat.le_of_ble_eq_true rfl⟩ rfl hl.1 (Nat.le_of_ble_eq_true rfl) ⟨Nat.zero_le _, Nat.zero_le _⟩ rfl d_MO_fresh_41) (fun H locs hS => ?_)
        exact k_MO_fresh_L44 l hlo r1 N1 x2 x3 hr1 hx2 hx3 F hlk hr q9 _ _ _ hS (lv_sub hl [0] rfl) hT
    · replace hT := (if_neg c4).symm.trans hT
      refine lv_aload_n F.hx F.hb d_MO_fresh_17 rfl (lv_at hl 0 rfl) ?_
      refine r_iconst F.hx F.hb d_MO_fresh_18 ?_
      obtain ⟨q11, hq11⟩ : ∃ q, q = (t_MO_wrong M 1) := ⟨_, rfl⟩
      replace hT := qlet_eq hT hq11
      refine r_backV F hS (r_runV (k := 191) (N := 68) (T := T1) (As := [vI 1]) F hS (show 191 < 231 by decide) (show shK 191 = 5 from rfl) rfl (c_MO_wrong l F.2.2.1 M 1 (inr_c rfl) _ hq11.symm) gs_MO_208 hd_MO_wrong ⟨Nat.le_of_ble_eq_true rfl, Nat.le_of_ble_eq_true rfl⟩ rfl hl.1 (Nat.le_of_ble_eq_true rfl) ⟨Nat.zero_le _, Nat.zero_le _⟩ rfl d_MO_fresh_19) (fun H locs hS => ?_)
      refine lv_goto (tgt := 44) F.hx F.hb d_MO_fresh_22 (by decide) ?_
      exact k_MO_fresh_L44 l hlo r1 N1 x2 x3 hr1 hx2 hx3 F hlk hr q11 _ _ _ hS (lv_sub hl [0] rfl) hT
  · replace hT := (if_neg c2).symm.trans hT
    refine r_iconst F.hx F.hb d_MO_fresh_7 ?_
    cases hT
    exact r_iret F hlk hr rfl hS (inr_c rfl) d_MO_fresh_8
theorem d_MO_fresher_0 : decode b_MO_fresher 0 = .ok (.aload_n 0, 1) := dc_42 (by decide +kernel)
theorem d_MO_fresher_1 : decode b_MO_fresher 1 = .ok (.getfield 13, 3) := dc_180 (by decide +kernel)
theorem d_MO_fresher_4 : decode b_MO_fresher 4 = .ok (.bipush 9, 2) := dc_16 (by decide +kernel)
theorem d_MO_fresher_6 : decode b_MO_fresher 6 = .ok (.iload_n 1, 1) := dc_27 (by decide +kernel)
theorem d_MO_fresher_7 : decode b_MO_fresher 7 = .ok (.iadd, 1) := dc_96 (by decide +kernel)
theorem d_MO_fresher_8 : decode b_MO_fresher 8 = .ok (.iaload, 1) := dc_46 (by decide +kernel)
theorem d_MO_fresher_9 : decode b_MO_fresher 9 = .ok (.ireturn, 1) := dc_172 (by decide +kernel)
def t_MO_fresher (M : Mem) (x1 : Int) : Option (Int) := (qguard (0 ≤ (w32 (9 + x1)) ∧ (w32 (9 + x1)) < 18) (some (M.1 193 (w32 (9 + x1)))))
set_option maxHeartbeats 4000000 in
set_option maxRecDepth 100000 in
theorem c_MO_fresher (l : Launch) {b n : Nat} {C : CT} (hlo : 231 ≤ n) (M : Mem) (x1 : Int) (hx1 : InR x1) (res : Int) (hT : t_MO_fresher M x1 = some res) : CM l b C n 0 y_MO_fresher b_MO_fresher 2 (some .int) [.ref (b + 191), vI x1] M (QI b C n M res) := by
  refine CM.of (lo := 231) (ow := "WardFallsModel") (by decide) rfl (Nat.le_of_ble_eq_true rfl) hlo (fun p e s m below meth c F hlk hr hS ls hl => ?_)
  have hl : lv_has ls 2 [(0, .ref (b + 191)), (1, vI x1)] := hl
  unfold t_MO_fresher at hT
  refine lv_aload_n F.hx F.hb d_MO_fresher_0 rfl (lv_at hl 0 rfl) ?_
  refine r_get (v := .ref (b + 193)) (N := 68) (T := T1) (j := 3) F hS (show 191 < 231 by decide) (show shK 191 = 5 from rfl) (show shN 191 = 68 from rfl) rfl (Nat.le_of_ble_eq_true rfl) ing1 mw_1392 (fv_sg rfl rfl rfl) d_MO_fresher_1 ?_
  refine r_bipush F.hx F.hb d_MO_fresher_4 rfl ?_
  refine lv_iload_n F.hx F.hb d_MO_fresher_6 rfl (lv_at hl 1 rfl) ?_
  refine r_iadd F.hx F.hb d_MO_fresher_7 ?_
  obtain ⟨⟨g1a, g1b⟩, hT⟩ := q_guard hT
  refine r_iald F hS (show 193 < 231 by decide) (show shK 193 = 0 from rfl) (show shN 193 = 18 from rfl) (inr_w32 _) g1a g1b d_MO_fresher_8 ?_
  have i2 := hS.rng 193 (w32 (9 + x1))
  cases hT
  exact r_iret F hlk hr rfl hS i2 d_MO_fresher_9
theorem d_MO_cellAtHand_0 : decode b_MO_cellAtHand 0 = .ok (.aload_n 0, 1) := dc_42 (by decide +kernel)
theorem d_MO_cellAtHand_1 : decode b_MO_cellAtHand 1 = .ok (.iconst 0, 1) := dc_3 (by decide +kernel)
theorem d_MO_cellAtHand_2 : decode b_MO_cellAtHand 2 = .ok (.aload_n 0, 1) := dc_42 (by decide +kernel)
theorem d_MO_cellAtHand_3 : decode b_MO_cellAtHand 3 = .ok (.iconst 0, 1) := dc_3 (by decide +kernel)
theorem d_MO_cellAtHand_4 : decode b_MO_cellAtHand 4 = .ok (.invokevirtual 222, 3) := dc_182 (by decide +kernel)
theorem d_MO_cellAtHand_7 : decode b_MO_cellAtHand 7 = .ok (.iconst 1, 1) := dc_4 (by decide +kernel)
theorem d_MO_cellAtHand_8 : decode b_MO_cellAtHand 8 = .ok (.isub, 1) := dc_100 (by decide +kernel)
theorem d_MO_cellAtHand_9 : decode b_MO_cellAtHand 9 = .ok (.invokevirtual 226, 3) := dc_182 (by decide +kernel)
theorem d_MO_cellAtHand_12 : decode b_MO_cellAtHand 12 = .ok (.istore_n 1, 1) := dc_60 (by decide +kernel)
theorem d_MO_cellAtHand_13 : decode b_MO_cellAtHand 13 = .ok (.aload_n 0, 1) := dc_42 (by decide +kernel)
theorem d_MO_cellAtHand_14 : decode b_MO_cellAtHand 14 = .ok (.iconst 0, 1) := dc_3 (by decide +kernel)
theorem d_MO_cellAtHand_15 : decode b_MO_cellAtHand 15 = .ok (.aload_n 0, 1) := dc_42 (by decide +kernel)
theorem d_MO_cellAtHand_16 : decode b_MO_cellAtHand 16 = .ok (.iconst 1, 1) := dc_4 (by decide +kernel)
theorem d_MO_cellAtHand_17 : decode b_MO_cellAtHand 17 = .ok (.invokevirtual 222, 3) := dc_182 (by decide +kernel)
theorem d_MO_cellAtHand_20 : decode b_MO_cellAtHand 20 = .ok (.iconst 1, 1) := dc_4 (by decide +kernel)
theorem d_MO_cellAtHand_21 : decode b_MO_cellAtHand 21 = .ok (.isub, 1) := dc_100 (by decide +kernel)
theorem d_MO_cellAtHand_22 : decode b_MO_cellAtHand 22 = .ok (.invokevirtual 211, 3) := dc_182 (by decide +kernel)
theorem d_MO_cellAtHand_25 : decode b_MO_cellAtHand 25 = .ok (.istore_n 2, 1) := dc_61 (by decide +kernel)
theorem d_MO_cellAtHand_26 : decode b_MO_cellAtHand 26 = .ok (.iload_n 2, 1) := dc_28 (by decide +kernel)
theorem d_MO_cellAtHand_27 : decode b_MO_cellAtHand 27 = .ok (.aload_n 0, 1) := dc_42 (by decide +kernel)
theorem d_MO_cellAtHand_28 : decode b_MO_cellAtHand 28 = .ok (.iconst 0, 1) := dc_3 (by decide +kernel)
theorem d_MO_cellAtHand_29 : decode b_MO_cellAtHand 29 = .ok (.invokevirtual 222, 3) := dc_182 (by decide +kernel)
theorem d_MO_cellAtHand_32 : decode b_MO_cellAtHand 32 = .ok (.imul, 1) := dc_104 (by decide +kernel)
theorem d_MO_cellAtHand_33 : decode b_MO_cellAtHand 33 = .ok (.iload_n 1, 1) := dc_27 (by decide +kernel)
theorem d_MO_cellAtHand_34 : decode b_MO_cellAtHand 34 = .ok (.iadd, 1) := dc_96 (by decide +kernel)
theorem d_MO_cellAtHand_35 : decode b_MO_cellAtHand 35 = .ok (.ireturn, 1) := dc_172 (by decide +kernel)
def t_MO_cellAtHand (M : Mem)  : Option (Mem × Int) := (obind (t_MO_fresher M 0) fun q1 => (obind (t_MO_numeral M 0 (w32 (q1 - 1))) fun q3 => (obind (t_MO_fresher (q3.1) 1) fun q5 => (qlet (t_MO_numeralAtHand (q3.1) 0 (w32 (q5 - 1))) fun q7 => (obind (t_MO_fresher (q7.1) 0) fun q9 => (some ((q7.1), (w32 ((w32 ((q7.2) * q9)) + (q3.2))))))))))
set_option maxHeartbeats 4000000 in
set_option maxRecDepth 100000 in
theorem c_MO_cellAtHand (l : Launch) {b n : Nat} {C : CT} (hlo : 231 ≤ n) (M : Mem)   (res : Mem × Int) (hT : t_MO_cellAtHand M  = some res) : CM l b C n 8 y_MO_cellAtHand b_MO_cellAtHand 3 (some .int) [.ref (b + 191)] M (QI b C n res.1 res.2) := by
  refine CM.of (lo := 231) (ow := "WardFallsModel") (by decide) rfl (Nat.le_of_ble_eq_true rfl) hlo (fun p e s m below meth c F hlk hr hS ls hl => ?_)
  have hl : lv_has ls 3 [(0, .ref (b + 191))] := hl
  unfold t_MO_cellAtHand at hT
  refine lv_aload_n F.hx F.hb d_MO_cellAtHand_0 rfl (lv_at hl 0 rfl) ?_
  refine r_iconst F.hx F.hb d_MO_cellAtHand_1 ?_
  refine lv_aload_n F.hx F.hb d_MO_cellAtHand_2 rfl (lv_at hl 0 rfl) ?_
  refine r_iconst F.hx F.hb d_MO_cellAtHand_3 ?_
  obtain ⟨q1, hq1, hT⟩ := q_obind hT
  refine r_backI F hS (r_runV (k := 191) (N := 68) (T := T1) (As := [vI 0]) F hS (show 191 < 231 by decide) (show shK 191 = 5 from rfl) rfl (c_MO_fresher l F.2.2.1 M 0 (inr_c rfl) _ hq1) gs_MO_222 hd_MO_fresher ⟨Nat.le_of_ble_eq_true rfl, Nat.le_of_ble_eq_true rfl⟩ rfl hl.1 (Nat.le_of_ble_eq_true rfl) ⟨Nat.zero_le _, Nat.zero_le _⟩ rfl d_MO_cellAtHand_4) (fun H locs hS h2 => ?_)
  refine r_iconst F.hx F.hb d_MO_cellAtHand_7 ?_
  refine r_isub F.hx F.hb d_MO_cellAtHand_8 ?_
  obtain ⟨q3, hq3, hT⟩ := q_obind hT
  refine r_backI F hS (r_runV (k := 191) (N := 68) (T := T1) (As := [vI 0, vI (w32 (q1 - 1))]) F hS (show 191 < 231 by decide) (show shK 191 = 5 from rfl) rfl (c_MO_numeral l F.2.2.1 M 0 (w32 (q1 - 1)) (inr_c rfl) (inr_w32 _) _ hq3) gs_MO_226 hd_MO_numeral ⟨Nat.le_of_ble_eq_true rfl, Nat.le_of_ble_eq_true rfl⟩ rfl hl.1 (Nat.le_of_ble_eq_true rfl) ⟨Nat.zero_le _, Nat.zero_le _⟩ rfl d_MO_cellAtHand_9) (fun H locs hS h4 => ?_)
  refine lv_istore_n (lv' := [(1, vI (q3.2)), (0, .ref (b + 191))]) F.hx F.hb d_MO_cellAtHand_12 rfl hl (Nat.le_of_ble_eq_true rfl) rfl (fun ls hl => ?_)
  refine lv_aload_n F.hx F.hb d_MO_cellAtHand_13 rfl (lv_at hl 1 rfl) ?_
  refine r_iconst F.hx F.hb d_MO_cellAtHand_14 ?_
  refine lv_aload_n F.hx F.hb d_MO_cellAtHand_15 rfl (lv_at hl 1 rfl) ?_
  refine r_iconst F.hx F.hb d_MO_cellAtHand_16 ?_
  obtain ⟨q5, hq5, hT⟩ := q_obind hT
  refine r_backI F hS (r_runV (k := 191) (N := 68) (T := T1) (As := [vI 1]) F hS (show 191 < 231 by decide) (show shK 191 = 5 from rfl) rfl (c_MO_fresher l F.2.2.1 (q3.1) 1 (inr_c rfl) _ hq5) gs_MO_222 hd_MO_fresher ⟨Nat.le_of_ble_eq_true rfl, Nat.le_of_ble_eq_true rfl⟩ rfl hl.1 (Nat.le_of_ble_eq_true rfl) ⟨Nat.zero_le _, Nat.zero_le _⟩ rfl d_MO_cellAtHand_17) (fun H locs hS h6 => ?_)
  refine r_iconst F.hx F.hb d_MO_cellAtHand_20 ?_
  refine r_isub F.hx F.hb d_MO_cellAtHand_21 ?_
  obtain ⟨q7, hq7⟩ : ∃ q, q = (t_MO_numeralAtHand (q3.1) 0 (w32 (q5 - 1))) := ⟨_, rfl⟩
  replace hT := qlet_eq hT hq7
  refine r_backI F hS (r_runV (k := 191) (N := 68) (T := T1) (As := [vI 0, vI (w32 (q5 - 1))]) F hS (show 191 < 231 by decide) (show shK 191 = 5 from rfl) rfl (c_MO_numeralAtHand l F.2.2.1 (q3.1) 0 (w32 (q5 - 1)) (inr_c rfl) (inr_w32 _) _ hq7.symm) gs_MO_211 hd_MO_numeralAtHand ⟨Nat.le_of_ble_eq_true rfl, Nat.le_of_ble_eq_true rfl⟩ rfl hl.1 (Nat.le_of_ble_eq_true rfl) ⟨Nat.zero_le _, Nat.zero_le _⟩ rfl d_MO_cellAtHand_22) (fun H locs hS h8 => ?_)
  refine lv_istore_n (lv' := [(2, vI (q7.2)), (1, vI (q3.2)), (0, .ref (b + 191))]) F.hx F.hb d_MO_cellAtHand_25 rfl hl (Nat.le_of_ble_eq_true rfl) rfl (fun ls hl => ?_)
  refine lv_iload_n F.hx F.hb d_MO_cellAtHand_26 rfl (lv_at hl 0 rfl) ?_
  refine lv_aload_n F.hx F.hb d_MO_cellAtHand_27 rfl (lv_at hl 2 rfl) ?_
  refine r_iconst F.hx F.hb d_MO_cellAtHand_28 ?_
  obtain ⟨q9, hq9, hT⟩ := q_obind hT
  refine r_backI F hS (r_runV (k := 191) (N := 68) (T := T1) (As := [vI 0]) F hS (show 191 < 231 by decide) (show shK 191 = 5 from rfl) rfl (c_MO_fresher l F.2.2.1 (q7.1) 0 (inr_c rfl) _ hq9) gs_MO_222 hd_MO_fresher ⟨Nat.le_of_ble_eq_true rfl, Nat.le_of_ble_eq_true rfl⟩ rfl hl.1 (Nat.le_of_ble_eq_true rfl) ⟨Nat.zero_le _, Nat.zero_le _⟩ rfl d_MO_cellAtHand_29) (fun H locs hS h10 => ?_)
  refine r_imul F.hx F.hb d_MO_cellAtHand_32 ?_
  refine lv_iload_n F.hx F.hb d_MO_cellAtHand_33 rfl (lv_at hl 1 rfl) ?_
  refine r_iadd F.hx F.hb d_MO_cellAtHand_34 ?_
  cases hT
  exact r_iret F hlk hr rfl hS (inr_w32 _) d_MO_cellAtHand_35
theorem d_MO_reads_0 : decode b_MO_reads 0 = .ok (.aload_n 0, 1) := dc_42 (by decide +kernel)
theorem d_MO_reads_1 : decode b_MO_reads 1 = .ok (.getfield 13, 3) := dc_180 (by decide +kernel)
theorem d_MO_reads_4 : decode b_MO_reads 4 = .ok (.bipush 9, 2) := dc_16 (by decide +kernel)
theorem d_MO_reads_6 : decode b_MO_reads 6 = .ok (.iload_n 1, 1) := dc_27 (by decide +kernel)
theorem d_MO_reads_7 : decode b_MO_reads 7 = .ok (.iadd, 1) := dc_96 (by decide +kernel)
theorem d_MO_reads_8 : decode b_MO_reads 8 = .ok (.iload_n 2, 1) := dc_28 (by decide +kernel)
theorem d_MO_reads_9 : decode b_MO_reads 9 = .ok (.iastore, 1) := dc_79 (by decide +kernel)
theorem d_MO_reads_10 : decode b_MO_reads 10 = .ok (.return_, 1) := dc_177 (by decide +kernel)
def t_MO_reads (M : Mem) (x1 : Int) (x2 : Int) : Option (Mem) := (qguard (0 ≤ (w32 (9 + x1)) ∧ (w32 (9 + x1)) < 18) (qlet (setI M 193 (w32 (9 + x1)) x2) fun M2 => (some M2)))
set_option maxHeartbeats 4000000 in
set_option maxRecDepth 100000 in
theorem c_MO_reads (l : Launch) {b n : Nat} {C : CT} (hlo : 231 ≤ n) (M : Mem) (x1 : Int) (x2 : Int) (hx1 : InR x1) (hx2 : InR x2) (res : Mem) (hT : t_MO_reads M x1 x2 = some res) : CM l b C n 0 y_MO_reads b_MO_reads 3 (none) [.ref (b + 191), vI x1, vI x2] M (QV b C n res) := by
  refine CM.of (lo := 231) (ow := "WardFallsModel") (by decide) rfl (Nat.le_of_ble_eq_true rfl) hlo (fun p e s m below meth c F hlk hr hS ls hl => ?_)
  have hl : lv_has ls 3 [(0, .ref (b + 191)), (1, vI x1), (2, vI x2)] := hl
  unfold t_MO_reads at hT
  refine lv_aload_n F.hx F.hb d_MO_reads_0 rfl (lv_at hl 0 rfl) ?_
  refine r_get (v := .ref (b + 193)) (N := 68) (T := T1) (j := 3) F hS (show 191 < 231 by decide) (show shK 191 = 5 from rfl) (show shN 191 = 68 from rfl) rfl (Nat.le_of_ble_eq_true rfl) ing1 mw_1392 (fv_sg rfl rfl rfl) d_MO_reads_1 ?_
  refine r_bipush F.hx F.hb d_MO_reads_4 rfl ?_
  refine lv_iload_n F.hx F.hb d_MO_reads_6 rfl (lv_at hl 1 rfl) ?_
  refine r_iadd F.hx F.hb d_MO_reads_7 ?_
  refine lv_iload_n F.hx F.hb d_MO_reads_8 rfl (lv_at hl 2 rfl) ?_
  obtain ⟨⟨g1a, g1b⟩, hT⟩ := q_guard hT
  refine r_iast F hS (show 193 < 231 by decide) (show shK 193 = 0 from rfl) (show shN 193 = 18 from rfl) (inr_w32 _) hx2 g1a g1b d_MO_reads_9 (fun H locs hS => ?_)
  obtain ⟨M2, eM2⟩ : ∃ q, q = (setI M 193 (w32 (9 + x1)) x2) := ⟨_, rfl⟩
  replace hS : St b C n M2 s H locs := by rw [eM2]; exact hS
  replace hT := qlet_eq hT eM2
  cases hT
  exact r_vret F hlk hr hS d_MO_reads_10
theorem d_MO_isFull_0 : decode b_MO_isFull 0 = .ok (.iload_n 1, 1) := dc_27 (by decide +kernel)
theorem d_MO_isFull_1 : decode b_MO_isFull 1 = .ok (.iconst 1, 1) := dc_4 (by decide +kernel)
theorem d_MO_isFull_2 : decode b_MO_isFull 2 = .ok (.if_icmp .ne 12, 3) := dc_160 (by decide +kernel)
theorem d_MO_isFull_5 : decode b_MO_isFull 5 = .ok (.aload_n 0, 1) := dc_42 (by decide +kernel)
theorem d_MO_isFull_6 : decode b_MO_isFull 6 = .ok (.iconst 2, 1) := dc_5 (by decide +kernel)
theorem d_MO_isFull_7 : decode b_MO_isFull 7 = .ok (.invokevirtual 222, 3) := dc_182 (by decide +kernel)
theorem d_MO_isFull_10 : decode b_MO_isFull 10 = .ok (.iconst 4, 1) := dc_7 (by decide +kernel)
theorem d_MO_isFull_11 : decode b_MO_isFull 11 = .ok (.if_icmp .eq 64, 3) := dc_159 (by decide +kernel)
theorem d_MO_isFull_14 : decode b_MO_isFull 14 = .ok (.iload_n 1, 1) := dc_27 (by decide +kernel)
theorem d_MO_isFull_15 : decode b_MO_isFull 15 = .ok (.iconst 2, 1) := dc_5 (by decide +kernel)
theorem d_MO_isFull_16 : decode b_MO_isFull 16 = .ok (.if_icmp .ne 13, 3) := dc_160 (by decide +kernel)
theorem d_MO_isFull_19 : decode b_MO_isFull 19 = .ok (.aload_n 0, 1) := dc_42 (by decide +kernel)
theorem d_MO_isFull_20 : decode b_MO_isFull 20 = .ok (.iconst 3, 1) := dc_6 (by decide +kernel)
theorem d_MO_isFull_21 : decode b_MO_isFull 21 = .ok (.invokevirtual 222, 3) := dc_182 (by decide +kernel)
theorem d_MO_isFull_24 : decode b_MO_isFull 24 = .ok (.bipush 12, 2) := dc_16 (by decide +kernel)
theorem d_MO_isFull_26 : decode b_MO_isFull 26 = .ok (.if_icmp .eq 49, 3) := dc_159 (by decide +kernel)
theorem d_MO_isFull_29 : decode b_MO_isFull 29 = .ok (.iload_n 1, 1) := dc_27 (by decide +kernel)
theorem d_MO_isFull_30 : decode b_MO_isFull 30 = .ok (.iconst 3, 1) := dc_6 (by decide +kernel)
theorem d_MO_isFull_31 : decode b_MO_isFull 31 = .ok (.if_icmp .ne 13, 3) := dc_160 (by decide +kernel)
theorem d_MO_isFull_34 : decode b_MO_isFull 34 = .ok (.aload_n 0, 1) := dc_42 (by decide +kernel)
theorem d_MO_isFull_35 : decode b_MO_isFull 35 = .ok (.iconst 4, 1) := dc_7 (by decide +kernel)
theorem d_MO_isFull_36 : decode b_MO_isFull 36 = .ok (.invokevirtual 222, 3) := dc_182 (by decide +kernel)
theorem d_MO_isFull_39 : decode b_MO_isFull 39 = .ok (.bipush 12, 2) := dc_16 (by decide +kernel)
theorem d_MO_isFull_41 : decode b_MO_isFull 41 = .ok (.if_icmp .eq 34, 3) := dc_159 (by decide +kernel)
theorem d_MO_isFull_44 : decode b_MO_isFull 44 = .ok (.iload_n 1, 1) := dc_27 (by decide +kernel)
theorem d_MO_isFull_45 : decode b_MO_isFull 45 = .ok (.iconst 4, 1) := dc_7 (by decide +kernel)
theorem d_MO_isFull_46 : decode b_MO_isFull 46 = .ok (.if_icmp .ne 13, 3) := dc_160 (by decide +kernel)
theorem d_MO_isFull_49 : decode b_MO_isFull 49 = .ok (.aload_n 0, 1) := dc_42 (by decide +kernel)
theorem d_MO_isFull_50 : decode b_MO_isFull 50 = .ok (.iconst 5, 1) := dc_8 (by decide +kernel)
theorem d_MO_isFull_51 : decode b_MO_isFull 51 = .ok (.invokevirtual 222, 3) := dc_182 (by decide +kernel)
theorem d_MO_isFull_54 : decode b_MO_isFull 54 = .ok (.bipush 8, 2) := dc_16 (by decide +kernel)
theorem d_MO_isFull_56 : decode b_MO_isFull 56 = .ok (.if_icmp .eq 19, 3) := dc_159 (by decide +kernel)
theorem d_MO_isFull_59 : decode b_MO_isFull 59 = .ok (.iload_n 1, 1) := dc_27 (by decide +kernel)
theorem d_MO_isFull_60 : decode b_MO_isFull 60 = .ok (.iconst 5, 1) := dc_8 (by decide +kernel)
theorem d_MO_isFull_61 : decode b_MO_isFull 61 = .ok (.if_icmp .ne 18, 3) := dc_160 (by decide +kernel)
theorem d_MO_isFull_64 : decode b_MO_isFull 64 = .ok (.aload_n 0, 1) := dc_42 (by decide +kernel)
theorem d_MO_isFull_65 : decode b_MO_isFull 65 = .ok (.bipush 6, 2) := dc_16 (by decide +kernel)
theorem d_MO_isFull_67 : decode b_MO_isFull 67 = .ok (.invokevirtual 222, 3) := dc_182 (by decide +kernel)
theorem d_MO_isFull_70 : decode b_MO_isFull 70 = .ok (.bipush 8, 2) := dc_16 (by decide +kernel)
theorem d_MO_isFull_72 : decode b_MO_isFull 72 = .ok (.if_icmp .ne 7, 3) := dc_160 (by decide +kernel)
theorem d_MO_isFull_75 : decode b_MO_isFull 75 = .ok (.iconst 1, 1) := dc_4 (by decide +kernel)
theorem d_MO_isFull_76 : decode b_MO_isFull 76 = .ok (.goto 4, 3) := dc_167 (by decide +kernel)
theorem d_MO_isFull_79 : decode b_MO_isFull 79 = .ok (.iconst 0, 1) := dc_3 (by decide +kernel)
theorem d_MO_isFull_80 : decode b_MO_isFull 80 = .ok (.ireturn, 1) := dc_172 (by decide +kernel)
def t_MO_isFull_L59 (x1 : Int)  (M : Mem)  : Option (Int) := (if x1 = 5 then (obind (t_MO_fresher M 6) fun q18 => (if q18 = 8 then (some 1) else (some 0))) else (some 0))
def t_MO_isFull_L44 (x1 : Int)  (M : Mem)  : Option (Int) := (if x1 = 4 then (obind (t_MO_fresher M 5) fun q14 => (if q14 = 8 then (some 1) else (t_MO_isFull_L59 x1 M))) else (t_MO_isFull_L59 x1 M))
def t_MO_isFull_L29 (x1 : Int)  (M : Mem)  : Option (Int) := (if x1 = 3 then (obind (t_MO_fresher M 4) fun q10 => (if q10 = 12 then (some 1) else (t_MO_isFull_L44 x1 M))) else (t_MO_isFull_L44 x1 M))
def t_MO_isFull_L14 (x1 : Int)  (M : Mem)  : Option (Int) := (if x1 = 2 then (obind (t_MO_fresher M 3) fun q6 => (if q6 = 12 then (some 1) else (t_MO_isFull_L29 x1 M))) else (t_MO_isFull_L29 x1 M))
def t_MO_isFull (M : Mem) (x1 : Int) : Option (Int) := (if x1 = 1 then (obind (t_MO_fresher M 2) fun q2 => (if q2 = 4 then (some 1) else (t_MO_isFull_L14 x1 M))) else (t_MO_isFull_L14 x1 M))
set_option maxHeartbeats 4000000 in
set_option maxRecDepth 100000 in
theorem k_MO_isFull_L59 (l : Launch) {p : Program} {e : Env} {s : State} {m : MethodId} {below : List Frame} {meth : Method} {c : Code} {b n : Nat} {C : CT} (hlo : 231 ≤ n) (x1 : Int) (hx1 : InR x1) (F : Cx b p m c b_MO_isFull 2 s ([.ref (b + 191), vI x1] : List Value).toArray "WardFallsModel" C n 231) (hlk : meth.locks = false) (hr : meth.sig.returnType = some .boolean) {res : Int} (M : Mem)  (H : Heap) (locs : List Loc) (ls : Array Slot) (hS : St b C n M s H locs) (hl : lv_has ls 2 [(0, .ref (b + 191)), (1, vI x1)]) (hT : t_MO_isFull_L59 x1 M = some res) : W p l e (headSpec (wsM y_MO_isFull b_MO_isFull 2 (some .boolean)) (rmD 1)).room s m ([.ref (b + 191), vI x1] : List Value).toArray below meth c H locs 0 0 (MQ below (QZ b C n M res) ([.ref (b + 191), vI x1] : List Value).toArray s 0 0 (frb b)) (F0 m 59 ls []) := by
  unfold t_MO_isFull_L59 at hT
  refine lv_iload_n F.hx F.hb d_MO_isFull_59 rfl (lv_at hl 1 rfl) ?_
  refine r_iconst F.hx F.hb d_MO_isFull_60 ?_
  refine r_icmp_ne (tgt := 79) F.hx F.hb hx1 (inr_c rfl) d_MO_isFull_61 (by decide) (fun c17 => ?_) (fun c17 => ?_)
  · replace hT := (if_neg c17).symm.trans hT
    refine r_iconst F.hx F.hb d_MO_isFull_79 ?_
    cases hT
    exact r_zret F hlk hr hS (Or.inl rfl) d_MO_isFull_80
  · replace hT := (if_pos c17).symm.trans hT
    refine lv_aload_n F.hx F.hb d_MO_isFull_64 rfl (lv_at hl 0 rfl) ?_
    refine r_bipush F.hx F.hb d_MO_isFull_65 rfl ?_
    obtain ⟨q18, hq18, hT⟩ := q_obind hT
    refine r_backI F hS (r_runV (k := 191) (N := 68) (T := T1) (As := [vI 6]) F hS (show 191 < 231 by decide) (show shK 191 = 5 from rfl) rfl (c_MO_fresher l F.2.2.1 M 6 (inr_c rfl) _ hq18) gs_MO_222 hd_MO_fresher ⟨Nat.le_of_ble_eq_true rfl, Nat.le_of_ble_eq_true rfl⟩ rfl hl.1 (Nat.le_of_ble_eq_true rfl) ⟨Nat.zero_le _, Nat.zero_le _⟩ rfl d_MO_isFull_67) (fun H locs hS h19 => ?_)
    refine r_bipush F.hx F.hb d_MO_isFull_70 rfl ?_
    refine r_icmp_ne (tgt := 79) F.hx F.hb h19 (inr_c rfl) d_MO_isFull_72 (by decide) (fun c20 => ?_) (fun c20 => ?_)
    · replace hT := (if_neg c20).symm.trans hT
      refine r_iconst F.hx F.hb d_MO_isFull_79 ?_
      cases hT
      exact r_zret F hlk hr hS (Or.inl rfl) d_MO_isFull_80
    · replace hT := (if_pos c20).symm.trans hT
      refine r_iconst F.hx F.hb d_MO_isFull_75 ?_
      refine lv_goto (tgt := 80) F.hx F.hb d_MO_isFull_76 (by decide) ?_
      cases hT
      exact r_zret F hlk hr hS (Or.inr rfl) d_MO_isFull_80
set_option maxHeartbeats 4000000 in
set_option maxRecDepth 100000 in
theorem k_MO_isFull_L44 (l : Launch) {p : Program} {e : Env} {s : State} {m : MethodId} {below : List Frame} {meth : Method} {c : Code} {b n : Nat} {C : CT} (hlo : 231 ≤ n) (x1 : Int) (hx1 : InR x1) (F : Cx b p m c b_MO_isFull 2 s ([.ref (b + 191), vI x1] : List Value).toArray "WardFallsModel" C n 231) (hlk : meth.locks = false) (hr : meth.sig.returnType = some .boolean) {res : Int} (M : Mem)  (H : Heap) (locs : List Loc) (ls : Array Slot) (hS : St b C n M s H locs) (hl : lv_has ls 2 [(0, .ref (b + 191)), (1, vI x1)]) (hT : t_MO_isFull_L44 x1 M = some res) : W p l e (headSpec (wsM y_MO_isFull b_MO_isFull 2 (some .boolean)) (rmD 1)).room s m ([.ref (b + 191), vI x1] : List Value).toArray below meth c H locs 0 0 (MQ below (QZ b C n M res) ([.ref (b + 191), vI x1] : List Value).toArray s 0 0 (frb b)) (F0 m 44 ls []) := by
  unfold t_MO_isFull_L44 at hT
  refine lv_iload_n F.hx F.hb d_MO_isFull_44 rfl (lv_at hl 1 rfl) ?_
  refine r_iconst F.hx F.hb d_MO_isFull_45 ?_
  refine r_icmp_ne (tgt := 59) F.hx F.hb hx1 (inr_c rfl) d_MO_isFull_46 (by decide) (fun c13 => ?_) (fun c13 => ?_)
  · replace hT := (if_neg c13).symm.trans hT
    exact k_MO_isFull_L59 l hlo x1 hx1 F hlk hr M _ _ _ hS (lv_sub hl [0, 1] rfl) hT
  · replace hT := (if_pos c13).symm.trans hT
    refine lv_aload_n F.hx F.hb d_MO_isFull_49 rfl (lv_at hl 0 rfl) ?_
    refine r_iconst F.hx F.hb d_MO_isFull_50 ?_
    obtain ⟨q14, hq14, hT⟩ := q_obind hT
    refine r_backI F hS (r_runV (k := 191) (N := 68) (T := T1) (As := [vI 5]) F hS (show 191 < 231 by decide) (show shK 191 = 5 from rfl) rfl (c_MO_fresher l F.2.2.1 M 5 (inr_c rfl) _ hq14) gs_MO_222 hd_MO_fresher ⟨Nat.le_of_ble_eq_true rfl, Nat.le_of_ble_eq_true rfl⟩ rfl hl.1 (Nat.le_of_ble_eq_true rfl) ⟨Nat.zero_le _, Nat.zero_le _⟩ rfl d_MO_isFull_51) (fun H locs hS h15 => ?_)
    refine r_bipush F.hx F.hb d_MO_isFull_54 rfl ?_
    refine r_icmp_eq (tgt := 75) F.hx F.hb h15 (inr_c rfl) d_MO_isFull_56 (by decide) (fun c16 => ?_) (fun c16 => ?_)
    · replace hT := (if_pos c16).symm.trans hT
      refine r_iconst F.hx F.hb d_MO_isFull_75 ?_
      refine lv_goto (tgt := 80) F.hx F.hb d_MO_isFull_76 (by decide) ?_
      cases hT
      exact r_zret F hlk hr hS (Or.inr rfl) d_MO_isFull_80
    · replace hT := (if_neg c16).symm.trans hT
      exact k_MO_isFull_L59 l hlo x1 hx1 F hlk hr M _ _ _ hS (lv_sub hl [0, 1] rfl) hT
set_option maxHeartbeats 4000000 in
set_option maxRecDepth 100000 in
theorem k_MO_isFull_L29 (l : Launch) {p : Program} {e : Env} {s : State} {m : MethodId} {below : List Frame} {meth : Method} {c : Code} {b n : Nat} {C : CT} (hlo : 231 ≤ n) (x1 : Int) (hx1 : InR x1) (F : Cx b p m c b_MO_isFull 2 s ([.ref (b + 191), vI x1] : List Value).toArray "WardFallsModel" C n 231) (hlk : meth.locks = false) (hr : meth.sig.returnType = some .boolean) {res : Int} (M : Mem)  (H : Heap) (locs : List Loc) (ls : Array Slot) (hS : St b C n M s H locs) (hl : lv_has ls 2 [(0, .ref (b + 191)), (1, vI x1)]) (hT : t_MO_isFull_L29 x1 M = some res) : W p l e (headSpec (wsM y_MO_isFull b_MO_isFull 2 (some .boolean)) (rmD 1)).room s m ([.ref (b + 191), vI x1] : List Value).toArray below meth c H locs 0 0 (MQ below (QZ b C n M res) ([.ref (b + 191), vI x1] : List Value).toArray s 0 0 (frb b)) (F0 m 29 ls []) := by
  unfold t_MO_isFull_L29 at hT
  refine lv_iload_n F.hx F.hb d_MO_isFull_29 rfl (lv_at hl 1 rfl) ?_
  refine r_iconst F.hx F.hb d_MO_isFull_30 ?_
  refine r_icmp_ne (tgt := 44) F.hx F.hb hx1 (inr_c rfl) d_MO_isFull_31 (by decide) (fun c9 => ?_) (fun c9 => ?_)
  · replace hT := (if_neg c9).symm.trans hT
    exact k_MO_isFull_L44 l hlo x1 hx1 F hlk hr M _ _ _ hS (lv_sub hl [0, 1] rfl) hT
  · replace hT := (if_pos c9).symm.trans hT
    refine lv_aload_n F.hx F.hb d_MO_isFull_34 rfl (lv_at hl 0 rfl) ?_
    refine r_iconst F.hx F.hb d_MO_isFull_35 ?_
    obtain ⟨q10, hq10, hT⟩ := q_obind hT
    refine r_backI F hS (r_runV (k := 191) (N := 68) (T := T1) (As := [vI 4]) F hS (show 191 < 231 by decide) (show shK 191 = 5 from rfl) rfl (c_MO_fresher l F.2.2.1 M 4 (inr_c rfl) _ hq10) gs_MO_222 hd_MO_fresher ⟨Nat.le_of_ble_eq_true rfl, Nat.le_of_ble_eq_true rfl⟩ rfl hl.1 (Nat.le_of_ble_eq_true rfl) ⟨Nat.zero_le _, Nat.zero_le _⟩ rfl d_MO_isFull_36) (fun H locs hS h11 => ?_)
    refine r_bipush F.hx F.hb d_MO_isFull_39 rfl ?_
    refine r_icmp_eq (tgt := 75) F.hx F.hb h11 (inr_c rfl) d_MO_isFull_41 (by decide) (fun c12 => ?_) (fun c12 => ?_)
    · replace hT := (if_pos c12).symm.trans hT
      refine r_iconst F.hx F.hb d_MO_isFull_75 ?_
      refine lv_goto (tgt := 80) F.hx F.hb d_MO_isFull_76 (by decide) ?_
      cases hT
      exact r_zret F hlk hr hS (Or.inr rfl) d_MO_isFull_80
    · replace hT := (if_neg c12).symm.trans hT
      exact k_MO_isFull_L44 l hlo x1 hx1 F hlk hr M _ _ _ hS (lv_sub hl [0, 1] rfl) hT
set_option maxHeartbeats 4000000 in
set_option maxRecDepth 100000 in
theorem k_MO_isFull_L14 (l : Launch) {p : Program} {e : Env} {s : State} {m : MethodId} {below : List Frame} {meth : Method} {c : Code} {b n : Nat} {C : CT} (hlo : 231 ≤ n) (x1 : Int) (hx1 : InR x1) (F : Cx b p m c b_MO_isFull 2 s ([.ref (b + 191), vI x1] : List Value).toArray "WardFallsModel" C n 231) (hlk : meth.locks = false) (hr : meth.sig.returnType = some .boolean) {res : Int} (M : Mem)  (H : Heap) (locs : List Loc) (ls : Array Slot) (hS : St b C n M s H locs) (hl : lv_has ls 2 [(0, .ref (b + 191)), (1, vI x1)]) (hT : t_MO_isFull_L14 x1 M = some res) : W p l e (headSpec (wsM y_MO_isFull b_MO_isFull 2 (some .boolean)) (rmD 1)).room s m ([.ref (b + 191), vI x1] : List Value).toArray below meth c H locs 0 0 (MQ below (QZ b C n M res) ([.ref (b + 191), vI x1] : List Value).toArray s 0 0 (frb b)) (F0 m 14 ls []) := by
  unfold t_MO_isFull_L14 at hT
  refine lv_iload_n F.hx F.hb d_MO_isFull_14 rfl (lv_at hl 1 rfl) ?_
  refine r_iconst F.hx F.hb d_MO_isFull_15 ?_
  refine r_icmp_ne (tgt := 29) F.hx F.hb hx1 (inr_c rfl) d_MO_isFull_16 (by decide) (fun c5 => ?_) (fun c5 => ?_)
  · replace hT := (if_neg c5).symm.trans hT
    exact k_MO_isFull_L29 l hlo x1 hx1 F hlk hr M _ _ _ hS (lv_sub hl [0, 1] rfl) hT
  · replace hT := (if_pos c5).symm.trans hT
    refine lv_aload_n F.hx F.hb d_MO_isFull_19 rfl (lv_at hl 0 rfl) ?_
    refine r_iconst F.hx F.hb d_MO_isFull_20 ?_
    obtain ⟨q6, hq6, hT⟩ := q_obind hT
    refine r_backI F hS (r_runV (k := 191) (N := 68) (T := T1) (As := [vI 3]) F hS (show 191 < 231 by decide) (show shK 191 = 5 from rfl) rfl (c_MO_fresher l F.2.2.1 M 3 (inr_c rfl) _ hq6) gs_MO_222 hd_MO_fresher ⟨Nat.le_of_ble_eq_true rfl, Nat.le_of_ble_eq_true rfl⟩ rfl hl.1 (Nat.le_of_ble_eq_true rfl) ⟨Nat.zero_le _, Nat.zero_le _⟩ rfl d_MO_isFull_21) (fun H locs hS h7 => ?_)
    refine r_bipush F.hx F.hb d_MO_isFull_24 rfl ?_
    refine r_icmp_eq (tgt := 75) F.hx F.hb h7 (inr_c rfl) d_MO_isFull_26 (by decide) (fun c8 => ?_) (fun c8 => ?_)
    · replace hT := (if_pos c8).symm.trans hT
      refine r_iconst F.hx F.hb d_MO_isFull_75 ?_
      refine lv_goto (tgt := 80) F.hx F.hb d_MO_isFull_76 (by decide) ?_
      cases hT
      exact r_zret F hlk hr hS (Or.inr rfl) d_MO_isFull_80
    · replace hT := (if_neg c8).symm.trans hT
      exact k_MO_isFull_L29 l hlo x1 hx1 F hlk hr M _ _ _ hS (lv_sub hl [0, 1] rfl) hT
set_option maxHeartbeats 4000000 in
set_option maxRecDepth 100000 in
theorem c_MO_isFull (l : Launch) {b n : Nat} {C : CT} (hlo : 231 ≤ n) (M : Mem) (x1 : Int) (hx1 : InR x1) (res : Int) (hT : t_MO_isFull M x1 = some res) : CM l b C n 1 y_MO_isFull b_MO_isFull 2 (some .boolean) [.ref (b + 191), vI x1] M (QZ b C n M res) := by
  refine CM.of (lo := 231) (ow := "WardFallsModel") (by decide) rfl (Nat.le_of_ble_eq_true rfl) hlo (fun p e s m below meth c F hlk hr hS ls hl => ?_)
  have hl : lv_has ls 2 [(0, .ref (b + 191)), (1, vI x1)] := hl
  unfold t_MO_isFull at hT
  refine lv_iload_n F.hx F.hb d_MO_isFull_0 rfl (lv_at hl 1 rfl) ?_
  refine r_iconst F.hx F.hb d_MO_isFull_1 ?_
  refine r_icmp_ne (tgt := 14) F.hx F.hb hx1 (inr_c rfl) d_MO_isFull_2 (by decide) (fun c1 => ?_) (fun c1 => ?_)
  · replace hT := (if_neg c1).symm.trans hT
    exact k_MO_isFull_L14 l hlo x1 hx1 F hlk hr M _ _ _ hS (lv_sub hl [0, 1] rfl) hT
  · replace hT := (if_pos c1).symm.trans hT
    refine lv_aload_n F.hx F.hb d_MO_isFull_5 rfl (lv_at hl 0 rfl) ?_
    refine r_iconst F.hx F.hb d_MO_isFull_6 ?_
    obtain ⟨q2, hq2, hT⟩ := q_obind hT
    refine r_backI F hS (r_runV (k := 191) (N := 68) (T := T1) (As := [vI 2]) F hS (show 191 < 231 by decide) (show shK 191 = 5 from rfl) rfl (c_MO_fresher l F.2.2.1 M 2 (inr_c rfl) _ hq2) gs_MO_222 hd_MO_fresher ⟨Nat.le_of_ble_eq_true rfl, Nat.le_of_ble_eq_true rfl⟩ rfl hl.1 (Nat.le_of_ble_eq_true rfl) ⟨Nat.zero_le _, Nat.zero_le _⟩ rfl d_MO_isFull_7) (fun H locs hS h3 => ?_)
    refine r_iconst F.hx F.hb d_MO_isFull_10 ?_
    refine r_icmp_eq (tgt := 75) F.hx F.hb h3 (inr_c rfl) d_MO_isFull_11 (by decide) (fun c4 => ?_) (fun c4 => ?_)
    · replace hT := (if_pos c4).symm.trans hT
      refine r_iconst F.hx F.hb d_MO_isFull_75 ?_
      refine lv_goto (tgt := 80) F.hx F.hb d_MO_isFull_76 (by decide) ?_
      cases hT
      exact r_zret F hlk hr hS (Or.inr rfl) d_MO_isFull_80
    · replace hT := (if_neg c4).symm.trans hT
      exact k_MO_isFull_L14 l hlo x1 hx1 F hlk hr M _ _ _ hS (lv_sub hl [0, 1] rfl) hT
theorem d_MO_isTold_0 : decode b_MO_isTold 0 = .ok (.aload_n 0, 1) := dc_42 (by decide +kernel)
theorem d_MO_isTold_1 : decode b_MO_isTold 1 = .ok (.getfield 229, 3) := dc_180 (by decide +kernel)
theorem d_MO_isTold_4 : decode b_MO_isTold 4 = .ok (.iload_n 1, 1) := dc_27 (by decide +kernel)
theorem d_MO_isTold_5 : decode b_MO_isTold 5 = .ok (.ishr, 1) := dc_122 (by decide +kernel)
theorem d_MO_isTold_6 : decode b_MO_isTold 6 = .ok (.iconst 1, 1) := dc_4 (by decide +kernel)
theorem d_MO_isTold_7 : decode b_MO_isTold 7 = .ok (.iand, 1) := dc_126 (by decide +kernel)
theorem d_MO_isTold_8 : decode b_MO_isTold 8 = .ok (.iconst 1, 1) := dc_4 (by decide +kernel)
theorem d_MO_isTold_9 : decode b_MO_isTold 9 = .ok (.if_icmp .ne 7, 3) := dc_160 (by decide +kernel)
theorem d_MO_isTold_12 : decode b_MO_isTold 12 = .ok (.iconst 1, 1) := dc_4 (by decide +kernel)
theorem d_MO_isTold_13 : decode b_MO_isTold 13 = .ok (.goto 4, 3) := dc_167 (by decide +kernel)
theorem d_MO_isTold_16 : decode b_MO_isTold 16 = .ok (.iconst 0, 1) := dc_3 (by decide +kernel)
theorem d_MO_isTold_17 : decode b_MO_isTold 17 = .ok (.ireturn, 1) := dc_172 (by decide +kernel)
def t_MO_isTold (M : Mem) (x1 : Int) : Int := (if (q_and (q_shr (M.1 191 17) x1) 1) = 1 then 1 else 0)
set_option maxHeartbeats 4000000 in
set_option maxRecDepth 100000 in
theorem c_MO_isTold (l : Launch) {b n : Nat} {C : CT} (hlo : 231 ≤ n) (M : Mem) (x1 : Int) (hx1 : InR x1) (res : Int) (hT : t_MO_isTold M x1 = res) : CM l b C n 0 y_MO_isTold b_MO_isTold 2 (some .boolean) [.ref (b + 191), vI x1] M (QZ b C n M res) := by
  refine CM.of (lo := 231) (ow := "WardFallsModel") (by decide) rfl (Nat.le_of_ble_eq_true rfl) hlo (fun p e s m below meth c F hlk hr hS ls hl => ?_)
  have hl : lv_has ls 2 [(0, .ref (b + 191)), (1, vI x1)] := hl
  unfold t_MO_isTold at hT
  refine lv_aload_n F.hx F.hb d_MO_isTold_0 rfl (lv_at hl 0 rfl) ?_
  refine r_get (v := vI (M.1 191 17)) (N := 68) (T := T1) (j := 17) F hS (show 191 < 231 by decide) (show shK 191 = 5 from rfl) (show shN 191 = 68 from rfl) rfl (Nat.le_of_ble_eq_true rfl) ing1 mw_1406 (fv_int rfl) d_MO_isTold_1 ?_
  have i1 := hS.rng 191 17
  refine lv_iload_n F.hx F.hb d_MO_isTold_4 rfl (lv_at hl 1 rfl) ?_
  refine r_ishr F.hx F.hb d_MO_isTold_5 ?_
  refine r_iconst F.hx F.hb d_MO_isTold_6 ?_
  refine r_iand F.hx F.hb d_MO_isTold_7 ?_
  refine r_iconst F.hx F.hb d_MO_isTold_8 ?_
  refine r_icmp_ne (tgt := 16) F.hx F.hb (q_inr_toInt _) (inr_c rfl) d_MO_isTold_9 (by decide) (fun c2 => ?_) (fun c2 => ?_)
  · replace hT := (if_neg c2).symm.trans hT
    refine r_iconst F.hx F.hb d_MO_isTold_16 ?_
    subst hT
    exact r_zret F hlk hr hS (Or.inl rfl) d_MO_isTold_17
  · replace hT := (if_pos c2).symm.trans hT
    refine r_iconst F.hx F.hb d_MO_isTold_12 ?_
    refine lv_goto (tgt := 17) F.hx F.hb d_MO_isTold_13 (by decide) ?_
    subst hT
    exact r_zret F hlk hr hS (Or.inr rfl) d_MO_isTold_17
theorem d_MO_wardLine_0 : decode b_MO_wardLine 0 = .ok (.aload_n 0, 1) := dc_42 (by decide +kernel)
theorem d_MO_wardLine_1 : decode b_MO_wardLine 1 = .ok (.getfield 16, 3) := dc_180 (by decide +kernel)
theorem d_MO_wardLine_4 : decode b_MO_wardLine 4 = .ok (.iload_n 1, 1) := dc_27 (by decide +kernel)
theorem d_MO_wardLine_5 : decode b_MO_wardLine 5 = .ok (.aload_n 0, 1) := dc_42 (by decide +kernel)
theorem d_MO_wardLine_6 : decode b_MO_wardLine 6 = .ok (.aload_n 0, 1) := dc_42 (by decide +kernel)
theorem d_MO_wardLine_7 : decode b_MO_wardLine 7 = .ok (.getfield 16, 3) := dc_180 (by decide +kernel)
theorem d_MO_wardLine_10 : decode b_MO_wardLine 10 = .ok (.iconst 4, 1) := dc_7 (by decide +kernel)
theorem d_MO_wardLine_11 : decode b_MO_wardLine 11 = .ok (.aload_n 0, 1) := dc_42 (by decide +kernel)
theorem d_MO_wardLine_12 : decode b_MO_wardLine 12 = .ok (.iconst 2, 1) := dc_5 (by decide +kernel)
theorem d_MO_wardLine_13 : decode b_MO_wardLine 13 = .ok (.invokevirtual 222, 3) := dc_182 (by decide +kernel)
theorem d_MO_wardLine_16 : decode b_MO_wardLine 16 = .ok (.invokevirtual 266, 3) := dc_182 (by decide +kernel)
theorem d_MO_wardLine_19 : decode b_MO_wardLine 19 = .ok (.iastore, 1) := dc_79 (by decide +kernel)
theorem d_MO_wardLine_20 : decode b_MO_wardLine 20 = .ok (.aload_n 0, 1) := dc_42 (by decide +kernel)
theorem d_MO_wardLine_21 : decode b_MO_wardLine 21 = .ok (.getfield 199, 3) := dc_180 (by decide +kernel)
theorem d_MO_wardLine_24 : decode b_MO_wardLine 24 = .ok (.ifCond .ne 33, 3) := dc_154 (by decide +kernel)
theorem d_MO_wardLine_27 : decode b_MO_wardLine 27 = .ok (.aload_n 0, 1) := dc_42 (by decide +kernel)
theorem d_MO_wardLine_28 : decode b_MO_wardLine 28 = .ok (.getfield 164, 3) := dc_180 (by decide +kernel)
theorem d_MO_wardLine_31 : decode b_MO_wardLine 31 = .ok (.ifCond .ne 21, 3) := dc_154 (by decide +kernel)
theorem d_MO_wardLine_34 : decode b_MO_wardLine 34 = .ok (.aload_n 0, 1) := dc_42 (by decide +kernel)
theorem d_MO_wardLine_35 : decode b_MO_wardLine 35 = .ok (.getfield 174, 3) := dc_180 (by decide +kernel)
theorem d_MO_wardLine_38 : decode b_MO_wardLine 38 = .ok (.bipush 8, 2) := dc_16 (by decide +kernel)
theorem d_MO_wardLine_40 : decode b_MO_wardLine 40 = .ok (.if_icmp .lt 12, 3) := dc_161 (by decide +kernel)
theorem d_MO_wardLine_43 : decode b_MO_wardLine 43 = .ok (.aload_n 0, 1) := dc_42 (by decide +kernel)
theorem d_MO_wardLine_44 : decode b_MO_wardLine 44 = .ok (.getfield 174, 3) := dc_180 (by decide +kernel)
theorem d_MO_wardLine_47 : decode b_MO_wardLine 47 = .ok (.bipush 12, 2) := dc_16 (by decide +kernel)
theorem d_MO_wardLine_49 : decode b_MO_wardLine 49 = .ok (.if_icmp .le 8, 3) := dc_164 (by decide +kernel)
theorem d_MO_wardLine_52 : decode b_MO_wardLine 52 = .ok (.aload_n 0, 1) := dc_42 (by decide +kernel)
theorem d_MO_wardLine_53 : decode b_MO_wardLine 53 = .ok (.iconst 1, 1) := dc_4 (by decide +kernel)
theorem d_MO_wardLine_54 : decode b_MO_wardLine 54 = .ok (.invokevirtual 208, 3) := dc_182 (by decide +kernel)
theorem d_MO_wardLine_57 : decode b_MO_wardLine 57 = .ok (.aload_n 0, 1) := dc_42 (by decide +kernel)
theorem d_MO_wardLine_58 : decode b_MO_wardLine 58 = .ok (.getfield 199, 3) := dc_180 (by decide +kernel)
theorem d_MO_wardLine_61 : decode b_MO_wardLine 61 = .ok (.ifCond .eq 4, 3) := dc_153 (by decide +kernel)
theorem d_MO_wardLine_64 : decode b_MO_wardLine 64 = .ok (.return_, 1) := dc_177 (by decide +kernel)
theorem d_MO_wardLine_65 : decode b_MO_wardLine 65 = .ok (.aload_n 0, 1) := dc_42 (by decide +kernel)
theorem d_MO_wardLine_66 : decode b_MO_wardLine 66 = .ok (.getfield 19, 3) := dc_180 (by decide +kernel)
theorem d_MO_wardLine_69 : decode b_MO_wardLine 69 = .ok (.iload_n 1, 1) := dc_27 (by decide +kernel)
theorem d_MO_wardLine_70 : decode b_MO_wardLine 70 = .ok (.aload_n 0, 1) := dc_42 (by decide +kernel)
theorem d_MO_wardLine_71 : decode b_MO_wardLine 71 = .ok (.getfield 174, 3) := dc_180 (by decide +kernel)
theorem d_MO_wardLine_74 : decode b_MO_wardLine 74 = .ok (.bipush 8, 2) := dc_16 (by decide +kernel)
theorem d_MO_wardLine_76 : decode b_MO_wardLine 76 = .ok (.isub, 1) := dc_100 (by decide +kernel)
theorem d_MO_wardLine_77 : decode b_MO_wardLine 77 = .ok (.iastore, 1) := dc_79 (by decide +kernel)
theorem d_MO_wardLine_78 : decode b_MO_wardLine 78 = .ok (.aload_n 0, 1) := dc_42 (by decide +kernel)
theorem d_MO_wardLine_79 : decode b_MO_wardLine 79 = .ok (.invokevirtual 205, 3) := dc_182 (by decide +kernel)
theorem d_MO_wardLine_82 : decode b_MO_wardLine 82 = .ok (.aload_n 0, 1) := dc_42 (by decide +kernel)
theorem d_MO_wardLine_83 : decode b_MO_wardLine 83 = .ok (.getfield 22, 3) := dc_180 (by decide +kernel)
theorem d_MO_wardLine_86 : decode b_MO_wardLine 86 = .ok (.iload_n 1, 1) := dc_27 (by decide +kernel)
theorem d_MO_wardLine_87 : decode b_MO_wardLine 87 = .ok (.aload_n 0, 1) := dc_42 (by decide +kernel)
theorem d_MO_wardLine_88 : decode b_MO_wardLine 88 = .ok (.iconst 0, 1) := dc_3 (by decide +kernel)
theorem d_MO_wardLine_89 : decode b_MO_wardLine 89 = .ok (.bipush 99, 2) := dc_16 (by decide +kernel)
theorem d_MO_wardLine_91 : decode b_MO_wardLine 91 = .ok (.invokevirtual 226, 3) := dc_182 (by decide +kernel)
theorem d_MO_wardLine_94 : decode b_MO_wardLine 94 = .ok (.iastore, 1) := dc_79 (by decide +kernel)
theorem d_MO_wardLine_95 : decode b_MO_wardLine 95 = .ok (.aload_n 0, 1) := dc_42 (by decide +kernel)
theorem d_MO_wardLine_96 : decode b_MO_wardLine 96 = .ok (.iconst 2, 1) := dc_5 (by decide +kernel)
theorem d_MO_wardLine_97 : decode b_MO_wardLine 97 = .ok (.aload_n 0, 1) := dc_42 (by decide +kernel)
theorem d_MO_wardLine_98 : decode b_MO_wardLine 98 = .ok (.iconst 2, 1) := dc_5 (by decide +kernel)
theorem d_MO_wardLine_99 : decode b_MO_wardLine 99 = .ok (.invokevirtual 222, 3) := dc_182 (by decide +kernel)
theorem d_MO_wardLine_102 : decode b_MO_wardLine 102 = .ok (.iconst 1, 1) := dc_4 (by decide +kernel)
theorem d_MO_wardLine_103 : decode b_MO_wardLine 103 = .ok (.iadd, 1) := dc_96 (by decide +kernel)
theorem d_MO_wardLine_104 : decode b_MO_wardLine 104 = .ok (.invokevirtual 238, 3) := dc_182 (by decide +kernel)
theorem d_MO_wardLine_107 : decode b_MO_wardLine 107 = .ok (.return_, 1) := dc_177 (by decide +kernel)
def t_MO_wardLine_L57 (x1 : Int)  (M : Mem)  : Option (Mem) := (if (M.1 191 24) = 0 then (qguard (0 ≤ x1 ∧ x1 < 8) (qlet (setI M 195 x1 (w32 ((M.1 191 23) - 8))) fun M19 => (obind (t_MO_token M19) fun q20 => (obind (t_MO_numeral q20 0 99) fun q22 => (qguard (0 ≤ x1 ∧ x1 < 8) (qlet (setI (q22.1) 196 x1 (q22.2)) fun M25 => (obind (t_MO_fresher M25 2) fun q26 => (obind (t_MO_reads M25 2 (w32 (q26 + 1))) fun q28 => (some q28))))))))) else (some M))
def t_MO_wardLine_L52 (x1 : Int)  (M : Mem)  : Option (Mem) := (qlet (t_MO_wrong M 1) fun q30 => (t_MO_wardLine_L57 x1 q30))
def t_MO_wardLine (M : Mem) (x1 : Int) : Option (Mem) := (obind (t_MO_fresher M 2) fun q1 => (obind (t_MO_fresh M 194 8 4 q1) fun q3 => (qguard (0 ≤ x1 ∧ x1 < 8) (qlet (setI (q3.1) 194 x1 (q3.2)) fun M6 => (if (M6.1 191 24) = 0 then (if (M6.1 191 22) = 0 then (if (M6.1 191 23) < 8 then (t_MO_wardLine_L52 x1 M6) else (if (M6.1 191 23) ≤ 12 then (t_MO_wardLine_L57 x1 M6) else (t_MO_wardLine_L52 x1 M6))) else (t_MO_wardLine_L52 x1 M6)) else (t_MO_wardLine_L57 x1 M6))))))
set_option maxHeartbeats 4000000 in
set_option maxRecDepth 100000 in
theorem k_MO_wardLine_L57 (l : Launch) {p : Program} {e : Env} {s : State} {m : MethodId} {below : List Frame} {meth : Method} {c : Code} {b n : Nat} {C : CT} (hlo : 231 ≤ n) (x1 : Int) (hx1 : InR x1) (F : Cx b p m c b_MO_wardLine 2 s ([.ref (b + 191), vI x1] : List Value).toArray "WardFallsModel" C n 231) (hlk : meth.locks = false) (hr : meth.sig.returnType = none) {res : Mem} (M : Mem)  (H : Heap) (locs : List Loc) (ls : Array Slot) (hS : St b C n M s H locs) (hl : lv_has ls 2 [(0, .ref (b + 191)), (1, vI x1)]) (hT : t_MO_wardLine_L57 x1 M = some res) : W p l e (headSpec (wsM y_MO_wardLine b_MO_wardLine 2 (none)) (rmD 8)).room s m ([.ref (b + 191), vI x1] : List Value).toArray below meth c H locs 0 0 (MQ below (QV b C n res) ([.ref (b + 191), vI x1] : List Value).toArray s 0 0 (frb b)) (F0 m 57 ls []) := by
  unfold t_MO_wardLine_L57 at hT
  refine lv_aload_n F.hx F.hb d_MO_wardLine_57 rfl (lv_at hl 0 rfl) ?_
  refine r_get (v := vI (M.1 191 24)) (N := 68) (T := T1) (j := 24) F hS (show 191 < 231 by decide) (show shK 191 = 5 from rfl) (show shN 191 = 68 from rfl) rfl (Nat.le_of_ble_eq_true rfl) ing1 mw_1413 (fv_int rfl) d_MO_wardLine_58 ?_
  have i15 := hS.rng 191 24
  refine r_if_eq (tgt := 65) F.hx F.hb i15 d_MO_wardLine_61 (by decide) (fun c16 => ?_) (fun c16 => ?_)
  · replace hT := (if_pos c16).symm.trans hT
    refine lv_aload_n F.hx F.hb d_MO_wardLine_65 rfl (lv_at hl 0 rfl) ?_
    refine r_get (v := .ref (b + 195)) (N := 68) (T := T1) (j := 5) F hS (show 191 < 231 by decide) (show shK 191 = 5 from rfl) (show shN 191 = 68 from rfl) rfl (Nat.le_of_ble_eq_true rfl) ing1 mw_1394 (fv_sg rfl rfl rfl) d_MO_wardLine_66 ?_
    refine lv_iload_n F.hx F.hb d_MO_wardLine_69 rfl (lv_at hl 1 rfl) ?_
    refine lv_aload_n F.hx F.hb d_MO_wardLine_70 rfl (lv_at hl 0 rfl) ?_
    refine r_get (v := vI (M.1 191 23)) (N := 68) (T := T1) (j := 23) F hS (show 191 < 231 by decide) (show shK 191 = 5 from rfl) (show shN 191 = 68 from rfl) rfl (Nat.le_of_ble_eq_true rfl) ing1 mw_1412 (fv_int rfl) d_MO_wardLine_71 ?_
    have i17 := hS.rng 191 23
    refine r_bipush F.hx F.hb d_MO_wardLine_74 rfl ?_
    refine r_isub F.hx F.hb d_MO_wardLine_76 ?_
    obtain ⟨⟨g18a, g18b⟩, hT⟩ := q_guard hT
    refine r_iast F hS (show 195 < 231 by decide) (show shK 195 = 0 from rfl) (show shN 195 = 8 from rfl) hx1 (inr_w32 _) g18a g18b d_MO_wardLine_77 (fun H locs hS => ?_)
    obtain ⟨M19, eM19⟩ : ∃ q, q = (setI M 195 x1 (w32 ((M.1 191 23) - 8))) := ⟨_, rfl⟩
    replace hS : St b C n M19 s H locs := by rw [eM19]; exact hS
    replace hT := qlet_eq hT eM19
    refine lv_aload_n F.hx F.hb d_MO_wardLine_78 rfl (lv_at hl 0 rfl) ?_
    obtain ⟨q20, hq20, hT⟩ := q_obind hT
    refine r_backV F hS (r_runV (k := 191) (N := 68) (T := T1) (As := []) F hS (show 191 < 231 by decide) (show shK 191 = 5 from rfl) rfl (c_MO_token l F.2.2.1 M19 _ hq20) gs_MO_205 hd_MO_token ⟨Nat.le_of_ble_eq_true rfl, Nat.le_of_ble_eq_true rfl⟩ rfl hl.1 (Nat.le_of_ble_eq_true rfl) ⟨Nat.zero_le _, Nat.zero_le _⟩ rfl d_MO_wardLine_79) (fun H locs hS => ?_)
    refine lv_aload_n F.hx F.hb d_MO_wardLine_82 rfl (lv_at hl 0 rfl) ?_
    refine r_get (v := .ref (b + 196)) (N := 68) (T := T1) (j := 6) F hS (show 191 < 231 by decide) (show shK 191 = 5 from rfl) (show shN 191 = 68 from rfl) rfl (Nat.le_of_ble_eq_true rfl) ing1 mw_1395 (fv_sg rfl rfl rfl) d_MO_wardLine_83 ?_
    refine lv_iload_n F.hx F.hb d_MO_wardLine_86 rfl (lv_at hl 1 rfl) ?_
    refine lv_aload_n F.hx F.hb d_MO_wardLine_87 rfl (lv_at hl 0 rfl) ?_
    refine r_iconst F.hx F.hb d_MO_wardLine_88 ?_
    refine r_bipush F.hx F.hb d_MO_wardLine_89 rfl ?_
    obtain ⟨q22, hq22, hT⟩ := q_obind hT
    refine r_backI F hS (r_runV (k := 191) (N := 68) (T := T1) (As := [vI 0, vI 99]) F hS (show 191 < 231 by decide) (show shK 191 = 5 from rfl) rfl (c_MO_numeral l F.2.2.1 q20 0 99 (inr_c rfl) (inr_c rfl) _ hq22) gs_MO_226 hd_MO_numeral ⟨Nat.le_of_ble_eq_true rfl, Nat.le_of_ble_eq_true rfl⟩ rfl hl.1 (Nat.le_of_ble_eq_true rfl) ⟨Nat.zero_le _, Nat.zero_le _⟩ rfl d_MO_wardLine_91) (fun H locs hS h23 => ?_)
    obtain ⟨⟨g24a, g24b⟩, hT⟩ := q_guard hT
    refine r_iast F hS (show 196 < 231 by decide) (show shK 196 = 0 from rfl) (show shN 196 = 8 from rfl) hx1 h23 g24a g24b d_MO_wardLine_94 (fun H locs hS => ?_)
    obtain ⟨M25, eM25⟩ : ∃ q, q = (setI (q22.1) 196 x1 (q22.2)) := ⟨_, rfl⟩
    replace hS : St b C n M25 s H locs := by rw [eM25]; exact hS
    replace hT := qlet_eq hT eM25
    refine lv_aload_n F.hx F.hb d_MO_wardLine_95 rfl (lv_at hl 0 rfl) ?_
    refine r_iconst F.hx F.hb d_MO_wardLine_96 ?_
    refine lv_aload_n F.hx F.hb d_MO_wardLine_97 rfl (lv_at hl 0 rfl) ?_
    refine r_iconst F.hx F.hb d_MO_wardLine_98 ?_
    obtain ⟨q26, hq26, hT⟩ := q_obind hT
    refine r_backI F hS (r_runV (k := 191) (N := 68) (T := T1) (As := [vI 2]) F hS (show 191 < 231 by decide) (show shK 191 = 5 from rfl) rfl (c_MO_fresher l F.2.2.1 M25 2 (inr_c rfl) _ hq26) gs_MO_222 hd_MO_fresher ⟨Nat.le_of_ble_eq_true rfl, Nat.le_of_ble_eq_true rfl⟩ rfl hl.1 (Nat.le_of_ble_eq_true rfl) ⟨Nat.zero_le _, Nat.zero_le _⟩ rfl d_MO_wardLine_99) (fun H locs hS h27 => ?_)
    refine r_iconst F.hx F.hb d_MO_wardLine_102 ?_
    refine r_iadd F.hx F.hb d_MO_wardLine_103 ?_
    obtain ⟨q28, hq28, hT⟩ := q_obind hT
    refine r_backV F hS (r_runV (k := 191) (N := 68) (T := T1) (As := [vI 2, vI (w32 (q26 + 1))]) F hS (show 191 < 231 by decide) (show shK 191 = 5 from rfl) rfl (c_MO_reads l F.2.2.1 M25 2 (w32 (q26 + 1)) (inr_c rfl) (inr_w32 _) _ hq28) gs_MO_238 hd_MO_reads ⟨Nat.le_of_ble_eq_true rfl, Nat.le_of_ble_eq_true rfl⟩ rfl hl.1 (Nat.le_of_ble_eq_true rfl) ⟨Nat.zero_le _, Nat.zero_le _⟩ rfl d_MO_wardLine_104) (fun H locs hS => ?_)
    cases hT
    exact r_vret F hlk hr hS d_MO_wardLine_107
  · replace hT := (if_neg c16).symm.trans hT
    cases hT
    exact r_vret F hlk hr hS d_MO_wardLine_64
set_option maxHeartbeats 4000000 in
set_option maxRecDepth 100000 in
theorem k_MO_wardLine_L52 (l : Launch) {p : Program} {e : Env} {s : State} {m : MethodId} {below : List Frame} {meth : Method} {c : Code} {b n : Nat} {C : CT} (hlo : 231 ≤ n) (x1 : Int) (hx1 : InR x1) (F : Cx b p m c b_MO_wardLine 2 s ([.ref (b + 191), vI x1] : List Value).toArray "WardFallsModel" C n 231) (hlk : meth.locks = false) (hr : meth.sig.returnType = none) {res : Mem} (M : Mem)  (H : Heap) (locs : List Loc) (ls : Array Slot) (hS : St b C n M s H locs) (hl : lv_has ls 2 [(0, .ref (b + 191)), (1, vI x1)]) (hT : t_MO_wardLine_L52 x1 M = some res) : W p l e (headSpec (wsM y_MO_wardLine b_MO_wardLine 2 (none)) (rmD 8)).room s m ([.ref (b + 191), vI x1] : List Value).toArray below meth c H locs 0 0 (MQ below (QV b C n res) ([.ref (b + 191), vI x1] : List Value).toArray s 0 0 (frb b)) (F0 m 52 ls []) := by
  unfold t_MO_wardLine_L52 at hT
  refine lv_aload_n F.hx F.hb d_MO_wardLine_52 rfl (lv_at hl 0 rfl) ?_
  refine r_iconst F.hx F.hb d_MO_wardLine_53 ?_
  obtain ⟨q30, hq30⟩ : ∃ q, q = (t_MO_wrong M 1) := ⟨_, rfl⟩
  replace hT := qlet_eq hT hq30
  refine r_backV F hS (r_runV (k := 191) (N := 68) (T := T1) (As := [vI 1]) F hS (show 191 < 231 by decide) (show shK 191 = 5 from rfl) rfl (c_MO_wrong l F.2.2.1 M 1 (inr_c rfl) _ hq30.symm) gs_MO_208 hd_MO_wrong ⟨Nat.le_of_ble_eq_true rfl, Nat.le_of_ble_eq_true rfl⟩ rfl hl.1 (Nat.le_of_ble_eq_true rfl) ⟨Nat.zero_le _, Nat.zero_le _⟩ rfl d_MO_wardLine_54) (fun H locs hS => ?_)
  exact k_MO_wardLine_L57 l hlo x1 hx1 F hlk hr q30 _ _ _ hS (lv_sub hl [0, 1] rfl) hT
set_option maxHeartbeats 4000000 in
set_option maxRecDepth 100000 in
theorem c_MO_wardLine (l : Launch) {b n : Nat} {C : CT} (hlo : 231 ≤ n) (M : Mem) (x1 : Int) (hx1 : InR x1) (res : Mem) (hT : t_MO_wardLine M x1 = some res) : CM l b C n 8 y_MO_wardLine b_MO_wardLine 2 (none) [.ref (b + 191), vI x1] M (QV b C n res) := by
  refine CM.of (lo := 231) (ow := "WardFallsModel") (by decide) rfl (Nat.le_of_ble_eq_true rfl) hlo (fun p e s m below meth c F hlk hr hS ls hl => ?_)
  have hl : lv_has ls 2 [(0, .ref (b + 191)), (1, vI x1)] := hl
  unfold t_MO_wardLine at hT
  refine lv_aload_n F.hx F.hb d_MO_wardLine_0 rfl (lv_at hl 0 rfl) ?_
  refine r_get (v := .ref (b + 194)) (N := 68) (T := T1) (j := 4) F hS (show 191 < 231 by decide) (show shK 191 = 5 from rfl) (show shN 191 = 68 from rfl) rfl (Nat.le_of_ble_eq_true rfl) ing1 mw_1393 (fv_sg rfl rfl rfl) d_MO_wardLine_1 ?_
  refine lv_iload_n F.hx F.hb d_MO_wardLine_4 rfl (lv_at hl 1 rfl) ?_
  refine lv_aload_n F.hx F.hb d_MO_wardLine_5 rfl (lv_at hl 0 rfl) ?_
  refine lv_aload_n F.hx F.hb d_MO_wardLine_6 rfl (lv_at hl 0 rfl) ?_
  refine r_get (v := .ref (b + 194)) (N := 68) (T := T1) (j := 4) F hS (show 191 < 231 by decide) (show shK 191 = 5 from rfl) (show shN 191 = 68 from rfl) rfl (Nat.le_of_ble_eq_true rfl) ing1 mw_1393 (fv_sg rfl rfl rfl) d_MO_wardLine_7 ?_
  refine r_iconst F.hx F.hb d_MO_wardLine_10 ?_
  refine lv_aload_n F.hx F.hb d_MO_wardLine_11 rfl (lv_at hl 0 rfl) ?_
  refine r_iconst F.hx F.hb d_MO_wardLine_12 ?_
  obtain ⟨q1, hq1, hT⟩ := q_obind hT
  refine r_backI F hS (r_runV (k := 191) (N := 68) (T := T1) (As := [vI 2]) F hS (show 191 < 231 by decide) (show shK 191 = 5 from rfl) rfl (c_MO_fresher l F.2.2.1 M 2 (inr_c rfl) _ hq1) gs_MO_222 hd_MO_fresher ⟨Nat.le_of_ble_eq_true rfl, Nat.le_of_ble_eq_true rfl⟩ rfl hl.1 (Nat.le_of_ble_eq_true rfl) ⟨Nat.zero_le _, Nat.zero_le _⟩ rfl d_MO_wardLine_13) (fun H locs hS h2 => ?_)
  obtain ⟨q3, hq3, hT⟩ := q_obind hT
  refine r_backI F hS (r_runV (k := 191) (N := 68) (T := T1) (As := [.ref (b + 194), vI 4, vI q1]) F hS (show 191 < 231 by decide) (show shK 191 = 5 from rfl) rfl (c_MO_fresh l F.2.2.1 M 194 8 4 q1 (show arrP 0 194 8 231 from ⟨rfl, rfl, by decide⟩) (inr_c rfl) h2 _ hq3) gs_MO_266 hd_MO_fresh ⟨Nat.le_of_ble_eq_true rfl, Nat.le_of_ble_eq_true rfl⟩ rfl hl.1 (Nat.le_of_ble_eq_true rfl) ⟨Nat.zero_le _, Nat.zero_le _⟩ rfl d_MO_wardLine_16) (fun H locs hS h4 => ?_)
  obtain ⟨⟨g5a, g5b⟩, hT⟩ := q_guard hT
  refine r_iast F hS (show 194 < 231 by decide) (show shK 194 = 0 from rfl) (show shN 194 = 8 from rfl) hx1 h4 g5a g5b d_MO_wardLine_19 (fun H locs hS => ?_)
  obtain ⟨M6, eM6⟩ : ∃ q, q = (setI (q3.1) 194 x1 (q3.2)) := ⟨_, rfl⟩
  replace hS : St b C n M6 s H locs := by rw [eM6]; exact hS
  replace hT := qlet_eq hT eM6
  refine lv_aload_n F.hx F.hb d_MO_wardLine_20 rfl (lv_at hl 0 rfl) ?_
  refine r_get (v := vI (M6.1 191 24)) (N := 68) (T := T1) (j := 24) F hS (show 191 < 231 by decide) (show shK 191 = 5 from rfl) (show shN 191 = 68 from rfl) rfl (Nat.le_of_ble_eq_true rfl) ing1 mw_1413 (fv_int rfl) d_MO_wardLine_21 ?_
  have i7 := hS.rng 191 24
  refine r_if_ne (tgt := 57) F.hx F.hb i7 d_MO_wardLine_24 (by decide) (fun c8 => ?_) (fun c8 => ?_)
  · replace hT := (if_neg c8).symm.trans hT
    exact k_MO_wardLine_L57 l hlo x1 hx1 F hlk hr M6 _ _ _ hS (lv_sub hl [0, 1] rfl) hT
  · replace hT := (if_pos c8).symm.trans hT
    refine lv_aload_n F.hx F.hb d_MO_wardLine_27 rfl (lv_at hl 0 rfl) ?_
    refine r_get (v := vI (M6.1 191 22)) (N := 68) (T := T1) (j := 22) F hS (show 191 < 231 by decide) (show shK 191 = 5 from rfl) (show shN 191 = 68 from rfl) rfl (Nat.le_of_ble_eq_true rfl) ing1 mw_1411 (fv_int rfl) d_MO_wardLine_28 ?_
    have i9 := hS.rng 191 22
    refine r_if_ne (tgt := 52) F.hx F.hb i9 d_MO_wardLine_31 (by decide) (fun c10 => ?_) (fun c10 => ?_)
    · replace hT := (if_neg c10).symm.trans hT
      exact k_MO_wardLine_L52 l hlo x1 hx1 F hlk hr M6 _ _ _ hS (lv_sub hl [0, 1] rfl) hT
    · replace hT := (if_pos c10).symm.trans hT
      refine lv_aload_n F.hx F.hb d_MO_wardLine_34 rfl (lv_at hl 0 rfl) ?_
      refine r_get (v := vI (M6.1 191 23)) (N := 68) (T := T1) (j := 23) F hS (show 191 < 231 by decide) (show shK 191 = 5 from rfl) (show shN 191 = 68 from rfl) rfl (Nat.le_of_ble_eq_true rfl) ing1 mw_1412 (fv_int rfl) d_MO_wardLine_35 ?_
      have i11 := hS.rng 191 23
      refine r_bipush F.hx F.hb d_MO_wardLine_38 rfl ?_
      refine r_icmp_lt (tgt := 52) F.hx F.hb i11 (inr_c rfl) d_MO_wardLine_40 (by decide) (fun c12 => ?_) (fun c12 => ?_)
      · replace hT := (if_pos c12).symm.trans hT
        exact k_MO_wardLine_L52 l hlo x1 hx1 F hlk hr M6 _ _ _ hS (lv_sub hl [0, 1] rfl) hT
      · replace hT := (if_neg c12).symm.trans hT
        refine lv_aload_n F.hx F.hb d_MO_wardLine_43 rfl (lv_at hl 0 rfl) ?_
        refine r_get (v := vI (M6.1 191 23)) (N := 68) (T := T1) (j := 23) F hS (show 191 < 231 by decide) (show shK 191 = 5 from rfl) (show shN 191 = 68 from rfl) rfl (Nat.le_of_ble_eq_true rfl) ing1 mw_1412 (fv_int rfl) d_MO_wardLine_44 ?_
        have i13 := hS.rng 191 23
        refine r_bipush F.hx F.hb d_MO_wardLine_47 rfl ?_
        refine r_icmp_le (tgt := 57) F.hx F.hb i13 (inr_c rfl) d_MO_wardLine_49 (by decide) (fun c14 => ?_) (fun c14 => ?_)
        · replace hT := (if_pos c14).symm.trans hT
          exact k_MO_wardLine_L57 l hlo x1 hx1 F hlk hr M6 _ _ _ hS (lv_sub hl [0, 1] rfl) hT
        · replace hT := (if_neg c14).symm.trans hT
          exact k_MO_wardLine_L52 l hlo x1 hx1 F hlk hr M6 _ _ _ hS (lv_sub hl [0, 1] rfl) hT
theorem wn_MO_partLine_0 : ∀ i, i < 94 → bA b_MO_partLine (0 + i) = wB [42, 180, 0, 164, 4, 159, 0, 11, 42, 4, 182, 0, 208, 167, 0, 29, 42, 180, 0, 16, 7, 42, 5, 182, 0, 222, 42, 180, 0, 174, 184, 0, 218, 2, 160, 0, 8, 42, 7, 182, 0, 208, 42, 180, 0, 199, 153, 0, 4, 177, 42, 180, 0, 16, 7, 42, 5, 182, 0, 222, 42, 180, 0, 174, 184, 0, 218, 60, 42, 182, 0, 205, 42, 3, 42, 3, 182, 0, 222, 4, 100, 182, 0, 226, 61, 42, 3, 42, 4, 182, 0, 222, 4, 100] i := wB_of (by decide +kernel)
theorem d_MO_partLine_0 : decode b_MO_partLine 0 = .ok (.aload_n 0, 1) := dc_42 (q0_win (r := 0) wn_MO_partLine_0 (by decide +kernel))
theorem d_MO_partLine_1 : decode b_MO_partLine 1 = .ok (.getfield 164, 3) := dc_180 (qU2_win (r := 1) wn_MO_partLine_0 (by decide +kernel))
theorem d_MO_partLine_4 : decode b_MO_partLine 4 = .ok (.iconst 1, 1) := dc_4 (q0_win (r := 4) wn_MO_partLine_0 (by decide +kernel))
theorem d_MO_partLine_5 : decode b_MO_partLine 5 = .ok (.if_icmp .eq 11, 3) := dc_159 (qS2_win (r := 5) wn_MO_partLine_0 (by decide +kernel))
theorem d_MO_partLine_8 : decode b_MO_partLine 8 = .ok (.aload_n 0, 1) := dc_42 (q0_win (r := 8) wn_MO_partLine_0 (by decide +kernel))
theorem d_MO_partLine_9 : decode b_MO_partLine 9 = .ok (.iconst 1, 1) := dc_4 (q0_win (r := 9) wn_MO_partLine_0 (by decide +kernel))
theorem d_MO_partLine_10 : decode b_MO_partLine 10 = .ok (.invokevirtual 208, 3) := dc_182 (qU2_win (r := 10) wn_MO_partLine_0 (by decide +kernel))
theorem d_MO_partLine_13 : decode b_MO_partLine 13 = .ok (.goto 29, 3) := dc_167 (qS2_win (r := 13) wn_MO_partLine_0 (by decide +kernel))
theorem d_MO_partLine_16 : decode b_MO_partLine 16 = .ok (.aload_n 0, 1) := dc_42 (q0_win (r := 16) wn_MO_partLine_0 (by decide +kernel))
theorem d_MO_partLine_17 : decode b_MO_partLine 17 = .ok (.getfield 16, 3) := dc_180 (qU2_win (r := 17) wn_MO_partLine_0 (by decide +kernel))
theorem d_MO_partLine_20 : decode b_MO_partLine 20 = .ok (.iconst 4, 1) := dc_7 (q0_win (r := 20) wn_MO_partLine_0 (by decide +kernel))
theorem d_MO_partLine_21 : decode b_MO_partLine 21 = .ok (.aload_n 0, 1) := dc_42 (q0_win (r := 21) wn_MO_partLine_0 (by decide +kernel))
theorem d_MO_partLine_22 : decode b_MO_partLine 22 = .ok (.iconst 2, 1) := dc_5 (q0_win (r := 22) wn_MO_partLine_0 (by decide +kernel))
theorem d_MO_partLine_23 : decode b_MO_partLine 23 = .ok (.invokevirtual 222, 3) := dc_182 (qU2_win (r := 23) wn_MO_partLine_0 (by decide +kernel))
theorem d_MO_partLine_26 : decode b_MO_partLine 26 = .ok (.aload_n 0, 1) := dc_42 (q0_win (r := 26) wn_MO_partLine_0 (by decide +kernel))
theorem d_MO_partLine_27 : decode b_MO_partLine 27 = .ok (.getfield 174, 3) := dc_180 (qU2_win (r := 27) wn_MO_partLine_0 (by decide +kernel))
theorem d_MO_partLine_30 : decode b_MO_partLine 30 = .ok (.invokestatic 218, 3) := dc_184 (qU2_win (r := 30) wn_MO_partLine_0 (by decide +kernel))
theorem d_MO_partLine_33 : decode b_MO_partLine 33 = .ok (.iconst (-1), 1) := dc_2 (q0_win (r := 33) wn_MO_partLine_0 (by decide +kernel))
theorem d_MO_partLine_34 : decode b_MO_partLine 34 = .ok (.if_icmp .ne 8, 3) := dc_160 (qS2_win (r := 34) wn_MO_partLine_0 (by decide +kernel))
theorem d_MO_partLine_37 : decode b_MO_partLine 37 = .ok (.aload_n 0, 1) := dc_42 (q0_win (r := 37) wn_MO_partLine_0 (by decide +kernel))
theorem d_MO_partLine_38 : decode b_MO_partLine 38 = .ok (.iconst 4, 1) := dc_7 (q0_win (r := 38) wn_MO_partLine_0 (by decide +kernel))
theorem d_MO_partLine_39 : decode b_MO_partLine 39 = .ok (.invokevirtual 208, 3) := dc_182 (qU2_win (r := 39) wn_MO_partLine_0 (by decide +kernel))
theorem d_MO_partLine_42 : decode b_MO_partLine 42 = .ok (.aload_n 0, 1) := dc_42 (q0_win (r := 42) wn_MO_partLine_0 (by decide +kernel))
theorem d_MO_partLine_43 : decode b_MO_partLine 43 = .ok (.getfield 199, 3) := dc_180 (qU2_win (r := 43) wn_MO_partLine_0 (by decide +kernel))
theorem d_MO_partLine_46 : decode b_MO_partLine 46 = .ok (.ifCond .eq 4, 3) := dc_153 (qS2_win (r := 46) wn_MO_partLine_0 (by decide +kernel))
theorem d_MO_partLine_49 : decode b_MO_partLine 49 = .ok (.return_, 1) := dc_177 (q0_win (r := 49) wn_MO_partLine_0 (by decide +kernel))
theorem d_MO_partLine_50 : decode b_MO_partLine 50 = .ok (.aload_n 0, 1) := dc_42 (q0_win (r := 50) wn_MO_partLine_0 (by decide +kernel))
theorem d_MO_partLine_51 : decode b_MO_partLine 51 = .ok (.getfield 16, 3) := dc_180 (qU2_win (r := 51) wn_MO_partLine_0 (by decide +kernel))
theorem d_MO_partLine_54 : decode b_MO_partLine 54 = .ok (.iconst 4, 1) := dc_7 (q0_win (r := 54) wn_MO_partLine_0 (by decide +kernel))
theorem d_MO_partLine_55 : decode b_MO_partLine 55 = .ok (.aload_n 0, 1) := dc_42 (q0_win (r := 55) wn_MO_partLine_0 (by decide +kernel))
theorem d_MO_partLine_56 : decode b_MO_partLine 56 = .ok (.iconst 2, 1) := dc_5 (q0_win (r := 56) wn_MO_partLine_0 (by decide +kernel))
theorem d_MO_partLine_57 : decode b_MO_partLine 57 = .ok (.invokevirtual 222, 3) := dc_182 (qU2_win (r := 57) wn_MO_partLine_0 (by decide +kernel))
theorem d_MO_partLine_60 : decode b_MO_partLine 60 = .ok (.aload_n 0, 1) := dc_42 (q0_win (r := 60) wn_MO_partLine_0 (by decide +kernel))
theorem d_MO_partLine_61 : decode b_MO_partLine 61 = .ok (.getfield 174, 3) := dc_180 (qU2_win (r := 61) wn_MO_partLine_0 (by decide +kernel))
theorem d_MO_partLine_64 : decode b_MO_partLine 64 = .ok (.invokestatic 218, 3) := dc_184 (qU2_win (r := 64) wn_MO_partLine_0 (by decide +kernel))
theorem d_MO_partLine_67 : decode b_MO_partLine 67 = .ok (.istore_n 1, 1) := dc_60 (q0_win (r := 67) wn_MO_partLine_0 (by decide +kernel))
theorem d_MO_partLine_68 : decode b_MO_partLine 68 = .ok (.aload_n 0, 1) := dc_42 (q0_win (r := 68) wn_MO_partLine_0 (by decide +kernel))
theorem d_MO_partLine_69 : decode b_MO_partLine 69 = .ok (.invokevirtual 205, 3) := dc_182 (qU2_win (r := 69) wn_MO_partLine_0 (by decide +kernel))
theorem d_MO_partLine_72 : decode b_MO_partLine 72 = .ok (.aload_n 0, 1) := dc_42 (q0_win (r := 72) wn_MO_partLine_0 (by decide +kernel))
theorem d_MO_partLine_73 : decode b_MO_partLine 73 = .ok (.iconst 0, 1) := dc_3 (q0_win (r := 73) wn_MO_partLine_0 (by decide +kernel))
theorem d_MO_partLine_74 : decode b_MO_partLine 74 = .ok (.aload_n 0, 1) := dc_42 (q0_win (r := 74) wn_MO_partLine_0 (by decide +kernel))
theorem d_MO_partLine_75 : decode b_MO_partLine 75 = .ok (.iconst 0, 1) := dc_3 (q0_win (r := 75) wn_MO_partLine_0 (by decide +kernel))
theorem d_MO_partLine_76 : decode b_MO_partLine 76 = .ok (.invokevirtual 222, 3) := dc_182 (qU2_win (r := 76) wn_MO_partLine_0 (by decide +kernel))
theorem d_MO_partLine_79 : decode b_MO_partLine 79 = .ok (.iconst 1, 1) := dc_4 (q0_win (r := 79) wn_MO_partLine_0 (by decide +kernel))
theorem d_MO_partLine_80 : decode b_MO_partLine 80 = .ok (.isub, 1) := dc_100 (q0_win (r := 80) wn_MO_partLine_0 (by decide +kernel))
theorem d_MO_partLine_81 : decode b_MO_partLine 81 = .ok (.invokevirtual 226, 3) := dc_182 (qU2_win (r := 81) wn_MO_partLine_0 (by decide +kernel))
theorem d_MO_partLine_84 : decode b_MO_partLine 84 = .ok (.istore_n 2, 1) := dc_61 (q0_win (r := 84) wn_MO_partLine_0 (by decide +kernel))
theorem d_MO_partLine_85 : decode b_MO_partLine 85 = .ok (.aload_n 0, 1) := dc_42 (q0_win (r := 85) wn_MO_partLine_0 (by decide +kernel))
theorem d_MO_partLine_86 : decode b_MO_partLine 86 = .ok (.iconst 0, 1) := dc_3 (q0_win (r := 86) wn_MO_partLine_0 (by decide +kernel))
theorem d_MO_partLine_87 : decode b_MO_partLine 87 = .ok (.aload_n 0, 1) := dc_42 (q0_win (r := 87) wn_MO_partLine_0 (by decide +kernel))
theorem d_MO_partLine_88 : decode b_MO_partLine 88 = .ok (.iconst 1, 1) := dc_4 (q0_win (r := 88) wn_MO_partLine_0 (by decide +kernel))
theorem d_MO_partLine_89 : decode b_MO_partLine 89 = .ok (.invokevirtual 222, 3) := dc_182 (qU2_win (r := 89) wn_MO_partLine_0 (by decide +kernel))
theorem d_MO_partLine_92 : decode b_MO_partLine 92 = .ok (.iconst 1, 1) := dc_4 (q0_win (r := 92) wn_MO_partLine_0 (by decide +kernel))
theorem d_MO_partLine_93 : decode b_MO_partLine 93 = .ok (.isub, 1) := dc_100 (q0_win (r := 93) wn_MO_partLine_0 (by decide +kernel))
theorem wn_MO_partLine_94 : ∀ i, i < 96 → bA b_MO_partLine (94 + i) = wB [182, 0, 226, 62, 42, 28, 42, 3, 182, 0, 222, 4, 100, 182, 0, 226, 54, 4, 42, 29, 42, 4, 182, 0, 222, 4, 100, 182, 0, 226, 54, 5, 42, 180, 0, 199, 153, 0, 4, 177, 29, 54, 6, 21, 6, 21, 5, 163, 0, 47, 28, 54, 7, 21, 7, 21, 4, 163, 0, 31, 42, 180, 0, 25, 16, 48, 21, 6, 42, 3, 182, 0, 222, 104, 96, 21, 7, 96, 27, 4, 96, 79, 132, 7, 1, 167, 255, 224, 132, 6, 1, 167, 255, 208, 42, 6] i := wB_of (by decide +kernel)
theorem d_MO_partLine_94 : decode b_MO_partLine 94 = .ok (.invokevirtual 226, 3) := dc_182 (qU2_win (r := 0) wn_MO_partLine_94 (by decide +kernel))
theorem d_MO_partLine_97 : decode b_MO_partLine 97 = .ok (.istore_n 3, 1) := dc_62 (q0_win (r := 3) wn_MO_partLine_94 (by decide +kernel))
theorem d_MO_partLine_98 : decode b_MO_partLine 98 = .ok (.aload_n 0, 1) := dc_42 (q0_win (r := 4) wn_MO_partLine_94 (by decide +kernel))
theorem d_MO_partLine_99 : decode b_MO_partLine 99 = .ok (.iload_n 2, 1) := dc_28 (q0_win (r := 5) wn_MO_partLine_94 (by decide +kernel))
theorem d_MO_partLine_100 : decode b_MO_partLine 100 = .ok (.aload_n 0, 1) := dc_42 (q0_win (r := 6) wn_MO_partLine_94 (by decide +kernel))
theorem d_MO_partLine_101 : decode b_MO_partLine 101 = .ok (.iconst 0, 1) := dc_3 (q0_win (r := 7) wn_MO_partLine_94 (by decide +kernel))
theorem d_MO_partLine_102 : decode b_MO_partLine 102 = .ok (.invokevirtual 222, 3) := dc_182 (qU2_win (r := 8) wn_MO_partLine_94 (by decide +kernel))
theorem d_MO_partLine_105 : decode b_MO_partLine 105 = .ok (.iconst 1, 1) := dc_4 (q0_win (r := 11) wn_MO_partLine_94 (by decide +kernel))
theorem d_MO_partLine_106 : decode b_MO_partLine 106 = .ok (.isub, 1) := dc_100 (q0_win (r := 12) wn_MO_partLine_94 (by decide +kernel))
theorem d_MO_partLine_107 : decode b_MO_partLine 107 = .ok (.invokevirtual 226, 3) := dc_182 (qU2_win (r := 13) wn_MO_partLine_94 (by decide +kernel))
theorem d_MO_partLine_110 : decode b_MO_partLine 110 = .ok (.istore 4, 2) := dc_54 (qU1_win (r := 16) wn_MO_partLine_94 (by decide +kernel))
theorem d_MO_partLine_112 : decode b_MO_partLine 112 = .ok (.aload_n 0, 1) := dc_42 (q0_win (r := 18) wn_MO_partLine_94 (by decide +kernel))
theorem d_MO_partLine_113 : decode b_MO_partLine 113 = .ok (.iload_n 3, 1) := dc_29 (q0_win (r := 19) wn_MO_partLine_94 (by decide +kernel))
theorem d_MO_partLine_114 : decode b_MO_partLine 114 = .ok (.aload_n 0, 1) := dc_42 (q0_win (r := 20) wn_MO_partLine_94 (by decide +kernel))
theorem d_MO_partLine_115 : decode b_MO_partLine 115 = .ok (.iconst 1, 1) := dc_4 (q0_win (r := 21) wn_MO_partLine_94 (by decide +kernel))
theorem d_MO_partLine_116 : decode b_MO_partLine 116 = .ok (.invokevirtual 222, 3) := dc_182 (qU2_win (r := 22) wn_MO_partLine_94 (by decide +kernel))
theorem d_MO_partLine_119 : decode b_MO_partLine 119 = .ok (.iconst 1, 1) := dc_4 (q0_win (r := 25) wn_MO_partLine_94 (by decide +kernel))
theorem d_MO_partLine_120 : decode b_MO_partLine 120 = .ok (.isub, 1) := dc_100 (q0_win (r := 26) wn_MO_partLine_94 (by decide +kernel))
theorem d_MO_partLine_121 : decode b_MO_partLine 121 = .ok (.invokevirtual 226, 3) := dc_182 (qU2_win (r := 27) wn_MO_partLine_94 (by decide +kernel))
theorem d_MO_partLine_124 : decode b_MO_partLine 124 = .ok (.istore 5, 2) := dc_54 (qU1_win (r := 30) wn_MO_partLine_94 (by decide +kernel))
theorem d_MO_partLine_126 : decode b_MO_partLine 126 = .ok (.aload_n 0, 1) := dc_42 (q0_win (r := 32) wn_MO_partLine_94 (by decide +kernel))
theorem d_MO_partLine_127 : decode b_MO_partLine 127 = .ok (.getfield 199, 3) := dc_180 (qU2_win (r := 33) wn_MO_partLine_94 (by decide +kernel))
theorem d_MO_partLine_130 : decode b_MO_partLine 130 = .ok (.ifCond .eq 4, 3) := dc_153 (qS2_win (r := 36) wn_MO_partLine_94 (by decide +kernel))
theorem d_MO_partLine_133 : decode b_MO_partLine 133 = .ok (.return_, 1) := dc_177 (q0_win (r := 39) wn_MO_partLine_94 (by decide +kernel))
theorem d_MO_partLine_134 : decode b_MO_partLine 134 = .ok (.iload_n 3, 1) := dc_29 (q0_win (r := 40) wn_MO_partLine_94 (by decide +kernel))
theorem d_MO_partLine_135 : decode b_MO_partLine 135 = .ok (.istore 6, 2) := dc_54 (qU1_win (r := 41) wn_MO_partLine_94 (by decide +kernel))
theorem d_MO_partLine_137 : decode b_MO_partLine 137 = .ok (.iload 6, 2) := dc_21 (qU1_win (r := 43) wn_MO_partLine_94 (by decide +kernel))
theorem d_MO_partLine_139 : decode b_MO_partLine 139 = .ok (.iload 5, 2) := dc_21 (qU1_win (r := 45) wn_MO_partLine_94 (by decide +kernel))
theorem d_MO_partLine_141 : decode b_MO_partLine 141 = .ok (.if_icmp .gt 47, 3) := dc_163 (qS2_win (r := 47) wn_MO_partLine_94 (by decide +kernel))
theorem d_MO_partLine_144 : decode b_MO_partLine 144 = .ok (.iload_n 2, 1) := dc_28 (q0_win (r := 50) wn_MO_partLine_94 (by decide +kernel))
theorem d_MO_partLine_145 : decode b_MO_partLine 145 = .ok (.istore 7, 2) := dc_54 (qU1_win (r := 51) wn_MO_partLine_94 (by decide +kernel))
theorem d_MO_partLine_147 : decode b_MO_partLine 147 = .ok (.iload 7, 2) := dc_21 (qU1_win (r := 53) wn_MO_partLine_94 (by decide +kernel))
theorem d_MO_partLine_149 : decode b_MO_partLine 149 = .ok (.iload 4, 2) := dc_21 (qU1_win (r := 55) wn_MO_partLine_94 (by decide +kernel))
theorem d_MO_partLine_151 : decode b_MO_partLine 151 = .ok (.if_icmp .gt 31, 3) := dc_163 (qS2_win (r := 57) wn_MO_partLine_94 (by decide +kernel))
theorem d_MO_partLine_154 : decode b_MO_partLine 154 = .ok (.aload_n 0, 1) := dc_42 (q0_win (r := 60) wn_MO_partLine_94 (by decide +kernel))
theorem d_MO_partLine_155 : decode b_MO_partLine 155 = .ok (.getfield 25, 3) := dc_180 (qU2_win (r := 61) wn_MO_partLine_94 (by decide +kernel))
theorem d_MO_partLine_158 : decode b_MO_partLine 158 = .ok (.bipush 48, 2) := dc_16 (qS1_win (r := 64) wn_MO_partLine_94 (by decide +kernel))
theorem d_MO_partLine_160 : decode b_MO_partLine 160 = .ok (.iload 6, 2) := dc_21 (qU1_win (r := 66) wn_MO_partLine_94 (by decide +kernel))
theorem d_MO_partLine_162 : decode b_MO_partLine 162 = .ok (.aload_n 0, 1) := dc_42 (q0_win (r := 68) wn_MO_partLine_94 (by decide +kernel))
theorem d_MO_partLine_163 : decode b_MO_partLine 163 = .ok (.iconst 0, 1) := dc_3 (q0_win (r := 69) wn_MO_partLine_94 (by decide +kernel))
theorem d_MO_partLine_164 : decode b_MO_partLine 164 = .ok (.invokevirtual 222, 3) := dc_182 (qU2_win (r := 70) wn_MO_partLine_94 (by decide +kernel))
theorem d_MO_partLine_167 : decode b_MO_partLine 167 = .ok (.imul, 1) := dc_104 (q0_win (r := 73) wn_MO_partLine_94 (by decide +kernel))
theorem d_MO_partLine_168 : decode b_MO_partLine 168 = .ok (.iadd, 1) := dc_96 (q0_win (r := 74) wn_MO_partLine_94 (by decide +kernel))
theorem d_MO_partLine_169 : decode b_MO_partLine 169 = .ok (.iload 7, 2) := dc_21 (qU1_win (r := 75) wn_MO_partLine_94 (by decide +kernel))
theorem d_MO_partLine_171 : decode b_MO_partLine 171 = .ok (.iadd, 1) := dc_96 (q0_win (r := 77) wn_MO_partLine_94 (by decide +kernel))
theorem d_MO_partLine_172 : decode b_MO_partLine 172 = .ok (.iload_n 1, 1) := dc_27 (q0_win (r := 78) wn_MO_partLine_94 (by decide +kernel))
theorem d_MO_partLine_173 : decode b_MO_partLine 173 = .ok (.iconst 1, 1) := dc_4 (q0_win (r := 79) wn_MO_partLine_94 (by decide +kernel))
theorem d_MO_partLine_174 : decode b_MO_partLine 174 = .ok (.iadd, 1) := dc_96 (q0_win (r := 80) wn_MO_partLine_94 (by decide +kernel))
theorem d_MO_partLine_175 : decode b_MO_partLine 175 = .ok (.iastore, 1) := dc_79 (q0_win (r := 81) wn_MO_partLine_94 (by decide +kernel))
theorem d_MO_partLine_176 : decode b_MO_partLine 176 = .ok (.iinc 7 1, 3) := dc_132 (qI_win (r := 82) wn_MO_partLine_94 (by decide +kernel))
theorem d_MO_partLine_179 : decode b_MO_partLine 179 = .ok (.goto (-32), 3) := dc_167 (qS2_win (r := 85) wn_MO_partLine_94 (by decide +kernel))
theorem d_MO_partLine_182 : decode b_MO_partLine 182 = .ok (.iinc 6 1, 3) := dc_132 (qI_win (r := 88) wn_MO_partLine_94 (by decide +kernel))
theorem d_MO_partLine_185 : decode b_MO_partLine 185 = .ok (.goto (-48), 3) := dc_167 (qS2_win (r := 91) wn_MO_partLine_94 (by decide +kernel))
theorem d_MO_partLine_188 : decode b_MO_partLine 188 = .ok (.aload_n 0, 1) := dc_42 (q0_win (r := 94) wn_MO_partLine_94 (by decide +kernel))
theorem d_MO_partLine_189 : decode b_MO_partLine 189 = .ok (.iconst 3, 1) := dc_6 (q0_win (r := 95) wn_MO_partLine_94 (by decide +kernel))
theorem wn_MO_partLine_190 : ∀ i, i < 11 → bA b_MO_partLine (190 + i) = wB [42, 6, 182, 0, 222, 4, 96, 182, 0, 238, 177] i := wB_of (by decide +kernel)
theorem d_MO_partLine_190 : decode b_MO_partLine 190 = .ok (.aload_n 0, 1) := dc_42 (q0_win (r := 0) wn_MO_partLine_190 (by decide +kernel))
theorem d_MO_partLine_191 : decode b_MO_partLine 191 = .ok (.iconst 3, 1) := dc_6 (q0_win (r := 1) wn_MO_partLine_190 (by decide +kernel))
theorem d_MO_partLine_192 : decode b_MO_partLine 192 = .ok (.invokevirtual 222, 3) := dc_182 (qU2_win (r := 2) wn_MO_partLine_190 (by decide +kernel))
theorem d_MO_partLine_195 : decode b_MO_partLine 195 = .ok (.iconst 1, 1) := dc_4 (q0_win (r := 5) wn_MO_partLine_190 (by decide +kernel))
theorem d_MO_partLine_196 : decode b_MO_partLine 196 = .ok (.iadd, 1) := dc_96 (q0_win (r := 6) wn_MO_partLine_190 (by decide +kernel))
theorem d_MO_partLine_197 : decode b_MO_partLine 197 = .ok (.invokevirtual 238, 3) := dc_182 (qU2_win (r := 7) wn_MO_partLine_190 (by decide +kernel))
theorem d_MO_partLine_200 : decode b_MO_partLine 200 = .ok (.return_, 1) := dc_177 (q0_win (r := 10) wn_MO_partLine_190 (by decide +kernel))
def t_MO_partLine_L147  (bk137 : Mem → Int → Int → Int → Int → Int → Option (Mem)) : Nat → Mem → Int → Int → Int → Int → Int → Int → Option (Mem)
  | 0, _, _, _, _, _, _, _ => none
  | fu + 1, M, v1_, v2_, v3_, v4_, v5_, v6_ => (if v3_ < v6_ then (bk137 M v1_ v2_ v3_ v4_ (w32 (v5_ + 1))) else (obind (t_MO_fresher M 0) fun q46 => (qguard (0 ≤ (w32 ((w32 (48 + (w32 (v5_ * q46)))) + v6_)) ∧ (w32 ((w32 (48 + (w32 (v5_ * q46)))) + v6_)) < 96) (qlet (setI M 197 (w32 ((w32 (48 + (w32 (v5_ * q46)))) + v6_)) (w32 (v1_ + 1))) fun M49 => (t_MO_partLine_L147 bk137 fu M49 v1_ v2_ v3_ v4_ v5_ (w32 (v6_ + 1)))))))
def t_MO_partLine_L137   : Nat → Mem → Int → Int → Int → Int → Int → Option (Mem)
  | 0, _, _, _, _, _, _ => none
  | fu + 1, M, v1_, v2_, v3_, v4_, v5_ => (if v4_ < v5_ then (obind (t_MO_fresher M 3) fun q41 => (obind (t_MO_reads M 3 (w32 (q41 + 1))) fun q43 => (some q43))) else (t_MO_partLine_L147 (fun a0_ a1_ a2_ a3_ a4_ a5_ => t_MO_partLine_L137 fu a0_ a1_ a2_ a3_ a4_ a5_) FU M v1_ v2_ v3_ v4_ v5_ v2_))
def t_MO_partLine_L42   (M : Mem)  : Option (Mem) := (if (M.1 191 24) = 0 then (obind (t_MO_fresher M 2) fun q15 => (obind (t_MO_found M 194 8 4 q15 (M.1 191 23)) fun q18 => (obind (t_MO_token M) fun q20 => (obind (t_MO_fresher q20 0) fun q22 => (obind (t_MO_numeral q20 0 (w32 (q22 - 1))) fun q24 => (obind (t_MO_fresher (q24.1) 1) fun q26 => (obind (t_MO_numeral (q24.1) 0 (w32 (q26 - 1))) fun q28 => (obind (t_MO_fresher (q28.1) 0) fun q30 => (obind (t_MO_numeral (q28.1) (q24.2) (w32 (q30 - 1))) fun q32 => (obind (t_MO_fresher (q32.1) 1) fun q34 => (obind (t_MO_numeral (q32.1) (q28.2) (w32 (q34 - 1))) fun q36 => (if ((q36.1).1 191 24) = 0 then (t_MO_partLine_L137 FU (q36.1) q18 (q24.2) (q32.2) (q36.2) (q28.2)) else (some (q36.1)))))))))))))) else (some M))
def t_MO_partLine (M : Mem)  : Option (Mem) := (if (M.1 191 22) = 1 then (obind (t_MO_fresher M 2) fun q3 => (obind (t_MO_found M 194 8 4 q3 (M.1 191 23)) fun q6 => (if q6 = (-1) then (qlet (t_MO_wrong M 4) fun q9 => (t_MO_partLine_L42 q9)) else (t_MO_partLine_L42 M)))) else (qlet (t_MO_wrong M 1) fun q11 => (t_MO_partLine_L42 q11)))
set_option maxHeartbeats 4000000 in
set_option maxRecDepth 100000 in
theorem k_MO_partLine_L147 (l : Launch) {p : Program} {e : Env} {s : State} {m : MethodId} {below : List Frame} {meth : Method} {c : Code} {b n : Nat} {C : CT} (hlo : 231 ≤ n)   (F : Cx b p m c b_MO_partLine 8 s ([.ref (b + 191)] : List Value).toArray "WardFallsModel" C n 231) (hlk : meth.locks = false) (hr : meth.sig.returnType = none) {res : Mem} (bk137 : Mem → Int → Int → Int → Int → Int → Option (Mem)) (hbk137 : ∀ (M : Mem) (v1_ : Int) (hv1_ : InR v1_) (v2_ : Int) (hv2_ : InR v2_) (v3_ : Int) (hv3_ : InR v3_) (v4_ : Int) (hv4_ : InR v4_) (v5_ : Int) (hv5_ : InR v5_) (H : Heap) (locs : List Loc) (ls : Array Slot), St b C n M s H locs → lv_has ls 8 [(0, .ref (b + 191)), (1, vI v1_), (2, vI v2_), (4, vI v3_), (5, vI v4_), (6, vI v5_)] → bk137 M v1_ v2_ v3_ v4_ v5_ = some res → W p l e (headSpec (wsM y_MO_partLine b_MO_partLine 8 (none)) (rmD 8)).room s m ([.ref (b + 191)] : List Value).toArray below meth c H locs 0 0 (MQ below (QV b C n res) ([.ref (b + 191)] : List Value).toArray s 0 0 (frb b)) (F0 m 137 ls [])) : ∀ (fu : Nat) (M : Mem) (v1_ : Int) (hv1_ : InR v1_) (v2_ : Int) (hv2_ : InR v2_) (v3_ : Int) (hv3_ : InR v3_) (v4_ : Int) (hv4_ : InR v4_) (v5_ : Int) (hv5_ : InR v5_) (v6_ : Int) (hv6_ : InR v6_) (H : Heap) (locs : List Loc) (ls : Array Slot), St b C n M s H locs → lv_has ls 8 [(0, .ref (b + 191)), (1, vI v1_), (2, vI v2_), (4, vI v3_), (5, vI v4_), (6, vI v5_), (7, vI v6_)] → t_MO_partLine_L147 bk137 fu M v1_ v2_ v3_ v4_ v5_ v6_ = some res → W p l e (headSpec (wsM y_MO_partLine b_MO_partLine 8 (none)) (rmD 8)).room s m ([.ref (b + 191)] : List Value).toArray below meth c H locs 0 0 (MQ below (QV b C n res) ([.ref (b + 191)] : List Value).toArray s 0 0 (frb b)) (F0 m 147 ls []) := by
  intro fu
  induction fu with
  | zero => intro M v1_ hv1_ v2_ hv2_ v3_ hv3_ v4_ hv4_ v5_ hv5_ v6_ hv6_ H locs ls hS hl hT; exact absurd hT (by simp [t_MO_partLine_L147])
  | succ fu ih =>
    intro M v1_ hv1_ v2_ hv2_ v3_ hv3_ v4_ hv4_ v5_ hv5_ v6_ hv6_ H locs ls hS hl hT
    rw [t_MO_partLine_L147] at hT
    refine lv_iload F.hx F.hb d_MO_partLine_147 (lv_at hl 6 rfl) ?_
    refine lv_iload F.hx F.hb d_MO_partLine_149 (lv_at hl 3 rfl) ?_
    refine r_icmp_gt (tgt := 182) F.hx F.hb hv6_ hv3_ d_MO_partLine_151 (by decide) (fun c45 => ?_) (fun c45 => ?_)
    · replace hT := (if_pos c45).symm.trans hT
      refine lv_iinc (v := Int32.ofInt (w32 (v5_ + 1))) (lv' := [(6, vI (w32 (v5_ + 1))), (0, .ref (b + 191)), (1, vI v1_), (2, vI v2_), (4, vI v3_), (5, vI v4_), (7, vI v6_)]) F.hx F.hb d_MO_partLine_182 hl (k := 5) rfl (q_of_add _ _) (Nat.le_of_ble_eq_true rfl) rfl (fun ls hl => ?_)
      refine lv_goto (tgt := 137) F.hx F.hb d_MO_partLine_185 (by decide) ?_
      exact hbk137 M v1_ hv1_ v2_ hv2_ v3_ hv3_ v4_ hv4_ (w32 (v5_ + 1)) (inr_w32 _) _ _ _ hS (lv_sub hl [1, 2, 3, 4, 5, 0] rfl) hT
    · replace hT := (if_neg c45).symm.trans hT
      refine lv_aload_n F.hx F.hb d_MO_partLine_154 rfl (lv_at hl 0 rfl) ?_
      refine r_get (v := .ref (b + 197)) (N := 68) (T := T1) (j := 7) F hS (show 191 < 231 by decide) (show shK 191 = 5 from rfl) (show shN 191 = 68 from rfl) rfl (Nat.le_of_ble_eq_true rfl) ing1 mw_1396 (fv_sg rfl rfl rfl) d_MO_partLine_155 ?_
      refine r_bipush F.hx F.hb d_MO_partLine_158 rfl ?_
      refine lv_iload F.hx F.hb d_MO_partLine_160 (lv_at hl 5 rfl) ?_
      refine lv_aload_n F.hx F.hb d_MO_partLine_162 rfl (lv_at hl 0 rfl) ?_
      refine r_iconst F.hx F.hb d_MO_partLine_163 ?_
      obtain ⟨q46, hq46, hT⟩ := q_obind hT
      refine r_backI F hS (r_runV (k := 191) (N := 68) (T := T1) (As := [vI 0]) F hS (show 191 < 231 by decide) (show shK 191 = 5 from rfl) rfl (c_MO_fresher l F.2.2.1 M 0 (inr_c rfl) _ hq46) gs_MO_222 hd_MO_fresher ⟨Nat.le_of_ble_eq_true rfl, Nat.le_of_ble_eq_true rfl⟩ rfl hl.1 (Nat.le_of_ble_eq_true rfl) ⟨Nat.zero_le _, Nat.zero_le _⟩ rfl d_MO_partLine_164) (fun H locs hS h47 => ?_)
      refine r_imul F.hx F.hb d_MO_partLine_167 ?_
      refine r_iadd F.hx F.hb d_MO_partLine_168 ?_
      refine lv_iload F.hx F.hb d_MO_partLine_169 (lv_at hl 6 rfl) ?_
      refine r_iadd F.hx F.hb d_MO_partLine_171 ?_
      refine lv_iload_n F.hx F.hb d_MO_partLine_172 rfl (lv_at hl 1 rfl) ?_
      refine r_iconst F.hx F.hb d_MO_partLine_173 ?_
      refine r_iadd F.hx F.hb d_MO_partLine_174 ?_
      obtain ⟨⟨g48a, g48b⟩, hT⟩ := q_guard hT
      refine r_iast F hS (show 197 < 231 by decide) (show shK 197 = 0 from rfl) (show shN 197 = 96 from rfl) (inr_w32 _) (inr_w32 _) g48a g48b d_MO_partLine_175 (fun H locs hS => ?_)
      obtain ⟨M49, eM49⟩ : ∃ q, q = (setI M 197 (w32 ((w32 (48 + (w32 (v5_ * q46)))) + v6_)) (w32 (v1_ + 1))) := ⟨_, rfl⟩
      replace hS : St b C n M49 s H locs := by rw [eM49]; exact hS
      replace hT := qlet_eq hT eM49
      refine lv_iinc (v := Int32.ofInt (w32 (v6_ + 1))) (lv' := [(7, vI (w32 (v6_ + 1))), (0, .ref (b + 191)), (1, vI v1_), (2, vI v2_), (4, vI v3_), (5, vI v4_), (6, vI v5_)]) F.hx F.hb d_MO_partLine_176 hl (k := 6) rfl (q_of_add _ _) (Nat.le_of_ble_eq_true rfl) rfl (fun ls hl => ?_)
      refine lv_goto (tgt := 147) F.hx F.hb d_MO_partLine_179 (by decide) ?_
      exact ih M49 v1_ hv1_ v2_ hv2_ v3_ hv3_ v4_ hv4_ v5_ hv5_ (w32 (v6_ + 1)) (inr_w32 _) _ _ _ hS (lv_sub hl [1, 2, 3, 4, 5, 6, 0] rfl) hT
set_option maxHeartbeats 4000000 in
set_option maxRecDepth 100000 in
theorem k_MO_partLine_L137 (l : Launch) {p : Program} {e : Env} {s : State} {m : MethodId} {below : List Frame} {meth : Method} {c : Code} {b n : Nat} {C : CT} (hlo : 231 ≤ n)   (F : Cx b p m c b_MO_partLine 8 s ([.ref (b + 191)] : List Value).toArray "WardFallsModel" C n 231) (hlk : meth.locks = false) (hr : meth.sig.returnType = none) {res : Mem} : ∀ (fu : Nat) (M : Mem) (v1_ : Int) (hv1_ : InR v1_) (v2_ : Int) (hv2_ : InR v2_) (v3_ : Int) (hv3_ : InR v3_) (v4_ : Int) (hv4_ : InR v4_) (v5_ : Int) (hv5_ : InR v5_) (H : Heap) (locs : List Loc) (ls : Array Slot), St b C n M s H locs → lv_has ls 8 [(0, .ref (b + 191)), (1, vI v1_), (2, vI v2_), (4, vI v3_), (5, vI v4_), (6, vI v5_)] → t_MO_partLine_L137 fu M v1_ v2_ v3_ v4_ v5_ = some res → W p l e (headSpec (wsM y_MO_partLine b_MO_partLine 8 (none)) (rmD 8)).room s m ([.ref (b + 191)] : List Value).toArray below meth c H locs 0 0 (MQ below (QV b C n res) ([.ref (b + 191)] : List Value).toArray s 0 0 (frb b)) (F0 m 137 ls []) := by
  intro fu
  induction fu with
  | zero => intro M v1_ hv1_ v2_ hv2_ v3_ hv3_ v4_ hv4_ v5_ hv5_ H locs ls hS hl hT; exact absurd hT (by simp [t_MO_partLine_L137])
  | succ fu ih =>
    intro M v1_ hv1_ v2_ hv2_ v3_ hv3_ v4_ hv4_ v5_ hv5_ H locs ls hS hl hT
    rw [t_MO_partLine_L137] at hT
    refine lv_iload F.hx F.hb d_MO_partLine_137 (lv_at hl 5 rfl) ?_
    refine lv_iload F.hx F.hb d_MO_partLine_139 (lv_at hl 4 rfl) ?_
    refine r_icmp_gt (tgt := 188) F.hx F.hb hv5_ hv4_ d_MO_partLine_141 (by decide) (fun c40 => ?_) (fun c40 => ?_)
    · replace hT := (if_pos c40).symm.trans hT
      refine lv_aload_n F.hx F.hb d_MO_partLine_188 rfl (lv_at hl 0 rfl) ?_
      refine r_iconst F.hx F.hb d_MO_partLine_189 ?_
      refine lv_aload_n F.hx F.hb d_MO_partLine_190 rfl (lv_at hl 0 rfl) ?_
      refine r_iconst F.hx F.hb d_MO_partLine_191 ?_
      obtain ⟨q41, hq41, hT⟩ := q_obind hT
      refine r_backI F hS (r_runV (k := 191) (N := 68) (T := T1) (As := [vI 3]) F hS (show 191 < 231 by decide) (show shK 191 = 5 from rfl) rfl (c_MO_fresher l F.2.2.1 M 3 (inr_c rfl) _ hq41) gs_MO_222 hd_MO_fresher ⟨Nat.le_of_ble_eq_true rfl, Nat.le_of_ble_eq_true rfl⟩ rfl hl.1 (Nat.le_of_ble_eq_true rfl) ⟨Nat.zero_le _, Nat.zero_le _⟩ rfl d_MO_partLine_192) (fun H locs hS h42 => ?_)
      refine r_iconst F.hx F.hb d_MO_partLine_195 ?_
      refine r_iadd F.hx F.hb d_MO_partLine_196 ?_
      obtain ⟨q43, hq43, hT⟩ := q_obind hT
      refine r_backV F hS (r_runV (k := 191) (N := 68) (T := T1) (As := [vI 3, vI (w32 (q41 + 1))]) F hS (show 191 < 231 by decide) (show shK 191 = 5 from rfl) rfl (c_MO_reads l F.2.2.1 M 3 (w32 (q41 + 1)) (inr_c rfl) (inr_w32 _) _ hq43) gs_MO_238 hd_MO_reads ⟨Nat.le_of_ble_eq_true rfl, Nat.le_of_ble_eq_true rfl⟩ rfl hl.1 (Nat.le_of_ble_eq_true rfl) ⟨Nat.zero_le _, Nat.zero_le _⟩ rfl d_MO_partLine_197) (fun H locs hS => ?_)
      cases hT
      exact r_vret F hlk hr hS d_MO_partLine_200
    · replace hT := (if_neg c40).symm.trans hT
      refine lv_iload_n F.hx F.hb d_MO_partLine_144 rfl (lv_at hl 2 rfl) ?_
      refine lv_istore (lv' := [(7, vI v2_), (0, .ref (b + 191)), (1, vI v1_), (2, vI v2_), (4, vI v3_), (5, vI v4_), (6, vI v5_)]) F.hx F.hb d_MO_partLine_145 hl (Nat.le_of_ble_eq_true rfl) rfl (fun ls hl => ?_)
      exact k_MO_partLine_L147 l hlo F hlk hr (fun a0_ a1_ a2_ a3_ a4_ a5_ => t_MO_partLine_L137 fu a0_ a1_ a2_ a3_ a4_ a5_) ih FU M v1_ hv1_ v2_ hv2_ v3_ hv3_ v4_ hv4_ v5_ hv5_ v2_ hv2_ _ _ _ hS (lv_sub hl [1, 2, 3, 4, 5, 6, 0] rfl) hT
set_option maxHeartbeats 4000000 in
set_option maxRecDepth 100000 in
theorem k_MO_partLine_L42 (l : Launch) {p : Program} {e : Env} {s : State} {m : MethodId} {below : List Frame} {meth : Method} {c : Code} {b n : Nat} {C : CT} (hlo : 231 ≤ n)   (F : Cx b p m c b_MO_partLine 8 s ([.ref (b + 191)] : List Value).toArray "WardFallsModel" C n 231) (hlk : meth.locks = false) (hr : meth.sig.returnType = none) {res : Mem} (M : Mem)  (H : Heap) (locs : List Loc) (ls : Array Slot) (hS : St b C n M s H locs) (hl : lv_has ls 8 [(0, .ref (b + 191))]) (hT : t_MO_partLine_L42 M = some res) : W p l e (headSpec (wsM y_MO_partLine b_MO_partLine 8 (none)) (rmD 8)).room s m ([.ref (b + 191)] : List Value).toArray below meth c H locs 0 0 (MQ below (QV b C n res) ([.ref (b + 191)] : List Value).toArray s 0 0 (frb b)) (F0 m 42 ls []) := by
  unfold t_MO_partLine_L42 at hT
  refine lv_aload_n F.hx F.hb d_MO_partLine_42 rfl (lv_at hl 0 rfl) ?_
  refine r_get (v := vI (M.1 191 24)) (N := 68) (T := T1) (j := 24) F hS (show 191 < 231 by decide) (show shK 191 = 5 from rfl) (show shN 191 = 68 from rfl) rfl (Nat.le_of_ble_eq_true rfl) ing1 mw_1413 (fv_int rfl) d_MO_partLine_43 ?_
  have i13 := hS.rng 191 24
  refine r_if_eq (tgt := 50) F.hx F.hb i13 d_MO_partLine_46 (by decide) (fun c14 => ?_) (fun c14 => ?_)
  · replace hT := (if_pos c14).symm.trans hT
    refine lv_aload_n F.hx F.hb d_MO_partLine_50 rfl (lv_at hl 0 rfl) ?_
    refine r_get (v := .ref (b + 194)) (N := 68) (T := T1) (j := 4) F hS (show 191 < 231 by decide) (show shK 191 = 5 from rfl) (show shN 191 = 68 from rfl) rfl (Nat.le_of_ble_eq_true rfl) ing1 mw_1393 (fv_sg rfl rfl rfl) d_MO_partLine_51 ?_
    refine r_iconst F.hx F.hb d_MO_partLine_54 ?_
    refine lv_aload_n F.hx F.hb d_MO_partLine_55 rfl (lv_at hl 0 rfl) ?_
    refine r_iconst F.hx F.hb d_MO_partLine_56 ?_
    obtain ⟨q15, hq15, hT⟩ := q_obind hT
    refine r_backI F hS (r_runV (k := 191) (N := 68) (T := T1) (As := [vI 2]) F hS (show 191 < 231 by decide) (show shK 191 = 5 from rfl) rfl (c_MO_fresher l F.2.2.1 M 2 (inr_c rfl) _ hq15) gs_MO_222 hd_MO_fresher ⟨Nat.le_of_ble_eq_true rfl, Nat.le_of_ble_eq_true rfl⟩ rfl hl.1 (Nat.le_of_ble_eq_true rfl) ⟨Nat.zero_le _, Nat.zero_le _⟩ rfl d_MO_partLine_57) (fun H locs hS h16 => ?_)
    refine lv_aload_n F.hx F.hb d_MO_partLine_60 rfl (lv_at hl 0 rfl) ?_
    refine r_get (v := vI (M.1 191 23)) (N := 68) (T := T1) (j := 23) F hS (show 191 < 231 by decide) (show shK 191 = 5 from rfl) (show shN 191 = 68 from rfl) rfl (Nat.le_of_ble_eq_true rfl) ing1 mw_1412 (fv_int rfl) d_MO_partLine_61 ?_
    have i17 := hS.rng 191 23
    obtain ⟨q18, hq18, hT⟩ := q_obind hT
    refine r_backI F hS (r_runS (As := [.ref (b + 194), vI 4, vI q15, vI (M.1 191 23)]) F hS (c_MO_found l F.2.2.1 M 194 8 4 q15 (M.1 191 23) (show arrP 0 194 8 231 from ⟨rfl, rfl, by decide⟩) (inr_c rfl) h16 i17 _ hq18) gs_MO_218 hd_MO_found ⟨Nat.le_of_ble_eq_true rfl, Nat.le_of_ble_eq_true rfl⟩ rfl hl.1 (Nat.le_of_ble_eq_true rfl) ⟨Nat.zero_le _, Nat.zero_le _⟩ rfl d_MO_partLine_64) (fun H locs hS h19 => ?_)
    refine lv_istore_n (lv' := [(1, vI q18), (0, .ref (b + 191))]) F.hx F.hb d_MO_partLine_67 rfl hl (Nat.le_of_ble_eq_true rfl) rfl (fun ls hl => ?_)
    refine lv_aload_n F.hx F.hb d_MO_partLine_68 rfl (lv_at hl 1 rfl) ?_
    obtain ⟨q20, hq20, hT⟩ := q_obind hT
    refine r_backV F hS (r_runV (k := 191) (N := 68) (T := T1) (As := []) F hS (show 191 < 231 by decide) (show shK 191 = 5 from rfl) rfl (c_MO_token l F.2.2.1 M _ hq20) gs_MO_205 hd_MO_token ⟨Nat.le_of_ble_eq_true rfl, Nat.le_of_ble_eq_true rfl⟩ rfl hl.1 (Nat.le_of_ble_eq_true rfl) ⟨Nat.zero_le _, Nat.zero_le _⟩ rfl d_MO_partLine_69) (fun H locs hS => ?_)
    refine lv_aload_n F.hx F.hb d_MO_partLine_72 rfl (lv_at hl 1 rfl) ?_
    refine r_iconst F.hx F.hb d_MO_partLine_73 ?_
    refine lv_aload_n F.hx F.hb d_MO_partLine_74 rfl (lv_at hl 1 rfl) ?_
    refine r_iconst F.hx F.hb d_MO_partLine_75 ?_
    obtain ⟨q22, hq22, hT⟩ := q_obind hT
    refine r_backI F hS (r_runV (k := 191) (N := 68) (T := T1) (As := [vI 0]) F hS (show 191 < 231 by decide) (show shK 191 = 5 from rfl) rfl (c_MO_fresher l F.2.2.1 q20 0 (inr_c rfl) _ hq22) gs_MO_222 hd_MO_fresher ⟨Nat.le_of_ble_eq_true rfl, Nat.le_of_ble_eq_true rfl⟩ rfl hl.1 (Nat.le_of_ble_eq_true rfl) ⟨Nat.zero_le _, Nat.zero_le _⟩ rfl d_MO_partLine_76) (fun H locs hS h23 => ?_)
    refine r_iconst F.hx F.hb d_MO_partLine_79 ?_
    refine r_isub F.hx F.hb d_MO_partLine_80 ?_
    obtain ⟨q24, hq24, hT⟩ := q_obind hT
    refine r_backI F hS (r_runV (k := 191) (N := 68) (T := T1) (As := [vI 0, vI (w32 (q22 - 1))]) F hS (show 191 < 231 by decide) (show shK 191 = 5 from rfl) rfl (c_MO_numeral l F.2.2.1 q20 0 (w32 (q22 - 1)) (inr_c rfl) (inr_w32 _) _ hq24) gs_MO_226 hd_MO_numeral ⟨Nat.le_of_ble_eq_true rfl, Nat.le_of_ble_eq_true rfl⟩ rfl hl.1 (Nat.le_of_ble_eq_true rfl) ⟨Nat.zero_le _, Nat.zero_le _⟩ rfl d_MO_partLine_81) (fun H locs hS h25 => ?_)
    refine lv_istore_n (lv' := [(2, vI (q24.2)), (1, vI q18), (0, .ref (b + 191))]) F.hx F.hb d_MO_partLine_84 rfl hl (Nat.le_of_ble_eq_true rfl) rfl (fun ls hl => ?_)
    refine lv_aload_n F.hx F.hb d_MO_partLine_85 rfl (lv_at hl 2 rfl) ?_
    refine r_iconst F.hx F.hb d_MO_partLine_86 ?_
    refine lv_aload_n F.hx F.hb d_MO_partLine_87 rfl (lv_at hl 2 rfl) ?_
    refine r_iconst F.hx F.hb d_MO_partLine_88 ?_
    obtain ⟨q26, hq26, hT⟩ := q_obind hT
    refine r_backI F hS (r_runV (k := 191) (N := 68) (T := T1) (As := [vI 1]) F hS (show 191 < 231 by decide) (show shK 191 = 5 from rfl) rfl (c_MO_fresher l F.2.2.1 (q24.1) 1 (inr_c rfl) _ hq26) gs_MO_222 hd_MO_fresher ⟨Nat.le_of_ble_eq_true rfl, Nat.le_of_ble_eq_true rfl⟩ rfl hl.1 (Nat.le_of_ble_eq_true rfl) ⟨Nat.zero_le _, Nat.zero_le _⟩ rfl d_MO_partLine_89) (fun H locs hS h27 => ?_)
    refine r_iconst F.hx F.hb d_MO_partLine_92 ?_
    refine r_isub F.hx F.hb d_MO_partLine_93 ?_
    obtain ⟨q28, hq28, hT⟩ := q_obind hT
    refine r_backI F hS (r_runV (k := 191) (N := 68) (T := T1) (As := [vI 0, vI (w32 (q26 - 1))]) F hS (show 191 < 231 by decide) (show shK 191 = 5 from rfl) rfl (c_MO_numeral l F.2.2.1 (q24.1) 0 (w32 (q26 - 1)) (inr_c rfl) (inr_w32 _) _ hq28) gs_MO_226 hd_MO_numeral ⟨Nat.le_of_ble_eq_true rfl, Nat.le_of_ble_eq_true rfl⟩ rfl hl.1 (Nat.le_of_ble_eq_true rfl) ⟨Nat.zero_le _, Nat.zero_le _⟩ rfl d_MO_partLine_94) (fun H locs hS h29 => ?_)
    refine lv_istore_n (lv' := [(3, vI (q28.2)), (2, vI (q24.2)), (1, vI q18), (0, .ref (b + 191))]) F.hx F.hb d_MO_partLine_97 rfl hl (Nat.le_of_ble_eq_true rfl) rfl (fun ls hl => ?_)
    refine lv_aload_n F.hx F.hb d_MO_partLine_98 rfl (lv_at hl 3 rfl) ?_
    refine lv_iload_n F.hx F.hb d_MO_partLine_99 rfl (lv_at hl 1 rfl) ?_
    refine lv_aload_n F.hx F.hb d_MO_partLine_100 rfl (lv_at hl 3 rfl) ?_
    refine r_iconst F.hx F.hb d_MO_partLine_101 ?_
    obtain ⟨q30, hq30, hT⟩ := q_obind hT
    refine r_backI F hS (r_runV (k := 191) (N := 68) (T := T1) (As := [vI 0]) F hS (show 191 < 231 by decide) (show shK 191 = 5 from rfl) rfl (c_MO_fresher l F.2.2.1 (q28.1) 0 (inr_c rfl) _ hq30) gs_MO_222 hd_MO_fresher ⟨Nat.le_of_ble_eq_true rfl, Nat.le_of_ble_eq_true rfl⟩ rfl hl.1 (Nat.le_of_ble_eq_true rfl) ⟨Nat.zero_le _, Nat.zero_le _⟩ rfl d_MO_partLine_102) (fun H locs hS h31 => ?_)
    refine r_iconst F.hx F.hb d_MO_partLine_105 ?_
    refine r_isub F.hx F.hb d_MO_partLine_106 ?_
    obtain ⟨q32, hq32, hT⟩ := q_obind hT
    refine r_backI F hS (r_runV (k := 191) (N := 68) (T := T1) (As := [vI (q24.2), vI (w32 (q30 - 1))]) F hS (show 191 < 231 by decide) (show shK 191 = 5 from rfl) rfl (c_MO_numeral l F.2.2.1 (q28.1) (q24.2) (w32 (q30 - 1)) h25 (inr_w32 _) _ hq32) gs_MO_226 hd_MO_numeral ⟨Nat.le_of_ble_eq_true rfl, Nat.le_of_ble_eq_true rfl⟩ rfl hl.1 (Nat.le_of_ble_eq_true rfl) ⟨Nat.zero_le _, Nat.zero_le _⟩ rfl d_MO_partLine_107) (fun H locs hS h33 => ?_)
    refine lv_istore (lv' := [(4, vI (q32.2)), (3, vI (q28.2)), (2, vI (q24.2)), (1, vI q18), (0, .ref (b + 191))]) F.hx F.hb d_MO_partLine_110 hl (Nat.le_of_ble_eq_true rfl) rfl (fun ls hl => ?_)
    refine lv_aload_n F.hx F.hb d_MO_partLine_112 rfl (lv_at hl 4 rfl) ?_
    refine lv_iload_n F.hx F.hb d_MO_partLine_113 rfl (lv_at hl 1 rfl) ?_
    refine lv_aload_n F.hx F.hb d_MO_partLine_114 rfl (lv_at hl 4 rfl) ?_
    refine r_iconst F.hx F.hb d_MO_partLine_115 ?_
    obtain ⟨q34, hq34, hT⟩ := q_obind hT
    refine r_backI F hS (r_runV (k := 191) (N := 68) (T := T1) (As := [vI 1]) F hS (show 191 < 231 by decide) (show shK 191 = 5 from rfl) rfl (c_MO_fresher l F.2.2.1 (q32.1) 1 (inr_c rfl) _ hq34) gs_MO_222 hd_MO_fresher ⟨Nat.le_of_ble_eq_true rfl, Nat.le_of_ble_eq_true rfl⟩ rfl hl.1 (Nat.le_of_ble_eq_true rfl) ⟨Nat.zero_le _, Nat.zero_le _⟩ rfl d_MO_partLine_116) (fun H locs hS h35 => ?_)
    refine r_iconst F.hx F.hb d_MO_partLine_119 ?_
    refine r_isub F.hx F.hb d_MO_partLine_120 ?_
    obtain ⟨q36, hq36, hT⟩ := q_obind hT
    refine r_backI F hS (r_runV (k := 191) (N := 68) (T := T1) (As := [vI (q28.2), vI (w32 (q34 - 1))]) F hS (show 191 < 231 by decide) (show shK 191 = 5 from rfl) rfl (c_MO_numeral l F.2.2.1 (q32.1) (q28.2) (w32 (q34 - 1)) h29 (inr_w32 _) _ hq36) gs_MO_226 hd_MO_numeral ⟨Nat.le_of_ble_eq_true rfl, Nat.le_of_ble_eq_true rfl⟩ rfl hl.1 (Nat.le_of_ble_eq_true rfl) ⟨Nat.zero_le _, Nat.zero_le _⟩ rfl d_MO_partLine_121) (fun H locs hS h37 => ?_)
    refine lv_istore (lv' := [(5, vI (q36.2)), (4, vI (q32.2)), (3, vI (q28.2)), (2, vI (q24.2)), (1, vI q18), (0, .ref (b + 191))]) F.hx F.hb d_MO_partLine_124 hl (Nat.le_of_ble_eq_true rfl) rfl (fun ls hl => ?_)
    refine lv_aload_n F.hx F.hb d_MO_partLine_126 rfl (lv_at hl 5 rfl) ?_
    refine r_get (v := vI ((q36.1).1 191 24)) (N := 68) (T := T1) (j := 24) F hS (show 191 < 231 by decide) (show shK 191 = 5 from rfl) (show shN 191 = 68 from rfl) rfl (Nat.le_of_ble_eq_true rfl) ing1 mw_1413 (fv_int rfl) d_MO_partLine_127 ?_
    have i38 := hS.rng 191 24
    refine r_if_eq (tgt := 134) F.hx F.hb i38 d_MO_partLine_130 (by decide) (fun c39 => ?_) (fun c39 => ?_)
    · replace hT := (if_pos c39).symm.trans hT
      refine lv_iload_n F.hx F.hb d_MO_partLine_134 rfl (lv_at hl 2 rfl) ?_
      refine lv_istore (lv' := [(6, vI (q28.2)), (5, vI (q36.2)), (4, vI (q32.2)), (3, vI (q28.2)), (2, vI (q24.2)), (1, vI q18), (0, .ref (b + 191))]) F.hx F.hb d_MO_partLine_135 hl (Nat.le_of_ble_eq_true rfl) rfl (fun ls hl => ?_)
      exact k_MO_partLine_L137 l hlo F hlk hr FU (q36.1) q18 h19 (q24.2) h25 (q32.2) h33 (q36.2) h37 (q28.2) h29 _ _ _ hS (lv_sub hl [6, 5, 4, 2, 1, 0] rfl) hT
    · replace hT := (if_neg c39).symm.trans hT
      cases hT
      exact r_vret F hlk hr hS d_MO_partLine_133
  · replace hT := (if_neg c14).symm.trans hT
    cases hT
    exact r_vret F hlk hr hS d_MO_partLine_49
set_option maxHeartbeats 4000000 in
set_option maxRecDepth 100000 in
theorem c_MO_partLine (l : Launch) {b n : Nat} {C : CT} (hlo : 231 ≤ n) (M : Mem)   (res : Mem) (hT : t_MO_partLine M  = some res) : CM l b C n 8 y_MO_partLine b_MO_partLine 8 (none) [.ref (b + 191)] M (QV b C n res) := by
  refine CM.of (lo := 231) (ow := "WardFallsModel") (by decide) rfl (Nat.le_of_ble_eq_true rfl) hlo (fun p e s m below meth c F hlk hr hS ls hl => ?_)
  have hl : lv_has ls 8 [(0, .ref (b + 191))] := hl
  unfold t_MO_partLine at hT
  refine lv_aload_n F.hx F.hb d_MO_partLine_0 rfl (lv_at hl 0 rfl) ?_
  refine r_get (v := vI (M.1 191 22)) (N := 68) (T := T1) (j := 22) F hS (show 191 < 231 by decide) (show shK 191 = 5 from rfl) (show shN 191 = 68 from rfl) rfl (Nat.le_of_ble_eq_true rfl) ing1 mw_1411 (fv_int rfl) d_MO_partLine_1 ?_
  have i1 := hS.rng 191 22
  refine r_iconst F.hx F.hb d_MO_partLine_4 ?_
  refine r_icmp_eq (tgt := 16) F.hx F.hb i1 (inr_c rfl) d_MO_partLine_5 (by decide) (fun c2 => ?_) (fun c2 => ?_)
  · replace hT := (if_pos c2).symm.trans hT
    refine lv_aload_n F.hx F.hb d_MO_partLine_16 rfl (lv_at hl 0 rfl) ?_
    refine r_get (v := .ref (b + 194)) (N := 68) (T := T1) (j := 4) F hS (show 191 < 231 by decide) (show shK 191 = 5 from rfl) (show shN 191 = 68 from rfl) rfl (Nat.le_of_ble_eq_true rfl) ing1 mw_1393 (fv_sg rfl rfl rfl) d_MO_partLine_17 ?_
    refine r_iconst F.hx F.hb d_MO_partLine_20 ?_
    refine lv_aload_n F.hx F.hb d_MO_partLine_21 rfl (lv_at hl 0 rfl) ?_
    refine r_iconst F.hx F.hb d_MO_partLine_22 ?_
    obtain ⟨q3, hq3, hT⟩ := q_obind hT
    refine r_backI F hS (r_runV (k := 191) (N := 68) (T := T1) (As := [vI 2]) F hS (show 191 < 231 by decide) (show shK 191 = 5 from rfl) rfl (c_MO_fresher l F.2.2.1 M 2 (inr_c rfl) _ hq3) gs_MO_222 hd_MO_fresher ⟨Nat.le_of_ble_eq_true rfl, Nat.le_of_ble_eq_true rfl⟩ rfl hl.1 (Nat.le_of_ble_eq_true rfl) ⟨Nat.zero_le _, Nat.zero_le _⟩ rfl d_MO_partLine_23) (fun H locs hS h4 => ?_)
    refine lv_aload_n F.hx F.hb d_MO_partLine_26 rfl (lv_at hl 0 rfl) ?_
    refine r_get (v := vI (M.1 191 23)) (N := 68) (T := T1) (j := 23) F hS (show 191 < 231 by decide) (show shK 191 = 5 from rfl) (show shN 191 = 68 from rfl) rfl (Nat.le_of_ble_eq_true rfl) ing1 mw_1412 (fv_int rfl) d_MO_partLine_27 ?_
    have i5 := hS.rng 191 23
    obtain ⟨q6, hq6, hT⟩ := q_obind hT
    refine r_backI F hS (r_runS (As := [.ref (b + 194), vI 4, vI q3, vI (M.1 191 23)]) F hS (c_MO_found l F.2.2.1 M 194 8 4 q3 (M.1 191 23) (show arrP 0 194 8 231 from ⟨rfl, rfl, by decide⟩) (inr_c rfl) h4 i5 _ hq6) gs_MO_218 hd_MO_found ⟨Nat.le_of_ble_eq_true rfl, Nat.le_of_ble_eq_true rfl⟩ rfl hl.1 (Nat.le_of_ble_eq_true rfl) ⟨Nat.zero_le _, Nat.zero_le _⟩ rfl d_MO_partLine_30) (fun H locs hS h7 => ?_)
    refine r_iconst F.hx F.hb d_MO_partLine_33 ?_
    refine r_icmp_ne (tgt := 42) F.hx F.hb h7 (inr_c rfl) d_MO_partLine_34 (by decide) (fun c8 => ?_) (fun c8 => ?_)
    · replace hT := (if_neg c8).symm.trans hT
      exact k_MO_partLine_L42 l hlo F hlk hr M _ _ _ hS (lv_sub hl [0] rfl) hT
    · replace hT := (if_pos c8).symm.trans hT
      refine lv_aload_n F.hx F.hb d_MO_partLine_37 rfl (lv_at hl 0 rfl) ?_
      refine r_iconst F.hx F.hb d_MO_partLine_38 ?_
      obtain ⟨q9, hq9⟩ : ∃ q, q = (t_MO_wrong M 4) := ⟨_, rfl⟩
      replace hT := qlet_eq hT hq9
      refine r_backV F hS (r_runV (k := 191) (N := 68) (T := T1) (As := [vI 4]) F hS (show 191 < 231 by decide) (show shK 191 = 5 from rfl) rfl (c_MO_wrong l F.2.2.1 M 4 (inr_c rfl) _ hq9.symm) gs_MO_208 hd_MO_wrong ⟨Nat.le_of_ble_eq_true rfl, Nat.le_of_ble_eq_true rfl⟩ rfl hl.1 (Nat.le_of_ble_eq_true rfl) ⟨Nat.zero_le _, Nat.zero_le _⟩ rfl d_MO_partLine_39) (fun H locs hS => ?_)
      exact k_MO_partLine_L42 l hlo F hlk hr q9 _ _ _ hS (lv_sub hl [0] rfl) hT
  · replace hT := (if_neg c2).symm.trans hT
    refine lv_aload_n F.hx F.hb d_MO_partLine_8 rfl (lv_at hl 0 rfl) ?_
    refine r_iconst F.hx F.hb d_MO_partLine_9 ?_
    obtain ⟨q11, hq11⟩ : ∃ q, q = (t_MO_wrong M 1) := ⟨_, rfl⟩
    replace hT := qlet_eq hT hq11
    refine r_backV F hS (r_runV (k := 191) (N := 68) (T := T1) (As := [vI 1]) F hS (show 191 < 231 by decide) (show shK 191 = 5 from rfl) rfl (c_MO_wrong l F.2.2.1 M 1 (inr_c rfl) _ hq11.symm) gs_MO_208 hd_MO_wrong ⟨Nat.le_of_ble_eq_true rfl, Nat.le_of_ble_eq_true rfl⟩ rfl hl.1 (Nat.le_of_ble_eq_true rfl) ⟨Nat.zero_le _, Nat.zero_le _⟩ rfl d_MO_partLine_10) (fun H locs hS => ?_)
    refine lv_goto (tgt := 42) F.hx F.hb d_MO_partLine_13 (by decide) ?_
    exact k_MO_partLine_L42 l hlo F hlk hr q11 _ _ _ hS (lv_sub hl [0] rfl) hT
theorem d_MO_hasThing_0 : decode b_MO_hasThing 0 = .ok (.iconst 0, 1) := dc_3 (by decide +kernel)
theorem d_MO_hasThing_1 : decode b_MO_hasThing 1 = .ok (.istore_n 2, 1) := dc_61 (by decide +kernel)
theorem d_MO_hasThing_2 : decode b_MO_hasThing 2 = .ok (.iload_n 2, 1) := dc_28 (by decide +kernel)
theorem d_MO_hasThing_3 : decode b_MO_hasThing 3 = .ok (.aload_n 0, 1) := dc_42 (by decide +kernel)
theorem d_MO_hasThing_4 : decode b_MO_hasThing 4 = .ok (.bipush 6, 2) := dc_16 (by decide +kernel)
theorem d_MO_hasThing_6 : decode b_MO_hasThing 6 = .ok (.invokevirtual 222, 3) := dc_182 (by decide +kernel)
theorem d_MO_hasThing_9 : decode b_MO_hasThing 9 = .ok (.if_icmp .ge 24, 3) := dc_162 (by decide +kernel)
theorem d_MO_hasThing_12 : decode b_MO_hasThing 12 = .ok (.aload_n 0, 1) := dc_42 (by decide +kernel)
theorem d_MO_hasThing_13 : decode b_MO_hasThing 13 = .ok (.getfield 41, 3) := dc_180 (by decide +kernel)
theorem d_MO_hasThing_16 : decode b_MO_hasThing 16 = .ok (.bipush 8, 2) := dc_16 (by decide +kernel)
theorem d_MO_hasThing_18 : decode b_MO_hasThing 18 = .ok (.iload_n 2, 1) := dc_28 (by decide +kernel)
theorem d_MO_hasThing_19 : decode b_MO_hasThing 19 = .ok (.iadd, 1) := dc_96 (by decide +kernel)
theorem d_MO_hasThing_20 : decode b_MO_hasThing 20 = .ok (.iaload, 1) := dc_46 (by decide +kernel)
theorem d_MO_hasThing_21 : decode b_MO_hasThing 21 = .ok (.iload_n 1, 1) := dc_27 (by decide +kernel)
theorem d_MO_hasThing_22 : decode b_MO_hasThing 22 = .ok (.if_icmp .ne 5, 3) := dc_160 (by decide +kernel)
theorem d_MO_hasThing_25 : decode b_MO_hasThing 25 = .ok (.iconst 1, 1) := dc_4 (by decide +kernel)
theorem d_MO_hasThing_26 : decode b_MO_hasThing 26 = .ok (.ireturn, 1) := dc_172 (by decide +kernel)
theorem d_MO_hasThing_27 : decode b_MO_hasThing 27 = .ok (.iinc 2 1, 3) := dc_132 (by decide +kernel)
theorem d_MO_hasThing_30 : decode b_MO_hasThing 30 = .ok (.goto (-28), 3) := dc_167 (by decide +kernel)
theorem d_MO_hasThing_33 : decode b_MO_hasThing 33 = .ok (.iconst 0, 1) := dc_3 (by decide +kernel)
theorem d_MO_hasThing_34 : decode b_MO_hasThing 34 = .ok (.ireturn, 1) := dc_172 (by decide +kernel)
def t_MO_hasThing_L2 (x1 : Int)  : Nat → Mem → Int → Option (Int)
  | 0, _, _ => none
  | fu + 1, M, v2_ => (obind (t_MO_fresher M 6) fun q1 => (if q1 ≤ v2_ then (some 0) else (qguard (0 ≤ (w32 (8 + v2_)) ∧ (w32 (8 + v2_)) < 16) (if (M.1 202 (w32 (8 + v2_))) = x1 then (some 1) else (t_MO_hasThing_L2 x1 fu M (w32 (v2_ + 1)))))))
def t_MO_hasThing (M : Mem) (x1 : Int) : Option (Int) := (t_MO_hasThing_L2 x1 FU M 0)
set_option maxHeartbeats 4000000 in
set_option maxRecDepth 100000 in
theorem k_MO_hasThing_L2 (l : Launch) {p : Program} {e : Env} {s : State} {m : MethodId} {below : List Frame} {meth : Method} {c : Code} {b n : Nat} {C : CT} (hlo : 231 ≤ n) (x1 : Int) (hx1 : InR x1) (F : Cx b p m c b_MO_hasThing 3 s ([.ref (b + 191), vI x1] : List Value).toArray "WardFallsModel" C n 231) (hlk : meth.locks = false) (hr : meth.sig.returnType = some .boolean) {res : Int} : ∀ (fu : Nat) (M : Mem) (v2_ : Int) (hv2_ : InR v2_) (H : Heap) (locs : List Loc) (ls : Array Slot), St b C n M s H locs → lv_has ls 3 [(0, .ref (b + 191)), (1, vI x1), (2, vI v2_)] → t_MO_hasThing_L2 x1 fu M v2_ = some res → W p l e (headSpec (wsM y_MO_hasThing b_MO_hasThing 3 (some .boolean)) (rmD 1)).room s m ([.ref (b + 191), vI x1] : List Value).toArray below meth c H locs 0 0 (MQ below (QZ b C n M res) ([.ref (b + 191), vI x1] : List Value).toArray s 0 0 (frb b)) (F0 m 2 ls []) := by
  intro fu
  induction fu with
  | zero => intro M v2_ hv2_ H locs ls hS hl hT; exact absurd hT (by simp [t_MO_hasThing_L2])
  | succ fu ih =>
    intro M v2_ hv2_ H locs ls hS hl hT
    rw [t_MO_hasThing_L2] at hT
    refine lv_iload_n F.hx F.hb d_MO_hasThing_2 rfl (lv_at hl 2 rfl) ?_
    refine lv_aload_n F.hx F.hb d_MO_hasThing_3 rfl (lv_at hl 0 rfl) ?_
    refine r_bipush F.hx F.hb d_MO_hasThing_4 rfl ?_
    obtain ⟨q1, hq1, hT⟩ := q_obind hT
    refine r_backI F hS (r_runV (k := 191) (N := 68) (T := T1) (As := [vI 6]) F hS (show 191 < 231 by decide) (show shK 191 = 5 from rfl) rfl (c_MO_fresher l F.2.2.1 M 6 (inr_c rfl) _ hq1) gs_MO_222 hd_MO_fresher ⟨Nat.le_of_ble_eq_true rfl, Nat.le_of_ble_eq_true rfl⟩ rfl hl.1 (Nat.le_of_ble_eq_true rfl) ⟨Nat.zero_le _, Nat.zero_le _⟩ rfl d_MO_hasThing_6) (fun H locs hS h2 => ?_)
    refine r_icmp_ge (tgt := 33) F.hx F.hb hv2_ h2 d_MO_hasThing_9 (by decide) (fun c3 => ?_) (fun c3 => ?_)
    · replace hT := (if_pos c3).symm.trans hT
      refine r_iconst F.hx F.hb d_MO_hasThing_33 ?_
      cases hT
      exact r_zret F hlk hr hS (Or.inl rfl) d_MO_hasThing_34
    · replace hT := (if_neg c3).symm.trans hT
      refine lv_aload_n F.hx F.hb d_MO_hasThing_12 rfl (lv_at hl 0 rfl) ?_
      refine r_get (v := .ref (b + 202)) (N := 68) (T := T1) (j := 12) F hS (show 191 < 231 by decide) (show shK 191 = 5 from rfl) (show shN 191 = 68 from rfl) rfl (Nat.le_of_ble_eq_true rfl) ing1 mw_1401 (fv_sg rfl rfl rfl) d_MO_hasThing_13 ?_
      refine r_bipush F.hx F.hb d_MO_hasThing_16 rfl ?_
      refine lv_iload_n F.hx F.hb d_MO_hasThing_18 rfl (lv_at hl 2 rfl) ?_
      refine r_iadd F.hx F.hb d_MO_hasThing_19 ?_
      obtain ⟨⟨g4a, g4b⟩, hT⟩ := q_guard hT
      refine r_iald F hS (show 202 < 231 by decide) (show shK 202 = 0 from rfl) (show shN 202 = 16 from rfl) (inr_w32 _) g4a g4b d_MO_hasThing_20 ?_
      have i5 := hS.rng 202 (w32 (8 + v2_))
      refine lv_iload_n F.hx F.hb d_MO_hasThing_21 rfl (lv_at hl 1 rfl) ?_
      refine r_icmp_ne (tgt := 27) F.hx F.hb i5 hx1 d_MO_hasThing_22 (by decide) (fun c6 => ?_) (fun c6 => ?_)
      · replace hT := (if_neg c6).symm.trans hT
        refine lv_iinc (v := Int32.ofInt (w32 (v2_ + 1))) (lv' := [(2, vI (w32 (v2_ + 1))), (0, .ref (b + 191)), (1, vI x1)]) F.hx F.hb d_MO_hasThing_27 hl (k := 2) rfl (q_of_add _ _) (Nat.le_of_ble_eq_true rfl) rfl (fun ls hl => ?_)
        refine lv_goto (tgt := 2) F.hx F.hb d_MO_hasThing_30 (by decide) ?_
        exact ih M (w32 (v2_ + 1)) (inr_w32 _) _ _ _ hS (lv_sub hl [1, 2, 0] rfl) hT
      · replace hT := (if_pos c6).symm.trans hT
        refine r_iconst F.hx F.hb d_MO_hasThing_25 ?_
        cases hT
        exact r_zret F hlk hr hS (Or.inr rfl) d_MO_hasThing_26
set_option maxHeartbeats 4000000 in
set_option maxRecDepth 100000 in
theorem c_MO_hasThing (l : Launch) {b n : Nat} {C : CT} (hlo : 231 ≤ n) (M : Mem) (x1 : Int) (hx1 : InR x1) (res : Int) (hT : t_MO_hasThing M x1 = some res) : CM l b C n 1 y_MO_hasThing b_MO_hasThing 3 (some .boolean) [.ref (b + 191), vI x1] M (QZ b C n M res) := by
  refine CM.of (lo := 231) (ow := "WardFallsModel") (by decide) rfl (Nat.le_of_ble_eq_true rfl) hlo (fun p e s m below meth c F hlk hr hS ls hl => ?_)
  have hl : lv_has ls 3 [(0, .ref (b + 191)), (1, vI x1)] := hl
  unfold t_MO_hasThing at hT
  refine r_iconst F.hx F.hb d_MO_hasThing_0 ?_
  refine lv_istore_n (lv' := [(2, vI 0), (0, .ref (b + 191)), (1, vI x1)]) F.hx F.hb d_MO_hasThing_1 rfl hl (Nat.le_of_ble_eq_true rfl) rfl (fun ls hl => ?_)
  exact k_MO_hasThing_L2 l hlo x1 hx1 F hlk hr FU M 0 (inr_c rfl) _ _ _ hS (lv_sub hl [1, 2, 0] rfl) hT
