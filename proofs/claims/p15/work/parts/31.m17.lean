theorem d_MO_wallLine_0 : decode b_MO_wallLine 0 = .ok (.aload_n 0, 1) := dc_42 (by decide +kernel)
theorem d_MO_wallLine_1 : decode b_MO_wallLine 1 = .ok (.invokevirtual 270, 3) := dc_182 (by decide +kernel)
theorem d_MO_wallLine_4 : decode b_MO_wallLine 4 = .ok (.istore_n 1, 1) := dc_60 (by decide +kernel)
theorem d_MO_wallLine_5 : decode b_MO_wallLine 5 = .ok (.aload_n 0, 1) := dc_42 (by decide +kernel)
theorem d_MO_wallLine_6 : decode b_MO_wallLine 6 = .ok (.getfield 199, 3) := dc_180 (by decide +kernel)
theorem d_MO_wallLine_9 : decode b_MO_wallLine 9 = .ok (.ifCond .ne 20, 3) := dc_154 (by decide +kernel)
theorem d_MO_wallLine_12 : decode b_MO_wallLine 12 = .ok (.aload_n 0, 1) := dc_42 (by decide +kernel)
theorem d_MO_wallLine_13 : decode b_MO_wallLine 13 = .ok (.getfield 28, 3) := dc_180 (by decide +kernel)
theorem d_MO_wallLine_16 : decode b_MO_wallLine 16 = .ok (.bipush 48, 2) := dc_16 (by decide +kernel)
theorem d_MO_wallLine_18 : decode b_MO_wallLine 18 = .ok (.iload_n 1, 1) := dc_27 (by decide +kernel)
theorem d_MO_wallLine_19 : decode b_MO_wallLine 19 = .ok (.iadd, 1) := dc_96 (by decide +kernel)
theorem d_MO_wallLine_20 : decode b_MO_wallLine 20 = .ok (.baload, 1) := dc_51 (by decide +kernel)
theorem d_MO_wallLine_21 : decode b_MO_wallLine 21 = .ok (.ifCond .eq 8, 3) := dc_153 (by decide +kernel)
theorem d_MO_wallLine_24 : decode b_MO_wallLine 24 = .ok (.aload_n 0, 1) := dc_42 (by decide +kernel)
theorem d_MO_wallLine_25 : decode b_MO_wallLine 25 = .ok (.iconst 3, 1) := dc_6 (by decide +kernel)
theorem d_MO_wallLine_26 : decode b_MO_wallLine 26 = .ok (.invokevirtual 208, 3) := dc_182 (by decide +kernel)
theorem d_MO_wallLine_29 : decode b_MO_wallLine 29 = .ok (.aload_n 0, 1) := dc_42 (by decide +kernel)
theorem d_MO_wallLine_30 : decode b_MO_wallLine 30 = .ok (.getfield 199, 3) := dc_180 (by decide +kernel)
theorem d_MO_wallLine_33 : decode b_MO_wallLine 33 = .ok (.ifCond .ne 28, 3) := dc_154 (by decide +kernel)
theorem d_MO_wallLine_36 : decode b_MO_wallLine 36 = .ok (.aload_n 0, 1) := dc_42 (by decide +kernel)
theorem d_MO_wallLine_37 : decode b_MO_wallLine 37 = .ok (.getfield 32, 3) := dc_180 (by decide +kernel)
theorem d_MO_wallLine_40 : decode b_MO_wallLine 40 = .ok (.bipush 48, 2) := dc_16 (by decide +kernel)
theorem d_MO_wallLine_42 : decode b_MO_wallLine 42 = .ok (.iload_n 1, 1) := dc_27 (by decide +kernel)
theorem d_MO_wallLine_43 : decode b_MO_wallLine 43 = .ok (.iadd, 1) := dc_96 (by decide +kernel)
theorem d_MO_wallLine_44 : decode b_MO_wallLine 44 = .ok (.baload, 1) := dc_51 (by decide +kernel)
theorem d_MO_wallLine_45 : decode b_MO_wallLine 45 = .ok (.ifCond .ne 11, 3) := dc_154 (by decide +kernel)
theorem d_MO_wallLine_48 : decode b_MO_wallLine 48 = .ok (.aload_n 0, 1) := dc_42 (by decide +kernel)
theorem d_MO_wallLine_49 : decode b_MO_wallLine 49 = .ok (.iload_n 1, 1) := dc_27 (by decide +kernel)
theorem d_MO_wallLine_50 : decode b_MO_wallLine 50 = .ok (.invokevirtual 273, 3) := dc_182 (by decide +kernel)
theorem d_MO_wallLine_53 : decode b_MO_wallLine 53 = .ok (.ifCond .eq 8, 3) := dc_153 (by decide +kernel)
theorem d_MO_wallLine_56 : decode b_MO_wallLine 56 = .ok (.aload_n 0, 1) := dc_42 (by decide +kernel)
theorem d_MO_wallLine_57 : decode b_MO_wallLine 57 = .ok (.iconst 5, 1) := dc_8 (by decide +kernel)
theorem d_MO_wallLine_58 : decode b_MO_wallLine 58 = .ok (.invokevirtual 208, 3) := dc_182 (by decide +kernel)
theorem d_MO_wallLine_61 : decode b_MO_wallLine 61 = .ok (.aload_n 0, 1) := dc_42 (by decide +kernel)
theorem d_MO_wallLine_62 : decode b_MO_wallLine 62 = .ok (.getfield 199, 3) := dc_180 (by decide +kernel)
theorem d_MO_wallLine_65 : decode b_MO_wallLine 65 = .ok (.ifCond .eq 4, 3) := dc_153 (by decide +kernel)
theorem d_MO_wallLine_68 : decode b_MO_wallLine 68 = .ok (.return_, 1) := dc_177 (by decide +kernel)
theorem d_MO_wallLine_69 : decode b_MO_wallLine 69 = .ok (.aload_n 0, 1) := dc_42 (by decide +kernel)
theorem d_MO_wallLine_70 : decode b_MO_wallLine 70 = .ok (.getfield 28, 3) := dc_180 (by decide +kernel)
theorem d_MO_wallLine_73 : decode b_MO_wallLine 73 = .ok (.bipush 48, 2) := dc_16 (by decide +kernel)
theorem d_MO_wallLine_75 : decode b_MO_wallLine 75 = .ok (.iload_n 1, 1) := dc_27 (by decide +kernel)
theorem d_MO_wallLine_76 : decode b_MO_wallLine 76 = .ok (.iadd, 1) := dc_96 (by decide +kernel)
theorem d_MO_wallLine_77 : decode b_MO_wallLine 77 = .ok (.iconst 1, 1) := dc_4 (by decide +kernel)
theorem d_MO_wallLine_78 : decode b_MO_wallLine 78 = .ok (.bastore, 1) := dc_84 (by decide +kernel)
theorem d_MO_wallLine_79 : decode b_MO_wallLine 79 = .ok (.aload_n 0, 1) := dc_42 (by decide +kernel)
theorem d_MO_wallLine_80 : decode b_MO_wallLine 80 = .ok (.iconst 4, 1) := dc_7 (by decide +kernel)
theorem d_MO_wallLine_81 : decode b_MO_wallLine 81 = .ok (.aload_n 0, 1) := dc_42 (by decide +kernel)
theorem d_MO_wallLine_82 : decode b_MO_wallLine 82 = .ok (.iconst 4, 1) := dc_7 (by decide +kernel)
theorem d_MO_wallLine_83 : decode b_MO_wallLine 83 = .ok (.invokevirtual 222, 3) := dc_182 (by decide +kernel)
theorem d_MO_wallLine_86 : decode b_MO_wallLine 86 = .ok (.iconst 1, 1) := dc_4 (by decide +kernel)
theorem d_MO_wallLine_87 : decode b_MO_wallLine 87 = .ok (.iadd, 1) := dc_96 (by decide +kernel)
theorem d_MO_wallLine_88 : decode b_MO_wallLine 88 = .ok (.invokevirtual 238, 3) := dc_182 (by decide +kernel)
theorem d_MO_wallLine_91 : decode b_MO_wallLine 91 = .ok (.aload_n 0, 1) := dc_42 (by decide +kernel)
theorem d_MO_wallLine_92 : decode b_MO_wallLine 92 = .ok (.invokevirtual 205, 3) := dc_182 (by decide +kernel)
theorem d_MO_wallLine_95 : decode b_MO_wallLine 95 = .ok (.return_, 1) := dc_177 (by decide +kernel)
def t_MO_wallLine_L61   (M : Mem) (v1_ : Int) : Option (Mem) := (if (M.1 191 24) = 0 then (qguard (0 ≤ (w32 (48 + v1_)) ∧ (w32 (48 + v1_)) < 96) (qlet (setI M 198 (w32 (48 + v1_)) 1) fun M21 => (obind (t_MO_fresher M21 4) fun q22 => (obind (t_MO_reads M21 4 (w32 (q22 + 1))) fun q24 => (obind (t_MO_token q24) fun q26 => (some q26)))))) else (some M))
def t_MO_wallLine_L56   (M : Mem) (v1_ : Int) : Option (Mem) := (qlet (t_MO_wrong M 5) fun q28 => (t_MO_wallLine_L61 q28 v1_))
def t_MO_wallLine_L29   (M : Mem) (v1_ : Int) : Option (Mem) := (if (M.1 191 24) = 0 then (qguard (0 ≤ (w32 (48 + v1_)) ∧ (w32 (48 + v1_)) < 96) (if (M.1 199 (w32 (48 + v1_))) = 0 then (obind (t_MO_hasThing M v1_) fun q15 => (if q15 = 0 then (t_MO_wallLine_L61 M v1_) else (t_MO_wallLine_L56 M v1_))) else (t_MO_wallLine_L56 M v1_))) else (t_MO_wallLine_L61 M v1_))
def t_MO_wallLine (M : Mem)  : Option (Mem) := (obind (t_MO_cellAtHand M) fun q1 => (if ((q1.1).1 191 24) = 0 then (qguard (0 ≤ (w32 (48 + (q1.2))) ∧ (w32 (48 + (q1.2))) < 96) (if ((q1.1).1 198 (w32 (48 + (q1.2)))) = 0 then (t_MO_wallLine_L29 (q1.1) (q1.2)) else (qlet (t_MO_wrong (q1.1) 3) fun q8 => (t_MO_wallLine_L29 q8 (q1.2))))) else (t_MO_wallLine_L29 (q1.1) (q1.2))))
set_option maxHeartbeats 4000000 in
set_option maxRecDepth 100000 in
theorem k_MO_wallLine_L61 (l : Launch) {p : Program} {e : Env} {s : State} {m : MethodId} {below : List Frame} {meth : Method} {c : Code} {b n : Nat} {C : CT} (hlo : 231 ≤ n)   (F : Cx b p m c b_MO_wallLine 2 s ([.ref (b + 191)] : List Value).toArray "WardFallsModel" C n 231) (hlk : meth.locks = false) (hr : meth.sig.returnType = none) {res : Mem} (M : Mem) (v1_ : Int) (hv1_ : InR v1_) (H : Heap) (locs : List Loc) (ls : Array Slot) (hS : St b C n M s H locs) (hl : lv_has ls 2 [(0, .ref (b + 191)), (1, vI v1_)]) (hT : t_MO_wallLine_L61 M v1_ = some res) : W p l e (headSpec (wsM y_MO_wallLine b_MO_wallLine 2 (none)) (rmD 9)).room s m ([.ref (b + 191)] : List Value).toArray below meth c H locs 0 0 (MQ below (QV b C n res) ([.ref (b + 191)] : List Value).toArray s 0 0 (frb b)) (F0 m 61 ls []) := by
  unfold t_MO_wallLine_L61 at hT
  refine lv_aload_n F.hx F.hb d_MO_wallLine_61 rfl (lv_at hl 0 rfl) ?_
  refine r_get (v := vI (M.1 191 24)) (N := 68) (T := T1) (j := 24) F hS (show 191 < 231 by decide) (show shK 191 = 5 from rfl) (show shN 191 = 68 from rfl) rfl (Nat.le_of_ble_eq_true rfl) ing1 mw_1413 (fv_int rfl) d_MO_wallLine_62 ?_
  have i18 := hS.rng 191 24
  refine r_if_eq (tgt := 69) F.hx F.hb i18 d_MO_wallLine_65 (by decide) (fun c19 => ?_) (fun c19 => ?_)
  · replace hT := (if_pos c19).symm.trans hT
    refine lv_aload_n F.hx F.hb d_MO_wallLine_69 rfl (lv_at hl 0 rfl) ?_
    refine r_get (v := .ref (b + 198)) (N := 68) (T := T1) (j := 8) F hS (show 191 < 231 by decide) (show shK 191 = 5 from rfl) (show shN 191 = 68 from rfl) rfl (Nat.le_of_ble_eq_true rfl) ing1 mw_1397 (fv_sg rfl rfl rfl) d_MO_wallLine_70 ?_
    refine r_bipush F.hx F.hb d_MO_wallLine_73 rfl ?_
    refine lv_iload_n F.hx F.hb d_MO_wallLine_75 rfl (lv_at hl 1 rfl) ?_
    refine r_iadd F.hx F.hb d_MO_wallLine_76 ?_
    refine r_iconst F.hx F.hb d_MO_wallLine_77 ?_
    obtain ⟨⟨g20a, g20b⟩, hT⟩ := q_guard hT
    refine r_zast F hS (show 198 < 231 by decide) (show shK 198 = 1 from rfl) (show shN 198 = 96 from rfl) (inr_w32 _) (Or.inr rfl) g20a g20b d_MO_wallLine_78 (fun H locs hS => ?_)
    obtain ⟨M21, eM21⟩ : ∃ q, q = (setI M 198 (w32 (48 + v1_)) 1) := ⟨_, rfl⟩
    replace hS : St b C n M21 s H locs := by rw [eM21]; exact hS
    replace hT := qlet_eq hT eM21
    refine lv_aload_n F.hx F.hb d_MO_wallLine_79 rfl (lv_at hl 0 rfl) ?_
    refine r_iconst F.hx F.hb d_MO_wallLine_80 ?_
    refine lv_aload_n F.hx F.hb d_MO_wallLine_81 rfl (lv_at hl 0 rfl) ?_
    refine r_iconst F.hx F.hb d_MO_wallLine_82 ?_
    obtain ⟨q22, hq22, hT⟩ := q_obind hT
    refine r_backI F hS (r_runV (k := 191) (N := 68) (T := T1) (As := [vI 4]) F hS (show 191 < 231 by decide) (show shK 191 = 5 from rfl) rfl (c_MO_fresher l F.2.2.1 M21 4 (inr_c rfl) _ hq22) gs_MO_222 hd_MO_fresher ⟨Nat.le_of_ble_eq_true rfl, Nat.le_of_ble_eq_true rfl⟩ rfl hl.1 (Nat.le_of_ble_eq_true rfl) ⟨Nat.zero_le _, Nat.zero_le _⟩ rfl d_MO_wallLine_83) (fun H locs hS h23 => ?_)
    refine r_iconst F.hx F.hb d_MO_wallLine_86 ?_
    refine r_iadd F.hx F.hb d_MO_wallLine_87 ?_
    obtain ⟨q24, hq24, hT⟩ := q_obind hT
    refine r_backV F hS (r_runV (k := 191) (N := 68) (T := T1) (As := [vI 4, vI (w32 (q22 + 1))]) F hS (show 191 < 231 by decide) (show shK 191 = 5 from rfl) rfl (c_MO_reads l F.2.2.1 M21 4 (w32 (q22 + 1)) (inr_c rfl) (inr_w32 _) _ hq24) gs_MO_238 hd_MO_reads ⟨Nat.le_of_ble_eq_true rfl, Nat.le_of_ble_eq_true rfl⟩ rfl hl.1 (Nat.le_of_ble_eq_true rfl) ⟨Nat.zero_le _, Nat.zero_le _⟩ rfl d_MO_wallLine_88) (fun H locs hS => ?_)
    refine lv_aload_n F.hx F.hb d_MO_wallLine_91 rfl (lv_at hl 0 rfl) ?_
    obtain ⟨q26, hq26, hT⟩ := q_obind hT
    refine r_backV F hS (r_runV (k := 191) (N := 68) (T := T1) (As := []) F hS (show 191 < 231 by decide) (show shK 191 = 5 from rfl) rfl (c_MO_token l F.2.2.1 q24 _ hq26) gs_MO_205 hd_MO_token ⟨Nat.le_of_ble_eq_true rfl, Nat.le_of_ble_eq_true rfl⟩ rfl hl.1 (Nat.le_of_ble_eq_true rfl) ⟨Nat.zero_le _, Nat.zero_le _⟩ rfl d_MO_wallLine_92) (fun H locs hS => ?_)
    cases hT
    exact r_vret F hlk hr hS d_MO_wallLine_95
  · replace hT := (if_neg c19).symm.trans hT
    cases hT
    exact r_vret F hlk hr hS d_MO_wallLine_68
set_option maxHeartbeats 4000000 in
set_option maxRecDepth 100000 in
theorem k_MO_wallLine_L56 (l : Launch) {p : Program} {e : Env} {s : State} {m : MethodId} {below : List Frame} {meth : Method} {c : Code} {b n : Nat} {C : CT} (hlo : 231 ≤ n)   (F : Cx b p m c b_MO_wallLine 2 s ([.ref (b + 191)] : List Value).toArray "WardFallsModel" C n 231) (hlk : meth.locks = false) (hr : meth.sig.returnType = none) {res : Mem} (M : Mem) (v1_ : Int) (hv1_ : InR v1_) (H : Heap) (locs : List Loc) (ls : Array Slot) (hS : St b C n M s H locs) (hl : lv_has ls 2 [(0, .ref (b + 191)), (1, vI v1_)]) (hT : t_MO_wallLine_L56 M v1_ = some res) : W p l e (headSpec (wsM y_MO_wallLine b_MO_wallLine 2 (none)) (rmD 9)).room s m ([.ref (b + 191)] : List Value).toArray below meth c H locs 0 0 (MQ below (QV b C n res) ([.ref (b + 191)] : List Value).toArray s 0 0 (frb b)) (F0 m 56 ls []) := by
  unfold t_MO_wallLine_L56 at hT
  refine lv_aload_n F.hx F.hb d_MO_wallLine_56 rfl (lv_at hl 0 rfl) ?_
  refine r_iconst F.hx F.hb d_MO_wallLine_57 ?_
  obtain ⟨q28, hq28⟩ : ∃ q, q = (t_MO_wrong M 5) := ⟨_, rfl⟩
  replace hT := qlet_eq hT hq28
  refine r_backV F hS (r_runV (k := 191) (N := 68) (T := T1) (As := [vI 5]) F hS (show 191 < 231 by decide) (show shK 191 = 5 from rfl) rfl (c_MO_wrong l F.2.2.1 M 5 (inr_c rfl) _ hq28.symm) gs_MO_208 hd_MO_wrong ⟨Nat.le_of_ble_eq_true rfl, Nat.le_of_ble_eq_true rfl⟩ rfl hl.1 (Nat.le_of_ble_eq_true rfl) ⟨Nat.zero_le _, Nat.zero_le _⟩ rfl d_MO_wallLine_58) (fun H locs hS => ?_)
  exact k_MO_wallLine_L61 l hlo F hlk hr q28 v1_ hv1_ _ _ _ hS (lv_sub hl [0, 1] rfl) hT
set_option maxHeartbeats 4000000 in
set_option maxRecDepth 100000 in
theorem k_MO_wallLine_L29 (l : Launch) {p : Program} {e : Env} {s : State} {m : MethodId} {below : List Frame} {meth : Method} {c : Code} {b n : Nat} {C : CT} (hlo : 231 ≤ n)   (F : Cx b p m c b_MO_wallLine 2 s ([.ref (b + 191)] : List Value).toArray "WardFallsModel" C n 231) (hlk : meth.locks = false) (hr : meth.sig.returnType = none) {res : Mem} (M : Mem) (v1_ : Int) (hv1_ : InR v1_) (H : Heap) (locs : List Loc) (ls : Array Slot) (hS : St b C n M s H locs) (hl : lv_has ls 2 [(0, .ref (b + 191)), (1, vI v1_)]) (hT : t_MO_wallLine_L29 M v1_ = some res) : W p l e (headSpec (wsM y_MO_wallLine b_MO_wallLine 2 (none)) (rmD 9)).room s m ([.ref (b + 191)] : List Value).toArray below meth c H locs 0 0 (MQ below (QV b C n res) ([.ref (b + 191)] : List Value).toArray s 0 0 (frb b)) (F0 m 29 ls []) := by
  unfold t_MO_wallLine_L29 at hT
  refine lv_aload_n F.hx F.hb d_MO_wallLine_29 rfl (lv_at hl 0 rfl) ?_
  refine r_get (v := vI (M.1 191 24)) (N := 68) (T := T1) (j := 24) F hS (show 191 < 231 by decide) (show shK 191 = 5 from rfl) (show shN 191 = 68 from rfl) rfl (Nat.le_of_ble_eq_true rfl) ing1 mw_1413 (fv_int rfl) d_MO_wallLine_30 ?_
  have i10 := hS.rng 191 24
  refine r_if_ne (tgt := 61) F.hx F.hb i10 d_MO_wallLine_33 (by decide) (fun c11 => ?_) (fun c11 => ?_)
  · replace hT := (if_neg c11).symm.trans hT
    exact k_MO_wallLine_L61 l hlo F hlk hr M v1_ hv1_ _ _ _ hS (lv_sub hl [0, 1] rfl) hT
  · replace hT := (if_pos c11).symm.trans hT
    refine lv_aload_n F.hx F.hb d_MO_wallLine_36 rfl (lv_at hl 0 rfl) ?_
    refine r_get (v := .ref (b + 199)) (N := 68) (T := T1) (j := 9) F hS (show 191 < 231 by decide) (show shK 191 = 5 from rfl) (show shN 191 = 68 from rfl) rfl (Nat.le_of_ble_eq_true rfl) ing1 mw_1398 (fv_sg rfl rfl rfl) d_MO_wallLine_37 ?_
    refine r_bipush F.hx F.hb d_MO_wallLine_40 rfl ?_
    refine lv_iload_n F.hx F.hb d_MO_wallLine_42 rfl (lv_at hl 1 rfl) ?_
    refine r_iadd F.hx F.hb d_MO_wallLine_43 ?_
    obtain ⟨⟨g12a, g12b⟩, hT⟩ := q_guard hT
    have z13 := hS.bool (show shK 199 = 1 from rfl) (w32 (48 + v1_))
    refine r_zald F hS (show 199 < 231 by decide) (show shK 199 = 1 from rfl) (show shN 199 = 96 from rfl) (inr_w32 _) g12a g12b d_MO_wallLine_44 ?_
    refine r_if_ne (tgt := 56) F.hx F.hb (inr_z z13) d_MO_wallLine_45 (by decide) (fun c14 => ?_) (fun c14 => ?_)
    · replace hT := (if_neg c14).symm.trans hT
      exact k_MO_wallLine_L56 l hlo F hlk hr M v1_ hv1_ _ _ _ hS (lv_sub hl [0, 1] rfl) hT
    · replace hT := (if_pos c14).symm.trans hT
      refine lv_aload_n F.hx F.hb d_MO_wallLine_48 rfl (lv_at hl 0 rfl) ?_
      refine lv_iload_n F.hx F.hb d_MO_wallLine_49 rfl (lv_at hl 1 rfl) ?_
      obtain ⟨q15, hq15, hT⟩ := q_obind hT
      refine r_backZ F hS (r_runV (k := 191) (N := 68) (T := T1) (As := [vI v1_]) F hS (show 191 < 231 by decide) (show shK 191 = 5 from rfl) rfl (c_MO_hasThing l F.2.2.1 M v1_ hv1_ _ hq15) gs_MO_273 hd_MO_hasThing ⟨Nat.le_of_ble_eq_true rfl, Nat.le_of_ble_eq_true rfl⟩ rfl hl.1 (Nat.le_of_ble_eq_true rfl) ⟨Nat.zero_le _, Nat.zero_le _⟩ rfl d_MO_wallLine_50) (fun H locs hS h16 => ?_)
      refine r_if_eq (tgt := 61) F.hx F.hb (inr_z h16) d_MO_wallLine_53 (by decide) (fun c17 => ?_) (fun c17 => ?_)
      · replace hT := (if_pos c17).symm.trans hT
        exact k_MO_wallLine_L61 l hlo F hlk hr M v1_ hv1_ _ _ _ hS (lv_sub hl [0, 1] rfl) hT
      · replace hT := (if_neg c17).symm.trans hT
        exact k_MO_wallLine_L56 l hlo F hlk hr M v1_ hv1_ _ _ _ hS (lv_sub hl [0, 1] rfl) hT
set_option maxHeartbeats 4000000 in
set_option maxRecDepth 100000 in
theorem c_MO_wallLine (l : Launch) {b n : Nat} {C : CT} (hlo : 231 ≤ n) (M : Mem)   (res : Mem) (hT : t_MO_wallLine M  = some res) : CM l b C n 9 y_MO_wallLine b_MO_wallLine 2 (none) [.ref (b + 191)] M (QV b C n res) := by
  refine CM.of (lo := 231) (ow := "WardFallsModel") (by decide) rfl (Nat.le_of_ble_eq_true rfl) hlo (fun p e s m below meth c F hlk hr hS ls hl => ?_)
  have hl : lv_has ls 2 [(0, .ref (b + 191))] := hl
  unfold t_MO_wallLine at hT
  refine lv_aload_n F.hx F.hb d_MO_wallLine_0 rfl (lv_at hl 0 rfl) ?_
  obtain ⟨q1, hq1, hT⟩ := q_obind hT
  refine r_backI F hS (r_runV (k := 191) (N := 68) (T := T1) (As := []) F hS (show 191 < 231 by decide) (show shK 191 = 5 from rfl) rfl (c_MO_cellAtHand l F.2.2.1 M _ hq1) gs_MO_270 hd_MO_cellAtHand ⟨Nat.le_of_ble_eq_true rfl, Nat.le_of_ble_eq_true rfl⟩ rfl hl.1 (Nat.le_of_ble_eq_true rfl) ⟨Nat.zero_le _, Nat.zero_le _⟩ rfl d_MO_wallLine_1) (fun H locs hS h2 => ?_)
  refine lv_istore_n (lv' := [(1, vI (q1.2)), (0, .ref (b + 191))]) F.hx F.hb d_MO_wallLine_4 rfl hl (Nat.le_of_ble_eq_true rfl) rfl (fun ls hl => ?_)
  refine lv_aload_n F.hx F.hb d_MO_wallLine_5 rfl (lv_at hl 1 rfl) ?_
  refine r_get (v := vI ((q1.1).1 191 24)) (N := 68) (T := T1) (j := 24) F hS (show 191 < 231 by decide) (show shK 191 = 5 from rfl) (show shN 191 = 68 from rfl) rfl (Nat.le_of_ble_eq_true rfl) ing1 mw_1413 (fv_int rfl) d_MO_wallLine_6 ?_
  have i3 := hS.rng 191 24
  refine r_if_ne (tgt := 29) F.hx F.hb i3 d_MO_wallLine_9 (by decide) (fun c4 => ?_) (fun c4 => ?_)
  · replace hT := (if_neg c4).symm.trans hT
    exact k_MO_wallLine_L29 l hlo F hlk hr (q1.1) (q1.2) h2 _ _ _ hS (lv_sub hl [1, 0] rfl) hT
  · replace hT := (if_pos c4).symm.trans hT
    refine lv_aload_n F.hx F.hb d_MO_wallLine_12 rfl (lv_at hl 1 rfl) ?_
    refine r_get (v := .ref (b + 198)) (N := 68) (T := T1) (j := 8) F hS (show 191 < 231 by decide) (show shK 191 = 5 from rfl) (show shN 191 = 68 from rfl) rfl (Nat.le_of_ble_eq_true rfl) ing1 mw_1397 (fv_sg rfl rfl rfl) d_MO_wallLine_13 ?_
    refine r_bipush F.hx F.hb d_MO_wallLine_16 rfl ?_
    refine lv_iload_n F.hx F.hb d_MO_wallLine_18 rfl (lv_at hl 0 rfl) ?_
    refine r_iadd F.hx F.hb d_MO_wallLine_19 ?_
    obtain ⟨⟨g5a, g5b⟩, hT⟩ := q_guard hT
    have z6 := hS.bool (show shK 198 = 1 from rfl) (w32 (48 + (q1.2)))
    refine r_zald F hS (show 198 < 231 by decide) (show shK 198 = 1 from rfl) (show shN 198 = 96 from rfl) (inr_w32 _) g5a g5b d_MO_wallLine_20 ?_
    refine r_if_eq (tgt := 29) F.hx F.hb (inr_z z6) d_MO_wallLine_21 (by decide) (fun c7 => ?_) (fun c7 => ?_)
    · replace hT := (if_pos c7).symm.trans hT
      exact k_MO_wallLine_L29 l hlo F hlk hr (q1.1) (q1.2) h2 _ _ _ hS (lv_sub hl [1, 0] rfl) hT
    · replace hT := (if_neg c7).symm.trans hT
      refine lv_aload_n F.hx F.hb d_MO_wallLine_24 rfl (lv_at hl 1 rfl) ?_
      refine r_iconst F.hx F.hb d_MO_wallLine_25 ?_
      obtain ⟨q8, hq8⟩ : ∃ q, q = (t_MO_wrong (q1.1) 3) := ⟨_, rfl⟩
      replace hT := qlet_eq hT hq8
      refine r_backV F hS (r_runV (k := 191) (N := 68) (T := T1) (As := [vI 3]) F hS (show 191 < 231 by decide) (show shK 191 = 5 from rfl) rfl (c_MO_wrong l F.2.2.1 (q1.1) 3 (inr_c rfl) _ hq8.symm) gs_MO_208 hd_MO_wrong ⟨Nat.le_of_ble_eq_true rfl, Nat.le_of_ble_eq_true rfl⟩ rfl hl.1 (Nat.le_of_ble_eq_true rfl) ⟨Nat.zero_le _, Nat.zero_le _⟩ rfl d_MO_wallLine_26) (fun H locs hS => ?_)
      exact k_MO_wallLine_L29 l hlo F hlk hr q8 (q1.2) h2 _ _ _ hS (lv_sub hl [1, 0] rfl) hT
theorem d_MO_stairLine_0 : decode b_MO_stairLine 0 = .ok (.aload_n 0, 1) := dc_42 (by decide +kernel)
theorem d_MO_stairLine_1 : decode b_MO_stairLine 1 = .ok (.invokevirtual 270, 3) := dc_182 (by decide +kernel)
theorem d_MO_stairLine_4 : decode b_MO_stairLine 4 = .ok (.istore_n 1, 1) := dc_60 (by decide +kernel)
theorem d_MO_stairLine_5 : decode b_MO_stairLine 5 = .ok (.aload_n 0, 1) := dc_42 (by decide +kernel)
theorem d_MO_stairLine_6 : decode b_MO_stairLine 6 = .ok (.getfield 199, 3) := dc_180 (by decide +kernel)
theorem d_MO_stairLine_9 : decode b_MO_stairLine 9 = .ok (.ifCond .ne 20, 3) := dc_154 (by decide +kernel)
theorem d_MO_stairLine_12 : decode b_MO_stairLine 12 = .ok (.aload_n 0, 1) := dc_42 (by decide +kernel)
theorem d_MO_stairLine_13 : decode b_MO_stairLine 13 = .ok (.getfield 32, 3) := dc_180 (by decide +kernel)
theorem d_MO_stairLine_16 : decode b_MO_stairLine 16 = .ok (.bipush 48, 2) := dc_16 (by decide +kernel)
theorem d_MO_stairLine_18 : decode b_MO_stairLine 18 = .ok (.iload_n 1, 1) := dc_27 (by decide +kernel)
theorem d_MO_stairLine_19 : decode b_MO_stairLine 19 = .ok (.iadd, 1) := dc_96 (by decide +kernel)
theorem d_MO_stairLine_20 : decode b_MO_stairLine 20 = .ok (.baload, 1) := dc_51 (by decide +kernel)
theorem d_MO_stairLine_21 : decode b_MO_stairLine 21 = .ok (.ifCond .eq 8, 3) := dc_153 (by decide +kernel)
theorem d_MO_stairLine_24 : decode b_MO_stairLine 24 = .ok (.aload_n 0, 1) := dc_42 (by decide +kernel)
theorem d_MO_stairLine_25 : decode b_MO_stairLine 25 = .ok (.iconst 3, 1) := dc_6 (by decide +kernel)
theorem d_MO_stairLine_26 : decode b_MO_stairLine 26 = .ok (.invokevirtual 208, 3) := dc_182 (by decide +kernel)
theorem d_MO_stairLine_29 : decode b_MO_stairLine 29 = .ok (.aload_n 0, 1) := dc_42 (by decide +kernel)
theorem d_MO_stairLine_30 : decode b_MO_stairLine 30 = .ok (.getfield 199, 3) := dc_180 (by decide +kernel)
theorem d_MO_stairLine_33 : decode b_MO_stairLine 33 = .ok (.ifCond .ne 20, 3) := dc_154 (by decide +kernel)
theorem d_MO_stairLine_36 : decode b_MO_stairLine 36 = .ok (.aload_n 0, 1) := dc_42 (by decide +kernel)
theorem d_MO_stairLine_37 : decode b_MO_stairLine 37 = .ok (.getfield 28, 3) := dc_180 (by decide +kernel)
theorem d_MO_stairLine_40 : decode b_MO_stairLine 40 = .ok (.bipush 48, 2) := dc_16 (by decide +kernel)
theorem d_MO_stairLine_42 : decode b_MO_stairLine 42 = .ok (.iload_n 1, 1) := dc_27 (by decide +kernel)
theorem d_MO_stairLine_43 : decode b_MO_stairLine 43 = .ok (.iadd, 1) := dc_96 (by decide +kernel)
theorem d_MO_stairLine_44 : decode b_MO_stairLine 44 = .ok (.baload, 1) := dc_51 (by decide +kernel)
theorem d_MO_stairLine_45 : decode b_MO_stairLine 45 = .ok (.ifCond .eq 8, 3) := dc_153 (by decide +kernel)
theorem d_MO_stairLine_48 : decode b_MO_stairLine 48 = .ok (.aload_n 0, 1) := dc_42 (by decide +kernel)
theorem d_MO_stairLine_49 : decode b_MO_stairLine 49 = .ok (.iconst 5, 1) := dc_8 (by decide +kernel)
theorem d_MO_stairLine_50 : decode b_MO_stairLine 50 = .ok (.invokevirtual 208, 3) := dc_182 (by decide +kernel)
theorem d_MO_stairLine_53 : decode b_MO_stairLine 53 = .ok (.aload_n 0, 1) := dc_42 (by decide +kernel)
theorem d_MO_stairLine_54 : decode b_MO_stairLine 54 = .ok (.getfield 199, 3) := dc_180 (by decide +kernel)
theorem d_MO_stairLine_57 : decode b_MO_stairLine 57 = .ok (.ifCond .eq 4, 3) := dc_153 (by decide +kernel)
theorem d_MO_stairLine_60 : decode b_MO_stairLine 60 = .ok (.return_, 1) := dc_177 (by decide +kernel)
theorem d_MO_stairLine_61 : decode b_MO_stairLine 61 = .ok (.aload_n 0, 1) := dc_42 (by decide +kernel)
theorem d_MO_stairLine_62 : decode b_MO_stairLine 62 = .ok (.getfield 32, 3) := dc_180 (by decide +kernel)
theorem d_MO_stairLine_65 : decode b_MO_stairLine 65 = .ok (.bipush 48, 2) := dc_16 (by decide +kernel)
theorem d_MO_stairLine_67 : decode b_MO_stairLine 67 = .ok (.iload_n 1, 1) := dc_27 (by decide +kernel)
theorem d_MO_stairLine_68 : decode b_MO_stairLine 68 = .ok (.iadd, 1) := dc_96 (by decide +kernel)
theorem d_MO_stairLine_69 : decode b_MO_stairLine 69 = .ok (.iconst 1, 1) := dc_4 (by decide +kernel)
theorem d_MO_stairLine_70 : decode b_MO_stairLine 70 = .ok (.bastore, 1) := dc_84 (by decide +kernel)
theorem d_MO_stairLine_71 : decode b_MO_stairLine 71 = .ok (.aload_n 0, 1) := dc_42 (by decide +kernel)
theorem d_MO_stairLine_72 : decode b_MO_stairLine 72 = .ok (.iconst 5, 1) := dc_8 (by decide +kernel)
theorem d_MO_stairLine_73 : decode b_MO_stairLine 73 = .ok (.aload_n 0, 1) := dc_42 (by decide +kernel)
theorem d_MO_stairLine_74 : decode b_MO_stairLine 74 = .ok (.iconst 5, 1) := dc_8 (by decide +kernel)
theorem d_MO_stairLine_75 : decode b_MO_stairLine 75 = .ok (.invokevirtual 222, 3) := dc_182 (by decide +kernel)
theorem d_MO_stairLine_78 : decode b_MO_stairLine 78 = .ok (.iconst 1, 1) := dc_4 (by decide +kernel)
theorem d_MO_stairLine_79 : decode b_MO_stairLine 79 = .ok (.iadd, 1) := dc_96 (by decide +kernel)
theorem d_MO_stairLine_80 : decode b_MO_stairLine 80 = .ok (.invokevirtual 238, 3) := dc_182 (by decide +kernel)
theorem d_MO_stairLine_83 : decode b_MO_stairLine 83 = .ok (.aload_n 0, 1) := dc_42 (by decide +kernel)
theorem d_MO_stairLine_84 : decode b_MO_stairLine 84 = .ok (.invokevirtual 205, 3) := dc_182 (by decide +kernel)
theorem d_MO_stairLine_87 : decode b_MO_stairLine 87 = .ok (.return_, 1) := dc_177 (by decide +kernel)
def t_MO_stairLine_L53   (M : Mem) (v1_ : Int) : Option (Mem) := (if (M.1 191 24) = 0 then (qguard (0 ≤ (w32 (48 + v1_)) ∧ (w32 (48 + v1_)) < 96) (qlet (setI M 199 (w32 (48 + v1_)) 1) fun M20 => (obind (t_MO_fresher M20 5) fun q21 => (obind (t_MO_reads M20 5 (w32 (q21 + 1))) fun q23 => (obind (t_MO_token q23) fun q25 => (some q25)))))) else (some M))
def t_MO_stairLine_L29   (M : Mem) (v1_ : Int) : Option (Mem) := (if (M.1 191 24) = 0 then (qguard (0 ≤ (w32 (48 + v1_)) ∧ (w32 (48 + v1_)) < 96) (if (M.1 198 (w32 (48 + v1_))) = 0 then (t_MO_stairLine_L53 M v1_) else (qlet (t_MO_wrong M 5) fun q15 => (t_MO_stairLine_L53 q15 v1_)))) else (t_MO_stairLine_L53 M v1_))
def t_MO_stairLine (M : Mem)  : Option (Mem) := (obind (t_MO_cellAtHand M) fun q1 => (if ((q1.1).1 191 24) = 0 then (qguard (0 ≤ (w32 (48 + (q1.2))) ∧ (w32 (48 + (q1.2))) < 96) (if ((q1.1).1 199 (w32 (48 + (q1.2)))) = 0 then (t_MO_stairLine_L29 (q1.1) (q1.2)) else (qlet (t_MO_wrong (q1.1) 3) fun q8 => (t_MO_stairLine_L29 q8 (q1.2))))) else (t_MO_stairLine_L29 (q1.1) (q1.2))))
set_option maxHeartbeats 4000000 in
set_option maxRecDepth 100000 in
theorem k_MO_stairLine_L53 (l : Launch) {p : Program} {e : Env} {s : State} {m : MethodId} {below : List Frame} {meth : Method} {c : Code} {b n : Nat} {C : CT} (hlo : 231 ≤ n)   (F : Cx b p m c b_MO_stairLine 2 s ([.ref (b + 191)] : List Value).toArray "WardFallsModel" C n 231) (hlk : meth.locks = false) (hr : meth.sig.returnType = none) {res : Mem} (M : Mem) (v1_ : Int) (hv1_ : InR v1_) (H : Heap) (locs : List Loc) (ls : Array Slot) (hS : St b C n M s H locs) (hl : lv_has ls 2 [(0, .ref (b + 191)), (1, vI v1_)]) (hT : t_MO_stairLine_L53 M v1_ = some res) : W p l e (headSpec (wsM y_MO_stairLine b_MO_stairLine 2 (none)) (rmD 9)).room s m ([.ref (b + 191)] : List Value).toArray below meth c H locs 0 0 (MQ below (QV b C n res) ([.ref (b + 191)] : List Value).toArray s 0 0 (frb b)) (F0 m 53 ls []) := by
  unfold t_MO_stairLine_L53 at hT
  refine lv_aload_n F.hx F.hb d_MO_stairLine_53 rfl (lv_at hl 0 rfl) ?_
  refine r_get (v := vI (M.1 191 24)) (N := 68) (T := T1) (j := 24) F hS (show 191 < 231 by decide) (show shK 191 = 5 from rfl) (show shN 191 = 68 from rfl) rfl (Nat.le_of_ble_eq_true rfl) ing1 mw_1413 (fv_int rfl) d_MO_stairLine_54 ?_
  have i17 := hS.rng 191 24
  refine r_if_eq (tgt := 61) F.hx F.hb i17 d_MO_stairLine_57 (by decide) (fun c18 => ?_) (fun c18 => ?_)
  · replace hT := (if_pos c18).symm.trans hT
    refine lv_aload_n F.hx F.hb d_MO_stairLine_61 rfl (lv_at hl 0 rfl) ?_
    refine r_get (v := .ref (b + 199)) (N := 68) (T := T1) (j := 9) F hS (show 191 < 231 by decide) (show shK 191 = 5 from rfl) (show shN 191 = 68 from rfl) rfl (Nat.le_of_ble_eq_true rfl) ing1 mw_1398 (fv_sg rfl rfl rfl) d_MO_stairLine_62 ?_
    refine r_bipush F.hx F.hb d_MO_stairLine_65 rfl ?_
    refine lv_iload_n F.hx F.hb d_MO_stairLine_67 rfl (lv_at hl 1 rfl) ?_
    refine r_iadd F.hx F.hb d_MO_stairLine_68 ?_
    refine r_iconst F.hx F.hb d_MO_stairLine_69 ?_
    obtain ⟨⟨g19a, g19b⟩, hT⟩ := q_guard hT
    refine r_zast F hS (show 199 < 231 by decide) (show shK 199 = 1 from rfl) (show shN 199 = 96 from rfl) (inr_w32 _) (Or.inr rfl) g19a g19b d_MO_stairLine_70 (fun H locs hS => ?_)
    obtain ⟨M20, eM20⟩ : ∃ q, q = (setI M 199 (w32 (48 + v1_)) 1) := ⟨_, rfl⟩
    replace hS : St b C n M20 s H locs := by rw [eM20]; exact hS
    replace hT := qlet_eq hT eM20
    refine lv_aload_n F.hx F.hb d_MO_stairLine_71 rfl (lv_at hl 0 rfl) ?_
    refine r_iconst F.hx F.hb d_MO_stairLine_72 ?_
    refine lv_aload_n F.hx F.hb d_MO_stairLine_73 rfl (lv_at hl 0 rfl) ?_
    refine r_iconst F.hx F.hb d_MO_stairLine_74 ?_
    obtain ⟨q21, hq21, hT⟩ := q_obind hT
    refine r_backI F hS (r_runV (k := 191) (N := 68) (T := T1) (As := [vI 5]) F hS (show 191 < 231 by decide) (show shK 191 = 5 from rfl) rfl (c_MO_fresher l F.2.2.1 M20 5 (inr_c rfl) _ hq21) gs_MO_222 hd_MO_fresher ⟨Nat.le_of_ble_eq_true rfl, Nat.le_of_ble_eq_true rfl⟩ rfl hl.1 (Nat.le_of_ble_eq_true rfl) ⟨Nat.zero_le _, Nat.zero_le _⟩ rfl d_MO_stairLine_75) (fun H locs hS h22 => ?_)
    refine r_iconst F.hx F.hb d_MO_stairLine_78 ?_
    refine r_iadd F.hx F.hb d_MO_stairLine_79 ?_
    obtain ⟨q23, hq23, hT⟩ := q_obind hT
    refine r_backV F hS (r_runV (k := 191) (N := 68) (T := T1) (As := [vI 5, vI (w32 (q21 + 1))]) F hS (show 191 < 231 by decide) (show shK 191 = 5 from rfl) rfl (c_MO_reads l F.2.2.1 M20 5 (w32 (q21 + 1)) (inr_c rfl) (inr_w32 _) _ hq23) gs_MO_238 hd_MO_reads ⟨Nat.le_of_ble_eq_true rfl, Nat.le_of_ble_eq_true rfl⟩ rfl hl.1 (Nat.le_of_ble_eq_true rfl) ⟨Nat.zero_le _, Nat.zero_le _⟩ rfl d_MO_stairLine_80) (fun H locs hS => ?_)
    refine lv_aload_n F.hx F.hb d_MO_stairLine_83 rfl (lv_at hl 0 rfl) ?_
    obtain ⟨q25, hq25, hT⟩ := q_obind hT
    refine r_backV F hS (r_runV (k := 191) (N := 68) (T := T1) (As := []) F hS (show 191 < 231 by decide) (show shK 191 = 5 from rfl) rfl (c_MO_token l F.2.2.1 q23 _ hq25) gs_MO_205 hd_MO_token ⟨Nat.le_of_ble_eq_true rfl, Nat.le_of_ble_eq_true rfl⟩ rfl hl.1 (Nat.le_of_ble_eq_true rfl) ⟨Nat.zero_le _, Nat.zero_le _⟩ rfl d_MO_stairLine_84) (fun H locs hS => ?_)
    cases hT
    exact r_vret F hlk hr hS d_MO_stairLine_87
  · replace hT := (if_neg c18).symm.trans hT
    cases hT
    exact r_vret F hlk hr hS d_MO_stairLine_60
set_option maxHeartbeats 4000000 in
set_option maxRecDepth 100000 in
theorem k_MO_stairLine_L29 (l : Launch) {p : Program} {e : Env} {s : State} {m : MethodId} {below : List Frame} {meth : Method} {c : Code} {b n : Nat} {C : CT} (hlo : 231 ≤ n)   (F : Cx b p m c b_MO_stairLine 2 s ([.ref (b + 191)] : List Value).toArray "WardFallsModel" C n 231) (hlk : meth.locks = false) (hr : meth.sig.returnType = none) {res : Mem} (M : Mem) (v1_ : Int) (hv1_ : InR v1_) (H : Heap) (locs : List Loc) (ls : Array Slot) (hS : St b C n M s H locs) (hl : lv_has ls 2 [(0, .ref (b + 191)), (1, vI v1_)]) (hT : t_MO_stairLine_L29 M v1_ = some res) : W p l e (headSpec (wsM y_MO_stairLine b_MO_stairLine 2 (none)) (rmD 9)).room s m ([.ref (b + 191)] : List Value).toArray below meth c H locs 0 0 (MQ below (QV b C n res) ([.ref (b + 191)] : List Value).toArray s 0 0 (frb b)) (F0 m 29 ls []) := by
  unfold t_MO_stairLine_L29 at hT
  refine lv_aload_n F.hx F.hb d_MO_stairLine_29 rfl (lv_at hl 0 rfl) ?_
  refine r_get (v := vI (M.1 191 24)) (N := 68) (T := T1) (j := 24) F hS (show 191 < 231 by decide) (show shK 191 = 5 from rfl) (show shN 191 = 68 from rfl) rfl (Nat.le_of_ble_eq_true rfl) ing1 mw_1413 (fv_int rfl) d_MO_stairLine_30 ?_
  have i10 := hS.rng 191 24
  refine r_if_ne (tgt := 53) F.hx F.hb i10 d_MO_stairLine_33 (by decide) (fun c11 => ?_) (fun c11 => ?_)
  · replace hT := (if_neg c11).symm.trans hT
    exact k_MO_stairLine_L53 l hlo F hlk hr M v1_ hv1_ _ _ _ hS (lv_sub hl [0, 1] rfl) hT
  · replace hT := (if_pos c11).symm.trans hT
    refine lv_aload_n F.hx F.hb d_MO_stairLine_36 rfl (lv_at hl 0 rfl) ?_
    refine r_get (v := .ref (b + 198)) (N := 68) (T := T1) (j := 8) F hS (show 191 < 231 by decide) (show shK 191 = 5 from rfl) (show shN 191 = 68 from rfl) rfl (Nat.le_of_ble_eq_true rfl) ing1 mw_1397 (fv_sg rfl rfl rfl) d_MO_stairLine_37 ?_
    refine r_bipush F.hx F.hb d_MO_stairLine_40 rfl ?_
    refine lv_iload_n F.hx F.hb d_MO_stairLine_42 rfl (lv_at hl 1 rfl) ?_
    refine r_iadd F.hx F.hb d_MO_stairLine_43 ?_
    obtain ⟨⟨g12a, g12b⟩, hT⟩ := q_guard hT
    have z13 := hS.bool (show shK 198 = 1 from rfl) (w32 (48 + v1_))
    refine r_zald F hS (show 198 < 231 by decide) (show shK 198 = 1 from rfl) (show shN 198 = 96 from rfl) (inr_w32 _) g12a g12b d_MO_stairLine_44 ?_
    refine r_if_eq (tgt := 53) F.hx F.hb (inr_z z13) d_MO_stairLine_45 (by decide) (fun c14 => ?_) (fun c14 => ?_)
    · replace hT := (if_pos c14).symm.trans hT
      exact k_MO_stairLine_L53 l hlo F hlk hr M v1_ hv1_ _ _ _ hS (lv_sub hl [0, 1] rfl) hT
    · replace hT := (if_neg c14).symm.trans hT
      refine lv_aload_n F.hx F.hb d_MO_stairLine_48 rfl (lv_at hl 0 rfl) ?_
      refine r_iconst F.hx F.hb d_MO_stairLine_49 ?_
      obtain ⟨q15, hq15⟩ : ∃ q, q = (t_MO_wrong M 5) := ⟨_, rfl⟩
      replace hT := qlet_eq hT hq15
      refine r_backV F hS (r_runV (k := 191) (N := 68) (T := T1) (As := [vI 5]) F hS (show 191 < 231 by decide) (show shK 191 = 5 from rfl) rfl (c_MO_wrong l F.2.2.1 M 5 (inr_c rfl) _ hq15.symm) gs_MO_208 hd_MO_wrong ⟨Nat.le_of_ble_eq_true rfl, Nat.le_of_ble_eq_true rfl⟩ rfl hl.1 (Nat.le_of_ble_eq_true rfl) ⟨Nat.zero_le _, Nat.zero_le _⟩ rfl d_MO_stairLine_50) (fun H locs hS => ?_)
      exact k_MO_stairLine_L53 l hlo F hlk hr q15 v1_ hv1_ _ _ _ hS (lv_sub hl [0, 1] rfl) hT
set_option maxHeartbeats 4000000 in
set_option maxRecDepth 100000 in
theorem c_MO_stairLine (l : Launch) {b n : Nat} {C : CT} (hlo : 231 ≤ n) (M : Mem)   (res : Mem) (hT : t_MO_stairLine M  = some res) : CM l b C n 9 y_MO_stairLine b_MO_stairLine 2 (none) [.ref (b + 191)] M (QV b C n res) := by
  refine CM.of (lo := 231) (ow := "WardFallsModel") (by decide) rfl (Nat.le_of_ble_eq_true rfl) hlo (fun p e s m below meth c F hlk hr hS ls hl => ?_)
  have hl : lv_has ls 2 [(0, .ref (b + 191))] := hl
  unfold t_MO_stairLine at hT
  refine lv_aload_n F.hx F.hb d_MO_stairLine_0 rfl (lv_at hl 0 rfl) ?_
  obtain ⟨q1, hq1, hT⟩ := q_obind hT
  refine r_backI F hS (r_runV (k := 191) (N := 68) (T := T1) (As := []) F hS (show 191 < 231 by decide) (show shK 191 = 5 from rfl) rfl (c_MO_cellAtHand l F.2.2.1 M _ hq1) gs_MO_270 hd_MO_cellAtHand ⟨Nat.le_of_ble_eq_true rfl, Nat.le_of_ble_eq_true rfl⟩ rfl hl.1 (Nat.le_of_ble_eq_true rfl) ⟨Nat.zero_le _, Nat.zero_le _⟩ rfl d_MO_stairLine_1) (fun H locs hS h2 => ?_)
  refine lv_istore_n (lv' := [(1, vI (q1.2)), (0, .ref (b + 191))]) F.hx F.hb d_MO_stairLine_4 rfl hl (Nat.le_of_ble_eq_true rfl) rfl (fun ls hl => ?_)
  refine lv_aload_n F.hx F.hb d_MO_stairLine_5 rfl (lv_at hl 1 rfl) ?_
  refine r_get (v := vI ((q1.1).1 191 24)) (N := 68) (T := T1) (j := 24) F hS (show 191 < 231 by decide) (show shK 191 = 5 from rfl) (show shN 191 = 68 from rfl) rfl (Nat.le_of_ble_eq_true rfl) ing1 mw_1413 (fv_int rfl) d_MO_stairLine_6 ?_
  have i3 := hS.rng 191 24
  refine r_if_ne (tgt := 29) F.hx F.hb i3 d_MO_stairLine_9 (by decide) (fun c4 => ?_) (fun c4 => ?_)
  · replace hT := (if_neg c4).symm.trans hT
    exact k_MO_stairLine_L29 l hlo F hlk hr (q1.1) (q1.2) h2 _ _ _ hS (lv_sub hl [1, 0] rfl) hT
  · replace hT := (if_pos c4).symm.trans hT
    refine lv_aload_n F.hx F.hb d_MO_stairLine_12 rfl (lv_at hl 1 rfl) ?_
    refine r_get (v := .ref (b + 199)) (N := 68) (T := T1) (j := 9) F hS (show 191 < 231 by decide) (show shK 191 = 5 from rfl) (show shN 191 = 68 from rfl) rfl (Nat.le_of_ble_eq_true rfl) ing1 mw_1398 (fv_sg rfl rfl rfl) d_MO_stairLine_13 ?_
    refine r_bipush F.hx F.hb d_MO_stairLine_16 rfl ?_
    refine lv_iload_n F.hx F.hb d_MO_stairLine_18 rfl (lv_at hl 0 rfl) ?_
    refine r_iadd F.hx F.hb d_MO_stairLine_19 ?_
    obtain ⟨⟨g5a, g5b⟩, hT⟩ := q_guard hT
    have z6 := hS.bool (show shK 199 = 1 from rfl) (w32 (48 + (q1.2)))
    refine r_zald F hS (show 199 < 231 by decide) (show shK 199 = 1 from rfl) (show shN 199 = 96 from rfl) (inr_w32 _) g5a g5b d_MO_stairLine_20 ?_
    refine r_if_eq (tgt := 29) F.hx F.hb (inr_z z6) d_MO_stairLine_21 (by decide) (fun c7 => ?_) (fun c7 => ?_)
    · replace hT := (if_pos c7).symm.trans hT
      exact k_MO_stairLine_L29 l hlo F hlk hr (q1.1) (q1.2) h2 _ _ _ hS (lv_sub hl [1, 0] rfl) hT
    · replace hT := (if_neg c7).symm.trans hT
      refine lv_aload_n F.hx F.hb d_MO_stairLine_24 rfl (lv_at hl 1 rfl) ?_
      refine r_iconst F.hx F.hb d_MO_stairLine_25 ?_
      obtain ⟨q8, hq8⟩ : ∃ q, q = (t_MO_wrong (q1.1) 3) := ⟨_, rfl⟩
      replace hT := qlet_eq hT hq8
      refine r_backV F hS (r_runV (k := 191) (N := 68) (T := T1) (As := [vI 3]) F hS (show 191 < 231 by decide) (show shK 191 = 5 from rfl) rfl (c_MO_wrong l F.2.2.1 (q1.1) 3 (inr_c rfl) _ hq8.symm) gs_MO_208 hd_MO_wrong ⟨Nat.le_of_ble_eq_true rfl, Nat.le_of_ble_eq_true rfl⟩ rfl hl.1 (Nat.le_of_ble_eq_true rfl) ⟨Nat.zero_le _, Nat.zero_le _⟩ rfl d_MO_stairLine_26) (fun H locs hS => ?_)
      exact k_MO_stairLine_L29 l hlo F hlk hr q8 (q1.2) h2 _ _ _ hS (lv_sub hl [1, 0] rfl) hT
theorem d_MO_thingLine_0 : decode b_MO_thingLine 0 = .ok (.aload_n 0, 1) := dc_42 (by decide +kernel)
theorem d_MO_thingLine_1 : decode b_MO_thingLine 1 = .ok (.getfield 35, 3) := dc_180 (by decide +kernel)
theorem d_MO_thingLine_4 : decode b_MO_thingLine 4 = .ok (.iload_n 1, 1) := dc_27 (by decide +kernel)
theorem d_MO_thingLine_5 : decode b_MO_thingLine 5 = .ok (.aload_n 0, 1) := dc_42 (by decide +kernel)
theorem d_MO_thingLine_6 : decode b_MO_thingLine 6 = .ok (.aload_n 0, 1) := dc_42 (by decide +kernel)
theorem d_MO_thingLine_7 : decode b_MO_thingLine 7 = .ok (.getfield 35, 3) := dc_180 (by decide +kernel)
theorem d_MO_thingLine_10 : decode b_MO_thingLine 10 = .ok (.bipush 8, 2) := dc_16 (by decide +kernel)
theorem d_MO_thingLine_12 : decode b_MO_thingLine 12 = .ok (.aload_n 0, 1) := dc_42 (by decide +kernel)
theorem d_MO_thingLine_13 : decode b_MO_thingLine 13 = .ok (.bipush 6, 2) := dc_16 (by decide +kernel)
theorem d_MO_thingLine_15 : decode b_MO_thingLine 15 = .ok (.invokevirtual 222, 3) := dc_182 (by decide +kernel)
theorem d_MO_thingLine_18 : decode b_MO_thingLine 18 = .ok (.invokevirtual 266, 3) := dc_182 (by decide +kernel)
theorem d_MO_thingLine_21 : decode b_MO_thingLine 21 = .ok (.iastore, 1) := dc_79 (by decide +kernel)
theorem d_MO_thingLine_22 : decode b_MO_thingLine 22 = .ok (.aload_n 0, 1) := dc_42 (by decide +kernel)
theorem d_MO_thingLine_23 : decode b_MO_thingLine 23 = .ok (.getfield 38, 3) := dc_180 (by decide +kernel)
theorem d_MO_thingLine_26 : decode b_MO_thingLine 26 = .ok (.iload_n 1, 1) := dc_27 (by decide +kernel)
theorem d_MO_thingLine_27 : decode b_MO_thingLine 27 = .ok (.aload_n 0, 1) := dc_42 (by decide +kernel)
theorem d_MO_thingLine_28 : decode b_MO_thingLine 28 = .ok (.iconst 0, 1) := dc_3 (by decide +kernel)
theorem d_MO_thingLine_29 : decode b_MO_thingLine 29 = .ok (.bipush 99, 2) := dc_16 (by decide +kernel)
theorem d_MO_thingLine_31 : decode b_MO_thingLine 31 = .ok (.invokevirtual 226, 3) := dc_182 (by decide +kernel)
theorem d_MO_thingLine_34 : decode b_MO_thingLine 34 = .ok (.iastore, 1) := dc_79 (by decide +kernel)
theorem d_MO_thingLine_35 : decode b_MO_thingLine 35 = .ok (.aload_n 0, 1) := dc_42 (by decide +kernel)
theorem d_MO_thingLine_36 : decode b_MO_thingLine 36 = .ok (.invokevirtual 270, 3) := dc_182 (by decide +kernel)
theorem d_MO_thingLine_39 : decode b_MO_thingLine 39 = .ok (.istore_n 2, 1) := dc_61 (by decide +kernel)
theorem d_MO_thingLine_40 : decode b_MO_thingLine 40 = .ok (.aload_n 0, 1) := dc_42 (by decide +kernel)
theorem d_MO_thingLine_41 : decode b_MO_thingLine 41 = .ok (.getfield 199, 3) := dc_180 (by decide +kernel)
theorem d_MO_thingLine_44 : decode b_MO_thingLine 44 = .ok (.ifCond .ne 28, 3) := dc_154 (by decide +kernel)
theorem d_MO_thingLine_47 : decode b_MO_thingLine 47 = .ok (.aload_n 0, 1) := dc_42 (by decide +kernel)
theorem d_MO_thingLine_48 : decode b_MO_thingLine 48 = .ok (.getfield 28, 3) := dc_180 (by decide +kernel)
theorem d_MO_thingLine_51 : decode b_MO_thingLine 51 = .ok (.bipush 48, 2) := dc_16 (by decide +kernel)
theorem d_MO_thingLine_53 : decode b_MO_thingLine 53 = .ok (.iload_n 2, 1) := dc_28 (by decide +kernel)
theorem d_MO_thingLine_54 : decode b_MO_thingLine 54 = .ok (.iadd, 1) := dc_96 (by decide +kernel)
theorem d_MO_thingLine_55 : decode b_MO_thingLine 55 = .ok (.baload, 1) := dc_51 (by decide +kernel)
theorem d_MO_thingLine_56 : decode b_MO_thingLine 56 = .ok (.ifCond .ne 11, 3) := dc_154 (by decide +kernel)
theorem d_MO_thingLine_59 : decode b_MO_thingLine 59 = .ok (.aload_n 0, 1) := dc_42 (by decide +kernel)
theorem d_MO_thingLine_60 : decode b_MO_thingLine 60 = .ok (.iload_n 2, 1) := dc_28 (by decide +kernel)
theorem d_MO_thingLine_61 : decode b_MO_thingLine 61 = .ok (.invokevirtual 273, 3) := dc_182 (by decide +kernel)
theorem d_MO_thingLine_64 : decode b_MO_thingLine 64 = .ok (.ifCond .eq 8, 3) := dc_153 (by decide +kernel)
theorem d_MO_thingLine_67 : decode b_MO_thingLine 67 = .ok (.aload_n 0, 1) := dc_42 (by decide +kernel)
theorem d_MO_thingLine_68 : decode b_MO_thingLine 68 = .ok (.iconst 5, 1) := dc_8 (by decide +kernel)
theorem d_MO_thingLine_69 : decode b_MO_thingLine 69 = .ok (.invokevirtual 208, 3) := dc_182 (by decide +kernel)
theorem d_MO_thingLine_72 : decode b_MO_thingLine 72 = .ok (.aload_n 0, 1) := dc_42 (by decide +kernel)
theorem d_MO_thingLine_73 : decode b_MO_thingLine 73 = .ok (.getfield 199, 3) := dc_180 (by decide +kernel)
theorem d_MO_thingLine_76 : decode b_MO_thingLine 76 = .ok (.ifCond .eq 4, 3) := dc_153 (by decide +kernel)
theorem d_MO_thingLine_79 : decode b_MO_thingLine 79 = .ok (.return_, 1) := dc_177 (by decide +kernel)
theorem d_MO_thingLine_80 : decode b_MO_thingLine 80 = .ok (.aload_n 0, 1) := dc_42 (by decide +kernel)
theorem d_MO_thingLine_81 : decode b_MO_thingLine 81 = .ok (.getfield 41, 3) := dc_180 (by decide +kernel)
theorem d_MO_thingLine_84 : decode b_MO_thingLine 84 = .ok (.iload_n 1, 1) := dc_27 (by decide +kernel)
theorem d_MO_thingLine_85 : decode b_MO_thingLine 85 = .ok (.iload_n 2, 1) := dc_28 (by decide +kernel)
theorem d_MO_thingLine_86 : decode b_MO_thingLine 86 = .ok (.iastore, 1) := dc_79 (by decide +kernel)
theorem d_MO_thingLine_87 : decode b_MO_thingLine 87 = .ok (.aload_n 0, 1) := dc_42 (by decide +kernel)
theorem d_MO_thingLine_88 : decode b_MO_thingLine 88 = .ok (.bipush 6, 2) := dc_16 (by decide +kernel)
theorem d_MO_thingLine_90 : decode b_MO_thingLine 90 = .ok (.aload_n 0, 1) := dc_42 (by decide +kernel)
theorem d_MO_thingLine_91 : decode b_MO_thingLine 91 = .ok (.bipush 6, 2) := dc_16 (by decide +kernel)
theorem d_MO_thingLine_93 : decode b_MO_thingLine 93 = .ok (.invokevirtual 222, 3) := dc_182 (by decide +kernel)
theorem d_MO_thingLine_96 : decode b_MO_thingLine 96 = .ok (.iconst 1, 1) := dc_4 (by decide +kernel)
theorem d_MO_thingLine_97 : decode b_MO_thingLine 97 = .ok (.iadd, 1) := dc_96 (by decide +kernel)
theorem d_MO_thingLine_98 : decode b_MO_thingLine 98 = .ok (.invokevirtual 238, 3) := dc_182 (by decide +kernel)
theorem d_MO_thingLine_101 : decode b_MO_thingLine 101 = .ok (.aload_n 0, 1) := dc_42 (by decide +kernel)
theorem d_MO_thingLine_102 : decode b_MO_thingLine 102 = .ok (.invokevirtual 205, 3) := dc_182 (by decide +kernel)
theorem d_MO_thingLine_105 : decode b_MO_thingLine 105 = .ok (.return_, 1) := dc_177 (by decide +kernel)
def t_MO_thingLine_L72 (x1 : Int)  (M : Mem) (v2_ : Int) : Option (Mem) := (if (M.1 191 24) = 0 then (qguard (0 ≤ x1 ∧ x1 < 16) (qlet (setI M 202 x1 v2_) fun M24 => (obind (t_MO_fresher M24 6) fun q25 => (obind (t_MO_reads M24 6 (w32 (q25 + 1))) fun q27 => (obind (t_MO_token q27) fun q29 => (some q29)))))) else (some M))
def t_MO_thingLine_L67 (x1 : Int)  (M : Mem) (v2_ : Int) : Option (Mem) := (qlet (t_MO_wrong M 5) fun q31 => (t_MO_thingLine_L72 x1 q31 v2_))
def t_MO_thingLine (M : Mem) (x1 : Int) : Option (Mem) := (obind (t_MO_fresher M 6) fun q1 => (obind (t_MO_fresh M 200 16 8 q1) fun q3 => (qguard (0 ≤ x1 ∧ x1 < 16) (qlet (setI (q3.1) 200 x1 (q3.2)) fun M6 => (obind (t_MO_numeral M6 0 99) fun q7 => (qguard (0 ≤ x1 ∧ x1 < 16) (qlet (setI (q7.1) 201 x1 (q7.2)) fun M10 => (obind (t_MO_cellAtHand M10) fun q11 => (if ((q11.1).1 191 24) = 0 then (qguard (0 ≤ (w32 (48 + (q11.2))) ∧ (w32 (48 + (q11.2))) < 96) (if ((q11.1).1 198 (w32 (48 + (q11.2)))) = 0 then (obind (t_MO_hasThing (q11.1) (q11.2)) fun q18 => (if q18 = 0 then (t_MO_thingLine_L72 x1 (q11.1) (q11.2)) else (t_MO_thingLine_L67 x1 (q11.1) (q11.2)))) else (t_MO_thingLine_L67 x1 (q11.1) (q11.2)))) else (t_MO_thingLine_L72 x1 (q11.1) (q11.2)))))))))))
set_option maxHeartbeats 4000000 in
set_option maxRecDepth 100000 in
theorem k_MO_thingLine_L72 (l : Launch) {p : Program} {e : Env} {s : State} {m : MethodId} {below : List Frame} {meth : Method} {c : Code} {b n : Nat} {C : CT} (hlo : 231 ≤ n) (x1 : Int) (hx1 : InR x1) (F : Cx b p m c b_MO_thingLine 3 s ([.ref (b + 191), vI x1] : List Value).toArray "WardFallsModel" C n 231) (hlk : meth.locks = false) (hr : meth.sig.returnType = none) {res : Mem} (M : Mem) (v2_ : Int) (hv2_ : InR v2_) (H : Heap) (locs : List Loc) (ls : Array Slot) (hS : St b C n M s H locs) (hl : lv_has ls 3 [(0, .ref (b + 191)), (1, vI x1), (2, vI v2_)]) (hT : t_MO_thingLine_L72 x1 M v2_ = some res) : W p l e (headSpec (wsM y_MO_thingLine b_MO_thingLine 3 (none)) (rmD 9)).room s m ([.ref (b + 191), vI x1] : List Value).toArray below meth c H locs 0 0 (MQ below (QV b C n res) ([.ref (b + 191), vI x1] : List Value).toArray s 0 0 (frb b)) (F0 m 72 ls []) := by
  unfold t_MO_thingLine_L72 at hT
  refine lv_aload_n F.hx F.hb d_MO_thingLine_72 rfl (lv_at hl 0 rfl) ?_
  refine r_get (v := vI (M.1 191 24)) (N := 68) (T := T1) (j := 24) F hS (show 191 < 231 by decide) (show shK 191 = 5 from rfl) (show shN 191 = 68 from rfl) rfl (Nat.le_of_ble_eq_true rfl) ing1 mw_1413 (fv_int rfl) d_MO_thingLine_73 ?_
  have i21 := hS.rng 191 24
  refine r_if_eq (tgt := 80) F.hx F.hb i21 d_MO_thingLine_76 (by decide) (fun c22 => ?_) (fun c22 => ?_)
  · replace hT := (if_pos c22).symm.trans hT
    refine lv_aload_n F.hx F.hb d_MO_thingLine_80 rfl (lv_at hl 0 rfl) ?_
    refine r_get (v := .ref (b + 202)) (N := 68) (T := T1) (j := 12) F hS (show 191 < 231 by decide) (show shK 191 = 5 from rfl) (show shN 191 = 68 from rfl) rfl (Nat.le_of_ble_eq_true rfl) ing1 mw_1401 (fv_sg rfl rfl rfl) d_MO_thingLine_81 ?_
    refine lv_iload_n F.hx F.hb d_MO_thingLine_84 rfl (lv_at hl 1 rfl) ?_
    refine lv_iload_n F.hx F.hb d_MO_thingLine_85 rfl (lv_at hl 2 rfl) ?_
    obtain ⟨⟨g23a, g23b⟩, hT⟩ := q_guard hT
    refine r_iast F hS (show 202 < 231 by decide) (show shK 202 = 0 from rfl) (show shN 202 = 16 from rfl) hx1 hv2_ g23a g23b d_MO_thingLine_86 (fun H locs hS => ?_)
    obtain ⟨M24, eM24⟩ : ∃ q, q = (setI M 202 x1 v2_) := ⟨_, rfl⟩
    replace hS : St b C n M24 s H locs := by rw [eM24]; exact hS
    replace hT := qlet_eq hT eM24
    refine lv_aload_n F.hx F.hb d_MO_thingLine_87 rfl (lv_at hl 0 rfl) ?_
    refine r_bipush F.hx F.hb d_MO_thingLine_88 rfl ?_
    refine lv_aload_n F.hx F.hb d_MO_thingLine_90 rfl (lv_at hl 0 rfl) ?_
    refine r_bipush F.hx F.hb d_MO_thingLine_91 rfl ?_
    obtain ⟨q25, hq25, hT⟩ := q_obind hT
    refine r_backI F hS (r_runV (k := 191) (N := 68) (T := T1) (As := [vI 6]) F hS (show 191 < 231 by decide) (show shK 191 = 5 from rfl) rfl (c_MO_fresher l F.2.2.1 M24 6 (inr_c rfl) _ hq25) gs_MO_222 hd_MO_fresher ⟨Nat.le_of_ble_eq_true rfl, Nat.le_of_ble_eq_true rfl⟩ rfl hl.1 (Nat.le_of_ble_eq_true rfl) ⟨Nat.zero_le _, Nat.zero_le _⟩ rfl d_MO_thingLine_93) (fun H locs hS h26 => ?_)
    refine r_iconst F.hx F.hb d_MO_thingLine_96 ?_
    refine r_iadd F.hx F.hb d_MO_thingLine_97 ?_
    obtain ⟨q27, hq27, hT⟩ := q_obind hT
    refine r_backV F hS (r_runV (k := 191) (N := 68) (T := T1) (As := [vI 6, vI (w32 (q25 + 1))]) F hS (show 191 < 231 by decide) (show shK 191 = 5 from rfl) rfl (c_MO_reads l F.2.2.1 M24 6 (w32 (q25 + 1)) (inr_c rfl) (inr_w32 _) _ hq27) gs_MO_238 hd_MO_reads ⟨Nat.le_of_ble_eq_true rfl, Nat.le_of_ble_eq_true rfl⟩ rfl hl.1 (Nat.le_of_ble_eq_true rfl) ⟨Nat.zero_le _, Nat.zero_le _⟩ rfl d_MO_thingLine_98) (fun H locs hS => ?_)
    refine lv_aload_n F.hx F.hb d_MO_thingLine_101 rfl (lv_at hl 0 rfl) ?_
    obtain ⟨q29, hq29, hT⟩ := q_obind hT
    refine r_backV F hS (r_runV (k := 191) (N := 68) (T := T1) (As := []) F hS (show 191 < 231 by decide) (show shK 191 = 5 from rfl) rfl (c_MO_token l F.2.2.1 q27 _ hq29) gs_MO_205 hd_MO_token ⟨Nat.le_of_ble_eq_true rfl, Nat.le_of_ble_eq_true rfl⟩ rfl hl.1 (Nat.le_of_ble_eq_true rfl) ⟨Nat.zero_le _, Nat.zero_le _⟩ rfl d_MO_thingLine_102) (fun H locs hS => ?_)
    cases hT
    exact r_vret F hlk hr hS d_MO_thingLine_105
  · replace hT := (if_neg c22).symm.trans hT
    cases hT
    exact r_vret F hlk hr hS d_MO_thingLine_79
set_option maxHeartbeats 4000000 in
set_option maxRecDepth 100000 in
theorem k_MO_thingLine_L67 (l : Launch) {p : Program} {e : Env} {s : State} {m : MethodId} {below : List Frame} {meth : Method} {c : Code} {b n : Nat} {C : CT} (hlo : 231 ≤ n) (x1 : Int) (hx1 : InR x1) (F : Cx b p m c b_MO_thingLine 3 s ([.ref (b + 191), vI x1] : List Value).toArray "WardFallsModel" C n 231) (hlk : meth.locks = false) (hr : meth.sig.returnType = none) {res : Mem} (M : Mem) (v2_ : Int) (hv2_ : InR v2_) (H : Heap) (locs : List Loc) (ls : Array Slot) (hS : St b C n M s H locs) (hl : lv_has ls 3 [(0, .ref (b + 191)), (1, vI x1), (2, vI v2_)]) (hT : t_MO_thingLine_L67 x1 M v2_ = some res) : W p l e (headSpec (wsM y_MO_thingLine b_MO_thingLine 3 (none)) (rmD 9)).room s m ([.ref (b + 191), vI x1] : List Value).toArray below meth c H locs 0 0 (MQ below (QV b C n res) ([.ref (b + 191), vI x1] : List Value).toArray s 0 0 (frb b)) (F0 m 67 ls []) := by
  unfold t_MO_thingLine_L67 at hT
  refine lv_aload_n F.hx F.hb d_MO_thingLine_67 rfl (lv_at hl 0 rfl) ?_
  refine r_iconst F.hx F.hb d_MO_thingLine_68 ?_
  obtain ⟨q31, hq31⟩ : ∃ q, q = (t_MO_wrong M 5) := ⟨_, rfl⟩
  replace hT := qlet_eq hT hq31
  refine r_backV F hS (r_runV (k := 191) (N := 68) (T := T1) (As := [vI 5]) F hS (show 191 < 231 by decide) (show shK 191 = 5 from rfl) rfl (c_MO_wrong l F.2.2.1 M 5 (inr_c rfl) _ hq31.symm) gs_MO_208 hd_MO_wrong ⟨Nat.le_of_ble_eq_true rfl, Nat.le_of_ble_eq_true rfl⟩ rfl hl.1 (Nat.le_of_ble_eq_true rfl) ⟨Nat.zero_le _, Nat.zero_le _⟩ rfl d_MO_thingLine_69) (fun H locs hS => ?_)
  exact k_MO_thingLine_L72 l hlo x1 hx1 F hlk hr q31 v2_ hv2_ _ _ _ hS (lv_sub hl [0, 1, 2] rfl) hT
set_option maxHeartbeats 4000000 in
set_option maxRecDepth 100000 in
theorem c_MO_thingLine (l : Launch) {b n : Nat} {C : CT} (hlo : 231 ≤ n) (M : Mem) (x1 : Int) (hx1 : InR x1) (res : Mem) (hT : t_MO_thingLine M x1 = some res) : CM l b C n 9 y_MO_thingLine b_MO_thingLine 3 (none) [.ref (b + 191), vI x1] M (QV b C n res) := by
  refine CM.of (lo := 231) (ow := "WardFallsModel") (by decide) rfl (Nat.le_of_ble_eq_true rfl) hlo (fun p e s m below meth c F hlk hr hS ls hl => ?_)
  have hl : lv_has ls 3 [(0, .ref (b + 191)), (1, vI x1)] := hl
  unfold t_MO_thingLine at hT
  refine lv_aload_n F.hx F.hb d_MO_thingLine_0 rfl (lv_at hl 0 rfl) ?_
  refine r_get (v := .ref (b + 200)) (N := 68) (T := T1) (j := 10) F hS (show 191 < 231 by decide) (show shK 191 = 5 from rfl) (show shN 191 = 68 from rfl) rfl (Nat.le_of_ble_eq_true rfl) ing1 mw_1399 (fv_sg rfl rfl rfl) d_MO_thingLine_1 ?_
  refine lv_iload_n F.hx F.hb d_MO_thingLine_4 rfl (lv_at hl 1 rfl) ?_
  refine lv_aload_n F.hx F.hb d_MO_thingLine_5 rfl (lv_at hl 0 rfl) ?_
  refine lv_aload_n F.hx F.hb d_MO_thingLine_6 rfl (lv_at hl 0 rfl) ?_
  refine r_get (v := .ref (b + 200)) (N := 68) (T := T1) (j := 10) F hS (show 191 < 231 by decide) (show shK 191 = 5 from rfl) (show shN 191 = 68 from rfl) rfl (Nat.le_of_ble_eq_true rfl) ing1 mw_1399 (fv_sg rfl rfl rfl) d_MO_thingLine_7 ?_
  refine r_bipush F.hx F.hb d_MO_thingLine_10 rfl ?_
  refine lv_aload_n F.hx F.hb d_MO_thingLine_12 rfl (lv_at hl 0 rfl) ?_
  refine r_bipush F.hx F.hb d_MO_thingLine_13 rfl ?_
  obtain ⟨q1, hq1, hT⟩ := q_obind hT
  refine r_backI F hS (r_runV (k := 191) (N := 68) (T := T1) (As := [vI 6]) F hS (show 191 < 231 by decide) (show shK 191 = 5 from rfl) rfl (c_MO_fresher l F.2.2.1 M 6 (inr_c rfl) _ hq1) gs_MO_222 hd_MO_fresher ⟨Nat.le_of_ble_eq_true rfl, Nat.le_of_ble_eq_true rfl⟩ rfl hl.1 (Nat.le_of_ble_eq_true rfl) ⟨Nat.zero_le _, Nat.zero_le _⟩ rfl d_MO_thingLine_15) (fun H locs hS h2 => ?_)
  obtain ⟨q3, hq3, hT⟩ := q_obind hT
  refine r_backI F hS (r_runV (k := 191) (N := 68) (T := T1) (As := [.ref (b + 200), vI 8, vI q1]) F hS (show 191 < 231 by decide) (show shK 191 = 5 from rfl) rfl (c_MO_fresh l F.2.2.1 M 200 16 8 q1 (show arrP 0 200 16 231 from ⟨rfl, rfl, by decide⟩) (inr_c rfl) h2 _ hq3) gs_MO_266 hd_MO_fresh ⟨Nat.le_of_ble_eq_true rfl, Nat.le_of_ble_eq_true rfl⟩ rfl hl.1 (Nat.le_of_ble_eq_true rfl) ⟨Nat.zero_le _, Nat.zero_le _⟩ rfl d_MO_thingLine_18) (fun H locs hS h4 => ?_)
  obtain ⟨⟨g5a, g5b⟩, hT⟩ := q_guard hT
  refine r_iast F hS (show 200 < 231 by decide) (show shK 200 = 0 from rfl) (show shN 200 = 16 from rfl) hx1 h4 g5a g5b d_MO_thingLine_21 (fun H locs hS => ?_)
  obtain ⟨M6, eM6⟩ : ∃ q, q = (setI (q3.1) 200 x1 (q3.2)) := ⟨_, rfl⟩
  replace hS : St b C n M6 s H locs := by rw [eM6]; exact hS
  replace hT := qlet_eq hT eM6
  refine lv_aload_n F.hx F.hb d_MO_thingLine_22 rfl (lv_at hl 0 rfl) ?_
  refine r_get (v := .ref (b + 201)) (N := 68) (T := T1) (j := 11) F hS (show 191 < 231 by decide) (show shK 191 = 5 from rfl) (show shN 191 = 68 from rfl) rfl (Nat.le_of_ble_eq_true rfl) ing1 mw_1400 (fv_sg rfl rfl rfl) d_MO_thingLine_23 ?_
  refine lv_iload_n F.hx F.hb d_MO_thingLine_26 rfl (lv_at hl 1 rfl) ?_
  refine lv_aload_n F.hx F.hb d_MO_thingLine_27 rfl (lv_at hl 0 rfl) ?_
  refine r_iconst F.hx F.hb d_MO_thingLine_28 ?_
  refine r_bipush F.hx F.hb d_MO_thingLine_29 rfl ?_
  obtain ⟨q7, hq7, hT⟩ := q_obind hT
  refine r_backI F hS (r_runV (k := 191) (N := 68) (T := T1) (As := [vI 0, vI 99]) F hS (show 191 < 231 by decide) (show shK 191 = 5 from rfl) rfl (c_MO_numeral l F.2.2.1 M6 0 99 (inr_c rfl) (inr_c rfl) _ hq7) gs_MO_226 hd_MO_numeral ⟨Nat.le_of_ble_eq_true rfl, Nat.le_of_ble_eq_true rfl⟩ rfl hl.1 (Nat.le_of_ble_eq_true rfl) ⟨Nat.zero_le _, Nat.zero_le _⟩ rfl d_MO_thingLine_31) (fun H locs hS h8 => ?_)
  obtain ⟨⟨g9a, g9b⟩, hT⟩ := q_guard hT
  refine r_iast F hS (show 201 < 231 by decide) (show shK 201 = 0 from rfl) (show shN 201 = 16 from rfl) hx1 h8 g9a g9b d_MO_thingLine_34 (fun H locs hS => ?_)
  obtain ⟨M10, eM10⟩ : ∃ q, q = (setI (q7.1) 201 x1 (q7.2)) := ⟨_, rfl⟩
  replace hS : St b C n M10 s H locs := by rw [eM10]; exact hS
  replace hT := qlet_eq hT eM10
  refine lv_aload_n F.hx F.hb d_MO_thingLine_35 rfl (lv_at hl 0 rfl) ?_
  obtain ⟨q11, hq11, hT⟩ := q_obind hT
  refine r_backI F hS (r_runV (k := 191) (N := 68) (T := T1) (As := []) F hS (show 191 < 231 by decide) (show shK 191 = 5 from rfl) rfl (c_MO_cellAtHand l F.2.2.1 M10 _ hq11) gs_MO_270 hd_MO_cellAtHand ⟨Nat.le_of_ble_eq_true rfl, Nat.le_of_ble_eq_true rfl⟩ rfl hl.1 (Nat.le_of_ble_eq_true rfl) ⟨Nat.zero_le _, Nat.zero_le _⟩ rfl d_MO_thingLine_36) (fun H locs hS h12 => ?_)
  refine lv_istore_n (lv' := [(2, vI (q11.2)), (0, .ref (b + 191)), (1, vI x1)]) F.hx F.hb d_MO_thingLine_39 rfl hl (Nat.le_of_ble_eq_true rfl) rfl (fun ls hl => ?_)
  refine lv_aload_n F.hx F.hb d_MO_thingLine_40 rfl (lv_at hl 1 rfl) ?_
  refine r_get (v := vI ((q11.1).1 191 24)) (N := 68) (T := T1) (j := 24) F hS (show 191 < 231 by decide) (show shK 191 = 5 from rfl) (show shN 191 = 68 from rfl) rfl (Nat.le_of_ble_eq_true rfl) ing1 mw_1413 (fv_int rfl) d_MO_thingLine_41 ?_
  have i13 := hS.rng 191 24
  refine r_if_ne (tgt := 72) F.hx F.hb i13 d_MO_thingLine_44 (by decide) (fun c14 => ?_) (fun c14 => ?_)
  · replace hT := (if_neg c14).symm.trans hT
    exact k_MO_thingLine_L72 l hlo x1 hx1 F hlk hr (q11.1) (q11.2) h12 _ _ _ hS (lv_sub hl [1, 2, 0] rfl) hT
  · replace hT := (if_pos c14).symm.trans hT
    refine lv_aload_n F.hx F.hb d_MO_thingLine_47 rfl (lv_at hl 1 rfl) ?_
    refine r_get (v := .ref (b + 198)) (N := 68) (T := T1) (j := 8) F hS (show 191 < 231 by decide) (show shK 191 = 5 from rfl) (show shN 191 = 68 from rfl) rfl (Nat.le_of_ble_eq_true rfl) ing1 mw_1397 (fv_sg rfl rfl rfl) d_MO_thingLine_48 ?_
    refine r_bipush F.hx F.hb d_MO_thingLine_51 rfl ?_
    refine lv_iload_n F.hx F.hb d_MO_thingLine_53 rfl (lv_at hl 0 rfl) ?_
    refine r_iadd F.hx F.hb d_MO_thingLine_54 ?_
    obtain ⟨⟨g15a, g15b⟩, hT⟩ := q_guard hT
    have z16 := hS.bool (show shK 198 = 1 from rfl) (w32 (48 + (q11.2)))
    refine r_zald F hS (show 198 < 231 by decide) (show shK 198 = 1 from rfl) (show shN 198 = 96 from rfl) (inr_w32 _) g15a g15b d_MO_thingLine_55 ?_
    refine r_if_ne (tgt := 67) F.hx F.hb (inr_z z16) d_MO_thingLine_56 (by decide) (fun c17 => ?_) (fun c17 => ?_)
    · replace hT := (if_neg c17).symm.trans hT
      exact k_MO_thingLine_L67 l hlo x1 hx1 F hlk hr (q11.1) (q11.2) h12 _ _ _ hS (lv_sub hl [1, 2, 0] rfl) hT
    · replace hT := (if_pos c17).symm.trans hT
      refine lv_aload_n F.hx F.hb d_MO_thingLine_59 rfl (lv_at hl 1 rfl) ?_
      refine lv_iload_n F.hx F.hb d_MO_thingLine_60 rfl (lv_at hl 0 rfl) ?_
      obtain ⟨q18, hq18, hT⟩ := q_obind hT
      refine r_backZ F hS (r_runV (k := 191) (N := 68) (T := T1) (As := [vI (q11.2)]) F hS (show 191 < 231 by decide) (show shK 191 = 5 from rfl) rfl (c_MO_hasThing l F.2.2.1 (q11.1) (q11.2) h12 _ hq18) gs_MO_273 hd_MO_hasThing ⟨Nat.le_of_ble_eq_true rfl, Nat.le_of_ble_eq_true rfl⟩ rfl hl.1 (Nat.le_of_ble_eq_true rfl) ⟨Nat.zero_le _, Nat.zero_le _⟩ rfl d_MO_thingLine_61) (fun H locs hS h19 => ?_)
      refine r_if_eq (tgt := 72) F.hx F.hb (inr_z h19) d_MO_thingLine_64 (by decide) (fun c20 => ?_) (fun c20 => ?_)
      · replace hT := (if_pos c20).symm.trans hT
        exact k_MO_thingLine_L72 l hlo x1 hx1 F hlk hr (q11.1) (q11.2) h12 _ _ _ hS (lv_sub hl [1, 2, 0] rfl) hT
      · replace hT := (if_neg c20).symm.trans hT
        exact k_MO_thingLine_L67 l hlo x1 hx1 F hlk hr (q11.1) (q11.2) h12 _ _ _ hS (lv_sub hl [1, 2, 0] rfl) hT
theorem d_MO_knot_0 : decode b_MO_knot 0 = .ok (.aload_n 0, 1) := dc_42 (by decide +kernel)
theorem d_MO_knot_1 : decode b_MO_knot 1 = .ok (.getfield 199, 3) := dc_180 (by decide +kernel)
theorem d_MO_knot_4 : decode b_MO_knot 4 = .ok (.ifCond .eq 4, 3) := dc_153 (by decide +kernel)
theorem d_MO_knot_7 : decode b_MO_knot 7 = .ok (.return_, 1) := dc_177 (by decide +kernel)
theorem d_MO_knot_8 : decode b_MO_knot 8 = .ok (.aload_n 0, 1) := dc_42 (by decide +kernel)
theorem d_MO_knot_9 : decode b_MO_knot 9 = .ok (.getfield 279, 3) := dc_180 (by decide +kernel)
theorem d_MO_knot_12 : decode b_MO_knot 12 = .ok (.bipush 64, 2) := dc_16 (by decide +kernel)
theorem d_MO_knot_14 : decode b_MO_knot 14 = .ok (.if_icmp .ne 11, 3) := dc_160 (by decide +kernel)
theorem d_MO_knot_17 : decode b_MO_knot 17 = .ok (.aload_n 0, 1) := dc_42 (by decide +kernel)
theorem d_MO_knot_18 : decode b_MO_knot 18 = .ok (.iconst 2, 1) := dc_5 (by decide +kernel)
theorem d_MO_knot_19 : decode b_MO_knot 19 = .ok (.invokevirtual 208, 3) := dc_182 (by decide +kernel)
theorem d_MO_knot_22 : decode b_MO_knot 22 = .ok (.goto 13, 3) := dc_167 (by decide +kernel)
theorem d_MO_knot_25 : decode b_MO_knot 25 = .ok (.aload_n 0, 1) := dc_42 (by decide +kernel)
theorem d_MO_knot_26 : decode b_MO_knot 26 = .ok (.dup, 1) := dc_89 (by decide +kernel)
theorem d_MO_knot_27 : decode b_MO_knot 27 = .ok (.getfield 279, 3) := dc_180 (by decide +kernel)
theorem d_MO_knot_30 : decode b_MO_knot 30 = .ok (.iconst 1, 1) := dc_4 (by decide +kernel)
theorem d_MO_knot_31 : decode b_MO_knot 31 = .ok (.iadd, 1) := dc_96 (by decide +kernel)
theorem d_MO_knot_32 : decode b_MO_knot 32 = .ok (.putfield 279, 3) := dc_181 (by decide +kernel)
theorem d_MO_knot_35 : decode b_MO_knot 35 = .ok (.return_, 1) := dc_177 (by decide +kernel)
def t_MO_knot (M : Mem)  : Mem := (if (M.1 191 24) = 0 then (if (M.1 191 29) = 64 then (qlet (t_MO_wrong M 2) fun q7 => q7) else (qlet (setI M 191 29 (w32 ((M.1 191 29) + 1))) fun M6 => M6)) else M)
set_option maxHeartbeats 4000000 in
set_option maxRecDepth 100000 in
theorem c_MO_knot (l : Launch) {b n : Nat} {C : CT} (hlo : 231 ≤ n) (M : Mem)   (res : Mem) (hT : t_MO_knot M  = res) : CM l b C n 1 y_MO_knot b_MO_knot 1 (none) [.ref (b + 191)] M (QV b C n res) := by
  refine CM.of (lo := 231) (ow := "WardFallsModel") (by decide) rfl (Nat.le_of_ble_eq_true rfl) hlo (fun p e s m below meth c F hlk hr hS ls hl => ?_)
  have hl : lv_has ls 1 [(0, .ref (b + 191))] := hl
  unfold t_MO_knot at hT
  refine lv_aload_n F.hx F.hb d_MO_knot_0 rfl (lv_at hl 0 rfl) ?_
  refine r_get (v := vI (M.1 191 24)) (N := 68) (T := T1) (j := 24) F hS (show 191 < 231 by decide) (show shK 191 = 5 from rfl) (show shN 191 = 68 from rfl) rfl (Nat.le_of_ble_eq_true rfl) ing1 mw_1413 (fv_int rfl) d_MO_knot_1 ?_
  have i1 := hS.rng 191 24
  refine r_if_eq (tgt := 8) F.hx F.hb i1 d_MO_knot_4 (by decide) (fun c2 => ?_) (fun c2 => ?_)
  · replace hT := (if_pos c2).symm.trans hT
    refine lv_aload_n F.hx F.hb d_MO_knot_8 rfl (lv_at hl 0 rfl) ?_
    refine r_get (v := vI (M.1 191 29)) (N := 68) (T := T1) (j := 29) F hS (show 191 < 231 by decide) (show shK 191 = 5 from rfl) (show shN 191 = 68 from rfl) rfl (Nat.le_of_ble_eq_true rfl) ing1 mw_1418 (fv_int rfl) d_MO_knot_9 ?_
    have i3 := hS.rng 191 29
    refine r_bipush F.hx F.hb d_MO_knot_12 rfl ?_
    refine r_icmp_ne (tgt := 25) F.hx F.hb i3 (inr_c rfl) d_MO_knot_14 (by decide) (fun c4 => ?_) (fun c4 => ?_)
    · replace hT := (if_neg c4).symm.trans hT
      refine lv_aload_n F.hx F.hb d_MO_knot_25 rfl (lv_at hl 0 rfl) ?_
      refine lv_dup F.hx F.hb d_MO_knot_26 rfl ?_
      refine r_get (v := vI (M.1 191 29)) (N := 68) (T := T1) (j := 29) F hS (show 191 < 231 by decide) (show shK 191 = 5 from rfl) (show shN 191 = 68 from rfl) rfl (Nat.le_of_ble_eq_true rfl) ing1 mw_1418 (fv_int rfl) d_MO_knot_27 ?_
      have i5 := hS.rng 191 29
      refine r_iconst F.hx F.hb d_MO_knot_30 ?_
      refine r_iadd F.hx F.hb d_MO_knot_31 ?_
      refine r_putI (N := 68) (T := T1) (j := 29) F hS (show 191 < 231 by decide) (show shK 191 = 5 from rfl) (show shN 191 = 68 from rfl) rfl (Nat.le_of_ble_eq_true rfl) ing1 tyok1 nm1 rfl rfl rfl rfl rfl rfl mw_1418 (inr_w32 _) d_MO_knot_32 (fun H locs hS => ?_)
      obtain ⟨M6, eM6⟩ : ∃ q, q = (setI M 191 29 (w32 ((M.1 191 29) + 1))) := ⟨_, rfl⟩
      replace hS : St b C n M6 s H locs := by rw [eM6]; exact hS
      replace hT := qlet_eq hT eM6
      subst hT
      exact r_vret F hlk hr hS d_MO_knot_35
    · replace hT := (if_pos c4).symm.trans hT
      refine lv_aload_n F.hx F.hb d_MO_knot_17 rfl (lv_at hl 0 rfl) ?_
      refine r_iconst F.hx F.hb d_MO_knot_18 ?_
      obtain ⟨q7, hq7⟩ : ∃ q, q = (t_MO_wrong M 2) := ⟨_, rfl⟩
      replace hT := qlet_eq hT hq7
      refine r_backV F hS (r_runV (k := 191) (N := 68) (T := T1) (As := [vI 2]) F hS (show 191 < 231 by decide) (show shK 191 = 5 from rfl) rfl (c_MO_wrong l F.2.2.1 M 2 (inr_c rfl) _ hq7.symm) gs_MO_208 hd_MO_wrong ⟨Nat.le_of_ble_eq_true rfl, Nat.le_of_ble_eq_true rfl⟩ rfl hl.1 (Nat.le_of_ble_eq_true rfl) ⟨Nat.zero_le _, Nat.zero_le _⟩ rfl d_MO_knot_19) (fun H locs hS => ?_)
      refine lv_goto (tgt := 35) F.hx F.hb d_MO_knot_22 (by decide) ?_
      subst hT
      exact r_vret F hlk hr hS d_MO_knot_35
  · replace hT := (if_neg c2).symm.trans hT
    subst hT
    exact r_vret F hlk hr hS d_MO_knot_7
theorem d_MO_puts_0 : decode b_MO_puts 0 = .ok (.aload_n 0, 1) := dc_42 (by decide +kernel)
theorem d_MO_puts_1 : decode b_MO_puts 1 = .ok (.getfield 199, 3) := dc_180 (by decide +kernel)
theorem d_MO_puts_4 : decode b_MO_puts 4 = .ok (.ifCond .eq 4, 3) := dc_153 (by decide +kernel)
theorem d_MO_puts_7 : decode b_MO_puts 7 = .ok (.return_, 1) := dc_177 (by decide +kernel)
theorem d_MO_puts_8 : decode b_MO_puts 8 = .ok (.aload_n 0, 1) := dc_42 (by decide +kernel)
theorem d_MO_puts_9 : decode b_MO_puts 9 = .ok (.getfield 50, 3) := dc_180 (by decide +kernel)
theorem d_MO_puts_12 : decode b_MO_puts 12 = .ok (.bipush 64, 2) := dc_16 (by decide +kernel)
theorem d_MO_puts_14 : decode b_MO_puts 14 = .ok (.aload_n 0, 1) := dc_42 (by decide +kernel)
theorem d_MO_puts_15 : decode b_MO_puts 15 = .ok (.bipush 8, 2) := dc_16 (by decide +kernel)
theorem d_MO_puts_17 : decode b_MO_puts 17 = .ok (.invokevirtual 222, 3) := dc_182 (by decide +kernel)
theorem d_MO_puts_20 : decode b_MO_puts 20 = .ok (.iadd, 1) := dc_96 (by decide +kernel)
theorem d_MO_puts_21 : decode b_MO_puts 21 = .ok (.iload_n 1, 1) := dc_27 (by decide +kernel)
theorem d_MO_puts_22 : decode b_MO_puts 22 = .ok (.iastore, 1) := dc_79 (by decide +kernel)
theorem d_MO_puts_23 : decode b_MO_puts 23 = .ok (.aload_n 0, 1) := dc_42 (by decide +kernel)
theorem d_MO_puts_24 : decode b_MO_puts 24 = .ok (.getfield 53, 3) := dc_180 (by decide +kernel)
theorem d_MO_puts_27 : decode b_MO_puts 27 = .ok (.bipush 64, 2) := dc_16 (by decide +kernel)
theorem d_MO_puts_29 : decode b_MO_puts 29 = .ok (.aload_n 0, 1) := dc_42 (by decide +kernel)
theorem d_MO_puts_30 : decode b_MO_puts 30 = .ok (.bipush 8, 2) := dc_16 (by decide +kernel)
theorem d_MO_puts_32 : decode b_MO_puts 32 = .ok (.invokevirtual 222, 3) := dc_182 (by decide +kernel)
theorem d_MO_puts_35 : decode b_MO_puts 35 = .ok (.iadd, 1) := dc_96 (by decide +kernel)
theorem d_MO_puts_36 : decode b_MO_puts 36 = .ok (.iload_n 2, 1) := dc_28 (by decide +kernel)
theorem d_MO_puts_37 : decode b_MO_puts 37 = .ok (.iastore, 1) := dc_79 (by decide +kernel)
theorem d_MO_puts_38 : decode b_MO_puts 38 = .ok (.aload_n 0, 1) := dc_42 (by decide +kernel)
theorem d_MO_puts_39 : decode b_MO_puts 39 = .ok (.bipush 8, 2) := dc_16 (by decide +kernel)
theorem d_MO_puts_41 : decode b_MO_puts 41 = .ok (.aload_n 0, 1) := dc_42 (by decide +kernel)
theorem d_MO_puts_42 : decode b_MO_puts 42 = .ok (.bipush 8, 2) := dc_16 (by decide +kernel)
theorem d_MO_puts_44 : decode b_MO_puts 44 = .ok (.invokevirtual 222, 3) := dc_182 (by decide +kernel)
theorem d_MO_puts_47 : decode b_MO_puts 47 = .ok (.iconst 1, 1) := dc_4 (by decide +kernel)
theorem d_MO_puts_48 : decode b_MO_puts 48 = .ok (.iadd, 1) := dc_96 (by decide +kernel)
theorem d_MO_puts_49 : decode b_MO_puts 49 = .ok (.invokevirtual 238, 3) := dc_182 (by decide +kernel)
theorem d_MO_puts_52 : decode b_MO_puts 52 = .ok (.return_, 1) := dc_177 (by decide +kernel)
def t_MO_puts (M : Mem) (x1 : Int) (x2 : Int) : Option (Mem) := (if (M.1 191 24) = 0 then (obind (t_MO_fresher M 8) fun q3 => (qguard (0 ≤ (w32 (64 + q3)) ∧ (w32 (64 + q3)) < 128) (qlet (setI M 205 (w32 (64 + q3)) x1) fun M6 => (obind (t_MO_fresher M6 8) fun q7 => (qguard (0 ≤ (w32 (64 + q7)) ∧ (w32 (64 + q7)) < 128) (qlet (setI M6 206 (w32 (64 + q7)) x2) fun M10 => (obind (t_MO_fresher M10 8) fun q11 => (obind (t_MO_reads M10 8 (w32 (q11 + 1))) fun q13 => (some q13))))))))) else (some M))
set_option maxHeartbeats 4000000 in
set_option maxRecDepth 100000 in
theorem c_MO_puts (l : Launch) {b n : Nat} {C : CT} (hlo : 231 ≤ n) (M : Mem) (x1 : Int) (x2 : Int) (hx1 : InR x1) (hx2 : InR x2) (res : Mem) (hT : t_MO_puts M x1 x2 = some res) : CM l b C n 1 y_MO_puts b_MO_puts 3 (none) [.ref (b + 191), vI x1, vI x2] M (QV b C n res) := by
  refine CM.of (lo := 231) (ow := "WardFallsModel") (by decide) rfl (Nat.le_of_ble_eq_true rfl) hlo (fun p e s m below meth c F hlk hr hS ls hl => ?_)
  have hl : lv_has ls 3 [(0, .ref (b + 191)), (1, vI x1), (2, vI x2)] := hl
  unfold t_MO_puts at hT
  refine lv_aload_n F.hx F.hb d_MO_puts_0 rfl (lv_at hl 0 rfl) ?_
  refine r_get (v := vI (M.1 191 24)) (N := 68) (T := T1) (j := 24) F hS (show 191 < 231 by decide) (show shK 191 = 5 from rfl) (show shN 191 = 68 from rfl) rfl (Nat.le_of_ble_eq_true rfl) ing1 mw_1413 (fv_int rfl) d_MO_puts_1 ?_
  have i1 := hS.rng 191 24
  refine r_if_eq (tgt := 8) F.hx F.hb i1 d_MO_puts_4 (by decide) (fun c2 => ?_) (fun c2 => ?_)
  · replace hT := (if_pos c2).symm.trans hT
    refine lv_aload_n F.hx F.hb d_MO_puts_8 rfl (lv_at hl 0 rfl) ?_
    refine r_get (v := .ref (b + 205)) (N := 68) (T := T1) (j := 15) F hS (show 191 < 231 by decide) (show shK 191 = 5 from rfl) (show shN 191 = 68 from rfl) rfl (Nat.le_of_ble_eq_true rfl) ing1 mw_1404 (fv_sg rfl rfl rfl) d_MO_puts_9 ?_
    refine r_bipush F.hx F.hb d_MO_puts_12 rfl ?_
    refine lv_aload_n F.hx F.hb d_MO_puts_14 rfl (lv_at hl 0 rfl) ?_
    refine r_bipush F.hx F.hb d_MO_puts_15 rfl ?_
    obtain ⟨q3, hq3, hT⟩ := q_obind hT
    refine r_backI F hS (r_runV (k := 191) (N := 68) (T := T1) (As := [vI 8]) F hS (show 191 < 231 by decide) (show shK 191 = 5 from rfl) rfl (c_MO_fresher l F.2.2.1 M 8 (inr_c rfl) _ hq3) gs_MO_222 hd_MO_fresher ⟨Nat.le_of_ble_eq_true rfl, Nat.le_of_ble_eq_true rfl⟩ rfl hl.1 (Nat.le_of_ble_eq_true rfl) ⟨Nat.zero_le _, Nat.zero_le _⟩ rfl d_MO_puts_17) (fun H locs hS h4 => ?_)
    refine r_iadd F.hx F.hb d_MO_puts_20 ?_
    refine lv_iload_n F.hx F.hb d_MO_puts_21 rfl (lv_at hl 1 rfl) ?_
    obtain ⟨⟨g5a, g5b⟩, hT⟩ := q_guard hT
    refine r_iast F hS (show 205 < 231 by decide) (show shK 205 = 0 from rfl) (show shN 205 = 128 from rfl) (inr_w32 _) hx1 g5a g5b d_MO_puts_22 (fun H locs hS => ?_)
    obtain ⟨M6, eM6⟩ : ∃ q, q = (setI M 205 (w32 (64 + q3)) x1) := ⟨_, rfl⟩
    replace hS : St b C n M6 s H locs := by rw [eM6]; exact hS
    replace hT := qlet_eq hT eM6
    refine lv_aload_n F.hx F.hb d_MO_puts_23 rfl (lv_at hl 0 rfl) ?_
    refine r_get (v := .ref (b + 206)) (N := 68) (T := T1) (j := 16) F hS (show 191 < 231 by decide) (show shK 191 = 5 from rfl) (show shN 191 = 68 from rfl) rfl (Nat.le_of_ble_eq_true rfl) ing1 mw_1405 (fv_sg rfl rfl rfl) d_MO_puts_24 ?_
    refine r_bipush F.hx F.hb d_MO_puts_27 rfl ?_
    refine lv_aload_n F.hx F.hb d_MO_puts_29 rfl (lv_at hl 0 rfl) ?_
    refine r_bipush F.hx F.hb d_MO_puts_30 rfl ?_
    obtain ⟨q7, hq7, hT⟩ := q_obind hT
    refine r_backI F hS (r_runV (k := 191) (N := 68) (T := T1) (As := [vI 8]) F hS (show 191 < 231 by decide) (show shK 191 = 5 from rfl) rfl (c_MO_fresher l F.2.2.1 M6 8 (inr_c rfl) _ hq7) gs_MO_222 hd_MO_fresher ⟨Nat.le_of_ble_eq_true rfl, Nat.le_of_ble_eq_true rfl⟩ rfl hl.1 (Nat.le_of_ble_eq_true rfl) ⟨Nat.zero_le _, Nat.zero_le _⟩ rfl d_MO_puts_32) (fun H locs hS h8 => ?_)
    refine r_iadd F.hx F.hb d_MO_puts_35 ?_
    refine lv_iload_n F.hx F.hb d_MO_puts_36 rfl (lv_at hl 2 rfl) ?_
    obtain ⟨⟨g9a, g9b⟩, hT⟩ := q_guard hT
    refine r_iast F hS (show 206 < 231 by decide) (show shK 206 = 0 from rfl) (show shN 206 = 128 from rfl) (inr_w32 _) hx2 g9a g9b d_MO_puts_37 (fun H locs hS => ?_)
    obtain ⟨M10, eM10⟩ : ∃ q, q = (setI M6 206 (w32 (64 + q7)) x2) := ⟨_, rfl⟩
    replace hS : St b C n M10 s H locs := by rw [eM10]; exact hS
    replace hT := qlet_eq hT eM10
    refine lv_aload_n F.hx F.hb d_MO_puts_38 rfl (lv_at hl 0 rfl) ?_
    refine r_bipush F.hx F.hb d_MO_puts_39 rfl ?_
    refine lv_aload_n F.hx F.hb d_MO_puts_41 rfl (lv_at hl 0 rfl) ?_
    refine r_bipush F.hx F.hb d_MO_puts_42 rfl ?_
    obtain ⟨q11, hq11, hT⟩ := q_obind hT
    refine r_backI F hS (r_runV (k := 191) (N := 68) (T := T1) (As := [vI 8]) F hS (show 191 < 231 by decide) (show shK 191 = 5 from rfl) rfl (c_MO_fresher l F.2.2.1 M10 8 (inr_c rfl) _ hq11) gs_MO_222 hd_MO_fresher ⟨Nat.le_of_ble_eq_true rfl, Nat.le_of_ble_eq_true rfl⟩ rfl hl.1 (Nat.le_of_ble_eq_true rfl) ⟨Nat.zero_le _, Nat.zero_le _⟩ rfl d_MO_puts_44) (fun H locs hS h12 => ?_)
    refine r_iconst F.hx F.hb d_MO_puts_47 ?_
    refine r_iadd F.hx F.hb d_MO_puts_48 ?_
    obtain ⟨q13, hq13, hT⟩ := q_obind hT
    refine r_backV F hS (r_runV (k := 191) (N := 68) (T := T1) (As := [vI 8, vI (w32 (q11 + 1))]) F hS (show 191 < 231 by decide) (show shK 191 = 5 from rfl) rfl (c_MO_reads l F.2.2.1 M10 8 (w32 (q11 + 1)) (inr_c rfl) (inr_w32 _) _ hq13) gs_MO_238 hd_MO_reads ⟨Nat.le_of_ble_eq_true rfl, Nat.le_of_ble_eq_true rfl⟩ rfl hl.1 (Nat.le_of_ble_eq_true rfl) ⟨Nat.zero_le _, Nat.zero_le _⟩ rfl d_MO_puts_49) (fun H locs hS => ?_)
    cases hT
    exact r_vret F hlk hr hS d_MO_puts_52
  · replace hT := (if_neg c2).symm.trans hT
    cases hT
    exact r_vret F hlk hr hS d_MO_puts_7
theorem wn_MO_primary_0 : ∀ i, i < 96 → bA b_MO_primary (0 + i) = wB [42, 180, 0, 199, 153, 0, 4, 177, 42, 16, 40, 182, 1, 4, 153, 0, 87, 42, 180, 1, 50, 16, 8, 160, 0, 8, 42, 5, 182, 0, 208, 42, 180, 0, 199, 153, 0, 4, 177, 42, 89, 180, 1, 50, 4, 96, 181, 1, 50, 42, 182, 0, 205, 42, 182, 1, 20, 42, 180, 0, 199, 154, 0, 17, 42, 16, 41, 182, 1, 4, 154, 0, 8, 42, 4, 182, 0, 208, 42, 180, 0, 199, 153, 0, 4, 177, 42, 89, 180, 1, 50, 4, 100, 181, 1, 50] i := wB_of (by decide +kernel)
theorem d_MO_primary_0 : decode b_MO_primary 0 = .ok (.aload_n 0, 1) := dc_42 (q0_win (r := 0) wn_MO_primary_0 (by decide +kernel))
theorem d_MO_primary_1 : decode b_MO_primary 1 = .ok (.getfield 199, 3) := dc_180 (qU2_win (r := 1) wn_MO_primary_0 (by decide +kernel))
theorem d_MO_primary_4 : decode b_MO_primary 4 = .ok (.ifCond .eq 4, 3) := dc_153 (qS2_win (r := 4) wn_MO_primary_0 (by decide +kernel))
theorem d_MO_primary_7 : decode b_MO_primary 7 = .ok (.return_, 1) := dc_177 (q0_win (r := 7) wn_MO_primary_0 (by decide +kernel))
theorem d_MO_primary_8 : decode b_MO_primary 8 = .ok (.aload_n 0, 1) := dc_42 (q0_win (r := 8) wn_MO_primary_0 (by decide +kernel))
theorem d_MO_primary_9 : decode b_MO_primary 9 = .ok (.bipush 40, 2) := dc_16 (qS1_win (r := 9) wn_MO_primary_0 (by decide +kernel))
theorem d_MO_primary_11 : decode b_MO_primary 11 = .ok (.invokevirtual 260, 3) := dc_182 (qU2_win (r := 11) wn_MO_primary_0 (by decide +kernel))
theorem d_MO_primary_14 : decode b_MO_primary 14 = .ok (.ifCond .eq 87, 3) := dc_153 (qS2_win (r := 14) wn_MO_primary_0 (by decide +kernel))
theorem d_MO_primary_17 : decode b_MO_primary 17 = .ok (.aload_n 0, 1) := dc_42 (q0_win (r := 17) wn_MO_primary_0 (by decide +kernel))
theorem d_MO_primary_18 : decode b_MO_primary 18 = .ok (.getfield 306, 3) := dc_180 (qU2_win (r := 18) wn_MO_primary_0 (by decide +kernel))
theorem d_MO_primary_21 : decode b_MO_primary 21 = .ok (.bipush 8, 2) := dc_16 (qS1_win (r := 21) wn_MO_primary_0 (by decide +kernel))
theorem d_MO_primary_23 : decode b_MO_primary 23 = .ok (.if_icmp .ne 8, 3) := dc_160 (qS2_win (r := 23) wn_MO_primary_0 (by decide +kernel))
theorem d_MO_primary_26 : decode b_MO_primary 26 = .ok (.aload_n 0, 1) := dc_42 (q0_win (r := 26) wn_MO_primary_0 (by decide +kernel))
theorem d_MO_primary_27 : decode b_MO_primary 27 = .ok (.iconst 2, 1) := dc_5 (q0_win (r := 27) wn_MO_primary_0 (by decide +kernel))
theorem d_MO_primary_28 : decode b_MO_primary 28 = .ok (.invokevirtual 208, 3) := dc_182 (qU2_win (r := 28) wn_MO_primary_0 (by decide +kernel))
theorem d_MO_primary_31 : decode b_MO_primary 31 = .ok (.aload_n 0, 1) := dc_42 (q0_win (r := 31) wn_MO_primary_0 (by decide +kernel))
theorem d_MO_primary_32 : decode b_MO_primary 32 = .ok (.getfield 199, 3) := dc_180 (qU2_win (r := 32) wn_MO_primary_0 (by decide +kernel))
theorem d_MO_primary_35 : decode b_MO_primary 35 = .ok (.ifCond .eq 4, 3) := dc_153 (qS2_win (r := 35) wn_MO_primary_0 (by decide +kernel))
theorem d_MO_primary_38 : decode b_MO_primary 38 = .ok (.return_, 1) := dc_177 (q0_win (r := 38) wn_MO_primary_0 (by decide +kernel))
theorem d_MO_primary_39 : decode b_MO_primary 39 = .ok (.aload_n 0, 1) := dc_42 (q0_win (r := 39) wn_MO_primary_0 (by decide +kernel))
theorem d_MO_primary_40 : decode b_MO_primary 40 = .ok (.dup, 1) := dc_89 (q0_win (r := 40) wn_MO_primary_0 (by decide +kernel))
theorem d_MO_primary_41 : decode b_MO_primary 41 = .ok (.getfield 306, 3) := dc_180 (qU2_win (r := 41) wn_MO_primary_0 (by decide +kernel))
theorem d_MO_primary_44 : decode b_MO_primary 44 = .ok (.iconst 1, 1) := dc_4 (q0_win (r := 44) wn_MO_primary_0 (by decide +kernel))
theorem d_MO_primary_45 : decode b_MO_primary 45 = .ok (.iadd, 1) := dc_96 (q0_win (r := 45) wn_MO_primary_0 (by decide +kernel))
theorem d_MO_primary_46 : decode b_MO_primary 46 = .ok (.putfield 306, 3) := dc_181 (qU2_win (r := 46) wn_MO_primary_0 (by decide +kernel))
theorem d_MO_primary_49 : decode b_MO_primary 49 = .ok (.aload_n 0, 1) := dc_42 (q0_win (r := 49) wn_MO_primary_0 (by decide +kernel))
theorem d_MO_primary_50 : decode b_MO_primary 50 = .ok (.invokevirtual 205, 3) := dc_182 (qU2_win (r := 50) wn_MO_primary_0 (by decide +kernel))
theorem d_MO_primary_53 : decode b_MO_primary 53 = .ok (.aload_n 0, 1) := dc_42 (q0_win (r := 53) wn_MO_primary_0 (by decide +kernel))
theorem d_MO_primary_54 : decode b_MO_primary 54 = .ok (.invokevirtual 276, 3) := dc_182 (qU2_win (r := 54) wn_MO_primary_0 (by decide +kernel))
theorem d_MO_primary_57 : decode b_MO_primary 57 = .ok (.aload_n 0, 1) := dc_42 (q0_win (r := 57) wn_MO_primary_0 (by decide +kernel))
theorem d_MO_primary_58 : decode b_MO_primary 58 = .ok (.getfield 199, 3) := dc_180 (qU2_win (r := 58) wn_MO_primary_0 (by decide +kernel))
theorem d_MO_primary_61 : decode b_MO_primary 61 = .ok (.ifCond .ne 17, 3) := dc_154 (qS2_win (r := 61) wn_MO_primary_0 (by decide +kernel))
theorem d_MO_primary_64 : decode b_MO_primary 64 = .ok (.aload_n 0, 1) := dc_42 (q0_win (r := 64) wn_MO_primary_0 (by decide +kernel))
theorem d_MO_primary_65 : decode b_MO_primary 65 = .ok (.bipush 41, 2) := dc_16 (qS1_win (r := 65) wn_MO_primary_0 (by decide +kernel))
theorem d_MO_primary_67 : decode b_MO_primary 67 = .ok (.invokevirtual 260, 3) := dc_182 (qU2_win (r := 67) wn_MO_primary_0 (by decide +kernel))
theorem d_MO_primary_70 : decode b_MO_primary 70 = .ok (.ifCond .ne 8, 3) := dc_154 (qS2_win (r := 70) wn_MO_primary_0 (by decide +kernel))
theorem d_MO_primary_73 : decode b_MO_primary 73 = .ok (.aload_n 0, 1) := dc_42 (q0_win (r := 73) wn_MO_primary_0 (by decide +kernel))
theorem d_MO_primary_74 : decode b_MO_primary 74 = .ok (.iconst 1, 1) := dc_4 (q0_win (r := 74) wn_MO_primary_0 (by decide +kernel))
theorem d_MO_primary_75 : decode b_MO_primary 75 = .ok (.invokevirtual 208, 3) := dc_182 (qU2_win (r := 75) wn_MO_primary_0 (by decide +kernel))
theorem d_MO_primary_78 : decode b_MO_primary 78 = .ok (.aload_n 0, 1) := dc_42 (q0_win (r := 78) wn_MO_primary_0 (by decide +kernel))
theorem d_MO_primary_79 : decode b_MO_primary 79 = .ok (.getfield 199, 3) := dc_180 (qU2_win (r := 79) wn_MO_primary_0 (by decide +kernel))
theorem d_MO_primary_82 : decode b_MO_primary 82 = .ok (.ifCond .eq 4, 3) := dc_153 (qS2_win (r := 82) wn_MO_primary_0 (by decide +kernel))
theorem d_MO_primary_85 : decode b_MO_primary 85 = .ok (.return_, 1) := dc_177 (q0_win (r := 85) wn_MO_primary_0 (by decide +kernel))
theorem d_MO_primary_86 : decode b_MO_primary 86 = .ok (.aload_n 0, 1) := dc_42 (q0_win (r := 86) wn_MO_primary_0 (by decide +kernel))
theorem d_MO_primary_87 : decode b_MO_primary 87 = .ok (.dup, 1) := dc_89 (q0_win (r := 87) wn_MO_primary_0 (by decide +kernel))
theorem d_MO_primary_88 : decode b_MO_primary 88 = .ok (.getfield 306, 3) := dc_180 (qU2_win (r := 88) wn_MO_primary_0 (by decide +kernel))
theorem d_MO_primary_91 : decode b_MO_primary 91 = .ok (.iconst 1, 1) := dc_4 (q0_win (r := 91) wn_MO_primary_0 (by decide +kernel))
theorem d_MO_primary_92 : decode b_MO_primary 92 = .ok (.isub, 1) := dc_100 (q0_win (r := 92) wn_MO_primary_0 (by decide +kernel))
theorem d_MO_primary_93 : decode b_MO_primary 93 = .ok (.putfield 306, 3) := dc_181 (qU2_win (r := 93) wn_MO_primary_0 (by decide +kernel))
theorem wn_MO_primary_96 : ∀ i, i < 95 → bA b_MO_primary (96 + i) = wB [42, 182, 0, 205, 177, 42, 180, 0, 164, 5, 160, 0, 7, 4, 167, 0, 4, 3, 60, 27, 153, 0, 21, 42, 180, 0, 174, 17, 39, 15, 164, 0, 11, 42, 5, 182, 0, 208, 167, 0, 28, 27, 154, 0, 24, 42, 180, 0, 164, 154, 0, 12, 42, 180, 0, 174, 16, 18, 162, 0, 8, 42, 4, 182, 0, 208, 42, 182, 1, 32, 42, 27, 153, 0, 7, 3, 167, 0, 4, 4, 27, 153, 0, 10, 42, 180, 0, 174, 167, 0, 10, 42, 180, 0, 174] i := wB_of (by decide +kernel)
theorem d_MO_primary_96 : decode b_MO_primary 96 = .ok (.aload_n 0, 1) := dc_42 (q0_win (r := 0) wn_MO_primary_96 (by decide +kernel))
theorem d_MO_primary_97 : decode b_MO_primary 97 = .ok (.invokevirtual 205, 3) := dc_182 (qU2_win (r := 1) wn_MO_primary_96 (by decide +kernel))
theorem d_MO_primary_100 : decode b_MO_primary 100 = .ok (.return_, 1) := dc_177 (q0_win (r := 4) wn_MO_primary_96 (by decide +kernel))
theorem d_MO_primary_101 : decode b_MO_primary 101 = .ok (.aload_n 0, 1) := dc_42 (q0_win (r := 5) wn_MO_primary_96 (by decide +kernel))
theorem d_MO_primary_102 : decode b_MO_primary 102 = .ok (.getfield 164, 3) := dc_180 (qU2_win (r := 6) wn_MO_primary_96 (by decide +kernel))
theorem d_MO_primary_105 : decode b_MO_primary 105 = .ok (.iconst 2, 1) := dc_5 (q0_win (r := 9) wn_MO_primary_96 (by decide +kernel))
theorem d_MO_primary_106 : decode b_MO_primary 106 = .ok (.if_icmp .ne 7, 3) := dc_160 (qS2_win (r := 10) wn_MO_primary_96 (by decide +kernel))
theorem d_MO_primary_109 : decode b_MO_primary 109 = .ok (.iconst 1, 1) := dc_4 (q0_win (r := 13) wn_MO_primary_96 (by decide +kernel))
theorem d_MO_primary_110 : decode b_MO_primary 110 = .ok (.goto 4, 3) := dc_167 (qS2_win (r := 14) wn_MO_primary_96 (by decide +kernel))
theorem d_MO_primary_113 : decode b_MO_primary 113 = .ok (.iconst 0, 1) := dc_3 (q0_win (r := 17) wn_MO_primary_96 (by decide +kernel))
theorem d_MO_primary_114 : decode b_MO_primary 114 = .ok (.istore_n 1, 1) := dc_60 (q0_win (r := 18) wn_MO_primary_96 (by decide +kernel))
theorem d_MO_primary_115 : decode b_MO_primary 115 = .ok (.iload_n 1, 1) := dc_27 (q0_win (r := 19) wn_MO_primary_96 (by decide +kernel))
theorem d_MO_primary_116 : decode b_MO_primary 116 = .ok (.ifCond .eq 21, 3) := dc_153 (qS2_win (r := 20) wn_MO_primary_96 (by decide +kernel))
theorem d_MO_primary_119 : decode b_MO_primary 119 = .ok (.aload_n 0, 1) := dc_42 (q0_win (r := 23) wn_MO_primary_96 (by decide +kernel))
theorem d_MO_primary_120 : decode b_MO_primary 120 = .ok (.getfield 174, 3) := dc_180 (qU2_win (r := 24) wn_MO_primary_96 (by decide +kernel))
theorem d_MO_primary_123 : decode b_MO_primary 123 = .ok (.sipush 9999, 3) := dc_17 (qS2_win (r := 27) wn_MO_primary_96 (by decide +kernel))
theorem d_MO_primary_126 : decode b_MO_primary 126 = .ok (.if_icmp .le 11, 3) := dc_164 (qS2_win (r := 30) wn_MO_primary_96 (by decide +kernel))
theorem d_MO_primary_129 : decode b_MO_primary 129 = .ok (.aload_n 0, 1) := dc_42 (q0_win (r := 33) wn_MO_primary_96 (by decide +kernel))
theorem d_MO_primary_130 : decode b_MO_primary 130 = .ok (.iconst 2, 1) := dc_5 (q0_win (r := 34) wn_MO_primary_96 (by decide +kernel))
theorem d_MO_primary_131 : decode b_MO_primary 131 = .ok (.invokevirtual 208, 3) := dc_182 (qU2_win (r := 35) wn_MO_primary_96 (by decide +kernel))
theorem d_MO_primary_134 : decode b_MO_primary 134 = .ok (.goto 28, 3) := dc_167 (qS2_win (r := 38) wn_MO_primary_96 (by decide +kernel))
theorem d_MO_primary_137 : decode b_MO_primary 137 = .ok (.iload_n 1, 1) := dc_27 (q0_win (r := 41) wn_MO_primary_96 (by decide +kernel))
theorem d_MO_primary_138 : decode b_MO_primary 138 = .ok (.ifCond .ne 24, 3) := dc_154 (qS2_win (r := 42) wn_MO_primary_96 (by decide +kernel))
theorem d_MO_primary_141 : decode b_MO_primary 141 = .ok (.aload_n 0, 1) := dc_42 (q0_win (r := 45) wn_MO_primary_96 (by decide +kernel))
theorem d_MO_primary_142 : decode b_MO_primary 142 = .ok (.getfield 164, 3) := dc_180 (qU2_win (r := 46) wn_MO_primary_96 (by decide +kernel))
theorem d_MO_primary_145 : decode b_MO_primary 145 = .ok (.ifCond .ne 12, 3) := dc_154 (qS2_win (r := 49) wn_MO_primary_96 (by decide +kernel))
theorem d_MO_primary_148 : decode b_MO_primary 148 = .ok (.aload_n 0, 1) := dc_42 (q0_win (r := 52) wn_MO_primary_96 (by decide +kernel))
theorem d_MO_primary_149 : decode b_MO_primary 149 = .ok (.getfield 174, 3) := dc_180 (qU2_win (r := 53) wn_MO_primary_96 (by decide +kernel))
theorem d_MO_primary_152 : decode b_MO_primary 152 = .ok (.bipush 18, 2) := dc_16 (qS1_win (r := 56) wn_MO_primary_96 (by decide +kernel))
theorem d_MO_primary_154 : decode b_MO_primary 154 = .ok (.if_icmp .ge 8, 3) := dc_162 (qS2_win (r := 58) wn_MO_primary_96 (by decide +kernel))
theorem d_MO_primary_157 : decode b_MO_primary 157 = .ok (.aload_n 0, 1) := dc_42 (q0_win (r := 61) wn_MO_primary_96 (by decide +kernel))
theorem d_MO_primary_158 : decode b_MO_primary 158 = .ok (.iconst 1, 1) := dc_4 (q0_win (r := 62) wn_MO_primary_96 (by decide +kernel))
theorem d_MO_primary_159 : decode b_MO_primary 159 = .ok (.invokevirtual 208, 3) := dc_182 (qU2_win (r := 63) wn_MO_primary_96 (by decide +kernel))
theorem d_MO_primary_162 : decode b_MO_primary 162 = .ok (.aload_n 0, 1) := dc_42 (q0_win (r := 66) wn_MO_primary_96 (by decide +kernel))
theorem d_MO_primary_163 : decode b_MO_primary 163 = .ok (.invokevirtual 288, 3) := dc_182 (qU2_win (r := 67) wn_MO_primary_96 (by decide +kernel))
theorem d_MO_primary_166 : decode b_MO_primary 166 = .ok (.aload_n 0, 1) := dc_42 (q0_win (r := 70) wn_MO_primary_96 (by decide +kernel))
theorem d_MO_primary_167 : decode b_MO_primary 167 = .ok (.iload_n 1, 1) := dc_27 (q0_win (r := 71) wn_MO_primary_96 (by decide +kernel))
theorem d_MO_primary_168 : decode b_MO_primary 168 = .ok (.ifCond .eq 7, 3) := dc_153 (qS2_win (r := 72) wn_MO_primary_96 (by decide +kernel))
theorem d_MO_primary_171 : decode b_MO_primary 171 = .ok (.iconst 0, 1) := dc_3 (q0_win (r := 75) wn_MO_primary_96 (by decide +kernel))
theorem d_MO_primary_172 : decode b_MO_primary 172 = .ok (.goto 4, 3) := dc_167 (qS2_win (r := 76) wn_MO_primary_96 (by decide +kernel))
theorem d_MO_primary_175 : decode b_MO_primary 175 = .ok (.iconst 1, 1) := dc_4 (q0_win (r := 79) wn_MO_primary_96 (by decide +kernel))
theorem d_MO_primary_176 : decode b_MO_primary 176 = .ok (.iload_n 1, 1) := dc_27 (q0_win (r := 80) wn_MO_primary_96 (by decide +kernel))
theorem d_MO_primary_177 : decode b_MO_primary 177 = .ok (.ifCond .eq 10, 3) := dc_153 (qS2_win (r := 81) wn_MO_primary_96 (by decide +kernel))
theorem d_MO_primary_180 : decode b_MO_primary 180 = .ok (.aload_n 0, 1) := dc_42 (q0_win (r := 84) wn_MO_primary_96 (by decide +kernel))
theorem d_MO_primary_181 : decode b_MO_primary 181 = .ok (.getfield 174, 3) := dc_180 (qU2_win (r := 85) wn_MO_primary_96 (by decide +kernel))
theorem d_MO_primary_184 : decode b_MO_primary 184 = .ok (.goto 10, 3) := dc_167 (qS2_win (r := 88) wn_MO_primary_96 (by decide +kernel))
theorem d_MO_primary_187 : decode b_MO_primary 187 = .ok (.aload_n 0, 1) := dc_42 (q0_win (r := 91) wn_MO_primary_96 (by decide +kernel))
theorem d_MO_primary_188 : decode b_MO_primary 188 = .ok (.getfield 174, 3) := dc_180 (qU2_win (r := 92) wn_MO_primary_96 (by decide +kernel))
theorem wn_MO_primary_191 : ∀ i, i < 11 → bA b_MO_primary (191 + i) = wB [16, 18, 100, 182, 1, 35, 42, 182, 0, 215, 177] i := wB_of (by decide +kernel)
theorem d_MO_primary_191 : decode b_MO_primary 191 = .ok (.bipush 18, 2) := dc_16 (qS1_win (r := 0) wn_MO_primary_191 (by decide +kernel))
theorem d_MO_primary_193 : decode b_MO_primary 193 = .ok (.isub, 1) := dc_100 (q0_win (r := 2) wn_MO_primary_191 (by decide +kernel))
theorem d_MO_primary_194 : decode b_MO_primary 194 = .ok (.invokevirtual 291, 3) := dc_182 (qU2_win (r := 3) wn_MO_primary_191 (by decide +kernel))
theorem d_MO_primary_197 : decode b_MO_primary 197 = .ok (.aload_n 0, 1) := dc_42 (q0_win (r := 6) wn_MO_primary_191 (by decide +kernel))
theorem d_MO_primary_198 : decode b_MO_primary 198 = .ok (.invokevirtual 215, 3) := dc_182 (qU2_win (r := 7) wn_MO_primary_191 (by decide +kernel))
theorem d_MO_primary_201 : decode b_MO_primary 201 = .ok (.return_, 1) := dc_177 (q0_win (r := 10) wn_MO_primary_191 (by decide +kernel))
def t_MO_primary_L78 (rc : Nat → Mem → Option Mem)  (M : Mem)  : Option (Mem) := (if (M.1 191 24) = 0 then (qlet (setI M 191 28 (w32 ((M.1 191 28) - 1))) fun M43 => (obind (t_MO_token M43) fun q44 => (some q44))) else (some M))
def t_MO_primary_L31 (rc : Nat → Mem → Option Mem)  (M : Mem)  : Option (Mem) := (if (M.1 191 24) = 0 then (qlet (setI M 191 28 (w32 ((M.1 191 28) + 1))) fun M20 => (obind (t_MO_token M20) fun q21 => (obind (rc 0 q21) fun q23 => (if (q23.1 191 24) = 0 then (qlet (t_MO_isSign q23 41) fun q27 => (if q27 = 0 then (qlet (t_MO_wrong q23 1) fun q30 => (t_MO_primary_L78 rc q30)) else (t_MO_primary_L78 rc q23))) else (t_MO_primary_L78 rc q23))))) else (some M))
def t_MO_primary_L194 (rc : Nat → Mem → Option Mem)  (M : Mem) (v2_ : Int) (v3_ : Int) : Option (Mem) := (obind (t_MO_puts M v2_ v3_) fun q51 => (obind (t_MO_goOn q51) fun q53 => (some q53)))
def t_MO_primary_L176 (rc : Nat → Mem → Option Mem)  (M : Mem) (v1_ : Int) (v3_ : Int) : Option (Mem) := (if v1_ = 0 then (t_MO_primary_L194 rc M v3_ (w32 ((M.1 191 23) - 18))) else (t_MO_primary_L194 rc M v3_ (M.1 191 23)))
def t_MO_primary_L162 (rc : Nat → Mem → Option Mem)  (M : Mem) (v1_ : Int) : Option (Mem) := (qlet (t_MO_knot M) fun q37 => (if v1_ = 0 then (t_MO_primary_L176 rc q37 v1_ 1) else (t_MO_primary_L176 rc q37 v1_ 0)))
def t_MO_primary_L157 (rc : Nat → Mem → Option Mem)  (M : Mem) (v1_ : Int) : Option (Mem) := (qlet (t_MO_wrong M 1) fun q46 => (t_MO_primary_L162 rc q46 v1_))
def t_MO_primary_L137 (rc : Nat → Mem → Option Mem)  (M : Mem) (v1_ : Int) : Option (Mem) := (if v1_ = 0 then (if (M.1 191 22) = 0 then (if 18 ≤ (M.1 191 23) then (t_MO_primary_L162 rc M v1_) else (t_MO_primary_L157 rc M v1_)) else (t_MO_primary_L157 rc M v1_)) else (t_MO_primary_L162 rc M v1_))
def t_MO_primary_L114 (rc : Nat → Mem → Option Mem)  (M : Mem) (v1_ : Int) : Option (Mem) := (if v1_ = 0 then (t_MO_primary_L137 rc M v1_) else (if (M.1 191 23) ≤ 9999 then (t_MO_primary_L137 rc M v1_) else (qlet (t_MO_wrong M 2) fun q15 => (t_MO_primary_L162 rc q15 v1_))))
def t_MO_primary_B (M : Mem) (rc : Nat → Mem → Option Mem) : Option (Mem) := (if (M.1 191 24) = 0 then (qlet (t_MO_isSign M 40) fun q3 => (if q3 = 0 then (if (M.1 191 22) = 2 then (t_MO_primary_L114 rc M 1) else (t_MO_primary_L114 rc M 0)) else (if (M.1 191 28) = 8 then (qlet (t_MO_wrong M 2) fun q10 => (t_MO_primary_L31 rc q10)) else (t_MO_primary_L31 rc M)))) else (some M))
set_option maxHeartbeats 4000000 in
set_option maxRecDepth 100000 in
theorem k_MO_primary_L78 (l : Launch) {d : Nat} {p : Program} {e : Env} {s : State} {m : MethodId} {below : List Frame} {meth : Method} {c : Code} {b n : Nat} {C : CT} (hlo : 231 ≤ n) (rc : Nat → Mem → Option Mem) (hrc0 : ∀ (M res : Mem), rc 0 M = some res → CM l b C n (d + 40) y_MO_expression b_MO_expression 1 (none) [.ref (b + 191)] M (QV b C n res)) (hrc1 : ∀ (M res : Mem), rc 1 M = some res → CM l b C n (d + 40) y_MO_conjunction b_MO_conjunction 1 (none) [.ref (b + 191)] M (QV b C n res)) (hrc2 : ∀ (M res : Mem), rc 2 M = some res → CM l b C n (d + 40) y_MO_negation b_MO_negation 2 (none) [.ref (b + 191)] M (QV b C n res)) (hrc3 : ∀ (M res : Mem), rc 3 M = some res → CM l b C n (d + 40) y_MO_sum b_MO_sum 2 (none) [.ref (b + 191)] M (QV b C n res)) (hrc4 : ∀ (M res : Mem), rc 4 M = some res → CM l b C n (d + 40) y_MO_product b_MO_product 2 (none) [.ref (b + 191)] M (QV b C n res)) (hrc5 : ∀ (M res : Mem), rc 5 M = some res → CM l b C n (d + 40) y_MO_primary b_MO_primary 2 (none) [.ref (b + 191)] M (QV b C n res)) (F : Cx b p m c b_MO_primary 2 s ([.ref (b + 191)] : List Value).toArray "WardFallsModel" C n 231) (hlk : meth.locks = false) (hr : meth.sig.returnType = none) {res : Mem} (M : Mem)  (H : Heap) (locs : List Loc) (ls : Array Slot) (hS : St b C n M s H locs) (hl : lv_has ls 2 [(0, .ref (b + 191))]) (hT : t_MO_primary_L78 rc M = some res) : W p l e (headSpec (wsM y_MO_primary b_MO_primary 2 (none)) (rmD (d + 1 + 40))).room s m ([.ref (b + 191)] : List Value).toArray below meth c H locs 0 0 (MQ below (QV b C n res) ([.ref (b + 191)] : List Value).toArray s 0 0 (frb b)) (F0 m 78 ls []) := by
  unfold t_MO_primary_L78 at hT
  refine lv_aload_n F.hx F.hb d_MO_primary_78 rfl (lv_at hl 0 rfl) ?_
  refine r_get (v := vI (M.1 191 24)) (N := 68) (T := T1) (j := 24) F hS (show 191 < 231 by decide) (show shK 191 = 5 from rfl) (show shN 191 = 68 from rfl) rfl (Nat.le_of_ble_eq_true rfl) ing1 mw_1413 (fv_int rfl) d_MO_primary_79 ?_
  have i40 := hS.rng 191 24
  refine r_if_eq (tgt := 86) F.hx F.hb i40 d_MO_primary_82 (by decide) (fun c41 => ?_) (fun c41 => ?_)
  · replace hT := (if_pos c41).symm.trans hT
    refine lv_aload_n F.hx F.hb d_MO_primary_86 rfl (lv_at hl 0 rfl) ?_
    refine lv_dup F.hx F.hb d_MO_primary_87 rfl ?_
    refine r_get (v := vI (M.1 191 28)) (N := 68) (T := T1) (j := 28) F hS (show 191 < 231 by decide) (show shK 191 = 5 from rfl) (show shN 191 = 68 from rfl) rfl (Nat.le_of_ble_eq_true rfl) ing1 mw_1417 (fv_int rfl) d_MO_primary_88 ?_
    have i42 := hS.rng 191 28
    refine r_iconst F.hx F.hb d_MO_primary_91 ?_
    refine r_isub F.hx F.hb d_MO_primary_92 ?_
    refine r_putI (N := 68) (T := T1) (j := 28) F hS (show 191 < 231 by decide) (show shK 191 = 5 from rfl) (show shN 191 = 68 from rfl) rfl (Nat.le_of_ble_eq_true rfl) ing1 tyok1 nm1 rfl rfl rfl rfl rfl rfl mw_1417 (inr_w32 _) d_MO_primary_93 (fun H locs hS => ?_)
    obtain ⟨M43, eM43⟩ : ∃ q, q = (setI M 191 28 (w32 ((M.1 191 28) - 1))) := ⟨_, rfl⟩
    replace hS : St b C n M43 s H locs := by rw [eM43]; exact hS
    replace hT := qlet_eq hT eM43
    refine lv_aload_n F.hx F.hb d_MO_primary_96 rfl (lv_at hl 0 rfl) ?_
    obtain ⟨q44, hq44, hT⟩ := q_obind hT
    refine r_backV F hS (r_runV (k := 191) (N := 68) (T := T1) (As := []) F hS (show 191 < 231 by decide) (show shK 191 = 5 from rfl) rfl (c_MO_token l F.2.2.1 M43 _ hq44) gs_MO_205 hd_MO_token ⟨(by show 5 + 1 ≤ d + 1 + 40; omega), (by show 8 + (2 + 11) + 48 * 5 ≤ 48 * (d + 1 + 40); omega)⟩ rfl hl.1 (Nat.le_of_ble_eq_true rfl) ⟨Nat.zero_le _, Nat.zero_le _⟩ rfl d_MO_primary_97) (fun H locs hS => ?_)
    cases hT
    exact r_vret F hlk hr hS d_MO_primary_100
  · replace hT := (if_neg c41).symm.trans hT
    cases hT
    exact r_vret F hlk hr hS d_MO_primary_85
set_option maxHeartbeats 4000000 in
set_option maxRecDepth 100000 in
theorem k_MO_primary_L31 (l : Launch) {d : Nat} {p : Program} {e : Env} {s : State} {m : MethodId} {below : List Frame} {meth : Method} {c : Code} {b n : Nat} {C : CT} (hlo : 231 ≤ n) (rc : Nat → Mem → Option Mem) (hrc0 : ∀ (M res : Mem), rc 0 M = some res → CM l b C n (d + 40) y_MO_expression b_MO_expression 1 (none) [.ref (b + 191)] M (QV b C n res)) (hrc1 : ∀ (M res : Mem), rc 1 M = some res → CM l b C n (d + 40) y_MO_conjunction b_MO_conjunction 1 (none) [.ref (b + 191)] M (QV b C n res)) (hrc2 : ∀ (M res : Mem), rc 2 M = some res → CM l b C n (d + 40) y_MO_negation b_MO_negation 2 (none) [.ref (b + 191)] M (QV b C n res)) (hrc3 : ∀ (M res : Mem), rc 3 M = some res → CM l b C n (d + 40) y_MO_sum b_MO_sum 2 (none) [.ref (b + 191)] M (QV b C n res)) (hrc4 : ∀ (M res : Mem), rc 4 M = some res → CM l b C n (d + 40) y_MO_product b_MO_product 2 (none) [.ref (b + 191)] M (QV b C n res)) (hrc5 : ∀ (M res : Mem), rc 5 M = some res → CM l b C n (d + 40) y_MO_primary b_MO_primary 2 (none) [.ref (b + 191)] M (QV b C n res)) (F : Cx b p m c b_MO_primary 2 s ([.ref (b + 191)] : List Value).toArray "WardFallsModel" C n 231) (hlk : meth.locks = false) (hr : meth.sig.returnType = none) {res : Mem} (M : Mem)  (H : Heap) (locs : List Loc) (ls : Array Slot) (hS : St b C n M s H locs) (hl : lv_has ls 2 [(0, .ref (b + 191))]) (hT : t_MO_primary_L31 rc M = some res) : W p l e (headSpec (wsM y_MO_primary b_MO_primary 2 (none)) (rmD (d + 1 + 40))).room s m ([.ref (b + 191)] : List Value).toArray below meth c H locs 0 0 (MQ below (QV b C n res) ([.ref (b + 191)] : List Value).toArray s 0 0 (frb b)) (F0 m 31 ls []) := by
  unfold t_MO_primary_L31 at hT
  refine lv_aload_n F.hx F.hb d_MO_primary_31 rfl (lv_at hl 0 rfl) ?_
  refine r_get (v := vI (M.1 191 24)) (N := 68) (T := T1) (j := 24) F hS (show 191 < 231 by decide) (show shK 191 = 5 from rfl) (show shN 191 = 68 from rfl) rfl (Nat.le_of_ble_eq_true rfl) ing1 mw_1413 (fv_int rfl) d_MO_primary_32 ?_
  have i17 := hS.rng 191 24
  refine r_if_eq (tgt := 39) F.hx F.hb i17 d_MO_primary_35 (by decide) (fun c18 => ?_) (fun c18 => ?_)
  · replace hT := (if_pos c18).symm.trans hT
    refine lv_aload_n F.hx F.hb d_MO_primary_39 rfl (lv_at hl 0 rfl) ?_
    refine lv_dup F.hx F.hb d_MO_primary_40 rfl ?_
    refine r_get (v := vI (M.1 191 28)) (N := 68) (T := T1) (j := 28) F hS (show 191 < 231 by decide) (show shK 191 = 5 from rfl) (show shN 191 = 68 from rfl) rfl (Nat.le_of_ble_eq_true rfl) ing1 mw_1417 (fv_int rfl) d_MO_primary_41 ?_
    have i19 := hS.rng 191 28
    refine r_iconst F.hx F.hb d_MO_primary_44 ?_
    refine r_iadd F.hx F.hb d_MO_primary_45 ?_
    refine r_putI (N := 68) (T := T1) (j := 28) F hS (show 191 < 231 by decide) (show shK 191 = 5 from rfl) (show shN 191 = 68 from rfl) rfl (Nat.le_of_ble_eq_true rfl) ing1 tyok1 nm1 rfl rfl rfl rfl rfl rfl mw_1417 (inr_w32 _) d_MO_primary_46 (fun H locs hS => ?_)
    obtain ⟨M20, eM20⟩ : ∃ q, q = (setI M 191 28 (w32 ((M.1 191 28) + 1))) := ⟨_, rfl⟩
    replace hS : St b C n M20 s H locs := by rw [eM20]; exact hS
    replace hT := qlet_eq hT eM20
    refine lv_aload_n F.hx F.hb d_MO_primary_49 rfl (lv_at hl 0 rfl) ?_
    obtain ⟨q21, hq21, hT⟩ := q_obind hT
    refine r_backV F hS (r_runV (k := 191) (N := 68) (T := T1) (As := []) F hS (show 191 < 231 by decide) (show shK 191 = 5 from rfl) rfl (c_MO_token l F.2.2.1 M20 _ hq21) gs_MO_205 hd_MO_token ⟨(by show 5 + 1 ≤ d + 1 + 40; omega), (by show 8 + (2 + 11) + 48 * 5 ≤ 48 * (d + 1 + 40); omega)⟩ rfl hl.1 (Nat.le_of_ble_eq_true rfl) ⟨Nat.zero_le _, Nat.zero_le _⟩ rfl d_MO_primary_50) (fun H locs hS => ?_)
    refine lv_aload_n F.hx F.hb d_MO_primary_53 rfl (lv_at hl 0 rfl) ?_
    obtain ⟨q23, hq23, hT⟩ := q_obind hT
    refine r_backV F hS (r_runV (k := 191) (N := 68) (T := T1) (As := []) F hS (show 191 < 231 by decide) (show shK 191 = 5 from rfl) rfl (hrc0 _ _ hq23) gs_MO_276 hd_MO_expression ⟨(by show (d + 40) + 1 ≤ d + 1 + 40; omega), (by show 8 + (1 + 11) + 48 * (d + 40) ≤ 48 * (d + 1 + 40); omega)⟩ rfl hl.1 (Nat.le_of_ble_eq_true rfl) ⟨Nat.zero_le _, Nat.zero_le _⟩ rfl d_MO_primary_54) (fun H locs hS => ?_)
    refine lv_aload_n F.hx F.hb d_MO_primary_57 rfl (lv_at hl 0 rfl) ?_
    refine r_get (v := vI (q23.1 191 24)) (N := 68) (T := T1) (j := 24) F hS (show 191 < 231 by decide) (show shK 191 = 5 from rfl) (show shN 191 = 68 from rfl) rfl (Nat.le_of_ble_eq_true rfl) ing1 mw_1413 (fv_int rfl) d_MO_primary_58 ?_
    have i25 := hS.rng 191 24
    refine r_if_ne (tgt := 78) F.hx F.hb i25 d_MO_primary_61 (by decide) (fun c26 => ?_) (fun c26 => ?_)
    · replace hT := (if_neg c26).symm.trans hT
      exact k_MO_primary_L78 l hlo rc hrc0 hrc1 hrc2 hrc3 hrc4 hrc5 F hlk hr q23 _ _ _ hS (lv_sub hl [0] rfl) hT
    · replace hT := (if_pos c26).symm.trans hT
      refine lv_aload_n F.hx F.hb d_MO_primary_64 rfl (lv_at hl 0 rfl) ?_
      refine r_bipush F.hx F.hb d_MO_primary_65 rfl ?_
      obtain ⟨q27, hq27⟩ : ∃ q, q = (t_MO_isSign q23 41) := ⟨_, rfl⟩
      replace hT := qlet_eq hT hq27
      refine r_backZ F hS (r_runV (k := 191) (N := 68) (T := T1) (As := [vI 41]) F hS (show 191 < 231 by decide) (show shK 191 = 5 from rfl) rfl (c_MO_isSign l F.2.2.1 q23 41 (inr_c rfl) _ hq27.symm) gs_MO_260 hd_MO_isSign ⟨(by show 0 + 1 ≤ d + 1 + 40; omega), (by show 8 + (2 + 11) + 48 * 0 ≤ 48 * (d + 1 + 40); omega)⟩ rfl hl.1 (Nat.le_of_ble_eq_true rfl) ⟨Nat.zero_le _, Nat.zero_le _⟩ rfl d_MO_primary_67) (fun H locs hS h28 => ?_)
      refine r_if_ne (tgt := 78) F.hx F.hb (inr_z h28) d_MO_primary_70 (by decide) (fun c29 => ?_) (fun c29 => ?_)
      · replace hT := (if_neg c29).symm.trans hT
        exact k_MO_primary_L78 l hlo rc hrc0 hrc1 hrc2 hrc3 hrc4 hrc5 F hlk hr q23 _ _ _ hS (lv_sub hl [0] rfl) hT
      · replace hT := (if_pos c29).symm.trans hT
        refine lv_aload_n F.hx F.hb d_MO_primary_73 rfl (lv_at hl 0 rfl) ?_
        refine r_iconst F.hx F.hb d_MO_primary_74 ?_
        obtain ⟨q30, hq30⟩ : ∃ q, q = (t_MO_wrong q23 1) := ⟨_, rfl⟩
        replace hT := qlet_eq hT hq30
        refine r_backV F hS (r_runV (k := 191) (N := 68) (T := T1) (As := [vI 1]) F hS (show 191 < 231 by decide) (show shK 191 = 5 from rfl) rfl (c_MO_wrong l F.2.2.1 q23 1 (inr_c rfl) _ hq30.symm) gs_MO_208 hd_MO_wrong ⟨(by show 0 + 1 ≤ d + 1 + 40; omega), (by show 8 + (2 + 11) + 48 * 0 ≤ 48 * (d + 1 + 40); omega)⟩ rfl hl.1 (Nat.le_of_ble_eq_true rfl) ⟨Nat.zero_le _, Nat.zero_le _⟩ rfl d_MO_primary_75) (fun H locs hS => ?_)
        exact k_MO_primary_L78 l hlo rc hrc0 hrc1 hrc2 hrc3 hrc4 hrc5 F hlk hr q30 _ _ _ hS (lv_sub hl [0] rfl) hT
  · replace hT := (if_neg c18).symm.trans hT
    cases hT
    exact r_vret F hlk hr hS d_MO_primary_38
set_option maxHeartbeats 4000000 in
set_option maxRecDepth 100000 in
theorem k_MO_primary_L194 (l : Launch) {d : Nat} {p : Program} {e : Env} {s : State} {m : MethodId} {below : List Frame} {meth : Method} {c : Code} {b n : Nat} {C : CT} (hlo : 231 ≤ n) (rc : Nat → Mem → Option Mem) (hrc0 : ∀ (M res : Mem), rc 0 M = some res → CM l b C n (d + 40) y_MO_expression b_MO_expression 1 (none) [.ref (b + 191)] M (QV b C n res)) (hrc1 : ∀ (M res : Mem), rc 1 M = some res → CM l b C n (d + 40) y_MO_conjunction b_MO_conjunction 1 (none) [.ref (b + 191)] M (QV b C n res)) (hrc2 : ∀ (M res : Mem), rc 2 M = some res → CM l b C n (d + 40) y_MO_negation b_MO_negation 2 (none) [.ref (b + 191)] M (QV b C n res)) (hrc3 : ∀ (M res : Mem), rc 3 M = some res → CM l b C n (d + 40) y_MO_sum b_MO_sum 2 (none) [.ref (b + 191)] M (QV b C n res)) (hrc4 : ∀ (M res : Mem), rc 4 M = some res → CM l b C n (d + 40) y_MO_product b_MO_product 2 (none) [.ref (b + 191)] M (QV b C n res)) (hrc5 : ∀ (M res : Mem), rc 5 M = some res → CM l b C n (d + 40) y_MO_primary b_MO_primary 2 (none) [.ref (b + 191)] M (QV b C n res)) (F : Cx b p m c b_MO_primary 2 s ([.ref (b + 191)] : List Value).toArray "WardFallsModel" C n 231) (hlk : meth.locks = false) (hr : meth.sig.returnType = none) {res : Mem} (M : Mem) (v2_ : Int) (hv2_ : v2_ = 0 ∨ v2_ = 1) (v3_ : Int) (hv3_ : InR v3_) (H : Heap) (locs : List Loc) (ls : Array Slot) (hS : St b C n M s H locs) (hl : lv_has ls 2 [(0, .ref (b + 191))]) (hT : t_MO_primary_L194 rc M v2_ v3_ = some res) : W p l e (headSpec (wsM y_MO_primary b_MO_primary 2 (none)) (rmD (d + 1 + 40))).room s m ([.ref (b + 191)] : List Value).toArray below meth c H locs 0 0 (MQ below (QV b C n res) ([.ref (b + 191)] : List Value).toArray s 0 0 (frb b)) (F0 m 194 ls [vI v3_, vI v2_, .ref (b + 191)]) := by
  unfold t_MO_primary_L194 at hT
  obtain ⟨q51, hq51, hT⟩ := q_obind hT
  refine r_backV F hS (r_runV (k := 191) (N := 68) (T := T1) (As := [vI v2_, vI v3_]) F hS (show 191 < 231 by decide) (show shK 191 = 5 from rfl) rfl (c_MO_puts l F.2.2.1 M v2_ v3_ (inr_z hv2_) hv3_ _ hq51) gs_MO_291 hd_MO_puts ⟨(by show 1 + 1 ≤ d + 1 + 40; omega), (by show 8 + (3 + 11) + 48 * 1 ≤ 48 * (d + 1 + 40); omega)⟩ rfl hl.1 (Nat.le_of_ble_eq_true rfl) ⟨Nat.zero_le _, Nat.zero_le _⟩ rfl d_MO_primary_194) (fun H locs hS => ?_)
  refine lv_aload_n F.hx F.hb d_MO_primary_197 rfl (lv_at hl 0 rfl) ?_
  obtain ⟨q53, hq53, hT⟩ := q_obind hT
  refine r_backV F hS (r_runV (k := 191) (N := 68) (T := T1) (As := []) F hS (show 191 < 231 by decide) (show shK 191 = 5 from rfl) rfl (c_MO_goOn l F.2.2.1 q51 _ hq53) gs_MO_215 hd_MO_goOn ⟨(by show 6 + 1 ≤ d + 1 + 40; omega), (by show 8 + (1 + 11) + 48 * 6 ≤ 48 * (d + 1 + 40); omega)⟩ rfl hl.1 (Nat.le_of_ble_eq_true rfl) ⟨Nat.zero_le _, Nat.zero_le _⟩ rfl d_MO_primary_198) (fun H locs hS => ?_)
  cases hT
  exact r_vret F hlk hr hS d_MO_primary_201
set_option maxHeartbeats 4000000 in
set_option maxRecDepth 100000 in
theorem k_MO_primary_L176 (l : Launch) {d : Nat} {p : Program} {e : Env} {s : State} {m : MethodId} {below : List Frame} {meth : Method} {c : Code} {b n : Nat} {C : CT} (hlo : 231 ≤ n) (rc : Nat → Mem → Option Mem) (hrc0 : ∀ (M res : Mem), rc 0 M = some res → CM l b C n (d + 40) y_MO_expression b_MO_expression 1 (none) [.ref (b + 191)] M (QV b C n res)) (hrc1 : ∀ (M res : Mem), rc 1 M = some res → CM l b C n (d + 40) y_MO_conjunction b_MO_conjunction 1 (none) [.ref (b + 191)] M (QV b C n res)) (hrc2 : ∀ (M res : Mem), rc 2 M = some res → CM l b C n (d + 40) y_MO_negation b_MO_negation 2 (none) [.ref (b + 191)] M (QV b C n res)) (hrc3 : ∀ (M res : Mem), rc 3 M = some res → CM l b C n (d + 40) y_MO_sum b_MO_sum 2 (none) [.ref (b + 191)] M (QV b C n res)) (hrc4 : ∀ (M res : Mem), rc 4 M = some res → CM l b C n (d + 40) y_MO_product b_MO_product 2 (none) [.ref (b + 191)] M (QV b C n res)) (hrc5 : ∀ (M res : Mem), rc 5 M = some res → CM l b C n (d + 40) y_MO_primary b_MO_primary 2 (none) [.ref (b + 191)] M (QV b C n res)) (F : Cx b p m c b_MO_primary 2 s ([.ref (b + 191)] : List Value).toArray "WardFallsModel" C n 231) (hlk : meth.locks = false) (hr : meth.sig.returnType = none) {res : Mem} (M : Mem) (v1_ : Int) (hv1_ : v1_ = 0 ∨ v1_ = 1) (v3_ : Int) (hv3_ : v3_ = 0 ∨ v3_ = 1) (H : Heap) (locs : List Loc) (ls : Array Slot) (hS : St b C n M s H locs) (hl : lv_has ls 2 [(0, .ref (b + 191)), (1, vI v1_)]) (hT : t_MO_primary_L176 rc M v1_ v3_ = some res) : W p l e (headSpec (wsM y_MO_primary b_MO_primary 2 (none)) (rmD (d + 1 + 40))).room s m ([.ref (b + 191)] : List Value).toArray below meth c H locs 0 0 (MQ below (QV b C n res) ([.ref (b + 191)] : List Value).toArray s 0 0 (frb b)) (F0 m 176 ls [vI v3_, .ref (b + 191)]) := by
  unfold t_MO_primary_L176 at hT
  refine lv_iload_n F.hx F.hb d_MO_primary_176 rfl (lv_at hl 1 rfl) ?_
  refine r_if_eq (tgt := 187) F.hx F.hb (inr_z hv1_) d_MO_primary_177 (by decide) (fun c48 => ?_) (fun c48 => ?_)
  · replace hT := (if_pos c48).symm.trans hT
    refine lv_aload_n F.hx F.hb d_MO_primary_187 rfl (lv_at hl 0 rfl) ?_
    refine r_get (v := vI (M.1 191 23)) (N := 68) (T := T1) (j := 23) F hS (show 191 < 231 by decide) (show shK 191 = 5 from rfl) (show shN 191 = 68 from rfl) rfl (Nat.le_of_ble_eq_true rfl) ing1 mw_1412 (fv_int rfl) d_MO_primary_188 ?_
    have i49 := hS.rng 191 23
    refine r_bipush F.hx F.hb d_MO_primary_191 rfl ?_
    refine r_isub F.hx F.hb d_MO_primary_193 ?_
    exact k_MO_primary_L194 l hlo rc hrc0 hrc1 hrc2 hrc3 hrc4 hrc5 F hlk hr M v3_ hv3_ (w32 ((M.1 191 23) - 18)) (inr_w32 _) _ _ _ hS (lv_sub hl [0] rfl) hT
  · replace hT := (if_neg c48).symm.trans hT
    refine lv_aload_n F.hx F.hb d_MO_primary_180 rfl (lv_at hl 0 rfl) ?_
    refine r_get (v := vI (M.1 191 23)) (N := 68) (T := T1) (j := 23) F hS (show 191 < 231 by decide) (show shK 191 = 5 from rfl) (show shN 191 = 68 from rfl) rfl (Nat.le_of_ble_eq_true rfl) ing1 mw_1412 (fv_int rfl) d_MO_primary_181 ?_
    have i50 := hS.rng 191 23
    refine lv_goto (tgt := 194) F.hx F.hb d_MO_primary_184 (by decide) ?_
    exact k_MO_primary_L194 l hlo rc hrc0 hrc1 hrc2 hrc3 hrc4 hrc5 F hlk hr M v3_ hv3_ (M.1 191 23) i50 _ _ _ hS (lv_sub hl [0] rfl) hT
set_option maxHeartbeats 4000000 in
set_option maxRecDepth 100000 in
theorem k_MO_primary_L162 (l : Launch) {d : Nat} {p : Program} {e : Env} {s : State} {m : MethodId} {below : List Frame} {meth : Method} {c : Code} {b n : Nat} {C : CT} (hlo : 231 ≤ n) (rc : Nat → Mem → Option Mem) (hrc0 : ∀ (M res : Mem), rc 0 M = some res → CM l b C n (d + 40) y_MO_expression b_MO_expression 1 (none) [.ref (b + 191)] M (QV b C n res)) (hrc1 : ∀ (M res : Mem), rc 1 M = some res → CM l b C n (d + 40) y_MO_conjunction b_MO_conjunction 1 (none) [.ref (b + 191)] M (QV b C n res)) (hrc2 : ∀ (M res : Mem), rc 2 M = some res → CM l b C n (d + 40) y_MO_negation b_MO_negation 2 (none) [.ref (b + 191)] M (QV b C n res)) (hrc3 : ∀ (M res : Mem), rc 3 M = some res → CM l b C n (d + 40) y_MO_sum b_MO_sum 2 (none) [.ref (b + 191)] M (QV b C n res)) (hrc4 : ∀ (M res : Mem), rc 4 M = some res → CM l b C n (d + 40) y_MO_product b_MO_product 2 (none) [.ref (b + 191)] M (QV b C n res)) (hrc5 : ∀ (M res : Mem), rc 5 M = some res → CM l b C n (d + 40) y_MO_primary b_MO_primary 2 (none) [.ref (b + 191)] M (QV b C n res)) (F : Cx b p m c b_MO_primary 2 s ([.ref (b + 191)] : List Value).toArray "WardFallsModel" C n 231) (hlk : meth.locks = false) (hr : meth.sig.returnType = none) {res : Mem} (M : Mem) (v1_ : Int) (hv1_ : v1_ = 0 ∨ v1_ = 1) (H : Heap) (locs : List Loc) (ls : Array Slot) (hS : St b C n M s H locs) (hl : lv_has ls 2 [(0, .ref (b + 191)), (1, vI v1_)]) (hT : t_MO_primary_L162 rc M v1_ = some res) : W p l e (headSpec (wsM y_MO_primary b_MO_primary 2 (none)) (rmD (d + 1 + 40))).room s m ([.ref (b + 191)] : List Value).toArray below meth c H locs 0 0 (MQ below (QV b C n res) ([.ref (b + 191)] : List Value).toArray s 0 0 (frb b)) (F0 m 162 ls []) := by
  unfold t_MO_primary_L162 at hT
  refine lv_aload_n F.hx F.hb d_MO_primary_162 rfl (lv_at hl 0 rfl) ?_
  obtain ⟨q37, hq37⟩ : ∃ q, q = (t_MO_knot M) := ⟨_, rfl⟩
  replace hT := qlet_eq hT hq37
  refine r_backV F hS (r_runV (k := 191) (N := 68) (T := T1) (As := []) F hS (show 191 < 231 by decide) (show shK 191 = 5 from rfl) rfl (c_MO_knot l F.2.2.1 M _ hq37.symm) gs_MO_288 hd_MO_knot ⟨(by show 1 + 1 ≤ d + 1 + 40; omega), (by show 8 + (1 + 11) + 48 * 1 ≤ 48 * (d + 1 + 40); omega)⟩ rfl hl.1 (Nat.le_of_ble_eq_true rfl) ⟨Nat.zero_le _, Nat.zero_le _⟩ rfl d_MO_primary_163) (fun H locs hS => ?_)
  refine lv_aload_n F.hx F.hb d_MO_primary_166 rfl (lv_at hl 0 rfl) ?_
  refine lv_iload_n F.hx F.hb d_MO_primary_167 rfl (lv_at hl 1 rfl) ?_
  refine r_if_eq (tgt := 175) F.hx F.hb (inr_z hv1_) d_MO_primary_168 (by decide) (fun c39 => ?_) (fun c39 => ?_)
  · replace hT := (if_pos c39).symm.trans hT
    refine r_iconst F.hx F.hb d_MO_primary_175 ?_
    exact k_MO_primary_L176 l hlo rc hrc0 hrc1 hrc2 hrc3 hrc4 hrc5 F hlk hr q37 v1_ hv1_ 1 (Or.inr rfl) _ _ _ hS (lv_sub hl [0, 1] rfl) hT
  · replace hT := (if_neg c39).symm.trans hT
    refine r_iconst F.hx F.hb d_MO_primary_171 ?_
    refine lv_goto (tgt := 176) F.hx F.hb d_MO_primary_172 (by decide) ?_
    exact k_MO_primary_L176 l hlo rc hrc0 hrc1 hrc2 hrc3 hrc4 hrc5 F hlk hr q37 v1_ hv1_ 0 (Or.inl rfl) _ _ _ hS (lv_sub hl [0, 1] rfl) hT
set_option maxHeartbeats 4000000 in
set_option maxRecDepth 100000 in
theorem k_MO_primary_L157 (l : Launch) {d : Nat} {p : Program} {e : Env} {s : State} {m : MethodId} {below : List Frame} {meth : Method} {c : Code} {b n : Nat} {C : CT} (hlo : 231 ≤ n) (rc : Nat → Mem → Option Mem) (hrc0 : ∀ (M res : Mem), rc 0 M = some res → CM l b C n (d + 40) y_MO_expression b_MO_expression 1 (none) [.ref (b + 191)] M (QV b C n res)) (hrc1 : ∀ (M res : Mem), rc 1 M = some res → CM l b C n (d + 40) y_MO_conjunction b_MO_conjunction 1 (none) [.ref (b + 191)] M (QV b C n res)) (hrc2 : ∀ (M res : Mem), rc 2 M = some res → CM l b C n (d + 40) y_MO_negation b_MO_negation 2 (none) [.ref (b + 191)] M (QV b C n res)) (hrc3 : ∀ (M res : Mem), rc 3 M = some res → CM l b C n (d + 40) y_MO_sum b_MO_sum 2 (none) [.ref (b + 191)] M (QV b C n res)) (hrc4 : ∀ (M res : Mem), rc 4 M = some res → CM l b C n (d + 40) y_MO_product b_MO_product 2 (none) [.ref (b + 191)] M (QV b C n res)) (hrc5 : ∀ (M res : Mem), rc 5 M = some res → CM l b C n (d + 40) y_MO_primary b_MO_primary 2 (none) [.ref (b + 191)] M (QV b C n res)) (F : Cx b p m c b_MO_primary 2 s ([.ref (b + 191)] : List Value).toArray "WardFallsModel" C n 231) (hlk : meth.locks = false) (hr : meth.sig.returnType = none) {res : Mem} (M : Mem) (v1_ : Int) (hv1_ : v1_ = 0 ∨ v1_ = 1) (H : Heap) (locs : List Loc) (ls : Array Slot) (hS : St b C n M s H locs) (hl : lv_has ls 2 [(0, .ref (b + 191)), (1, vI v1_)]) (hT : t_MO_primary_L157 rc M v1_ = some res) : W p l e (headSpec (wsM y_MO_primary b_MO_primary 2 (none)) (rmD (d + 1 + 40))).room s m ([.ref (b + 191)] : List Value).toArray below meth c H locs 0 0 (MQ below (QV b C n res) ([.ref (b + 191)] : List Value).toArray s 0 0 (frb b)) (F0 m 157 ls []) := by
  unfold t_MO_primary_L157 at hT
  refine lv_aload_n F.hx F.hb d_MO_primary_157 rfl (lv_at hl 0 rfl) ?_
  refine r_iconst F.hx F.hb d_MO_primary_158 ?_
  obtain ⟨q46, hq46⟩ : ∃ q, q = (t_MO_wrong M 1) := ⟨_, rfl⟩
  replace hT := qlet_eq hT hq46
  refine r_backV F hS (r_runV (k := 191) (N := 68) (T := T1) (As := [vI 1]) F hS (show 191 < 231 by decide) (show shK 191 = 5 from rfl) rfl (c_MO_wrong l F.2.2.1 M 1 (inr_c rfl) _ hq46.symm) gs_MO_208 hd_MO_wrong ⟨(by show 0 + 1 ≤ d + 1 + 40; omega), (by show 8 + (2 + 11) + 48 * 0 ≤ 48 * (d + 1 + 40); omega)⟩ rfl hl.1 (Nat.le_of_ble_eq_true rfl) ⟨Nat.zero_le _, Nat.zero_le _⟩ rfl d_MO_primary_159) (fun H locs hS => ?_)
  exact k_MO_primary_L162 l hlo rc hrc0 hrc1 hrc2 hrc3 hrc4 hrc5 F hlk hr q46 v1_ hv1_ _ _ _ hS (lv_sub hl [0, 1] rfl) hT
set_option maxHeartbeats 4000000 in
set_option maxRecDepth 100000 in
theorem k_MO_primary_L137 (l : Launch) {d : Nat} {p : Program} {e : Env} {s : State} {m : MethodId} {below : List Frame} {meth : Method} {c : Code} {b n : Nat} {C : CT} (hlo : 231 ≤ n) (rc : Nat → Mem → Option Mem) (hrc0 : ∀ (M res : Mem), rc 0 M = some res → CM l b C n (d + 40) y_MO_expression b_MO_expression 1 (none) [.ref (b + 191)] M (QV b C n res)) (hrc1 : ∀ (M res : Mem), rc 1 M = some res → CM l b C n (d + 40) y_MO_conjunction b_MO_conjunction 1 (none) [.ref (b + 191)] M (QV b C n res)) (hrc2 : ∀ (M res : Mem), rc 2 M = some res → CM l b C n (d + 40) y_MO_negation b_MO_negation 2 (none) [.ref (b + 191)] M (QV b C n res)) (hrc3 : ∀ (M res : Mem), rc 3 M = some res → CM l b C n (d + 40) y_MO_sum b_MO_sum 2 (none) [.ref (b + 191)] M (QV b C n res)) (hrc4 : ∀ (M res : Mem), rc 4 M = some res → CM l b C n (d + 40) y_MO_product b_MO_product 2 (none) [.ref (b + 191)] M (QV b C n res)) (hrc5 : ∀ (M res : Mem), rc 5 M = some res → CM l b C n (d + 40) y_MO_primary b_MO_primary 2 (none) [.ref (b + 191)] M (QV b C n res)) (F : Cx b p m c b_MO_primary 2 s ([.ref (b + 191)] : List Value).toArray "WardFallsModel" C n 231) (hlk : meth.locks = false) (hr : meth.sig.returnType = none) {res : Mem} (M : Mem) (v1_ : Int) (hv1_ : v1_ = 0 ∨ v1_ = 1) (H : Heap) (locs : List Loc) (ls : Array Slot) (hS : St b C n M s H locs) (hl : lv_has ls 2 [(0, .ref (b + 191)), (1, vI v1_)]) (hT : t_MO_primary_L137 rc M v1_ = some res) : W p l e (headSpec (wsM y_MO_primary b_MO_primary 2 (none)) (rmD (d + 1 + 40))).room s m ([.ref (b + 191)] : List Value).toArray below meth c H locs 0 0 (MQ below (QV b C n res) ([.ref (b + 191)] : List Value).toArray s 0 0 (frb b)) (F0 m 137 ls []) := by
  unfold t_MO_primary_L137 at hT
  refine lv_iload_n F.hx F.hb d_MO_primary_137 rfl (lv_at hl 1 rfl) ?_
  refine r_if_ne (tgt := 162) F.hx F.hb (inr_z hv1_) d_MO_primary_138 (by decide) (fun c32 => ?_) (fun c32 => ?_)
  · replace hT := (if_neg c32).symm.trans hT
    exact k_MO_primary_L162 l hlo rc hrc0 hrc1 hrc2 hrc3 hrc4 hrc5 F hlk hr M v1_ hv1_ _ _ _ hS (lv_sub hl [0, 1] rfl) hT
  · replace hT := (if_pos c32).symm.trans hT
    refine lv_aload_n F.hx F.hb d_MO_primary_141 rfl (lv_at hl 0 rfl) ?_
    refine r_get (v := vI (M.1 191 22)) (N := 68) (T := T1) (j := 22) F hS (show 191 < 231 by decide) (show shK 191 = 5 from rfl) (show shN 191 = 68 from rfl) rfl (Nat.le_of_ble_eq_true rfl) ing1 mw_1411 (fv_int rfl) d_MO_primary_142 ?_
    have i33 := hS.rng 191 22
    refine r_if_ne (tgt := 157) F.hx F.hb i33 d_MO_primary_145 (by decide) (fun c34 => ?_) (fun c34 => ?_)
    · replace hT := (if_neg c34).symm.trans hT
      exact k_MO_primary_L157 l hlo rc hrc0 hrc1 hrc2 hrc3 hrc4 hrc5 F hlk hr M v1_ hv1_ _ _ _ hS (lv_sub hl [0, 1] rfl) hT
    · replace hT := (if_pos c34).symm.trans hT
      refine lv_aload_n F.hx F.hb d_MO_primary_148 rfl (lv_at hl 0 rfl) ?_
      refine r_get (v := vI (M.1 191 23)) (N := 68) (T := T1) (j := 23) F hS (show 191 < 231 by decide) (show shK 191 = 5 from rfl) (show shN 191 = 68 from rfl) rfl (Nat.le_of_ble_eq_true rfl) ing1 mw_1412 (fv_int rfl) d_MO_primary_149 ?_
      have i35 := hS.rng 191 23
      refine r_bipush F.hx F.hb d_MO_primary_152 rfl ?_
      refine r_icmp_ge (tgt := 162) F.hx F.hb i35 (inr_c rfl) d_MO_primary_154 (by decide) (fun c36 => ?_) (fun c36 => ?_)
      · replace hT := (if_pos c36).symm.trans hT
        exact k_MO_primary_L162 l hlo rc hrc0 hrc1 hrc2 hrc3 hrc4 hrc5 F hlk hr M v1_ hv1_ _ _ _ hS (lv_sub hl [0, 1] rfl) hT
      · replace hT := (if_neg c36).symm.trans hT
        exact k_MO_primary_L157 l hlo rc hrc0 hrc1 hrc2 hrc3 hrc4 hrc5 F hlk hr M v1_ hv1_ _ _ _ hS (lv_sub hl [0, 1] rfl) hT
set_option maxHeartbeats 4000000 in
set_option maxRecDepth 100000 in
theorem k_MO_primary_L114 (l : Launch) {d : Nat} {p : Program} {e : Env} {s : State} {m : MethodId} {below : List Frame} {meth : Method} {c : Code} {b n : Nat} {C : CT} (hlo : 231 ≤ n) (rc : Nat → Mem → Option Mem) (hrc0 : ∀ (M res : Mem), rc 0 M = some res → CM l b C n (d + 40) y_MO_expression b_MO_expression 1 (none) [.ref (b + 191)] M (QV b C n res)) (hrc1 : ∀ (M res : Mem), rc 1 M = some res → CM l b C n (d + 40) y_MO_conjunction b_MO_conjunction 1 (none) [.ref (b + 191)] M (QV b C n res)) (hrc2 : ∀ (M res : Mem), rc 2 M = some res → CM l b C n (d + 40) y_MO_negation b_MO_negation 2 (none) [.ref (b + 191)] M (QV b C n res)) (hrc3 : ∀ (M res : Mem), rc 3 M = some res → CM l b C n (d + 40) y_MO_sum b_MO_sum 2 (none) [.ref (b + 191)] M (QV b C n res)) (hrc4 : ∀ (M res : Mem), rc 4 M = some res → CM l b C n (d + 40) y_MO_product b_MO_product 2 (none) [.ref (b + 191)] M (QV b C n res)) (hrc5 : ∀ (M res : Mem), rc 5 M = some res → CM l b C n (d + 40) y_MO_primary b_MO_primary 2 (none) [.ref (b + 191)] M (QV b C n res)) (F : Cx b p m c b_MO_primary 2 s ([.ref (b + 191)] : List Value).toArray "WardFallsModel" C n 231) (hlk : meth.locks = false) (hr : meth.sig.returnType = none) {res : Mem} (M : Mem) (v1_ : Int) (hv1_ : v1_ = 0 ∨ v1_ = 1) (H : Heap) (locs : List Loc) (ls : Array Slot) (hS : St b C n M s H locs) (hl : lv_has ls 2 [(0, .ref (b + 191))]) (hT : t_MO_primary_L114 rc M v1_ = some res) : W p l e (headSpec (wsM y_MO_primary b_MO_primary 2 (none)) (rmD (d + 1 + 40))).room s m ([.ref (b + 191)] : List Value).toArray below meth c H locs 0 0 (MQ below (QV b C n res) ([.ref (b + 191)] : List Value).toArray s 0 0 (frb b)) (F0 m 114 ls [vI v1_]) := by
  unfold t_MO_primary_L114 at hT
  refine lv_istore_n (lv' := [(1, vI v1_), (0, .ref (b + 191))]) F.hx F.hb d_MO_primary_114 rfl hl (Nat.le_of_ble_eq_true rfl) rfl (fun ls hl => ?_)
  refine lv_iload_n F.hx F.hb d_MO_primary_115 rfl (lv_at hl 0 rfl) ?_
  refine r_if_eq (tgt := 137) F.hx F.hb (inr_z hv1_) d_MO_primary_116 (by decide) (fun c12 => ?_) (fun c12 => ?_)
  · replace hT := (if_pos c12).symm.trans hT
    exact k_MO_primary_L137 l hlo rc hrc0 hrc1 hrc2 hrc3 hrc4 hrc5 F hlk hr M v1_ hv1_ _ _ _ hS (lv_sub hl [1, 0] rfl) hT
  · replace hT := (if_neg c12).symm.trans hT
    refine lv_aload_n F.hx F.hb d_MO_primary_119 rfl (lv_at hl 1 rfl) ?_
    refine r_get (v := vI (M.1 191 23)) (N := 68) (T := T1) (j := 23) F hS (show 191 < 231 by decide) (show shK 191 = 5 from rfl) (show shN 191 = 68 from rfl) rfl (Nat.le_of_ble_eq_true rfl) ing1 mw_1412 (fv_int rfl) d_MO_primary_120 ?_
    have i13 := hS.rng 191 23
    refine r_sipush F.hx F.hb d_MO_primary_123 rfl ?_
    refine r_icmp_le (tgt := 137) F.hx F.hb i13 (inr_c rfl) d_MO_primary_126 (by decide) (fun c14 => ?_) (fun c14 => ?_)
    · replace hT := (if_pos c14).symm.trans hT
      exact k_MO_primary_L137 l hlo rc hrc0 hrc1 hrc2 hrc3 hrc4 hrc5 F hlk hr M v1_ hv1_ _ _ _ hS (lv_sub hl [1, 0] rfl) hT
    · replace hT := (if_neg c14).symm.trans hT
      refine lv_aload_n F.hx F.hb d_MO_primary_129 rfl (lv_at hl 1 rfl) ?_
      refine r_iconst F.hx F.hb d_MO_primary_130 ?_
      obtain ⟨q15, hq15⟩ : ∃ q, q = (t_MO_wrong M 2) := ⟨_, rfl⟩
      replace hT := qlet_eq hT hq15
      refine r_backV F hS (r_runV (k := 191) (N := 68) (T := T1) (As := [vI 2]) F hS (show 191 < 231 by decide) (show shK 191 = 5 from rfl) rfl (c_MO_wrong l F.2.2.1 M 2 (inr_c rfl) _ hq15.symm) gs_MO_208 hd_MO_wrong ⟨(by show 0 + 1 ≤ d + 1 + 40; omega), (by show 8 + (2 + 11) + 48 * 0 ≤ 48 * (d + 1 + 40); omega)⟩ rfl hl.1 (Nat.le_of_ble_eq_true rfl) ⟨Nat.zero_le _, Nat.zero_le _⟩ rfl d_MO_primary_131) (fun H locs hS => ?_)
      refine lv_goto (tgt := 162) F.hx F.hb d_MO_primary_134 (by decide) ?_
      exact k_MO_primary_L162 l hlo rc hrc0 hrc1 hrc2 hrc3 hrc4 hrc5 F hlk hr q15 v1_ hv1_ _ _ _ hS (lv_sub hl [1, 0] rfl) hT
set_option maxHeartbeats 4000000 in
set_option maxRecDepth 100000 in
theorem c_MO_primary_B (l : Launch) {d : Nat} {b n : Nat} {C : CT} (hlo : 231 ≤ n) (M : Mem) (rc : Nat → Mem → Option Mem) (hrc0 : ∀ (M res : Mem), rc 0 M = some res → CM l b C n (d + 40) y_MO_expression b_MO_expression 1 (none) [.ref (b + 191)] M (QV b C n res)) (hrc1 : ∀ (M res : Mem), rc 1 M = some res → CM l b C n (d + 40) y_MO_conjunction b_MO_conjunction 1 (none) [.ref (b + 191)] M (QV b C n res)) (hrc2 : ∀ (M res : Mem), rc 2 M = some res → CM l b C n (d + 40) y_MO_negation b_MO_negation 2 (none) [.ref (b + 191)] M (QV b C n res)) (hrc3 : ∀ (M res : Mem), rc 3 M = some res → CM l b C n (d + 40) y_MO_sum b_MO_sum 2 (none) [.ref (b + 191)] M (QV b C n res)) (hrc4 : ∀ (M res : Mem), rc 4 M = some res → CM l b C n (d + 40) y_MO_product b_MO_product 2 (none) [.ref (b + 191)] M (QV b C n res)) (hrc5 : ∀ (M res : Mem), rc 5 M = some res → CM l b C n (d + 40) y_MO_primary b_MO_primary 2 (none) [.ref (b + 191)] M (QV b C n res)) (res : Mem) (hT : t_MO_primary_B M rc = some res) : CM l b C n (d + 1 + 40) y_MO_primary b_MO_primary 2 (none) [.ref (b + 191)] M (QV b C n res) := by
  refine CM.of (lo := 231) (ow := "WardFallsModel") (by decide) rfl (Nat.le_of_ble_eq_true rfl) hlo (fun p e s m below meth c F hlk hr hS ls hl => ?_)
  have hl : lv_has ls 2 [(0, .ref (b + 191))] := hl
  unfold t_MO_primary_B at hT
  refine lv_aload_n F.hx F.hb d_MO_primary_0 rfl (lv_at hl 0 rfl) ?_
  refine r_get (v := vI (M.1 191 24)) (N := 68) (T := T1) (j := 24) F hS (show 191 < 231 by decide) (show shK 191 = 5 from rfl) (show shN 191 = 68 from rfl) rfl (Nat.le_of_ble_eq_true rfl) ing1 mw_1413 (fv_int rfl) d_MO_primary_1 ?_
  have i1 := hS.rng 191 24
  refine r_if_eq (tgt := 8) F.hx F.hb i1 d_MO_primary_4 (by decide) (fun c2 => ?_) (fun c2 => ?_)
  · replace hT := (if_pos c2).symm.trans hT
    refine lv_aload_n F.hx F.hb d_MO_primary_8 rfl (lv_at hl 0 rfl) ?_
    refine r_bipush F.hx F.hb d_MO_primary_9 rfl ?_
    obtain ⟨q3, hq3⟩ : ∃ q, q = (t_MO_isSign M 40) := ⟨_, rfl⟩
    replace hT := qlet_eq hT hq3
    refine r_backZ F hS (r_runV (k := 191) (N := 68) (T := T1) (As := [vI 40]) F hS (show 191 < 231 by decide) (show shK 191 = 5 from rfl) rfl (c_MO_isSign l F.2.2.1 M 40 (inr_c rfl) _ hq3.symm) gs_MO_260 hd_MO_isSign ⟨(by show 0 + 1 ≤ d + 1 + 40; omega), (by show 8 + (2 + 11) + 48 * 0 ≤ 48 * (d + 1 + 40); omega)⟩ rfl hl.1 (Nat.le_of_ble_eq_true rfl) ⟨Nat.zero_le _, Nat.zero_le _⟩ rfl d_MO_primary_11) (fun H locs hS h4 => ?_)
    refine r_if_eq (tgt := 101) F.hx F.hb (inr_z h4) d_MO_primary_14 (by decide) (fun c5 => ?_) (fun c5 => ?_)
    · replace hT := (if_pos c5).symm.trans hT
      refine lv_aload_n F.hx F.hb d_MO_primary_101 rfl (lv_at hl 0 rfl) ?_
      refine r_get (v := vI (M.1 191 22)) (N := 68) (T := T1) (j := 22) F hS (show 191 < 231 by decide) (show shK 191 = 5 from rfl) (show shN 191 = 68 from rfl) rfl (Nat.le_of_ble_eq_true rfl) ing1 mw_1411 (fv_int rfl) d_MO_primary_102 ?_
      have i6 := hS.rng 191 22
      refine r_iconst F.hx F.hb d_MO_primary_105 ?_
      refine r_icmp_ne (tgt := 113) F.hx F.hb i6 (inr_c rfl) d_MO_primary_106 (by decide) (fun c7 => ?_) (fun c7 => ?_)
      · replace hT := (if_neg c7).symm.trans hT
        refine r_iconst F.hx F.hb d_MO_primary_113 ?_
        exact k_MO_primary_L114 l hlo rc hrc0 hrc1 hrc2 hrc3 hrc4 hrc5 F hlk hr M 0 (Or.inl rfl) _ _ _ hS (lv_sub hl [0] rfl) hT
      · replace hT := (if_pos c7).symm.trans hT
        refine r_iconst F.hx F.hb d_MO_primary_109 ?_
        refine lv_goto (tgt := 114) F.hx F.hb d_MO_primary_110 (by decide) ?_
        exact k_MO_primary_L114 l hlo rc hrc0 hrc1 hrc2 hrc3 hrc4 hrc5 F hlk hr M 1 (Or.inr rfl) _ _ _ hS (lv_sub hl [0] rfl) hT
    · replace hT := (if_neg c5).symm.trans hT
      refine lv_aload_n F.hx F.hb d_MO_primary_17 rfl (lv_at hl 0 rfl) ?_
      refine r_get (v := vI (M.1 191 28)) (N := 68) (T := T1) (j := 28) F hS (show 191 < 231 by decide) (show shK 191 = 5 from rfl) (show shN 191 = 68 from rfl) rfl (Nat.le_of_ble_eq_true rfl) ing1 mw_1417 (fv_int rfl) d_MO_primary_18 ?_
      have i8 := hS.rng 191 28
      refine r_bipush F.hx F.hb d_MO_primary_21 rfl ?_
      refine r_icmp_ne (tgt := 31) F.hx F.hb i8 (inr_c rfl) d_MO_primary_23 (by decide) (fun c9 => ?_) (fun c9 => ?_)
      · replace hT := (if_neg c9).symm.trans hT
        exact k_MO_primary_L31 l hlo rc hrc0 hrc1 hrc2 hrc3 hrc4 hrc5 F hlk hr M _ _ _ hS (lv_sub hl [0] rfl) hT
      · replace hT := (if_pos c9).symm.trans hT
        refine lv_aload_n F.hx F.hb d_MO_primary_26 rfl (lv_at hl 0 rfl) ?_
        refine r_iconst F.hx F.hb d_MO_primary_27 ?_
        obtain ⟨q10, hq10⟩ : ∃ q, q = (t_MO_wrong M 2) := ⟨_, rfl⟩
        replace hT := qlet_eq hT hq10
        refine r_backV F hS (r_runV (k := 191) (N := 68) (T := T1) (As := [vI 2]) F hS (show 191 < 231 by decide) (show shK 191 = 5 from rfl) rfl (c_MO_wrong l F.2.2.1 M 2 (inr_c rfl) _ hq10.symm) gs_MO_208 hd_MO_wrong ⟨(by show 0 + 1 ≤ d + 1 + 40; omega), (by show 8 + (2 + 11) + 48 * 0 ≤ 48 * (d + 1 + 40); omega)⟩ rfl hl.1 (Nat.le_of_ble_eq_true rfl) ⟨Nat.zero_le _, Nat.zero_le _⟩ rfl d_MO_primary_28) (fun H locs hS => ?_)
        exact k_MO_primary_L31 l hlo rc hrc0 hrc1 hrc2 hrc3 hrc4 hrc5 F hlk hr q10 _ _ _ hS (lv_sub hl [0] rfl) hT
  · replace hT := (if_neg c2).symm.trans hT
    cases hT
    exact r_vret F hlk hr hS d_MO_primary_7
theorem d_MO_product_0 : decode b_MO_product 0 = .ok (.aload_n 0, 1) := dc_42 (by decide +kernel)
theorem d_MO_product_1 : decode b_MO_product 1 = .ok (.invokevirtual 303, 3) := dc_182 (by decide +kernel)
theorem d_MO_product_4 : decode b_MO_product 4 = .ok (.aload_n 0, 1) := dc_42 (by decide +kernel)
theorem d_MO_product_5 : decode b_MO_product 5 = .ok (.bipush 42, 2) := dc_16 (by decide +kernel)
theorem d_MO_product_7 : decode b_MO_product 7 = .ok (.invokevirtual 260, 3) := dc_182 (by decide +kernel)
theorem d_MO_product_10 : decode b_MO_product 10 = .ok (.ifCond .ne 12, 3) := dc_154 (by decide +kernel)
theorem d_MO_product_13 : decode b_MO_product 13 = .ok (.aload_n 0, 1) := dc_42 (by decide +kernel)
theorem d_MO_product_14 : decode b_MO_product 14 = .ok (.bipush 47, 2) := dc_16 (by decide +kernel)
theorem d_MO_product_16 : decode b_MO_product 16 = .ok (.invokevirtual 260, 3) := dc_182 (by decide +kernel)
theorem d_MO_product_19 : decode b_MO_product 19 = .ok (.ifCond .eq 29, 3) := dc_153 (by decide +kernel)
theorem d_MO_product_22 : decode b_MO_product 22 = .ok (.aload_n 0, 1) := dc_42 (by decide +kernel)
theorem d_MO_product_23 : decode b_MO_product 23 = .ok (.getfield 174, 3) := dc_180 (by decide +kernel)
theorem d_MO_product_26 : decode b_MO_product 26 = .ok (.istore_n 1, 1) := dc_60 (by decide +kernel)
theorem d_MO_product_27 : decode b_MO_product 27 = .ok (.aload_n 0, 1) := dc_42 (by decide +kernel)
theorem d_MO_product_28 : decode b_MO_product 28 = .ok (.invokevirtual 288, 3) := dc_182 (by decide +kernel)
theorem d_MO_product_31 : decode b_MO_product 31 = .ok (.aload_n 0, 1) := dc_42 (by decide +kernel)
theorem d_MO_product_32 : decode b_MO_product 32 = .ok (.invokevirtual 215, 3) := dc_182 (by decide +kernel)
theorem d_MO_product_35 : decode b_MO_product 35 = .ok (.aload_n 0, 1) := dc_42 (by decide +kernel)
theorem d_MO_product_36 : decode b_MO_product 36 = .ok (.invokevirtual 303, 3) := dc_182 (by decide +kernel)
theorem d_MO_product_39 : decode b_MO_product 39 = .ok (.aload_n 0, 1) := dc_42 (by decide +kernel)
theorem d_MO_product_40 : decode b_MO_product 40 = .ok (.iconst 2, 1) := dc_5 (by decide +kernel)
theorem d_MO_product_41 : decode b_MO_product 41 = .ok (.iload_n 1, 1) := dc_27 (by decide +kernel)
theorem d_MO_product_42 : decode b_MO_product 42 = .ok (.invokevirtual 291, 3) := dc_182 (by decide +kernel)
theorem d_MO_product_45 : decode b_MO_product 45 = .ok (.goto (-41), 3) := dc_167 (by decide +kernel)
theorem d_MO_product_48 : decode b_MO_product 48 = .ok (.return_, 1) := dc_177 (by decide +kernel)
def t_MO_product_L22 (rc : Nat → Mem → Option Mem) (bk4 : Mem → Option (Mem)) (M : Mem)  : Option (Mem) := (qlet (t_MO_knot M) fun q10 => (obind (t_MO_goOn q10) fun q12 => (obind (rc 5 q12) fun q14 => (obind (t_MO_puts q14 2 (M.1 191 23)) fun q16 => (bk4 q16)))))
def t_MO_product_L4 (rc : Nat → Mem → Option Mem)  : Nat → Mem → Option (Mem)
  | 0, _ => none
  | fu + 1, M => (qlet (t_MO_isSign M 42) fun q3 => (if q3 = 0 then (qlet (t_MO_isSign M 47) fun q6 => (if q6 = 0 then (some M) else (t_MO_product_L22 rc (fun a0_ => t_MO_product_L4 rc fu a0_) M))) else (t_MO_product_L22 rc (fun a0_ => t_MO_product_L4 rc fu a0_) M)))
def t_MO_product_B (M : Mem) (rc : Nat → Mem → Option Mem) : Option (Mem) := (obind (rc 5 M) fun q1 => (t_MO_product_L4 rc FU q1))
set_option maxHeartbeats 4000000 in
set_option maxRecDepth 100000 in
theorem k_MO_product_L22 (l : Launch) {d : Nat} {p : Program} {e : Env} {s : State} {m : MethodId} {below : List Frame} {meth : Method} {c : Code} {b n : Nat} {C : CT} (hlo : 231 ≤ n) (rc : Nat → Mem → Option Mem) (hrc0 : ∀ (M res : Mem), rc 0 M = some res → CM l b C n (d + 40) y_MO_expression b_MO_expression 1 (none) [.ref (b + 191)] M (QV b C n res)) (hrc1 : ∀ (M res : Mem), rc 1 M = some res → CM l b C n (d + 40) y_MO_conjunction b_MO_conjunction 1 (none) [.ref (b + 191)] M (QV b C n res)) (hrc2 : ∀ (M res : Mem), rc 2 M = some res → CM l b C n (d + 40) y_MO_negation b_MO_negation 2 (none) [.ref (b + 191)] M (QV b C n res)) (hrc3 : ∀ (M res : Mem), rc 3 M = some res → CM l b C n (d + 40) y_MO_sum b_MO_sum 2 (none) [.ref (b + 191)] M (QV b C n res)) (hrc4 : ∀ (M res : Mem), rc 4 M = some res → CM l b C n (d + 40) y_MO_product b_MO_product 2 (none) [.ref (b + 191)] M (QV b C n res)) (hrc5 : ∀ (M res : Mem), rc 5 M = some res → CM l b C n (d + 40) y_MO_primary b_MO_primary 2 (none) [.ref (b + 191)] M (QV b C n res)) (F : Cx b p m c b_MO_product 2 s ([.ref (b + 191)] : List Value).toArray "WardFallsModel" C n 231) (hlk : meth.locks = false) (hr : meth.sig.returnType = none) {res : Mem} (bk4 : Mem → Option (Mem)) (hbk4 : ∀ (M : Mem)  (H : Heap) (locs : List Loc) (ls : Array Slot), St b C n M s H locs → lv_has ls 2 [(0, .ref (b + 191))] → bk4 M  = some res → W p l e (headSpec (wsM y_MO_product b_MO_product 2 (none)) (rmD (d + 1 + 40))).room s m ([.ref (b + 191)] : List Value).toArray below meth c H locs 0 0 (MQ below (QV b C n res) ([.ref (b + 191)] : List Value).toArray s 0 0 (frb b)) (F0 m 4 ls [])) (M : Mem)  (H : Heap) (locs : List Loc) (ls : Array Slot) (hS : St b C n M s H locs) (hl : lv_has ls 2 [(0, .ref (b + 191))]) (hT : t_MO_product_L22 rc bk4 M = some res) : W p l e (headSpec (wsM y_MO_product b_MO_product 2 (none)) (rmD (d + 1 + 40))).room s m ([.ref (b + 191)] : List Value).toArray below meth c H locs 0 0 (MQ below (QV b C n res) ([.ref (b + 191)] : List Value).toArray s 0 0 (frb b)) (F0 m 22 ls []) := by
  unfold t_MO_product_L22 at hT
  refine lv_aload_n F.hx F.hb d_MO_product_22 rfl (lv_at hl 0 rfl) ?_
  refine r_get (v := vI (M.1 191 23)) (N := 68) (T := T1) (j := 23) F hS (show 191 < 231 by decide) (show shK 191 = 5 from rfl) (show shN 191 = 68 from rfl) rfl (Nat.le_of_ble_eq_true rfl) ing1 mw_1412 (fv_int rfl) d_MO_product_23 ?_
  have i9 := hS.rng 191 23
  refine lv_istore_n (lv' := [(1, vI (M.1 191 23)), (0, .ref (b + 191))]) F.hx F.hb d_MO_product_26 rfl hl (Nat.le_of_ble_eq_true rfl) rfl (fun ls hl => ?_)
  refine lv_aload_n F.hx F.hb d_MO_product_27 rfl (lv_at hl 1 rfl) ?_
  obtain ⟨q10, hq10⟩ : ∃ q, q = (t_MO_knot M) := ⟨_, rfl⟩
  replace hT := qlet_eq hT hq10
  refine r_backV F hS (r_runV (k := 191) (N := 68) (T := T1) (As := []) F hS (show 191 < 231 by decide) (show shK 191 = 5 from rfl) rfl (c_MO_knot l F.2.2.1 M _ hq10.symm) gs_MO_288 hd_MO_knot ⟨(by show 1 + 1 ≤ d + 1 + 40; omega), (by show 8 + (1 + 11) + 48 * 1 ≤ 48 * (d + 1 + 40); omega)⟩ rfl hl.1 (Nat.le_of_ble_eq_true rfl) ⟨Nat.zero_le _, Nat.zero_le _⟩ rfl d_MO_product_28) (fun H locs hS => ?_)
  refine lv_aload_n F.hx F.hb d_MO_product_31 rfl (lv_at hl 1 rfl) ?_
  obtain ⟨q12, hq12, hT⟩ := q_obind hT
  refine r_backV F hS (r_runV (k := 191) (N := 68) (T := T1) (As := []) F hS (show 191 < 231 by decide) (show shK 191 = 5 from rfl) rfl (c_MO_goOn l F.2.2.1 q10 _ hq12) gs_MO_215 hd_MO_goOn ⟨(by show 6 + 1 ≤ d + 1 + 40; omega), (by show 8 + (1 + 11) + 48 * 6 ≤ 48 * (d + 1 + 40); omega)⟩ rfl hl.1 (Nat.le_of_ble_eq_true rfl) ⟨Nat.zero_le _, Nat.zero_le _⟩ rfl d_MO_product_32) (fun H locs hS => ?_)
  refine lv_aload_n F.hx F.hb d_MO_product_35 rfl (lv_at hl 1 rfl) ?_
  obtain ⟨q14, hq14, hT⟩ := q_obind hT
  refine r_backV F hS (r_runV (k := 191) (N := 68) (T := T1) (As := []) F hS (show 191 < 231 by decide) (show shK 191 = 5 from rfl) rfl (hrc5 _ _ hq14) gs_MO_303 hd_MO_primary ⟨(by show (d + 40) + 1 ≤ d + 1 + 40; omega), (by show 8 + (2 + 11) + 48 * (d + 40) ≤ 48 * (d + 1 + 40); omega)⟩ rfl hl.1 (Nat.le_of_ble_eq_true rfl) ⟨Nat.zero_le _, Nat.zero_le _⟩ rfl d_MO_product_36) (fun H locs hS => ?_)
  refine lv_aload_n F.hx F.hb d_MO_product_39 rfl (lv_at hl 1 rfl) ?_
  refine r_iconst F.hx F.hb d_MO_product_40 ?_
  refine lv_iload_n F.hx F.hb d_MO_product_41 rfl (lv_at hl 0 rfl) ?_
  obtain ⟨q16, hq16, hT⟩ := q_obind hT
  refine r_backV F hS (r_runV (k := 191) (N := 68) (T := T1) (As := [vI 2, vI (M.1 191 23)]) F hS (show 191 < 231 by decide) (show shK 191 = 5 from rfl) rfl (c_MO_puts l F.2.2.1 q14 2 (M.1 191 23) (inr_c rfl) i9 _ hq16) gs_MO_291 hd_MO_puts ⟨(by show 1 + 1 ≤ d + 1 + 40; omega), (by show 8 + (3 + 11) + 48 * 1 ≤ 48 * (d + 1 + 40); omega)⟩ rfl hl.1 (Nat.le_of_ble_eq_true rfl) ⟨Nat.zero_le _, Nat.zero_le _⟩ rfl d_MO_product_42) (fun H locs hS => ?_)
  refine lv_goto (tgt := 4) F.hx F.hb d_MO_product_45 (by decide) ?_
  exact hbk4 q16 _ _ _ hS (lv_sub hl [1] rfl) hT
set_option maxHeartbeats 4000000 in
set_option maxRecDepth 100000 in
theorem k_MO_product_L4 (l : Launch) {d : Nat} {p : Program} {e : Env} {s : State} {m : MethodId} {below : List Frame} {meth : Method} {c : Code} {b n : Nat} {C : CT} (hlo : 231 ≤ n) (rc : Nat → Mem → Option Mem) (hrc0 : ∀ (M res : Mem), rc 0 M = some res → CM l b C n (d + 40) y_MO_expression b_MO_expression 1 (none) [.ref (b + 191)] M (QV b C n res)) (hrc1 : ∀ (M res : Mem), rc 1 M = some res → CM l b C n (d + 40) y_MO_conjunction b_MO_conjunction 1 (none) [.ref (b + 191)] M (QV b C n res)) (hrc2 : ∀ (M res : Mem), rc 2 M = some res → CM l b C n (d + 40) y_MO_negation b_MO_negation 2 (none) [.ref (b + 191)] M (QV b C n res)) (hrc3 : ∀ (M res : Mem), rc 3 M = some res → CM l b C n (d + 40) y_MO_sum b_MO_sum 2 (none) [.ref (b + 191)] M (QV b C n res)) (hrc4 : ∀ (M res : Mem), rc 4 M = some res → CM l b C n (d + 40) y_MO_product b_MO_product 2 (none) [.ref (b + 191)] M (QV b C n res)) (hrc5 : ∀ (M res : Mem), rc 5 M = some res → CM l b C n (d + 40) y_MO_primary b_MO_primary 2 (none) [.ref (b + 191)] M (QV b C n res)) (F : Cx b p m c b_MO_product 2 s ([.ref (b + 191)] : List Value).toArray "WardFallsModel" C n 231) (hlk : meth.locks = false) (hr : meth.sig.returnType = none) {res : Mem} : ∀ (fu : Nat) (M : Mem)  (H : Heap) (locs : List Loc) (ls : Array Slot), St b C n M s H locs → lv_has ls 2 [(0, .ref (b + 191))] → t_MO_product_L4 rc fu M = some res → W p l e (headSpec (wsM y_MO_product b_MO_product 2 (none)) (rmD (d + 1 + 40))).room s m ([.ref (b + 191)] : List Value).toArray below meth c H locs 0 0 (MQ below (QV b C n res) ([.ref (b + 191)] : List Value).toArray s 0 0 (frb b)) (F0 m 4 ls []) := by
  intro fu
  induction fu with
  | zero => intro M  H locs ls hS hl hT; exact absurd hT (by simp [t_MO_product_L4])
  | succ fu ih =>
    intro M  H locs ls hS hl hT
    rw [t_MO_product_L4] at hT
    refine lv_aload_n F.hx F.hb d_MO_product_4 rfl (lv_at hl 0 rfl) ?_
    refine r_bipush F.hx F.hb d_MO_product_5 rfl ?_
    obtain ⟨q3, hq3⟩ : ∃ q, q = (t_MO_isSign M 42) := ⟨_, rfl⟩
    replace hT := qlet_eq hT hq3
    refine r_backZ F hS (r_runV (k := 191) (N := 68) (T := T1) (As := [vI 42]) F hS (show 191 < 231 by decide) (show shK 191 = 5 from rfl) rfl (c_MO_isSign l F.2.2.1 M 42 (inr_c rfl) _ hq3.symm) gs_MO_260 hd_MO_isSign ⟨(by show 0 + 1 ≤ d + 1 + 40; omega), (by show 8 + (2 + 11) + 48 * 0 ≤ 48 * (d + 1 + 40); omega)⟩ rfl hl.1 (Nat.le_of_ble_eq_true rfl) ⟨Nat.zero_le _, Nat.zero_le _⟩ rfl d_MO_product_7) (fun H locs hS h4 => ?_)
    refine r_if_ne (tgt := 22) F.hx F.hb (inr_z h4) d_MO_product_10 (by decide) (fun c5 => ?_) (fun c5 => ?_)
    · replace hT := (if_neg c5).symm.trans hT
      exact k_MO_product_L22 l hlo rc hrc0 hrc1 hrc2 hrc3 hrc4 hrc5 F hlk hr (fun a0_ => t_MO_product_L4 rc fu a0_) ih M _ _ _ hS (lv_sub hl [0] rfl) hT
    · replace hT := (if_pos c5).symm.trans hT
      refine lv_aload_n F.hx F.hb d_MO_product_13 rfl (lv_at hl 0 rfl) ?_
      refine r_bipush F.hx F.hb d_MO_product_14 rfl ?_
      obtain ⟨q6, hq6⟩ : ∃ q, q = (t_MO_isSign M 47) := ⟨_, rfl⟩
      replace hT := qlet_eq hT hq6
      refine r_backZ F hS (r_runV (k := 191) (N := 68) (T := T1) (As := [vI 47]) F hS (show 191 < 231 by decide) (show shK 191 = 5 from rfl) rfl (c_MO_isSign l F.2.2.1 M 47 (inr_c rfl) _ hq6.symm) gs_MO_260 hd_MO_isSign ⟨(by show 0 + 1 ≤ d + 1 + 40; omega), (by show 8 + (2 + 11) + 48 * 0 ≤ 48 * (d + 1 + 40); omega)⟩ rfl hl.1 (Nat.le_of_ble_eq_true rfl) ⟨Nat.zero_le _, Nat.zero_le _⟩ rfl d_MO_product_16) (fun H locs hS h7 => ?_)
      refine r_if_eq (tgt := 48) F.hx F.hb (inr_z h7) d_MO_product_19 (by decide) (fun c8 => ?_) (fun c8 => ?_)
      · replace hT := (if_pos c8).symm.trans hT
        cases hT
        exact r_vret F hlk hr hS d_MO_product_48
      · replace hT := (if_neg c8).symm.trans hT
        exact k_MO_product_L22 l hlo rc hrc0 hrc1 hrc2 hrc3 hrc4 hrc5 F hlk hr (fun a0_ => t_MO_product_L4 rc fu a0_) ih M _ _ _ hS (lv_sub hl [0] rfl) hT
set_option maxHeartbeats 4000000 in
set_option maxRecDepth 100000 in
theorem c_MO_product_B (l : Launch) {d : Nat} {b n : Nat} {C : CT} (hlo : 231 ≤ n) (M : Mem) (rc : Nat → Mem → Option Mem) (hrc0 : ∀ (M res : Mem), rc 0 M = some res → CM l b C n (d + 40) y_MO_expression b_MO_expression 1 (none) [.ref (b + 191)] M (QV b C n res)) (hrc1 : ∀ (M res : Mem), rc 1 M = some res → CM l b C n (d + 40) y_MO_conjunction b_MO_conjunction 1 (none) [.ref (b + 191)] M (QV b C n res)) (hrc2 : ∀ (M res : Mem), rc 2 M = some res → CM l b C n (d + 40) y_MO_negation b_MO_negation 2 (none) [.ref (b + 191)] M (QV b C n res)) (hrc3 : ∀ (M res : Mem), rc 3 M = some res → CM l b C n (d + 40) y_MO_sum b_MO_sum 2 (none) [.ref (b + 191)] M (QV b C n res)) (hrc4 : ∀ (M res : Mem), rc 4 M = some res → CM l b C n (d + 40) y_MO_product b_MO_product 2 (none) [.ref (b + 191)] M (QV b C n res)) (hrc5 : ∀ (M res : Mem), rc 5 M = some res → CM l b C n (d + 40) y_MO_primary b_MO_primary 2 (none) [.ref (b + 191)] M (QV b C n res)) (res : Mem) (hT : t_MO_product_B M rc = some res) : CM l b C n (d + 1 + 40) y_MO_product b_MO_product 2 (none) [.ref (b + 191)] M (QV b C n res) := by
  refine CM.of (lo := 231) (ow := "WardFallsModel") (by decide) rfl (Nat.le_of_ble_eq_true rfl) hlo (fun p e s m below meth c F hlk hr hS ls hl => ?_)
  have hl : lv_has ls 2 [(0, .ref (b + 191))] := hl
  unfold t_MO_product_B at hT
  refine lv_aload_n F.hx F.hb d_MO_product_0 rfl (lv_at hl 0 rfl) ?_
  obtain ⟨q1, hq1, hT⟩ := q_obind hT
  refine r_backV F hS (r_runV (k := 191) (N := 68) (T := T1) (As := []) F hS (show 191 < 231 by decide) (show shK 191 = 5 from rfl) rfl (hrc5 _ _ hq1) gs_MO_303 hd_MO_primary ⟨(by show (d + 40) + 1 ≤ d + 1 + 40; omega), (by show 8 + (2 + 11) + 48 * (d + 40) ≤ 48 * (d + 1 + 40); omega)⟩ rfl hl.1 (Nat.le_of_ble_eq_true rfl) ⟨Nat.zero_le _, Nat.zero_le _⟩ rfl d_MO_product_1) (fun H locs hS => ?_)
  exact k_MO_product_L4 l hlo rc hrc0 hrc1 hrc2 hrc3 hrc4 hrc5 F hlk hr FU q1 _ _ _ hS (lv_sub hl [0] rfl) hT
theorem d_MO_sum_0 : decode b_MO_sum 0 = .ok (.aload_n 0, 1) := dc_42 (by decide +kernel)
theorem d_MO_sum_1 : decode b_MO_sum 1 = .ok (.invokevirtual 300, 3) := dc_182 (by decide +kernel)
theorem d_MO_sum_4 : decode b_MO_sum 4 = .ok (.aload_n 0, 1) := dc_42 (by decide +kernel)
theorem d_MO_sum_5 : decode b_MO_sum 5 = .ok (.bipush 43, 2) := dc_16 (by decide +kernel)
theorem d_MO_sum_7 : decode b_MO_sum 7 = .ok (.invokevirtual 260, 3) := dc_182 (by decide +kernel)
theorem d_MO_sum_10 : decode b_MO_sum 10 = .ok (.ifCond .ne 12, 3) := dc_154 (by decide +kernel)
theorem d_MO_sum_13 : decode b_MO_sum 13 = .ok (.aload_n 0, 1) := dc_42 (by decide +kernel)
theorem d_MO_sum_14 : decode b_MO_sum 14 = .ok (.bipush 45, 2) := dc_16 (by decide +kernel)
theorem d_MO_sum_16 : decode b_MO_sum 16 = .ok (.invokevirtual 260, 3) := dc_182 (by decide +kernel)
theorem d_MO_sum_19 : decode b_MO_sum 19 = .ok (.ifCond .eq 29, 3) := dc_153 (by decide +kernel)
theorem d_MO_sum_22 : decode b_MO_sum 22 = .ok (.aload_n 0, 1) := dc_42 (by decide +kernel)
theorem d_MO_sum_23 : decode b_MO_sum 23 = .ok (.getfield 174, 3) := dc_180 (by decide +kernel)
theorem d_MO_sum_26 : decode b_MO_sum 26 = .ok (.istore_n 1, 1) := dc_60 (by decide +kernel)
theorem d_MO_sum_27 : decode b_MO_sum 27 = .ok (.aload_n 0, 1) := dc_42 (by decide +kernel)
theorem d_MO_sum_28 : decode b_MO_sum 28 = .ok (.invokevirtual 288, 3) := dc_182 (by decide +kernel)
theorem d_MO_sum_31 : decode b_MO_sum 31 = .ok (.aload_n 0, 1) := dc_42 (by decide +kernel)
theorem d_MO_sum_32 : decode b_MO_sum 32 = .ok (.invokevirtual 215, 3) := dc_182 (by decide +kernel)
theorem d_MO_sum_35 : decode b_MO_sum 35 = .ok (.aload_n 0, 1) := dc_42 (by decide +kernel)
theorem d_MO_sum_36 : decode b_MO_sum 36 = .ok (.invokevirtual 300, 3) := dc_182 (by decide +kernel)
theorem d_MO_sum_39 : decode b_MO_sum 39 = .ok (.aload_n 0, 1) := dc_42 (by decide +kernel)
theorem d_MO_sum_40 : decode b_MO_sum 40 = .ok (.iconst 2, 1) := dc_5 (by decide +kernel)
theorem d_MO_sum_41 : decode b_MO_sum 41 = .ok (.iload_n 1, 1) := dc_27 (by decide +kernel)
theorem d_MO_sum_42 : decode b_MO_sum 42 = .ok (.invokevirtual 291, 3) := dc_182 (by decide +kernel)
theorem d_MO_sum_45 : decode b_MO_sum 45 = .ok (.goto (-41), 3) := dc_167 (by decide +kernel)
theorem d_MO_sum_48 : decode b_MO_sum 48 = .ok (.return_, 1) := dc_177 (by decide +kernel)
def t_MO_sum_L22 (rc : Nat → Mem → Option Mem) (bk4 : Mem → Option (Mem)) (M : Mem)  : Option (Mem) := (qlet (t_MO_knot M) fun q10 => (obind (t_MO_goOn q10) fun q12 => (obind (rc 4 q12) fun q14 => (obind (t_MO_puts q14 2 (M.1 191 23)) fun q16 => (bk4 q16)))))
def t_MO_sum_L4 (rc : Nat → Mem → Option Mem)  : Nat → Mem → Option (Mem)
  | 0, _ => none
  | fu + 1, M => (qlet (t_MO_isSign M 43) fun q3 => (if q3 = 0 then (qlet (t_MO_isSign M 45) fun q6 => (if q6 = 0 then (some M) else (t_MO_sum_L22 rc (fun a0_ => t_MO_sum_L4 rc fu a0_) M))) else (t_MO_sum_L22 rc (fun a0_ => t_MO_sum_L4 rc fu a0_) M)))
def t_MO_sum_B (M : Mem) (rc : Nat → Mem → Option Mem) : Option (Mem) := (obind (rc 4 M) fun q1 => (t_MO_sum_L4 rc FU q1))
set_option maxHeartbeats 4000000 in
set_option maxRecDepth 100000 in
theorem k_MO_sum_L22 (l : Launch) {d : Nat} {p : Program} {e : Env} {s : State} {m : MethodId} {below : List Frame} {meth : Method} {c : Code} {b n : Nat} {C : CT} (hlo : 231 ≤ n) (rc : Nat → Mem → Option Mem) (hrc0 : ∀ (M res : Mem), rc 0 M = some res → CM l b C n (d + 40) y_MO_expression b_MO_expression 1 (none) [.ref (b + 191)] M (QV b C n res)) (hrc1 : ∀ (M res : Mem), rc 1 M = some res → CM l b C n (d + 40) y_MO_conjunction b_MO_conjunction 1 (none) [.ref (b + 191)] M (QV b C n res)) (hrc2 : ∀ (M res : Mem), rc 2 M = some res → CM l b C n (d + 40) y_MO_negation b_MO_negation 2 (none) [.ref (b + 191)] M (QV b C n res)) (hrc3 : ∀ (M res : Mem), rc 3 M = some res → CM l b C n (d + 40) y_MO_sum b_MO_sum 2 (none) [.ref (b + 191)] M (QV b C n res)) (hrc4 : ∀ (M res : Mem), rc 4 M = some res → CM l b C n (d + 40) y_MO_product b_MO_product 2 (none) [.ref (b + 191)] M (QV b C n res)) (hrc5 : ∀ (M res : Mem), rc 5 M = some res → CM l b C n (d + 40) y_MO_primary b_MO_primary 2 (none) [.ref (b + 191)] M (QV b C n res)) (F : Cx b p m c b_MO_sum 2 s ([.ref (b + 191)] : List Value).toArray "WardFallsModel" C n 231) (hlk : meth.locks = false) (hr : meth.sig.returnType = none) {res : Mem} (bk4 : Mem → Option (Mem)) (hbk4 : ∀ (M : Mem)  (H : Heap) (locs : List Loc) (ls : Array Slot), St b C n M s H locs → lv_has ls 2 [(0, .ref (b + 191))] → bk4 M  = some res → W p l e (headSpec (wsM y_MO_sum b_MO_sum 2 (none)) (rmD (d + 1 + 40))).room s m ([.ref (b + 191)] : List Value).toArray below meth c H locs 0 0 (MQ below (QV b C n res) ([.ref (b + 191)] : List Value).toArray s 0 0 (frb b)) (F0 m 4 ls [])) (M : Mem)  (H : Heap) (locs : List Loc) (ls : Array Slot) (hS : St b C n M s H locs) (hl : lv_has ls 2 [(0, .ref (b + 191))]) (hT : t_MO_sum_L22 rc bk4 M = some res) : W p l e (headSpec (wsM y_MO_sum b_MO_sum 2 (none)) (rmD (d + 1 + 40))).room s m ([.ref (b + 191)] : List Value).toArray below meth c H locs 0 0 (MQ below (QV b C n res) ([.ref (b + 191)] : List Value).toArray s 0 0 (frb b)) (F0 m 22 ls []) := by
  unfold t_MO_sum_L22 at hT
  refine lv_aload_n F.hx F.hb d_MO_sum_22 rfl (lv_at hl 0 rfl) ?_
  refine r_get (v := vI (M.1 191 23)) (N := 68) (T := T1) (j := 23) F hS (show 191 < 231 by decide) (show shK 191 = 5 from rfl) (show shN 191 = 68 from rfl) rfl (Nat.le_of_ble_eq_true rfl) ing1 mw_1412 (fv_int rfl) d_MO_sum_23 ?_
  have i9 := hS.rng 191 23
  refine lv_istore_n (lv' := [(1, vI (M.1 191 23)), (0, .ref (b + 191))]) F.hx F.hb d_MO_sum_26 rfl hl (Nat.le_of_ble_eq_true rfl) rfl (fun ls hl => ?_)
  refine lv_aload_n F.hx F.hb d_MO_sum_27 rfl (lv_at hl 1 rfl) ?_
  obtain ⟨q10, hq10⟩ : ∃ q, q = (t_MO_knot M) := ⟨_, rfl⟩
  replace hT := qlet_eq hT hq10
  refine r_backV F hS (r_runV (k := 191) (N := 68) (T := T1) (As := []) F hS (show 191 < 231 by decide) (show shK 191 = 5 from rfl) rfl (c_MO_knot l F.2.2.1 M _ hq10.symm) gs_MO_288 hd_MO_knot ⟨(by show 1 + 1 ≤ d + 1 + 40; omega), (by show 8 + (1 + 11) + 48 * 1 ≤ 48 * (d + 1 + 40); omega)⟩ rfl hl.1 (Nat.le_of_ble_eq_true rfl) ⟨Nat.zero_le _, Nat.zero_le _⟩ rfl d_MO_sum_28) (fun H locs hS => ?_)
  refine lv_aload_n F.hx F.hb d_MO_sum_31 rfl (lv_at hl 1 rfl) ?_
  obtain ⟨q12, hq12, hT⟩ := q_obind hT
  refine r_backV F hS (r_runV (k := 191) (N := 68) (T := T1) (As := []) F hS (show 191 < 231 by decide) (show shK 191 = 5 from rfl) rfl (c_MO_goOn l F.2.2.1 q10 _ hq12) gs_MO_215 hd_MO_goOn ⟨(by show 6 + 1 ≤ d + 1 + 40; omega), (by show 8 + (1 + 11) + 48 * 6 ≤ 48 * (d + 1 + 40); omega)⟩ rfl hl.1 (Nat.le_of_ble_eq_true rfl) ⟨Nat.zero_le _, Nat.zero_le _⟩ rfl d_MO_sum_32) (fun H locs hS => ?_)
  refine lv_aload_n F.hx F.hb d_MO_sum_35 rfl (lv_at hl 1 rfl) ?_
  obtain ⟨q14, hq14, hT⟩ := q_obind hT
  refine r_backV F hS (r_runV (k := 191) (N := 68) (T := T1) (As := []) F hS (show 191 < 231 by decide) (show shK 191 = 5 from rfl) rfl (hrc4 _ _ hq14) gs_MO_300 hd_MO_product ⟨(by show (d + 40) + 1 ≤ d + 1 + 40; omega), (by show 8 + (2 + 11) + 48 * (d + 40) ≤ 48 * (d + 1 + 40); omega)⟩ rfl hl.1 (Nat.le_of_ble_eq_true rfl) ⟨Nat.zero_le _, Nat.zero_le _⟩ rfl d_MO_sum_36) (fun H locs hS => ?_)
  refine lv_aload_n F.hx F.hb d_MO_sum_39 rfl (lv_at hl 1 rfl) ?_
  refine r_iconst F.hx F.hb d_MO_sum_40 ?_
  refine lv_iload_n F.hx F.hb d_MO_sum_41 rfl (lv_at hl 0 rfl) ?_
  obtain ⟨q16, hq16, hT⟩ := q_obind hT
  refine r_backV F hS (r_runV (k := 191) (N := 68) (T := T1) (As := [vI 2, vI (M.1 191 23)]) F hS (show 191 < 231 by decide) (show shK 191 = 5 from rfl) rfl (c_MO_puts l F.2.2.1 q14 2 (M.1 191 23) (inr_c rfl) i9 _ hq16) gs_MO_291 hd_MO_puts ⟨(by show 1 + 1 ≤ d + 1 + 40; omega), (by show 8 + (3 + 11) + 48 * 1 ≤ 48 * (d + 1 + 40); omega)⟩ rfl hl.1 (Nat.le_of_ble_eq_true rfl) ⟨Nat.zero_le _, Nat.zero_le _⟩ rfl d_MO_sum_42) (fun H locs hS => ?_)
  refine lv_goto (tgt := 4) F.hx F.hb d_MO_sum_45 (by decide) ?_
  exact hbk4 q16 _ _ _ hS (lv_sub hl [1] rfl) hT
set_option maxHeartbeats 4000000 in
set_option maxRecDepth 100000 in
theorem k_MO_sum_L4 (l : Launch) {d : Nat} {p : Program} {e : Env} {s : State} {m : MethodId} {below : List Frame} {meth : Method} {c : Code} {b n : Nat} {C : CT} (hlo : 231 ≤ n) (rc : Nat → Mem → Option Mem) (hrc0 : ∀ (M res : Mem), rc 0 M = some res → CM l b C n (d + 40) y_MO_expression b_MO_expression 1 (none) [.ref (b + 191)] M (QV b C n res)) (hrc1 : ∀ (M res : Mem), rc 1 M = some res → CM l b C n (d + 40) y_MO_conjunction b_MO_conjunction 1 (none) [.ref (b + 191)] M (QV b C n res)) (hrc2 : ∀ (M res : Mem), rc 2 M = some res → CM l b C n (d + 40) y_MO_negation b_MO_negation 2 (none) [.ref (b + 191)] M (QV b C n res)) (hrc3 : ∀ (M res : Mem), rc 3 M = some res → CM l b C n (d + 40) y_MO_sum b_MO_sum 2 (none) [.ref (b + 191)] M (QV b C n res)) (hrc4 : ∀ (M res : Mem), rc 4 M = some res → CM l b C n (d + 40) y_MO_product b_MO_product 2 (none) [.ref (b + 191)] M (QV b C n res)) (hrc5 : ∀ (M res : Mem), rc 5 M = some res → CM l b C n (d + 40) y_MO_primary b_MO_primary 2 (none) [.ref (b + 191)] M (QV b C n res)) (F : Cx b p m c b_MO_sum 2 s ([.ref (b + 191)] : List Value).toArray "WardFallsModel" C n 231) (hlk : meth.locks = false) (hr : meth.sig.returnType = none) {res : Mem} : ∀ (fu : Nat) (M : Mem)  (H : Heap) (locs : List Loc) (ls : Array Slot), St b C n M s H locs → lv_has ls 2 [(0, .ref (b + 191))] → t_MO_sum_L4 rc fu M = some res → W p l e (headSpec (wsM y_MO_sum b_MO_sum 2 (none)) (rmD (d + 1 + 40))).room s m ([.ref (b + 191)] : List Value).toArray below meth c H locs 0 0 (MQ below (QV b C n res) ([.ref (b + 191)] : List Value).toArray s 0 0 (frb b)) (F0 m 4 ls []) := by
  intro fu
  induction fu with
  | zero => intro M  H locs ls hS hl hT; exact absurd hT (by simp [t_MO_sum_L4])
  | succ fu ih =>
    intro M  H locs ls hS hl hT
    rw [t_MO_sum_L4] at hT
    refine lv_aload_n F.hx F.hb d_MO_sum_4 rfl (lv_at hl 0 rfl) ?_
    refine r_bipush F.hx F.hb d_MO_sum_5 rfl ?_
    obtain ⟨q3, hq3⟩ : ∃ q, q = (t_MO_isSign M 43) := ⟨_, rfl⟩
    replace hT := qlet_eq hT hq3
    refine r_backZ F hS (r_runV (k := 191) (N := 68) (T := T1) (As := [vI 43]) F hS (show 191 < 231 by decide) (show shK 191 = 5 from rfl) rfl (c_MO_isSign l F.2.2.1 M 43 (inr_c rfl) _ hq3.symm) gs_MO_260 hd_MO_isSign ⟨(by show 0 + 1 ≤ d + 1 + 40; omega), (by show 8 + (2 + 11) + 48 * 0 ≤ 48 * (d + 1 + 40); omega)⟩ rfl hl.1 (Nat.le_of_ble_eq_true rfl) ⟨Nat.zero_le _, Nat.zero_le _⟩ rfl d_MO_sum_7) (fun H locs hS h4 => ?_)
    refine r_if_ne (tgt := 22) F.hx F.hb (inr_z h4) d_MO_sum_10 (by decide) (fun c5 => ?_) (fun c5 => ?_)
    · replace hT := (if_neg c5).symm.trans hT
      exact k_MO_sum_L22 l hlo rc hrc0 hrc1 hrc2 hrc3 hrc4 hrc5 F hlk hr (fun a0_ => t_MO_sum_L4 rc fu a0_) ih M _ _ _ hS (lv_sub hl [0] rfl) hT
    · replace hT := (if_pos c5).symm.trans hT
      refine lv_aload_n F.hx F.hb d_MO_sum_13 rfl (lv_at hl 0 rfl) ?_
      refine r_bipush F.hx F.hb d_MO_sum_14 rfl ?_
      obtain ⟨q6, hq6⟩ : ∃ q, q = (t_MO_isSign M 45) := ⟨_, rfl⟩
      replace hT := qlet_eq hT hq6
      refine r_backZ F hS (r_runV (k := 191) (N := 68) (T := T1) (As := [vI 45]) F hS (show 191 < 231 by decide) (show shK 191 = 5 from rfl) rfl (c_MO_isSign l F.2.2.1 M 45 (inr_c rfl) _ hq6.symm) gs_MO_260 hd_MO_isSign ⟨(by show 0 + 1 ≤ d + 1 + 40; omega), (by show 8 + (2 + 11) + 48 * 0 ≤ 48 * (d + 1 + 40); omega)⟩ rfl hl.1 (Nat.le_of_ble_eq_true rfl) ⟨Nat.zero_le _, Nat.zero_le _⟩ rfl d_MO_sum_16) (fun H locs hS h7 => ?_)
      refine r_if_eq (tgt := 48) F.hx F.hb (inr_z h7) d_MO_sum_19 (by decide) (fun c8 => ?_) (fun c8 => ?_)
      · replace hT := (if_pos c8).symm.trans hT
        cases hT
        exact r_vret F hlk hr hS d_MO_sum_48
      · replace hT := (if_neg c8).symm.trans hT
        exact k_MO_sum_L22 l hlo rc hrc0 hrc1 hrc2 hrc3 hrc4 hrc5 F hlk hr (fun a0_ => t_MO_sum_L4 rc fu a0_) ih M _ _ _ hS (lv_sub hl [0] rfl) hT
set_option maxHeartbeats 4000000 in
set_option maxRecDepth 100000 in
theorem c_MO_sum_B (l : Launch) {d : Nat} {b n : Nat} {C : CT} (hlo : 231 ≤ n) (M : Mem) (rc : Nat → Mem → Option Mem) (hrc0 : ∀ (M res : Mem), rc 0 M = some res → CM l b C n (d + 40) y_MO_expression b_MO_expression 1 (none) [.ref (b + 191)] M (QV b C n res)) (hrc1 : ∀ (M res : Mem), rc 1 M = some res → CM l b C n (d + 40) y_MO_conjunction b_MO_conjunction 1 (none) [.ref (b + 191)] M (QV b C n res)) (hrc2 : ∀ (M res : Mem), rc 2 M = some res → CM l b C n (d + 40) y_MO_negation b_MO_negation 2 (none) [.ref (b + 191)] M (QV b C n res)) (hrc3 : ∀ (M res : Mem), rc 3 M = some res → CM l b C n (d + 40) y_MO_sum b_MO_sum 2 (none) [.ref (b + 191)] M (QV b C n res)) (hrc4 : ∀ (M res : Mem), rc 4 M = some res → CM l b C n (d + 40) y_MO_product b_MO_product 2 (none) [.ref (b + 191)] M (QV b C n res)) (hrc5 : ∀ (M res : Mem), rc 5 M = some res → CM l b C n (d + 40) y_MO_primary b_MO_primary 2 (none) [.ref (b + 191)] M (QV b C n res)) (res : Mem) (hT : t_MO_sum_B M rc = some res) : CM l b C n (d + 1 + 40) y_MO_sum b_MO_sum 2 (none) [.ref (b + 191)] M (QV b C n res) := by
  refine CM.of (lo := 231) (ow := "WardFallsModel") (by decide) rfl (Nat.le_of_ble_eq_true rfl) hlo (fun p e s m below meth c F hlk hr hS ls hl => ?_)
  have hl : lv_has ls 2 [(0, .ref (b + 191))] := hl
  unfold t_MO_sum_B at hT
  refine lv_aload_n F.hx F.hb d_MO_sum_0 rfl (lv_at hl 0 rfl) ?_
  obtain ⟨q1, hq1, hT⟩ := q_obind hT
  refine r_backV F hS (r_runV (k := 191) (N := 68) (T := T1) (As := []) F hS (show 191 < 231 by decide) (show shK 191 = 5 from rfl) rfl (hrc4 _ _ hq1) gs_MO_300 hd_MO_product ⟨(by show (d + 40) + 1 ≤ d + 1 + 40; omega), (by show 8 + (2 + 11) + 48 * (d + 40) ≤ 48 * (d + 1 + 40); omega)⟩ rfl hl.1 (Nat.le_of_ble_eq_true rfl) ⟨Nat.zero_le _, Nat.zero_le _⟩ rfl d_MO_sum_1) (fun H locs hS => ?_)
  exact k_MO_sum_L4 l hlo rc hrc0 hrc1 hrc2 hrc3 hrc4 hrc5 F hlk hr FU q1 _ _ _ hS (lv_sub hl [0] rfl) hT
