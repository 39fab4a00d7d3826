theorem d_MO_negation_0 : decode b_MO_negation 0 = .ok (.aload_n 0, 1) := dc_42 (by decide +kernel)
theorem d_MO_negation_1 : decode b_MO_negation 1 = .ok (.bipush 17, 2) := dc_16 (by decide +kernel)
theorem d_MO_negation_3 : decode b_MO_negation 3 = .ok (.invokevirtual 285, 3) := dc_182 (by decide +kernel)
theorem d_MO_negation_6 : decode b_MO_negation 6 = .ok (.ifCond .eq 24, 3) := dc_153 (by decide +kernel)
theorem d_MO_negation_9 : decode b_MO_negation 9 = .ok (.aload_n 0, 1) := dc_42 (by decide +kernel)
theorem d_MO_negation_10 : decode b_MO_negation 10 = .ok (.invokevirtual 288, 3) := dc_182 (by decide +kernel)
theorem d_MO_negation_13 : decode b_MO_negation 13 = .ok (.aload_n 0, 1) := dc_42 (by decide +kernel)
theorem d_MO_negation_14 : decode b_MO_negation 14 = .ok (.invokevirtual 215, 3) := dc_182 (by decide +kernel)
theorem d_MO_negation_17 : decode b_MO_negation 17 = .ok (.aload_n 0, 1) := dc_42 (by decide +kernel)
theorem d_MO_negation_18 : decode b_MO_negation 18 = .ok (.invokevirtual 294, 3) := dc_182 (by decide +kernel)
theorem d_MO_negation_21 : decode b_MO_negation 21 = .ok (.aload_n 0, 1) := dc_42 (by decide +kernel)
theorem d_MO_negation_22 : decode b_MO_negation 22 = .ok (.iconst 2, 1) := dc_5 (by decide +kernel)
theorem d_MO_negation_23 : decode b_MO_negation 23 = .ok (.sipush 260, 3) := dc_17 (by decide +kernel)
theorem d_MO_negation_26 : decode b_MO_negation 26 = .ok (.invokevirtual 291, 3) := dc_182 (by decide +kernel)
theorem d_MO_negation_29 : decode b_MO_negation 29 = .ok (.return_, 1) := dc_177 (by decide +kernel)
theorem d_MO_negation_30 : decode b_MO_negation 30 = .ok (.aload_n 0, 1) := dc_42 (by decide +kernel)
theorem d_MO_negation_31 : decode b_MO_negation 31 = .ok (.invokevirtual 297, 3) := dc_182 (by decide +kernel)
theorem d_MO_negation_34 : decode b_MO_negation 34 = .ok (.aload_n 0, 1) := dc_42 (by decide +kernel)
theorem d_MO_negation_35 : decode b_MO_negation 35 = .ok (.getfield 199, 3) := dc_180 (by decide +kernel)
theorem d_MO_negation_38 : decode b_MO_negation 38 = .ok (.ifCond .ne 48, 3) := dc_154 (by decide +kernel)
theorem d_MO_negation_41 : decode b_MO_negation 41 = .ok (.aload_n 0, 1) := dc_42 (by decide +kernel)
theorem d_MO_negation_42 : decode b_MO_negation 42 = .ok (.getfield 164, 3) := dc_180 (by decide +kernel)
theorem d_MO_negation_45 : decode b_MO_negation 45 = .ok (.iconst 3, 1) := dc_6 (by decide +kernel)
theorem d_MO_negation_46 : decode b_MO_negation 46 = .ok (.if_icmp .ne 40, 3) := dc_160 (by decide +kernel)
theorem d_MO_negation_49 : decode b_MO_negation 49 = .ok (.aload_n 0, 1) := dc_42 (by decide +kernel)
theorem d_MO_negation_50 : decode b_MO_negation 50 = .ok (.getfield 174, 3) := dc_180 (by decide +kernel)
theorem d_MO_negation_53 : decode b_MO_negation 53 = .ok (.bipush 60, 2) := dc_16 (by decide +kernel)
theorem d_MO_negation_55 : decode b_MO_negation 55 = .ok (.if_icmp .eq 32, 3) := dc_159 (by decide +kernel)
theorem d_MO_negation_58 : decode b_MO_negation 58 = .ok (.aload_n 0, 1) := dc_42 (by decide +kernel)
theorem d_MO_negation_59 : decode b_MO_negation 59 = .ok (.getfield 174, 3) := dc_180 (by decide +kernel)
theorem d_MO_negation_62 : decode b_MO_negation 62 = .ok (.bipush 62, 2) := dc_16 (by decide +kernel)
theorem d_MO_negation_64 : decode b_MO_negation 64 = .ok (.if_icmp .eq 23, 3) := dc_159 (by decide +kernel)
theorem d_MO_negation_67 : decode b_MO_negation 67 = .ok (.aload_n 0, 1) := dc_42 (by decide +kernel)
theorem d_MO_negation_68 : decode b_MO_negation 68 = .ok (.getfield 174, 3) := dc_180 (by decide +kernel)
theorem d_MO_negation_71 : decode b_MO_negation 71 = .ok (.bipush 61, 2) := dc_16 (by decide +kernel)
theorem d_MO_negation_73 : decode b_MO_negation 73 = .ok (.if_icmp .eq 14, 3) := dc_159 (by decide +kernel)
theorem d_MO_negation_76 : decode b_MO_negation 76 = .ok (.aload_n 0, 1) := dc_42 (by decide +kernel)
theorem d_MO_negation_77 : decode b_MO_negation 77 = .ok (.getfield 174, 3) := dc_180 (by decide +kernel)
theorem d_MO_negation_80 : decode b_MO_negation 80 = .ok (.sipush 256, 3) := dc_17 (by decide +kernel)
theorem d_MO_negation_83 : decode b_MO_negation 83 = .ok (.if_icmp .ge 4, 3) := dc_162 (by decide +kernel)
theorem d_MO_negation_86 : decode b_MO_negation 86 = .ok (.return_, 1) := dc_177 (by decide +kernel)
theorem d_MO_negation_87 : decode b_MO_negation 87 = .ok (.aload_n 0, 1) := dc_42 (by decide +kernel)
theorem d_MO_negation_88 : decode b_MO_negation 88 = .ok (.getfield 174, 3) := dc_180 (by decide +kernel)
theorem d_MO_negation_91 : decode b_MO_negation 91 = .ok (.istore_n 1, 1) := dc_60 (by decide +kernel)
theorem d_MO_negation_92 : decode b_MO_negation 92 = .ok (.aload_n 0, 1) := dc_42 (by decide +kernel)
theorem d_MO_negation_93 : decode b_MO_negation 93 = .ok (.invokevirtual 288, 3) := dc_182 (by decide +kernel)
theorem d_MO_negation_96 : decode b_MO_negation 96 = .ok (.aload_n 0, 1) := dc_42 (by decide +kernel)
theorem d_MO_negation_97 : decode b_MO_negation 97 = .ok (.invokevirtual 215, 3) := dc_182 (by decide +kernel)
theorem d_MO_negation_100 : decode b_MO_negation 100 = .ok (.aload_n 0, 1) := dc_42 (by decide +kernel)
theorem d_MO_negation_101 : decode b_MO_negation 101 = .ok (.invokevirtual 297, 3) := dc_182 (by decide +kernel)
theorem d_MO_negation_104 : decode b_MO_negation 104 = .ok (.aload_n 0, 1) := dc_42 (by decide +kernel)
theorem d_MO_negation_105 : decode b_MO_negation 105 = .ok (.iconst 2, 1) := dc_5 (by decide +kernel)
theorem d_MO_negation_106 : decode b_MO_negation 106 = .ok (.iload_n 1, 1) := dc_27 (by decide +kernel)
theorem d_MO_negation_107 : decode b_MO_negation 107 = .ok (.invokevirtual 291, 3) := dc_182 (by decide +kernel)
theorem d_MO_negation_110 : decode b_MO_negation 110 = .ok (.return_, 1) := dc_177 (by decide +kernel)
def t_MO_negation_L87 (rc : Nat → Mem → Option Mem)  (M : Mem)  : Option (Mem) := (qlet (t_MO_knot M) fun q27 => (obind (t_MO_goOn q27) fun q29 => (obind (rc 3 q29) fun q31 => (obind (t_MO_puts q31 2 (M.1 191 23)) fun q33 => (some q33)))))
def t_MO_negation_B (M : Mem) (rc : Nat → Mem → Option Mem) : Option (Mem) := (qlet (t_MO_isWord M 17) fun q1 => (if q1 = 0 then (obind (rc 3 M) fun q4 => (if (q4.1 191 24) = 0 then (if (q4.1 191 22) = 3 then (if (q4.1 191 23) = 60 then (t_MO_negation_L87 rc q4) else (if (q4.1 191 23) = 62 then (t_MO_negation_L87 rc q4) else (if (q4.1 191 23) = 61 then (t_MO_negation_L87 rc q4) else (if 256 ≤ (q4.1 191 23) then (t_MO_negation_L87 rc q4) else (some q4))))) else (some q4)) else (some q4))) else (qlet (t_MO_knot M) fun q18 => (obind (t_MO_goOn q18) fun q20 => (obind (rc 2 q20) fun q22 => (obind (t_MO_puts q22 2 260) fun q24 => (some q24)))))))
set_option maxHeartbeats 4000000 in
set_option maxRecDepth 100000 in
theorem k_MO_negation_L87 (l : Launch) {d : Nat} {p : Program} {e : Env} {s : State} {m : MethodId} {below : List Frame} {meth : Method} {c : Code} {b n : Nat} {C : CT} (hlo : 231 ≤ n) (rc : Nat → Mem → Option Mem) (hrc0 : ∀ (M res : Mem), rc 0 M = some res → CM l b C n (d + 40) y_MO_expression b_MO_expression 1 (none) [.ref (b + 191)] M (QV b C n res)) (hrc1 : ∀ (M res : Mem), rc 1 M = some res → CM l b C n (d + 40) y_MO_conjunction b_MO_conjunction 1 (none) [.ref (b + 191)] M (QV b C n res)) (hrc2 : ∀ (M res : Mem), rc 2 M = some res → CM l b C n (d + 40) y_MO_negation b_MO_negation 2 (none) [.ref (b + 191)] M (QV b C n res)) (hrc3 : ∀ (M res : Mem), rc 3 M = some res → CM l b C n (d + 40) y_MO_sum b_MO_sum 2 (none) [.ref (b + 191)] M (QV b C n res)) (hrc4 : ∀ (M res : Mem), rc 4 M = some res → CM l b C n (d + 40) y_MO_product b_MO_product 2 (none) [.ref (b + 191)] M (QV b C n res)) (hrc5 : ∀ (M res : Mem), rc 5 M = some res → CM l b C n (d + 40) y_MO_primary b_MO_primary 2 (none) [.ref (b + 191)] M (QV b C n res)) (F : Cx b p m c b_MO_negation 2 s ([.ref (b + 191)] : List Value).toArray "WardFallsModel" C n 231) (hlk : meth.locks = false) (hr : meth.sig.returnType = none) {res : Mem} (M : Mem)  (H : Heap) (locs : List Loc) (ls : Array Slot) (hS : St b C n M s H locs) (hl : lv_has ls 2 [(0, .ref (b + 191))]) (hT : t_MO_negation_L87 rc M = some res) : W p l e (headSpec (wsM y_MO_negation b_MO_negation 2 (none)) (rmD (d + 1 + 40))).room s m ([.ref (b + 191)] : List Value).toArray below meth c H locs 0 0 (MQ below (QV b C n res) ([.ref (b + 191)] : List Value).toArray s 0 0 (frb b)) (F0 m 87 ls []) := by
  unfold t_MO_negation_L87 at hT
  refine lv_aload_n F.hx F.hb d_MO_negation_87 rfl (lv_at hl 0 rfl) ?_
  refine r_get (v := vI (M.1 191 23)) (N := 68) (T := T1) (j := 23) F hS (show 191 < 231 by decide) (show shK 191 = 5 from rfl) (show shN 191 = 68 from rfl) rfl (Nat.le_of_ble_eq_true rfl) ing1 mw_1412 (fv_int rfl) d_MO_negation_88 ?_
  have i26 := hS.rng 191 23
  refine lv_istore_n (lv' := [(1, vI (M.1 191 23)), (0, .ref (b + 191))]) F.hx F.hb d_MO_negation_91 rfl hl (Nat.le_of_ble_eq_true rfl) rfl (fun ls hl => ?_)
  refine lv_aload_n F.hx F.hb d_MO_negation_92 rfl (lv_at hl 1 rfl) ?_
  obtain ⟨q27, hq27⟩ : ∃ q, q = (t_MO_knot M) := ⟨_, rfl⟩
  replace hT := qlet_eq hT hq27
  refine r_backV F hS (r_runV (k := 191) (N := 68) (T := T1) (As := []) F hS (show 191 < 231 by decide) (show shK 191 = 5 from rfl) rfl (c_MO_knot l F.2.2.1 M _ hq27.symm) gs_MO_288 hd_MO_knot ⟨(by show 1 + 1 ≤ d + 1 + 40; omega), (by show 8 + (1 + 11) + 48 * 1 ≤ 48 * (d + 1 + 40); omega)⟩ rfl hl.1 (Nat.le_of_ble_eq_true rfl) ⟨Nat.zero_le _, Nat.zero_le _⟩ rfl d_MO_negation_93) (fun H locs hS => ?_)
  refine lv_aload_n F.hx F.hb d_MO_negation_96 rfl (lv_at hl 1 rfl) ?_
  obtain ⟨q29, hq29, hT⟩ := q_obind hT
  refine r_backV F hS (r_runV (k := 191) (N := 68) (T := T1) (As := []) F hS (show 191 < 231 by decide) (show shK 191 = 5 from rfl) rfl (c_MO_goOn l F.2.2.1 q27 _ hq29) gs_MO_215 hd_MO_goOn ⟨(by show 6 + 1 ≤ d + 1 + 40; omega), (by show 8 + (1 + 11) + 48 * 6 ≤ 48 * (d + 1 + 40); omega)⟩ rfl hl.1 (Nat.le_of_ble_eq_true rfl) ⟨Nat.zero_le _, Nat.zero_le _⟩ rfl d_MO_negation_97) (fun H locs hS => ?_)
  refine lv_aload_n F.hx F.hb d_MO_negation_100 rfl (lv_at hl 1 rfl) ?_
  obtain ⟨q31, hq31, hT⟩ := q_obind hT
  refine r_backV F hS (r_runV (k := 191) (N := 68) (T := T1) (As := []) F hS (show 191 < 231 by decide) (show shK 191 = 5 from rfl) rfl (hrc3 _ _ hq31) gs_MO_297 hd_MO_sum ⟨(by show (d + 40) + 1 ≤ d + 1 + 40; omega), (by show 8 + (2 + 11) + 48 * (d + 40) ≤ 48 * (d + 1 + 40); omega)⟩ rfl hl.1 (Nat.le_of_ble_eq_true rfl) ⟨Nat.zero_le _, Nat.zero_le _⟩ rfl d_MO_negation_101) (fun H locs hS => ?_)
  refine lv_aload_n F.hx F.hb d_MO_negation_104 rfl (lv_at hl 1 rfl) ?_
  refine r_iconst F.hx F.hb d_MO_negation_105 ?_
  refine lv_iload_n F.hx F.hb d_MO_negation_106 rfl (lv_at hl 0 rfl) ?_
  obtain ⟨q33, hq33, hT⟩ := q_obind hT
  refine r_backV F hS (r_runV (k := 191) (N := 68) (T := T1) (As := [vI 2, vI (M.1 191 23)]) F hS (show 191 < 231 by decide) (show shK 191 = 5 from rfl) rfl (c_MO_puts l F.2.2.1 q31 2 (M.1 191 23) (inr_c rfl) i26 _ hq33) gs_MO_291 hd_MO_puts ⟨(by show 1 + 1 ≤ d + 1 + 40; omega), (by show 8 + (3 + 11) + 48 * 1 ≤ 48 * (d + 1 + 40); omega)⟩ rfl hl.1 (Nat.le_of_ble_eq_true rfl) ⟨Nat.zero_le _, Nat.zero_le _⟩ rfl d_MO_negation_107) (fun H locs hS => ?_)
  cases hT
  exact r_vret F hlk hr hS d_MO_negation_110
set_option maxHeartbeats 4000000 in
set_option maxRecDepth 100000 in
theorem c_MO_negation_B (l : Launch) {d : Nat} {b n : Nat} {C : CT} (hlo : 231 ≤ n) (M : Mem) (rc : Nat → Mem → Option Mem) (hrc0 : ∀ (M res : Mem), rc 0 M = some res → CM l b C n (d + 40) y_MO_expression b_MO_expression 1 (none) [.ref (b + 191)] M (QV b C n res)) (hrc1 : ∀ (M res : Mem), rc 1 M = some res → CM l b C n (d + 40) y_MO_conjunction b_MO_conjunction 1 (none) [.ref (b + 191)] M (QV b C n res)) (hrc2 : ∀ (M res : Mem), rc 2 M = some res → CM l b C n (d + 40) y_MO_negation b_MO_negation 2 (none) [.ref (b + 191)] M (QV b C n res)) (hrc3 : ∀ (M res : Mem), rc 3 M = some res → CM l b C n (d + 40) y_MO_sum b_MO_sum 2 (none) [.ref (b + 191)] M (QV b C n res)) (hrc4 : ∀ (M res : Mem), rc 4 M = some res → CM l b C n (d + 40) y_MO_product b_MO_product 2 (none) [.ref (b + 191)] M (QV b C n res)) (hrc5 : ∀ (M res : Mem), rc 5 M = some res → CM l b C n (d + 40) y_MO_primary b_MO_primary 2 (none) [.ref (b + 191)] M (QV b C n res)) (res : Mem) (hT : t_MO_negation_B M rc = some res) : CM l b C n (d + 1 + 40) y_MO_negation b_MO_negation 2 (none) [.ref (b + 191)] M (QV b C n res) := by
  refine CM.of (lo := 231) (ow := "WardFallsModel") (by decide) rfl (Nat.le_of_ble_eq_true rfl) hlo (fun p e s m below meth c F hlk hr hS ls hl => ?_)
  have hl : lv_has ls 2 [(0, .ref (b + 191))] := hl
  unfold t_MO_negation_B at hT
  refine lv_aload_n F.hx F.hb d_MO_negation_0 rfl (lv_at hl 0 rfl) ?_
  refine r_bipush F.hx F.hb d_MO_negation_1 rfl ?_
  obtain ⟨q1, hq1⟩ : ∃ q, q = (t_MO_isWord M 17) := ⟨_, rfl⟩
  replace hT := qlet_eq hT hq1
  refine r_backZ F hS (r_runV (k := 191) (N := 68) (T := T1) (As := [vI 17]) F hS (show 191 < 231 by decide) (show shK 191 = 5 from rfl) rfl (c_MO_isWord l F.2.2.1 M 17 (inr_c rfl) _ hq1.symm) gs_MO_285 hd_MO_isWord ⟨(by show 0 + 1 ≤ d + 1 + 40; omega), (by show 8 + (2 + 11) + 48 * 0 ≤ 48 * (d + 1 + 40); omega)⟩ rfl hl.1 (Nat.le_of_ble_eq_true rfl) ⟨Nat.zero_le _, Nat.zero_le _⟩ rfl d_MO_negation_3) (fun H locs hS h2 => ?_)
  refine r_if_eq (tgt := 30) F.hx F.hb (inr_z h2) d_MO_negation_6 (by decide) (fun c3 => ?_) (fun c3 => ?_)
  · replace hT := (if_pos c3).symm.trans hT
    refine lv_aload_n F.hx F.hb d_MO_negation_30 rfl (lv_at hl 0 rfl) ?_
    obtain ⟨q4, hq4, hT⟩ := q_obind hT
    refine r_backV F hS (r_runV (k := 191) (N := 68) (T := T1) (As := []) F hS (show 191 < 231 by decide) (show shK 191 = 5 from rfl) rfl (hrc3 _ _ hq4) gs_MO_297 hd_MO_sum ⟨(by show (d + 40) + 1 ≤ d + 1 + 40; omega), (by show 8 + (2 + 11) + 48 * (d + 40) ≤ 48 * (d + 1 + 40); omega)⟩ rfl hl.1 (Nat.le_of_ble_eq_true rfl) ⟨Nat.zero_le _, Nat.zero_le _⟩ rfl d_MO_negation_31) (fun H locs hS => ?_)
    refine lv_aload_n F.hx F.hb d_MO_negation_34 rfl (lv_at hl 0 rfl) ?_
    refine r_get (v := vI (q4.1 191 24)) (N := 68) (T := T1) (j := 24) F hS (show 191 < 231 by decide) (show shK 191 = 5 from rfl) (show shN 191 = 68 from rfl) rfl (Nat.le_of_ble_eq_true rfl) ing1 mw_1413 (fv_int rfl) d_MO_negation_35 ?_
    have i6 := hS.rng 191 24
    refine r_if_ne (tgt := 86) F.hx F.hb i6 d_MO_negation_38 (by decide) (fun c7 => ?_) (fun c7 => ?_)
    · replace hT := (if_neg c7).symm.trans hT
      cases hT
      exact r_vret F hlk hr hS d_MO_negation_86
    · replace hT := (if_pos c7).symm.trans hT
      refine lv_aload_n F.hx F.hb d_MO_negation_41 rfl (lv_at hl 0 rfl) ?_
      refine r_get (v := vI (q4.1 191 22)) (N := 68) (T := T1) (j := 22) F hS (show 191 < 231 by decide) (show shK 191 = 5 from rfl) (show shN 191 = 68 from rfl) rfl (Nat.le_of_ble_eq_true rfl) ing1 mw_1411 (fv_int rfl) d_MO_negation_42 ?_
      have i8 := hS.rng 191 22
      refine r_iconst F.hx F.hb d_MO_negation_45 ?_
      refine r_icmp_ne (tgt := 86) F.hx F.hb i8 (inr_c rfl) d_MO_negation_46 (by decide) (fun c9 => ?_) (fun c9 => ?_)
      · replace hT := (if_neg c9).symm.trans hT
        cases hT
        exact r_vret F hlk hr hS d_MO_negation_86
      · replace hT := (if_pos c9).symm.trans hT
        refine lv_aload_n F.hx F.hb d_MO_negation_49 rfl (lv_at hl 0 rfl) ?_
        refine r_get (v := vI (q4.1 191 23)) (N := 68) (T := T1) (j := 23) F hS (show 191 < 231 by decide) (show shK 191 = 5 from rfl) (show shN 191 = 68 from rfl) rfl (Nat.le_of_ble_eq_true rfl) ing1 mw_1412 (fv_int rfl) d_MO_negation_50 ?_
        have i10 := hS.rng 191 23
        refine r_bipush F.hx F.hb d_MO_negation_53 rfl ?_
        refine r_icmp_eq (tgt := 87) F.hx F.hb i10 (inr_c rfl) d_MO_negation_55 (by decide) (fun c11 => ?_) (fun c11 => ?_)
        · replace hT := (if_pos c11).symm.trans hT
          exact k_MO_negation_L87 l hlo rc hrc0 hrc1 hrc2 hrc3 hrc4 hrc5 F hlk hr q4 _ _ _ hS (lv_sub hl [0] rfl) hT
        · replace hT := (if_neg c11).symm.trans hT
          refine lv_aload_n F.hx F.hb d_MO_negation_58 rfl (lv_at hl 0 rfl) ?_
          refine r_get (v := vI (q4.1 191 23)) (N := 68) (T := T1) (j := 23) F hS (show 191 < 231 by decide) (show shK 191 = 5 from rfl) (show shN 191 = 68 from rfl) rfl (Nat.le_of_ble_eq_true rfl) ing1 mw_1412 (fv_int rfl) d_MO_negation_59 ?_
          have i12 := hS.rng 191 23
          refine r_bipush F.hx F.hb d_MO_negation_62 rfl ?_
          refine r_icmp_eq (tgt := 87) F.hx F.hb i12 (inr_c rfl) d_MO_negation_64 (by decide) (fun c13 => ?_) (fun c13 => ?_)
          · replace hT := (if_pos c13).symm.trans hT
            exact k_MO_negation_L87 l hlo rc hrc0 hrc1 hrc2 hrc3 hrc4 hrc5 F hlk hr q4 _ _ _ hS (lv_sub hl [0] rfl) hT
          · replace hT := (if_neg c13).symm.trans hT
            refine lv_aload_n F.hx F.hb d_MO_negation_67 rfl (lv_at hl 0 rfl) ?_
            refine r_get (v := vI (q4.1 191 23)) (N := 68) (T := T1) (j := 23) F hS (show 191 < 231 by decide) (show shK 191 = 5 from rfl) (show shN 191 = 68 from rfl) rfl (Nat.le_of_ble_eq_true rfl) ing1 mw_1412 (fv_int rfl) d_MO_negation_68 ?_
            have i14 := hS.rng 191 23
            refine r_bipush F.hx F.hb d_MO_negation_71 rfl ?_
            refine r_icmp_eq (tgt := 87) F.hx F.hb i14 (inr_c rfl) d_MO_negation_73 (by decide) (fun c15 => ?_) (fun c15 => ?_)
            · replace hT := (if_pos c15).symm.trans hT
              exact k_MO_negation_L87 l hlo rc hrc0 hrc1 hrc2 hrc3 hrc4 hrc5 F hlk hr q4 _ _ _ hS (lv_sub hl [0] rfl) hT
            · replace hT := (if_neg c15).symm.trans hT
              refine lv_aload_n F.hx F.hb d_MO_negation_76 rfl (lv_at hl 0 rfl) ?_
              refine r_get (v := vI (q4.1 191 23)) (N := 68) (T := T1) (j := 23) F hS (show 191 < 231 by decide) (show shK 191 = 5 from rfl) (show shN 191 = 68 from rfl) rfl (Nat.le_of_ble_eq_true rfl) ing1 mw_1412 (fv_int rfl) d_MO_negation_77 ?_
              have i16 := hS.rng 191 23
              refine r_sipush F.hx F.hb d_MO_negation_80 rfl ?_
              refine r_icmp_ge (tgt := 87) F.hx F.hb i16 (inr_c rfl) d_MO_negation_83 (by decide) (fun c17 => ?_) (fun c17 => ?_)
              · replace hT := (if_pos c17).symm.trans hT
                exact k_MO_negation_L87 l hlo rc hrc0 hrc1 hrc2 hrc3 hrc4 hrc5 F hlk hr q4 _ _ _ hS (lv_sub hl [0] rfl) hT
              · replace hT := (if_neg c17).symm.trans hT
                cases hT
                exact r_vret F hlk hr hS d_MO_negation_86
  · replace hT := (if_neg c3).symm.trans hT
    refine lv_aload_n F.hx F.hb d_MO_negation_9 rfl (lv_at hl 0 rfl) ?_
    obtain ⟨q18, hq18⟩ : ∃ q, q = (t_MO_knot M) := ⟨_, rfl⟩
    replace hT := qlet_eq hT hq18
    refine r_backV F hS (r_runV (k := 191) (N := 68) (T := T1) (As := []) F hS (show 191 < 231 by decide) (show shK 191 = 5 from rfl) rfl (c_MO_knot l F.2.2.1 M _ hq18.symm) gs_MO_288 hd_MO_knot ⟨(by show 1 + 1 ≤ d + 1 + 40; omega), (by show 8 + (1 + 11) + 48 * 1 ≤ 48 * (d + 1 + 40); omega)⟩ rfl hl.1 (Nat.le_of_ble_eq_true rfl) ⟨Nat.zero_le _, Nat.zero_le _⟩ rfl d_MO_negation_10) (fun H locs hS => ?_)
    refine lv_aload_n F.hx F.hb d_MO_negation_13 rfl (lv_at hl 0 rfl) ?_
    obtain ⟨q20, hq20, hT⟩ := q_obind hT
    refine r_backV F hS (r_runV (k := 191) (N := 68) (T := T1) (As := []) F hS (show 191 < 231 by decide) (show shK 191 = 5 from rfl) rfl (c_MO_goOn l F.2.2.1 q18 _ hq20) gs_MO_215 hd_MO_goOn ⟨(by show 6 + 1 ≤ d + 1 + 40; omega), (by show 8 + (1 + 11) + 48 * 6 ≤ 48 * (d + 1 + 40); omega)⟩ rfl hl.1 (Nat.le_of_ble_eq_true rfl) ⟨Nat.zero_le _, Nat.zero_le _⟩ rfl d_MO_negation_14) (fun H locs hS => ?_)
    refine lv_aload_n F.hx F.hb d_MO_negation_17 rfl (lv_at hl 0 rfl) ?_
    obtain ⟨q22, hq22, hT⟩ := q_obind hT
    refine r_backV F hS (r_runV (k := 191) (N := 68) (T := T1) (As := []) F hS (show 191 < 231 by decide) (show shK 191 = 5 from rfl) rfl (hrc2 _ _ hq22) gs_MO_294 hd_MO_negation ⟨(by show (d + 40) + 1 ≤ d + 1 + 40; omega), (by show 8 + (2 + 11) + 48 * (d + 40) ≤ 48 * (d + 1 + 40); omega)⟩ rfl hl.1 (Nat.le_of_ble_eq_true rfl) ⟨Nat.zero_le _, Nat.zero_le _⟩ rfl d_MO_negation_18) (fun H locs hS => ?_)
    refine lv_aload_n F.hx F.hb d_MO_negation_21 rfl (lv_at hl 0 rfl) ?_
    refine r_iconst F.hx F.hb d_MO_negation_22 ?_
    refine r_sipush F.hx F.hb d_MO_negation_23 rfl ?_
    obtain ⟨q24, hq24, hT⟩ := q_obind hT
    refine r_backV F hS (r_runV (k := 191) (N := 68) (T := T1) (As := [vI 2, vI 260]) F hS (show 191 < 231 by decide) (show shK 191 = 5 from rfl) rfl (c_MO_puts l F.2.2.1 q22 2 260 (inr_c rfl) (inr_c rfl) _ hq24) gs_MO_291 hd_MO_puts ⟨(by show 1 + 1 ≤ d + 1 + 40; omega), (by show 8 + (3 + 11) + 48 * 1 ≤ 48 * (d + 1 + 40); omega)⟩ rfl hl.1 (Nat.le_of_ble_eq_true rfl) ⟨Nat.zero_le _, Nat.zero_le _⟩ rfl d_MO_negation_26) (fun H locs hS => ?_)
    cases hT
    exact r_vret F hlk hr hS d_MO_negation_29
theorem d_MO_conjunction_0 : decode b_MO_conjunction 0 = .ok (.aload_n 0, 1) := dc_42 (by decide +kernel)
theorem d_MO_conjunction_1 : decode b_MO_conjunction 1 = .ok (.invokevirtual 294, 3) := dc_182 (by decide +kernel)
theorem d_MO_conjunction_4 : decode b_MO_conjunction 4 = .ok (.aload_n 0, 1) := dc_42 (by decide +kernel)
theorem d_MO_conjunction_5 : decode b_MO_conjunction 5 = .ok (.bipush 16, 2) := dc_16 (by decide +kernel)
theorem d_MO_conjunction_7 : decode b_MO_conjunction 7 = .ok (.invokevirtual 285, 3) := dc_182 (by decide +kernel)
theorem d_MO_conjunction_10 : decode b_MO_conjunction 10 = .ok (.ifCond .eq 26, 3) := dc_153 (by decide +kernel)
theorem d_MO_conjunction_13 : decode b_MO_conjunction 13 = .ok (.aload_n 0, 1) := dc_42 (by decide +kernel)
theorem d_MO_conjunction_14 : decode b_MO_conjunction 14 = .ok (.invokevirtual 288, 3) := dc_182 (by decide +kernel)
theorem d_MO_conjunction_17 : decode b_MO_conjunction 17 = .ok (.aload_n 0, 1) := dc_42 (by decide +kernel)
theorem d_MO_conjunction_18 : decode b_MO_conjunction 18 = .ok (.invokevirtual 215, 3) := dc_182 (by decide +kernel)
theorem d_MO_conjunction_21 : decode b_MO_conjunction 21 = .ok (.aload_n 0, 1) := dc_42 (by decide +kernel)
theorem d_MO_conjunction_22 : decode b_MO_conjunction 22 = .ok (.invokevirtual 294, 3) := dc_182 (by decide +kernel)
theorem d_MO_conjunction_25 : decode b_MO_conjunction 25 = .ok (.aload_n 0, 1) := dc_42 (by decide +kernel)
theorem d_MO_conjunction_26 : decode b_MO_conjunction 26 = .ok (.iconst 2, 1) := dc_5 (by decide +kernel)
theorem d_MO_conjunction_27 : decode b_MO_conjunction 27 = .ok (.sipush 261, 3) := dc_17 (by decide +kernel)
theorem d_MO_conjunction_30 : decode b_MO_conjunction 30 = .ok (.invokevirtual 291, 3) := dc_182 (by decide +kernel)
theorem d_MO_conjunction_33 : decode b_MO_conjunction 33 = .ok (.goto (-29), 3) := dc_167 (by decide +kernel)
theorem d_MO_conjunction_36 : decode b_MO_conjunction 36 = .ok (.return_, 1) := dc_177 (by decide +kernel)
def t_MO_conjunction_L4 (rc : Nat → Mem → Option Mem)  : Nat → Mem → Option (Mem)
  | 0, _ => none
  | fu + 1, M => (qlet (t_MO_isWord M 16) fun q3 => (if q3 = 0 then (some M) else (qlet (t_MO_knot M) fun q6 => (obind (t_MO_goOn q6) fun q8 => (obind (rc 2 q8) fun q10 => (obind (t_MO_puts q10 2 261) fun q12 => (t_MO_conjunction_L4 rc fu q12)))))))
def t_MO_conjunction_B (M : Mem) (rc : Nat → Mem → Option Mem) : Option (Mem) := (obind (rc 2 M) fun q1 => (t_MO_conjunction_L4 rc FU q1))
set_option maxHeartbeats 4000000 in
set_option maxRecDepth 100000 in
theorem k_MO_conjunction_L4 (l : Launch) {d : Nat} {p : Program} {e : Env} {s : State} {m : MethodId} {below : List Frame} {meth : Method} {c : Code} {b n : Nat} {C : CT} (hlo : 231 ≤ n) (rc : Nat → Mem → Option Mem) (hrc0 : ∀ (M res : Mem), rc 0 M = some res → CM l b C n (d + 40) y_MO_expression b_MO_expression 1 (none) [.ref (b + 191)] M (QV b C n res)) (hrc1 : ∀ (M res : Mem), rc 1 M = some res → CM l b C n (d + 40) y_MO_conjunction b_MO_conjunction 1 (none) [.ref (b + 191)] M (QV b C n res)) (hrc2 : ∀ (M res : Mem), rc 2 M = some res → CM l b C n (d + 40) y_MO_negation b_MO_negation 2 (none) [.ref (b + 191)] M (QV b C n res)) (hrc3 : ∀ (M res : Mem), rc 3 M = some res → CM l b C n (d + 40) y_MO_sum b_MO_sum 2 (none) [.ref (b + 191)] M (QV b C n res)) (hrc4 : ∀ (M res : Mem), rc 4 M = some res → CM l b C n (d + 40) y_MO_product b_MO_product 2 (none) [.ref (b + 191)] M (QV b C n res)) (hrc5 : ∀ (M res : Mem), rc 5 M = some res → CM l b C n (d + 40) y_MO_primary b_MO_primary 2 (none) [.ref (b + 191)] M (QV b C n res)) (F : Cx b p m c b_MO_conjunction 1 s ([.ref (b + 191)] : List Value).toArray "WardFallsModel" C n 231) (hlk : meth.locks = false) (hr : meth.sig.returnType = none) {res : Mem} : ∀ (fu : Nat) (M : Mem)  (H : Heap) (locs : List Loc) (ls : Array Slot), St b C n M s H locs → lv_has ls 1 [(0, .ref (b + 191))] → t_MO_conjunction_L4 rc fu M = some res → W p l e (headSpec (wsM y_MO_conjunction b_MO_conjunction 1 (none)) (rmD (d + 1 + 40))).room s m ([.ref (b + 191)] : List Value).toArray below meth c H locs 0 0 (MQ below (QV b C n res) ([.ref (b + 191)] : List Value).toArray s 0 0 (frb b)) (F0 m 4 ls []) := by
  intro fu
  induction fu with
  | zero => intro M  H locs ls hS hl hT; exact absurd hT (by simp [t_MO_conjunction_L4])
  | succ fu ih =>
    intro M  H locs ls hS hl hT
    rw [t_MO_conjunction_L4] at hT
    refine lv_aload_n F.hx F.hb d_MO_conjunction_4 rfl (lv_at hl 0 rfl) ?_
    refine r_bipush F.hx F.hb d_MO_conjunction_5 rfl ?_
    obtain ⟨q3, hq3⟩ : ∃ q, q = (t_MO_isWord M 16) := ⟨_, rfl⟩
    replace hT := qlet_eq hT hq3
    refine r_backZ F hS (r_runV (k := 191) (N := 68) (T := T1) (As := [vI 16]) F hS (show 191 < 231 by decide) (show shK 191 = 5 from rfl) rfl (c_MO_isWord l F.2.2.1 M 16 (inr_c rfl) _ hq3.symm) gs_MO_285 hd_MO_isWord ⟨(by show 0 + 1 ≤ d + 1 + 40; omega), (by show 8 + (2 + 11) + 48 * 0 ≤ 48 * (d + 1 + 40); omega)⟩ rfl hl.1 (Nat.le_of_ble_eq_true rfl) ⟨Nat.zero_le _, Nat.zero_le _⟩ rfl d_MO_conjunction_7) (fun H locs hS h4 => ?_)
    refine r_if_eq (tgt := 36) F.hx F.hb (inr_z h4) d_MO_conjunction_10 (by decide) (fun c5 => ?_) (fun c5 => ?_)
    · replace hT := (if_pos c5).symm.trans hT
      cases hT
      exact r_vret F hlk hr hS d_MO_conjunction_36
    · replace hT := (if_neg c5).symm.trans hT
      refine lv_aload_n F.hx F.hb d_MO_conjunction_13 rfl (lv_at hl 0 rfl) ?_
      obtain ⟨q6, hq6⟩ : ∃ q, q = (t_MO_knot M) := ⟨_, rfl⟩
      replace hT := qlet_eq hT hq6
      refine r_backV F hS (r_runV (k := 191) (N := 68) (T := T1) (As := []) F hS (show 191 < 231 by decide) (show shK 191 = 5 from rfl) rfl (c_MO_knot l F.2.2.1 M _ hq6.symm) gs_MO_288 hd_MO_knot ⟨(by show 1 + 1 ≤ d + 1 + 40; omega), (by show 8 + (1 + 11) + 48 * 1 ≤ 48 * (d + 1 + 40); omega)⟩ rfl hl.1 (Nat.le_of_ble_eq_true rfl) ⟨Nat.zero_le _, Nat.zero_le _⟩ rfl d_MO_conjunction_14) (fun H locs hS => ?_)
      refine lv_aload_n F.hx F.hb d_MO_conjunction_17 rfl (lv_at hl 0 rfl) ?_
      obtain ⟨q8, hq8, hT⟩ := q_obind hT
      refine r_backV F hS (r_runV (k := 191) (N := 68) (T := T1) (As := []) F hS (show 191 < 231 by decide) (show shK 191 = 5 from rfl) rfl (c_MO_goOn l F.2.2.1 q6 _ hq8) gs_MO_215 hd_MO_goOn ⟨(by show 6 + 1 ≤ d + 1 + 40; omega), (by show 8 + (1 + 11) + 48 * 6 ≤ 48 * (d + 1 + 40); omega)⟩ rfl hl.1 (Nat.le_of_ble_eq_true rfl) ⟨Nat.zero_le _, Nat.zero_le _⟩ rfl d_MO_conjunction_18) (fun H locs hS => ?_)
      refine lv_aload_n F.hx F.hb d_MO_conjunction_21 rfl (lv_at hl 0 rfl) ?_
      obtain ⟨q10, hq10, hT⟩ := q_obind hT
      refine r_backV F hS (r_runV (k := 191) (N := 68) (T := T1) (As := []) F hS (show 191 < 231 by decide) (show shK 191 = 5 from rfl) rfl (hrc2 _ _ hq10) gs_MO_294 hd_MO_negation ⟨(by show (d + 40) + 1 ≤ d + 1 + 40; omega), (by show 8 + (2 + 11) + 48 * (d + 40) ≤ 48 * (d + 1 + 40); omega)⟩ rfl hl.1 (Nat.le_of_ble_eq_true rfl) ⟨Nat.zero_le _, Nat.zero_le _⟩ rfl d_MO_conjunction_22) (fun H locs hS => ?_)
      refine lv_aload_n F.hx F.hb d_MO_conjunction_25 rfl (lv_at hl 0 rfl) ?_
      refine r_iconst F.hx F.hb d_MO_conjunction_26 ?_
      refine r_sipush F.hx F.hb d_MO_conjunction_27 rfl ?_
      obtain ⟨q12, hq12, hT⟩ := q_obind hT
      refine r_backV F hS (r_runV (k := 191) (N := 68) (T := T1) (As := [vI 2, vI 261]) F hS (show 191 < 231 by decide) (show shK 191 = 5 from rfl) rfl (c_MO_puts l F.2.2.1 q10 2 261 (inr_c rfl) (inr_c rfl) _ hq12) gs_MO_291 hd_MO_puts ⟨(by show 1 + 1 ≤ d + 1 + 40; omega), (by show 8 + (3 + 11) + 48 * 1 ≤ 48 * (d + 1 + 40); omega)⟩ rfl hl.1 (Nat.le_of_ble_eq_true rfl) ⟨Nat.zero_le _, Nat.zero_le _⟩ rfl d_MO_conjunction_30) (fun H locs hS => ?_)
      refine lv_goto (tgt := 4) F.hx F.hb d_MO_conjunction_33 (by decide) ?_
      exact ih q12 _ _ _ hS (lv_sub hl [0] rfl) hT
set_option maxHeartbeats 4000000 in
set_option maxRecDepth 100000 in
theorem c_MO_conjunction_B (l : Launch) {d : Nat} {b n : Nat} {C : CT} (hlo : 231 ≤ n) (M : Mem) (rc : Nat → Mem → Option Mem) (hrc0 : ∀ (M res : Mem), rc 0 M = some res → CM l b C n (d + 40) y_MO_expression b_MO_expression 1 (none) [.ref (b + 191)] M (QV b C n res)) (hrc1 : ∀ (M res : Mem), rc 1 M = some res → CM l b C n (d + 40) y_MO_conjunction b_MO_conjunction 1 (none) [.ref (b + 191)] M (QV b C n res)) (hrc2 : ∀ (M res : Mem), rc 2 M = some res → CM l b C n (d + 40) y_MO_negation b_MO_negation 2 (none) [.ref (b + 191)] M (QV b C n res)) (hrc3 : ∀ (M res : Mem), rc 3 M = some res → CM l b C n (d + 40) y_MO_sum b_MO_sum 2 (none) [.ref (b + 191)] M (QV b C n res)) (hrc4 : ∀ (M res : Mem), rc 4 M = some res → CM l b C n (d + 40) y_MO_product b_MO_product 2 (none) [.ref (b + 191)] M (QV b C n res)) (hrc5 : ∀ (M res : Mem), rc 5 M = some res → CM l b C n (d + 40) y_MO_primary b_MO_primary 2 (none) [.ref (b + 191)] M (QV b C n res)) (res : Mem) (hT : t_MO_conjunction_B M rc = some res) : CM l b C n (d + 1 + 40) y_MO_conjunction b_MO_conjunction 1 (none) [.ref (b + 191)] M (QV b C n res) := by
  refine CM.of (lo := 231) (ow := "WardFallsModel") (by decide) rfl (Nat.le_of_ble_eq_true rfl) hlo (fun p e s m below meth c F hlk hr hS ls hl => ?_)
  have hl : lv_has ls 1 [(0, .ref (b + 191))] := hl
  unfold t_MO_conjunction_B at hT
  refine lv_aload_n F.hx F.hb d_MO_conjunction_0 rfl (lv_at hl 0 rfl) ?_
  obtain ⟨q1, hq1, hT⟩ := q_obind hT
  refine r_backV F hS (r_runV (k := 191) (N := 68) (T := T1) (As := []) F hS (show 191 < 231 by decide) (show shK 191 = 5 from rfl) rfl (hrc2 _ _ hq1) gs_MO_294 hd_MO_negation ⟨(by show (d + 40) + 1 ≤ d + 1 + 40; omega), (by show 8 + (2 + 11) + 48 * (d + 40) ≤ 48 * (d + 1 + 40); omega)⟩ rfl hl.1 (Nat.le_of_ble_eq_true rfl) ⟨Nat.zero_le _, Nat.zero_le _⟩ rfl d_MO_conjunction_1) (fun H locs hS => ?_)
  exact k_MO_conjunction_L4 l hlo rc hrc0 hrc1 hrc2 hrc3 hrc4 hrc5 F hlk hr FU q1 _ _ _ hS (lv_sub hl [0] rfl) hT
theorem d_MO_expression_0 : decode b_MO_expression 0 = .ok (.aload_n 0, 1) := dc_42 (by decide +kernel)
theorem d_MO_expression_1 : decode b_MO_expression 1 = .ok (.invokevirtual 282, 3) := dc_182 (by decide +kernel)
theorem d_MO_expression_4 : decode b_MO_expression 4 = .ok (.aload_n 0, 1) := dc_42 (by decide +kernel)
theorem d_MO_expression_5 : decode b_MO_expression 5 = .ok (.bipush 15, 2) := dc_16 (by decide +kernel)
theorem d_MO_expression_7 : decode b_MO_expression 7 = .ok (.invokevirtual 285, 3) := dc_182 (by decide +kernel)
theorem d_MO_expression_10 : decode b_MO_expression 10 = .ok (.ifCond .eq 26, 3) := dc_153 (by decide +kernel)
theorem d_MO_expression_13 : decode b_MO_expression 13 = .ok (.aload_n 0, 1) := dc_42 (by decide +kernel)
theorem d_MO_expression_14 : decode b_MO_expression 14 = .ok (.invokevirtual 288, 3) := dc_182 (by decide +kernel)
theorem d_MO_expression_17 : decode b_MO_expression 17 = .ok (.aload_n 0, 1) := dc_42 (by decide +kernel)
theorem d_MO_expression_18 : decode b_MO_expression 18 = .ok (.invokevirtual 215, 3) := dc_182 (by decide +kernel)
theorem d_MO_expression_21 : decode b_MO_expression 21 = .ok (.aload_n 0, 1) := dc_42 (by decide +kernel)
theorem d_MO_expression_22 : decode b_MO_expression 22 = .ok (.invokevirtual 282, 3) := dc_182 (by decide +kernel)
theorem d_MO_expression_25 : decode b_MO_expression 25 = .ok (.aload_n 0, 1) := dc_42 (by decide +kernel)
theorem d_MO_expression_26 : decode b_MO_expression 26 = .ok (.iconst 2, 1) := dc_5 (by decide +kernel)
theorem d_MO_expression_27 : decode b_MO_expression 27 = .ok (.sipush 262, 3) := dc_17 (by decide +kernel)
theorem d_MO_expression_30 : decode b_MO_expression 30 = .ok (.invokevirtual 291, 3) := dc_182 (by decide +kernel)
theorem d_MO_expression_33 : decode b_MO_expression 33 = .ok (.goto (-29), 3) := dc_167 (by decide +kernel)
theorem d_MO_expression_36 : decode b_MO_expression 36 = .ok (.return_, 1) := dc_177 (by decide +kernel)
def t_MO_expression_L4 (rc : Nat → Mem → Option Mem)  : Nat → Mem → Option (Mem)
  | 0, _ => none
  | fu + 1, M => (qlet (t_MO_isWord M 15) fun q3 => (if q3 = 0 then (some M) else (qlet (t_MO_knot M) fun q6 => (obind (t_MO_goOn q6) fun q8 => (obind (rc 1 q8) fun q10 => (obind (t_MO_puts q10 2 262) fun q12 => (t_MO_expression_L4 rc fu q12)))))))
def t_MO_expression_B (M : Mem) (rc : Nat → Mem → Option Mem) : Option (Mem) := (obind (rc 1 M) fun q1 => (t_MO_expression_L4 rc FU q1))
set_option maxHeartbeats 4000000 in
set_option maxRecDepth 100000 in
theorem k_MO_expression_L4 (l : Launch) {d : Nat} {p : Program} {e : Env} {s : State} {m : MethodId} {below : List Frame} {meth : Method} {c : Code} {b n : Nat} {C : CT} (hlo : 231 ≤ n) (rc : Nat → Mem → Option Mem) (hrc0 : ∀ (M res : Mem), rc 0 M = some res → CM l b C n (d + 40) y_MO_expression b_MO_expression 1 (none) [.ref (b + 191)] M (QV b C n res)) (hrc1 : ∀ (M res : Mem), rc 1 M = some res → CM l b C n (d + 40) y_MO_conjunction b_MO_conjunction 1 (none) [.ref (b + 191)] M (QV b C n res)) (hrc2 : ∀ (M res : Mem), rc 2 M = some res → CM l b C n (d + 40) y_MO_negation b_MO_negation 2 (none) [.ref (b + 191)] M (QV b C n res)) (hrc3 : ∀ (M res : Mem), rc 3 M = some res → CM l b C n (d + 40) y_MO_sum b_MO_sum 2 (none) [.ref (b + 191)] M (QV b C n res)) (hrc4 : ∀ (M res : Mem), rc 4 M = some res → CM l b C n (d + 40) y_MO_product b_MO_product 2 (none) [.ref (b + 191)] M (QV b C n res)) (hrc5 : ∀ (M res : Mem), rc 5 M = some res → CM l b C n (d + 40) y_MO_primary b_MO_primary 2 (none) [.ref (b + 191)] M (QV b C n res)) (F : Cx b p m c b_MO_expression 1 s ([.ref (b + 191)] : List Value).toArray "WardFallsModel" C n 231) (hlk : meth.locks = false) (hr : meth.sig.returnType = none) {res : Mem} : ∀ (fu : Nat) (M : Mem)  (H : Heap) (locs : List Loc) (ls : Array Slot), St b C n M s H locs → lv_has ls 1 [(0, .ref (b + 191))] → t_MO_expression_L4 rc fu M = some res → W p l e (headSpec (wsM y_MO_expression b_MO_expression 1 (none)) (rmD (d + 1 + 40))).room s m ([.ref (b + 191)] : List Value).toArray below meth c H locs 0 0 (MQ below (QV b C n res) ([.ref (b + 191)] : List Value).toArray s 0 0 (frb b)) (F0 m 4 ls []) := by
  intro fu
  induction fu with
  | zero => intro M  H locs ls hS hl hT; exact absurd hT (by simp [t_MO_expression_L4])
  | succ fu ih =>
    intro M  H locs ls hS hl hT
    rw [t_MO_expression_L4] at hT
    refine lv_aload_n F.hx F.hb d_MO_expression_4 rfl (lv_at hl 0 rfl) ?_
    refine r_bipush F.hx F.hb d_MO_expression_5 rfl ?_
    obtain ⟨q3, hq3⟩ : ∃ q, q = (t_MO_isWord M 15) := ⟨_, rfl⟩
    replace hT := qlet_eq hT hq3
    refine r_backZ F hS (r_runV (k := 191) (N := 68) (T := T1) (As := [vI 15]) F hS (show 191 < 231 by decide) (show shK 191 = 5 from rfl) rfl (c_MO_isWord l F.2.2.1 M 15 (inr_c rfl) _ hq3.symm) gs_MO_285 hd_MO_isWord ⟨(by show 0 + 1 ≤ d + 1 + 40; omega), (by show 8 + (2 + 11) + 48 * 0 ≤ 48 * (d + 1 + 40); omega)⟩ rfl hl.1 (Nat.le_of_ble_eq_true rfl) ⟨Nat.zero_le _, Nat.zero_le _⟩ rfl d_MO_expression_7) (fun H locs hS h4 => ?_)
    refine r_if_eq (tgt := 36) F.hx F.hb (inr_z h4) d_MO_expression_10 (by decide) (fun c5 => ?_) (fun c5 => ?_)
    · replace hT := (if_pos c5).symm.trans hT
      cases hT
      exact r_vret F hlk hr hS d_MO_expression_36
    · replace hT := (if_neg c5).symm.trans hT
      refine lv_aload_n F.hx F.hb d_MO_expression_13 rfl (lv_at hl 0 rfl) ?_
      obtain ⟨q6, hq6⟩ : ∃ q, q = (t_MO_knot M) := ⟨_, rfl⟩
      replace hT := qlet_eq hT hq6
      refine r_backV F hS (r_runV (k := 191) (N := 68) (T := T1) (As := []) F hS (show 191 < 231 by decide) (show shK 191 = 5 from rfl) rfl (c_MO_knot l F.2.2.1 M _ hq6.symm) gs_MO_288 hd_MO_knot ⟨(by show 1 + 1 ≤ d + 1 + 40; omega), (by show 8 + (1 + 11) + 48 * 1 ≤ 48 * (d + 1 + 40); omega)⟩ rfl hl.1 (Nat.le_of_ble_eq_true rfl) ⟨Nat.zero_le _, Nat.zero_le _⟩ rfl d_MO_expression_14) (fun H locs hS => ?_)
      refine lv_aload_n F.hx F.hb d_MO_expression_17 rfl (lv_at hl 0 rfl) ?_
      obtain ⟨q8, hq8, hT⟩ := q_obind hT
      refine r_backV F hS (r_runV (k := 191) (N := 68) (T := T1) (As := []) F hS (show 191 < 231 by decide) (show shK 191 = 5 from rfl) rfl (c_MO_goOn l F.2.2.1 q6 _ hq8) gs_MO_215 hd_MO_goOn ⟨(by show 6 + 1 ≤ d + 1 + 40; omega), (by show 8 + (1 + 11) + 48 * 6 ≤ 48 * (d + 1 + 40); omega)⟩ rfl hl.1 (Nat.le_of_ble_eq_true rfl) ⟨Nat.zero_le _, Nat.zero_le _⟩ rfl d_MO_expression_18) (fun H locs hS => ?_)
      refine lv_aload_n F.hx F.hb d_MO_expression_21 rfl (lv_at hl 0 rfl) ?_
      obtain ⟨q10, hq10, hT⟩ := q_obind hT
      refine r_backV F hS (r_runV (k := 191) (N := 68) (T := T1) (As := []) F hS (show 191 < 231 by decide) (show shK 191 = 5 from rfl) rfl (hrc1 _ _ hq10) gs_MO_282 hd_MO_conjunction ⟨(by show (d + 40) + 1 ≤ d + 1 + 40; omega), (by show 8 + (1 + 11) + 48 * (d + 40) ≤ 48 * (d + 1 + 40); omega)⟩ rfl hl.1 (Nat.le_of_ble_eq_true rfl) ⟨Nat.zero_le _, Nat.zero_le _⟩ rfl d_MO_expression_22) (fun H locs hS => ?_)
      refine lv_aload_n F.hx F.hb d_MO_expression_25 rfl (lv_at hl 0 rfl) ?_
      refine r_iconst F.hx F.hb d_MO_expression_26 ?_
      refine r_sipush F.hx F.hb d_MO_expression_27 rfl ?_
      obtain ⟨q12, hq12, hT⟩ := q_obind hT
      refine r_backV F hS (r_runV (k := 191) (N := 68) (T := T1) (As := [vI 2, vI 262]) F hS (show 191 < 231 by decide) (show shK 191 = 5 from rfl) rfl (c_MO_puts l F.2.2.1 q10 2 262 (inr_c rfl) (inr_c rfl) _ hq12) gs_MO_291 hd_MO_puts ⟨(by show 1 + 1 ≤ d + 1 + 40; omega), (by show 8 + (3 + 11) + 48 * 1 ≤ 48 * (d + 1 + 40); omega)⟩ rfl hl.1 (Nat.le_of_ble_eq_true rfl) ⟨Nat.zero_le _, Nat.zero_le _⟩ rfl d_MO_expression_30) (fun H locs hS => ?_)
      refine lv_goto (tgt := 4) F.hx F.hb d_MO_expression_33 (by decide) ?_
      exact ih q12 _ _ _ hS (lv_sub hl [0] rfl) hT
set_option maxHeartbeats 4000000 in
set_option maxRecDepth 100000 in
theorem c_MO_expression_B (l : Launch) {d : Nat} {b n : Nat} {C : CT} (hlo : 231 ≤ n) (M : Mem) (rc : Nat → Mem → Option Mem) (hrc0 : ∀ (M res : Mem), rc 0 M = some res → CM l b C n (d + 40) y_MO_expression b_MO_expression 1 (none) [.ref (b + 191)] M (QV b C n res)) (hrc1 : ∀ (M res : Mem), rc 1 M = some res → CM l b C n (d + 40) y_MO_conjunction b_MO_conjunction 1 (none) [.ref (b + 191)] M (QV b C n res)) (hrc2 : ∀ (M res : Mem), rc 2 M = some res → CM l b C n (d + 40) y_MO_negation b_MO_negation 2 (none) [.ref (b + 191)] M (QV b C n res)) (hrc3 : ∀ (M res : Mem), rc 3 M = some res → CM l b C n (d + 40) y_MO_sum b_MO_sum 2 (none) [.ref (b + 191)] M (QV b C n res)) (hrc4 : ∀ (M res : Mem), rc 4 M = some res → CM l b C n (d + 40) y_MO_product b_MO_product 2 (none) [.ref (b + 191)] M (QV b C n res)) (hrc5 : ∀ (M res : Mem), rc 5 M = some res → CM l b C n (d + 40) y_MO_primary b_MO_primary 2 (none) [.ref (b + 191)] M (QV b C n res)) (res : Mem) (hT : t_MO_expression_B M rc = some res) : CM l b C n (d + 1 + 40) y_MO_expression b_MO_expression 1 (none) [.ref (b + 191)] M (QV b C n res) := by
  refine CM.of (lo := 231) (ow := "WardFallsModel") (by decide) rfl (Nat.le_of_ble_eq_true rfl) hlo (fun p e s m below meth c F hlk hr hS ls hl => ?_)
  have hl : lv_has ls 1 [(0, .ref (b + 191))] := hl
  unfold t_MO_expression_B at hT
  refine lv_aload_n F.hx F.hb d_MO_expression_0 rfl (lv_at hl 0 rfl) ?_
  obtain ⟨q1, hq1, hT⟩ := q_obind hT
  refine r_backV F hS (r_runV (k := 191) (N := 68) (T := T1) (As := []) F hS (show 191 < 231 by decide) (show shK 191 = 5 from rfl) rfl (hrc1 _ _ hq1) gs_MO_282 hd_MO_conjunction ⟨(by show (d + 40) + 1 ≤ d + 1 + 40; omega), (by show 8 + (1 + 11) + 48 * (d + 40) ≤ 48 * (d + 1 + 40); omega)⟩ rfl hl.1 (Nat.le_of_ble_eq_true rfl) ⟨Nat.zero_le _, Nat.zero_le _⟩ rfl d_MO_expression_1) (fun H locs hS => ?_)
  exact k_MO_expression_L4 l hlo rc hrc0 hrc1 hrc2 hrc3 hrc4 hrc5 F hlk hr FU q1 _ _ _ hS (lv_sub hl [0] rfl) hT
def t_MO_G : Nat → Nat → Mem → Option Mem
  | 0, _, _ => none
  | d + 1, i, M => (if i = 0 then t_MO_expression_B M (fun i_ M_ => t_MO_G d i_ M_) else (if i = 1 then t_MO_conjunction_B M (fun i_ M_ => t_MO_G d i_ M_) else (if i = 2 then t_MO_negation_B M (fun i_ M_ => t_MO_G d i_ M_) else (if i = 3 then t_MO_sum_B M (fun i_ M_ => t_MO_G d i_ M_) else (if i = 4 then t_MO_product_B M (fun i_ M_ => t_MO_G d i_ M_) else (if i = 5 then t_MO_primary_B M (fun i_ M_ => t_MO_G d i_ M_) else none))))))
theorem c_MO_G (l : Launch) {b n : Nat} {C : CT} (hlo : 231 ≤ n) : ∀ d : Nat, (∀ (M res : Mem), t_MO_G d 0 M = some res → CM l b C n (d + 40) y_MO_expression b_MO_expression 1 (none) [.ref (b + 191)] M (QV b C n res)) ∧ (∀ (M res : Mem), t_MO_G d 1 M = some res → CM l b C n (d + 40) y_MO_conjunction b_MO_conjunction 1 (none) [.ref (b + 191)] M (QV b C n res)) ∧ (∀ (M res : Mem), t_MO_G d 2 M = some res → CM l b C n (d + 40) y_MO_negation b_MO_negation 2 (none) [.ref (b + 191)] M (QV b C n res)) ∧ (∀ (M res : Mem), t_MO_G d 3 M = some res → CM l b C n (d + 40) y_MO_sum b_MO_sum 2 (none) [.ref (b + 191)] M (QV b C n res)) ∧ (∀ (M res : Mem), t_MO_G d 4 M = some res → CM l b C n (d + 40) y_MO_product b_MO_product 2 (none) [.ref (b + 191)] M (QV b C n res)) ∧ (∀ (M res : Mem), t_MO_G d 5 M = some res → CM l b C n (d + 40) y_MO_primary b_MO_primary 2 (none) [.ref (b + 191)] M (QV b C n res)) := by
  intro d
  induction d with
  | zero => exact ⟨fun M res h => (by cases h), fun M res h => (by cases h), fun M res h => (by cases h), fun M res h => (by cases h), fun M res h => (by cases h), fun M res h => (by cases h)⟩
  | succ d ih =>
    obtain ⟨h0, h1, h2, h3, h4, h5⟩ := ih
    refine ⟨fun M res h => ?_, fun M res h => ?_, fun M res h => ?_, fun M res h => ?_, fun M res h => ?_, fun M res h => ?_⟩
    · exact c_MO_expression_B l (d := d) hlo M (fun i_ M_ => t_MO_G d i_ M_) h0 h1 h2 h3 h4 h5 res h
    · exact c_MO_conjunction_B l (d := d) hlo M (fun i_ M_ => t_MO_G d i_ M_) h0 h1 h2 h3 h4 h5 res h
    · exact c_MO_negation_B l (d := d) hlo M (fun i_ M_ => t_MO_G d i_ M_) h0 h1 h2 h3 h4 h5 res h
    · exact c_MO_sum_B l (d := d) hlo M (fun i_ M_ => t_MO_G d i_ M_) h0 h1 h2 h3 h4 h5 res h
    · exact c_MO_product_B l (d := d) hlo M (fun i_ M_ => t_MO_G d i_ M_) h0 h1 h2 h3 h4 h5 res h
    · exact c_MO_primary_B l (d := d) hlo M (fun i_ M_ => t_MO_G d i_ M_) h0 h1 h2 h3 h4 h5 res h
def t_MO_expression (M : Mem) : Option Mem := t_MO_G 200 0 M
theorem c_MO_expression (l : Launch) {b n : Nat} {C : CT} (hlo : 231 ≤ n) (M res : Mem) (hT : t_MO_expression M = some res) : CM l b C n 240 y_MO_expression b_MO_expression 1 (none) [.ref (b + 191)] M (QV b C n res) := (c_MO_G l hlo 200).1 M res hT
def t_MO_conjunction (M : Mem) : Option Mem := t_MO_G 200 1 M
theorem c_MO_conjunction (l : Launch) {b n : Nat} {C : CT} (hlo : 231 ≤ n) (M res : Mem) (hT : t_MO_conjunction M = some res) : CM l b C n 240 y_MO_conjunction b_MO_conjunction 1 (none) [.ref (b + 191)] M (QV b C n res) := (c_MO_G l hlo 200).2.1 M res hT
def t_MO_negation (M : Mem) : Option Mem := t_MO_G 200 2 M
theorem c_MO_negation (l : Launch) {b n : Nat} {C : CT} (hlo : 231 ≤ n) (M res : Mem) (hT : t_MO_negation M = some res) : CM l b C n 240 y_MO_negation b_MO_negation 2 (none) [.ref (b + 191)] M (QV b C n res) := (c_MO_G l hlo 200).2.2.1 M res hT
def t_MO_sum (M : Mem) : Option Mem := t_MO_G 200 3 M
theorem c_MO_sum (l : Launch) {b n : Nat} {C : CT} (hlo : 231 ≤ n) (M res : Mem) (hT : t_MO_sum M = some res) : CM l b C n 240 y_MO_sum b_MO_sum 2 (none) [.ref (b + 191)] M (QV b C n res) := (c_MO_G l hlo 200).2.2.2.1 M res hT
def t_MO_product (M : Mem) : Option Mem := t_MO_G 200 4 M
theorem c_MO_product (l : Launch) {b n : Nat} {C : CT} (hlo : 231 ≤ n) (M res : Mem) (hT : t_MO_product M = some res) : CM l b C n 240 y_MO_product b_MO_product 2 (none) [.ref (b + 191)] M (QV b C n res) := (c_MO_G l hlo 200).2.2.2.2.1 M res hT
def t_MO_primary (M : Mem) : Option Mem := t_MO_G 200 5 M
theorem c_MO_primary (l : Launch) {b n : Nat} {C : CT} (hlo : 231 ≤ n) (M res : Mem) (hT : t_MO_primary M = some res) : CM l b C n 240 y_MO_primary b_MO_primary 2 (none) [.ref (b + 191)] M (QV b C n res) := (c_MO_G l hlo 200).2.2.2.2.2 M res hT
theorem d_MO_lawLine_0 : decode b_MO_lawLine 0 = .ok (.aload_n 0, 1) := dc_42 (by decide +kernel)
theorem d_MO_lawLine_1 : decode b_MO_lawLine 1 = .ok (.getfield 164, 3) := dc_180 (by decide +kernel)
theorem d_MO_lawLine_4 : decode b_MO_lawLine 4 = .ok (.ifCond .ne 21, 3) := dc_154 (by decide +kernel)
theorem d_MO_lawLine_7 : decode b_MO_lawLine 7 = .ok (.aload_n 0, 1) := dc_42 (by decide +kernel)
theorem d_MO_lawLine_8 : decode b_MO_lawLine 8 = .ok (.getfield 174, 3) := dc_180 (by decide +kernel)
theorem d_MO_lawLine_11 : decode b_MO_lawLine 11 = .ok (.bipush 13, 2) := dc_16 (by decide +kernel)
theorem d_MO_lawLine_13 : decode b_MO_lawLine 13 = .ok (.if_icmp .eq 17, 3) := dc_159 (by decide +kernel)
theorem d_MO_lawLine_16 : decode b_MO_lawLine 16 = .ok (.aload_n 0, 1) := dc_42 (by decide +kernel)
theorem d_MO_lawLine_17 : decode b_MO_lawLine 17 = .ok (.getfield 174, 3) := dc_180 (by decide +kernel)
theorem d_MO_lawLine_20 : decode b_MO_lawLine 20 = .ok (.bipush 14, 2) := dc_16 (by decide +kernel)
theorem d_MO_lawLine_22 : decode b_MO_lawLine 22 = .ok (.if_icmp .eq 8, 3) := dc_159 (by decide +kernel)
theorem d_MO_lawLine_25 : decode b_MO_lawLine 25 = .ok (.aload_n 0, 1) := dc_42 (by decide +kernel)
theorem d_MO_lawLine_26 : decode b_MO_lawLine 26 = .ok (.iconst 1, 1) := dc_4 (by decide +kernel)
theorem d_MO_lawLine_27 : decode b_MO_lawLine 27 = .ok (.invokevirtual 208, 3) := dc_182 (by decide +kernel)
theorem d_MO_lawLine_30 : decode b_MO_lawLine 30 = .ok (.aload_n 0, 1) := dc_42 (by decide +kernel)
theorem d_MO_lawLine_31 : decode b_MO_lawLine 31 = .ok (.getfield 174, 3) := dc_180 (by decide +kernel)
theorem d_MO_lawLine_34 : decode b_MO_lawLine 34 = .ok (.bipush 13, 2) := dc_16 (by decide +kernel)
theorem d_MO_lawLine_36 : decode b_MO_lawLine 36 = .ok (.isub, 1) := dc_100 (by decide +kernel)
theorem d_MO_lawLine_37 : decode b_MO_lawLine 37 = .ok (.istore_n 1, 1) := dc_60 (by decide +kernel)
theorem d_MO_lawLine_38 : decode b_MO_lawLine 38 = .ok (.aload_n 0, 1) := dc_42 (by decide +kernel)
theorem d_MO_lawLine_39 : decode b_MO_lawLine 39 = .ok (.getfield 199, 3) := dc_180 (by decide +kernel)
theorem d_MO_lawLine_42 : decode b_MO_lawLine 42 = .ok (.ifCond .ne 19, 3) := dc_154 (by decide +kernel)
theorem d_MO_lawLine_45 : decode b_MO_lawLine 45 = .ok (.aload_n 0, 1) := dc_42 (by decide +kernel)
theorem d_MO_lawLine_46 : decode b_MO_lawLine 46 = .ok (.bipush 10, 2) := dc_16 (by decide +kernel)
theorem d_MO_lawLine_48 : decode b_MO_lawLine 48 = .ok (.iload_n 1, 1) := dc_27 (by decide +kernel)
theorem d_MO_lawLine_49 : decode b_MO_lawLine 49 = .ok (.iadd, 1) := dc_96 (by decide +kernel)
theorem d_MO_lawLine_50 : decode b_MO_lawLine 50 = .ok (.invokevirtual 235, 3) := dc_182 (by decide +kernel)
theorem d_MO_lawLine_53 : decode b_MO_lawLine 53 = .ok (.ifCond .eq 8, 3) := dc_153 (by decide +kernel)
theorem d_MO_lawLine_56 : decode b_MO_lawLine 56 = .ok (.aload_n 0, 1) := dc_42 (by decide +kernel)
theorem d_MO_lawLine_57 : decode b_MO_lawLine 57 = .ok (.iconst 3, 1) := dc_6 (by decide +kernel)
theorem d_MO_lawLine_58 : decode b_MO_lawLine 58 = .ok (.invokevirtual 208, 3) := dc_182 (by decide +kernel)
theorem d_MO_lawLine_61 : decode b_MO_lawLine 61 = .ok (.aload_n 0, 1) := dc_42 (by decide +kernel)
theorem d_MO_lawLine_62 : decode b_MO_lawLine 62 = .ok (.getfield 199, 3) := dc_180 (by decide +kernel)
theorem d_MO_lawLine_65 : decode b_MO_lawLine 65 = .ok (.ifCond .eq 4, 3) := dc_153 (by decide +kernel)
theorem d_MO_lawLine_68 : decode b_MO_lawLine 68 = .ok (.return_, 1) := dc_177 (by decide +kernel)
theorem d_MO_lawLine_69 : decode b_MO_lawLine 69 = .ok (.aload_n 0, 1) := dc_42 (by decide +kernel)
theorem d_MO_lawLine_70 : decode b_MO_lawLine 70 = .ok (.dup, 1) := dc_89 (by decide +kernel)
theorem d_MO_lawLine_71 : decode b_MO_lawLine 71 = .ok (.getfield 229, 3) := dc_180 (by decide +kernel)
theorem d_MO_lawLine_74 : decode b_MO_lawLine 74 = .ok (.iconst 1, 1) := dc_4 (by decide +kernel)
theorem d_MO_lawLine_75 : decode b_MO_lawLine 75 = .ok (.bipush 10, 2) := dc_16 (by decide +kernel)
theorem d_MO_lawLine_77 : decode b_MO_lawLine 77 = .ok (.iload_n 1, 1) := dc_27 (by decide +kernel)
theorem d_MO_lawLine_78 : decode b_MO_lawLine 78 = .ok (.iadd, 1) := dc_96 (by decide +kernel)
theorem d_MO_lawLine_79 : decode b_MO_lawLine 79 = .ok (.ishl, 1) := dc_120 (by decide +kernel)
theorem d_MO_lawLine_80 : decode b_MO_lawLine 80 = .ok (.ior, 1) := dc_128 (by decide +kernel)
theorem d_MO_lawLine_81 : decode b_MO_lawLine 81 = .ok (.putfield 229, 3) := dc_181 (by decide +kernel)
theorem d_MO_lawLine_84 : decode b_MO_lawLine 84 = .ok (.aload_n 0, 1) := dc_42 (by decide +kernel)
theorem d_MO_lawLine_85 : decode b_MO_lawLine 85 = .ok (.invokevirtual 205, 3) := dc_182 (by decide +kernel)
theorem d_MO_lawLine_88 : decode b_MO_lawLine 88 = .ok (.aload_n 0, 1) := dc_42 (by decide +kernel)
theorem d_MO_lawLine_89 : decode b_MO_lawLine 89 = .ok (.getfield 44, 3) := dc_180 (by decide +kernel)
theorem d_MO_lawLine_92 : decode b_MO_lawLine 92 = .ok (.iconst 2, 1) := dc_5 (by decide +kernel)
theorem d_MO_lawLine_93 : decode b_MO_lawLine 93 = .ok (.iload_n 1, 1) := dc_27 (by decide +kernel)
theorem d_MO_lawLine_94 : decode b_MO_lawLine 94 = .ok (.iadd, 1) := dc_96 (by decide +kernel)
theorem d_MO_lawLine_95 : decode b_MO_lawLine 95 = .ok (.aload_n 0, 1) := dc_42 (by decide +kernel)
theorem d_MO_lawLine_96 : decode b_MO_lawLine 96 = .ok (.bipush 8, 2) := dc_16 (by decide +kernel)
theorem d_MO_lawLine_98 : decode b_MO_lawLine 98 = .ok (.invokevirtual 222, 3) := dc_182 (by decide +kernel)
theorem d_MO_lawLine_101 : decode b_MO_lawLine 101 = .ok (.iastore, 1) := dc_79 (by decide +kernel)
theorem d_MO_lawLine_102 : decode b_MO_lawLine 102 = .ok (.aload_n 0, 1) := dc_42 (by decide +kernel)
theorem d_MO_lawLine_103 : decode b_MO_lawLine 103 = .ok (.invokevirtual 276, 3) := dc_182 (by decide +kernel)
theorem d_MO_lawLine_106 : decode b_MO_lawLine 106 = .ok (.aload_n 0, 1) := dc_42 (by decide +kernel)
theorem d_MO_lawLine_107 : decode b_MO_lawLine 107 = .ok (.getfield 47, 3) := dc_180 (by decide +kernel)
theorem d_MO_lawLine_110 : decode b_MO_lawLine 110 = .ok (.iconst 2, 1) := dc_5 (by decide +kernel)
theorem d_MO_lawLine_111 : decode b_MO_lawLine 111 = .ok (.iload_n 1, 1) := dc_27 (by decide +kernel)
theorem d_MO_lawLine_112 : decode b_MO_lawLine 112 = .ok (.iadd, 1) := dc_96 (by decide +kernel)
theorem d_MO_lawLine_113 : decode b_MO_lawLine 113 = .ok (.aload_n 0, 1) := dc_42 (by decide +kernel)
theorem d_MO_lawLine_114 : decode b_MO_lawLine 114 = .ok (.bipush 8, 2) := dc_16 (by decide +kernel)
theorem d_MO_lawLine_116 : decode b_MO_lawLine 116 = .ok (.invokevirtual 222, 3) := dc_182 (by decide +kernel)
theorem d_MO_lawLine_119 : decode b_MO_lawLine 119 = .ok (.iastore, 1) := dc_79 (by decide +kernel)
theorem d_MO_lawLine_120 : decode b_MO_lawLine 120 = .ok (.return_, 1) := dc_177 (by decide +kernel)
def t_MO_lawLine_L61   (M : Mem) (v1_ : Int) : Option (Mem) := (if (M.1 191 24) = 0 then (qlet (setI M 191 17 (q_or (M.1 191 17) (q_shl 1 (w32 (10 + v1_))))) fun M20 => (obind (t_MO_token M20) fun q21 => (obind (t_MO_fresher q21 8) fun q23 => (qguard (0 ≤ (w32 (2 + v1_)) ∧ (w32 (2 + v1_)) < 4) (qlet (setI q21 203 (w32 (2 + v1_)) q23) fun M26 => (obind (t_MO_expression M26) fun q27 => (obind (t_MO_fresher q27 8) fun q29 => (qguard (0 ≤ (w32 (2 + v1_)) ∧ (w32 (2 + v1_)) < 4) (qlet (setI q27 204 (w32 (2 + v1_)) q29) fun M32 => (some M32)))))))))) else (some M))
def t_MO_lawLine_L30   (M : Mem)  : Option (Mem) := (if (M.1 191 24) = 0 then (qlet (t_MO_isTold M (w32 (10 + (w32 ((M.1 191 23) - 13))))) fun q12 => (if q12 = 0 then (t_MO_lawLine_L61 M (w32 ((M.1 191 23) - 13))) else (qlet (t_MO_wrong M 3) fun q15 => (t_MO_lawLine_L61 q15 (w32 ((M.1 191 23) - 13)))))) else (t_MO_lawLine_L61 M (w32 ((M.1 191 23) - 13))))
def t_MO_lawLine_L25   (M : Mem)  : Option (Mem) := (qlet (t_MO_wrong M 1) fun q7 => (t_MO_lawLine_L30 q7))
def t_MO_lawLine (M : Mem)  : Option (Mem) := (if (M.1 191 22) = 0 then (if (M.1 191 23) = 13 then (t_MO_lawLine_L30 M) else (if (M.1 191 23) = 14 then (t_MO_lawLine_L30 M) else (t_MO_lawLine_L25 M))) else (t_MO_lawLine_L25 M))
set_option maxHeartbeats 4000000 in
set_option maxRecDepth 100000 in
theorem k_MO_lawLine_L61 (l : Launch) {p : Program} {e : Env} {s : State} {m : MethodId} {below : List Frame} {meth : Method} {c : Code} {b n : Nat} {C : CT} (hlo : 231 ≤ n)   (F : Cx b p m c b_MO_lawLine 2 s ([.ref (b + 191)] : List Value).toArray "WardFallsModel" C n 231) (hlk : meth.locks = false) (hr : meth.sig.returnType = none) {res : Mem} (M : Mem) (v1_ : Int) (hv1_ : InR v1_) (H : Heap) (locs : List Loc) (ls : Array Slot) (hS : St b C n M s H locs) (hl : lv_has ls 2 [(0, .ref (b + 191)), (1, vI v1_)]) (hT : t_MO_lawLine_L61 M v1_ = some res) : W p l e (headSpec (wsM y_MO_lawLine b_MO_lawLine 2 (none)) (rmD 241)).room s m ([.ref (b + 191)] : List Value).toArray below meth c H locs 0 0 (MQ below (QV b C n res) ([.ref (b + 191)] : List Value).toArray s 0 0 (frb b)) (F0 m 61 ls []) := by
  unfold t_MO_lawLine_L61 at hT
  refine lv_aload_n F.hx F.hb d_MO_lawLine_61 rfl (lv_at hl 0 rfl) ?_
  refine r_get (v := vI (M.1 191 24)) (N := 68) (T := T1) (j := 24) F hS (show 191 < 231 by decide) (show shK 191 = 5 from rfl) (show shN 191 = 68 from rfl) rfl (Nat.le_of_ble_eq_true rfl) ing1 mw_1413 (fv_int rfl) d_MO_lawLine_62 ?_
  have i17 := hS.rng 191 24
  refine r_if_eq (tgt := 69) F.hx F.hb i17 d_MO_lawLine_65 (by decide) (fun c18 => ?_) (fun c18 => ?_)
  · replace hT := (if_pos c18).symm.trans hT
    refine lv_aload_n F.hx F.hb d_MO_lawLine_69 rfl (lv_at hl 0 rfl) ?_
    refine lv_dup F.hx F.hb d_MO_lawLine_70 rfl ?_
    refine r_get (v := vI (M.1 191 17)) (N := 68) (T := T1) (j := 17) F hS (show 191 < 231 by decide) (show shK 191 = 5 from rfl) (show shN 191 = 68 from rfl) rfl (Nat.le_of_ble_eq_true rfl) ing1 mw_1406 (fv_int rfl) d_MO_lawLine_71 ?_
    have i19 := hS.rng 191 17
    refine r_iconst F.hx F.hb d_MO_lawLine_74 ?_
    refine r_bipush F.hx F.hb d_MO_lawLine_75 rfl ?_
    refine lv_iload_n F.hx F.hb d_MO_lawLine_77 rfl (lv_at hl 1 rfl) ?_
    refine r_iadd F.hx F.hb d_MO_lawLine_78 ?_
    refine r_ishl F.hx F.hb d_MO_lawLine_79 ?_
    refine r_ior F.hx F.hb d_MO_lawLine_80 ?_
    refine r_putI (N := 68) (T := T1) (j := 17) F hS (show 191 < 231 by decide) (show shK 191 = 5 from rfl) (show shN 191 = 68 from rfl) rfl (Nat.le_of_ble_eq_true rfl) ing1 tyok1 nm1 rfl rfl rfl rfl rfl rfl mw_1406 (q_inr_toInt _) d_MO_lawLine_81 (fun H locs hS => ?_)
    obtain ⟨M20, eM20⟩ : ∃ q, q = (setI M 191 17 (q_or (M.1 191 17) (q_shl 1 (w32 (10 + v1_))))) := ⟨_, rfl⟩
    replace hS : St b C n M20 s H locs := by rw [eM20]; exact hS
    replace hT := qlet_eq hT eM20
    refine lv_aload_n F.hx F.hb d_MO_lawLine_84 rfl (lv_at hl 0 rfl) ?_
    obtain ⟨q21, hq21, hT⟩ := q_obind hT
    refine r_backV F hS (r_runV (k := 191) (N := 68) (T := T1) (As := []) F hS (show 191 < 231 by decide) (show shK 191 = 5 from rfl) rfl (c_MO_token l F.2.2.1 M20 _ hq21) gs_MO_205 hd_MO_token ⟨Nat.le_of_ble_eq_true rfl, Nat.le_of_ble_eq_true rfl⟩ rfl hl.1 (Nat.le_of_ble_eq_true rfl) ⟨Nat.zero_le _, Nat.zero_le _⟩ rfl d_MO_lawLine_85) (fun H locs hS => ?_)
    refine lv_aload_n F.hx F.hb d_MO_lawLine_88 rfl (lv_at hl 0 rfl) ?_
    refine r_get (v := .ref (b + 203)) (N := 68) (T := T1) (j := 13) F hS (show 191 < 231 by decide) (show shK 191 = 5 from rfl) (show shN 191 = 68 from rfl) rfl (Nat.le_of_ble_eq_true rfl) ing1 mw_1402 (fv_sg rfl rfl rfl) d_MO_lawLine_89 ?_
    refine r_iconst F.hx F.hb d_MO_lawLine_92 ?_
    refine lv_iload_n F.hx F.hb d_MO_lawLine_93 rfl (lv_at hl 1 rfl) ?_
    refine r_iadd F.hx F.hb d_MO_lawLine_94 ?_
    refine lv_aload_n F.hx F.hb d_MO_lawLine_95 rfl (lv_at hl 0 rfl) ?_
    refine r_bipush F.hx F.hb d_MO_lawLine_96 rfl ?_
    obtain ⟨q23, hq23, hT⟩ := q_obind hT
    refine r_backI F hS (r_runV (k := 191) (N := 68) (T := T1) (As := [vI 8]) F hS (show 191 < 231 by decide) (show shK 191 = 5 from rfl) rfl (c_MO_fresher l F.2.2.1 q21 8 (inr_c rfl) _ hq23) gs_MO_222 hd_MO_fresher ⟨Nat.le_of_ble_eq_true rfl, Nat.le_of_ble_eq_true rfl⟩ rfl hl.1 (Nat.le_of_ble_eq_true rfl) ⟨Nat.zero_le _, Nat.zero_le _⟩ rfl d_MO_lawLine_98) (fun H locs hS h24 => ?_)
    obtain ⟨⟨g25a, g25b⟩, hT⟩ := q_guard hT
    refine r_iast F hS (show 203 < 231 by decide) (show shK 203 = 0 from rfl) (show shN 203 = 4 from rfl) (inr_w32 _) h24 g25a g25b d_MO_lawLine_101 (fun H locs hS => ?_)
    obtain ⟨M26, eM26⟩ : ∃ q, q = (setI q21 203 (w32 (2 + v1_)) q23) := ⟨_, rfl⟩
    replace hS : St b C n M26 s H locs := by rw [eM26]; exact hS
    replace hT := qlet_eq hT eM26
    refine lv_aload_n F.hx F.hb d_MO_lawLine_102 rfl (lv_at hl 0 rfl) ?_
    obtain ⟨q27, hq27, hT⟩ := q_obind hT
    refine r_backV F hS (r_runV (k := 191) (N := 68) (T := T1) (As := []) F hS (show 191 < 231 by decide) (show shK 191 = 5 from rfl) rfl (c_MO_expression l F.2.2.1 M26 _ hq27) gs_MO_276 hd_MO_expression ⟨Nat.le_of_ble_eq_true rfl, Nat.le_of_ble_eq_true rfl⟩ rfl hl.1 (Nat.le_of_ble_eq_true rfl) ⟨Nat.zero_le _, Nat.zero_le _⟩ rfl d_MO_lawLine_103) (fun H locs hS => ?_)
    refine lv_aload_n F.hx F.hb d_MO_lawLine_106 rfl (lv_at hl 0 rfl) ?_
    refine r_get (v := .ref (b + 204)) (N := 68) (T := T1) (j := 14) F hS (show 191 < 231 by decide) (show shK 191 = 5 from rfl) (show shN 191 = 68 from rfl) rfl (Nat.le_of_ble_eq_true rfl) ing1 mw_1403 (fv_sg rfl rfl rfl) d_MO_lawLine_107 ?_
    refine r_iconst F.hx F.hb d_MO_lawLine_110 ?_
    refine lv_iload_n F.hx F.hb d_MO_lawLine_111 rfl (lv_at hl 1 rfl) ?_
    refine r_iadd F.hx F.hb d_MO_lawLine_112 ?_
    refine lv_aload_n F.hx F.hb d_MO_lawLine_113 rfl (lv_at hl 0 rfl) ?_
    refine r_bipush F.hx F.hb d_MO_lawLine_114 rfl ?_
    obtain ⟨q29, hq29, hT⟩ := q_obind hT
    refine r_backI F hS (r_runV (k := 191) (N := 68) (T := T1) (As := [vI 8]) F hS (show 191 < 231 by decide) (show shK 191 = 5 from rfl) rfl (c_MO_fresher l F.2.2.1 q27 8 (inr_c rfl) _ hq29) gs_MO_222 hd_MO_fresher ⟨Nat.le_of_ble_eq_true rfl, Nat.le_of_ble_eq_true rfl⟩ rfl hl.1 (Nat.le_of_ble_eq_true rfl) ⟨Nat.zero_le _, Nat.zero_le _⟩ rfl d_MO_lawLine_116) (fun H locs hS h30 => ?_)
    obtain ⟨⟨g31a, g31b⟩, hT⟩ := q_guard hT
    refine r_iast F hS (show 204 < 231 by decide) (show shK 204 = 0 from rfl) (show shN 204 = 4 from rfl) (inr_w32 _) h30 g31a g31b d_MO_lawLine_119 (fun H locs hS => ?_)
    obtain ⟨M32, eM32⟩ : ∃ q, q = (setI q27 204 (w32 (2 + v1_)) q29) := ⟨_, rfl⟩
    replace hS : St b C n M32 s H locs := by rw [eM32]; exact hS
    replace hT := qlet_eq hT eM32
    cases hT
    exact r_vret F hlk hr hS d_MO_lawLine_120
  · replace hT := (if_neg c18).symm.trans hT
    cases hT
    exact r_vret F hlk hr hS d_MO_lawLine_68
set_option maxHeartbeats 4000000 in
set_option maxRecDepth 100000 in
theorem k_MO_lawLine_L30 (l : Launch) {p : Program} {e : Env} {s : State} {m : MethodId} {below : List Frame} {meth : Method} {c : Code} {b n : Nat} {C : CT} (hlo : 231 ≤ n)   (F : Cx b p m c b_MO_lawLine 2 s ([.ref (b + 191)] : List Value).toArray "WardFallsModel" C n 231) (hlk : meth.locks = false) (hr : meth.sig.returnType = none) {res : Mem} (M : Mem)  (H : Heap) (locs : List Loc) (ls : Array Slot) (hS : St b C n M s H locs) (hl : lv_has ls 2 [(0, .ref (b + 191))]) (hT : t_MO_lawLine_L30 M = some res) : W p l e (headSpec (wsM y_MO_lawLine b_MO_lawLine 2 (none)) (rmD 241)).room s m ([.ref (b + 191)] : List Value).toArray below meth c H locs 0 0 (MQ below (QV b C n res) ([.ref (b + 191)] : List Value).toArray s 0 0 (frb b)) (F0 m 30 ls []) := by
  unfold t_MO_lawLine_L30 at hT
  refine lv_aload_n F.hx F.hb d_MO_lawLine_30 rfl (lv_at hl 0 rfl) ?_
  refine r_get (v := vI (M.1 191 23)) (N := 68) (T := T1) (j := 23) F hS (show 191 < 231 by decide) (show shK 191 = 5 from rfl) (show shN 191 = 68 from rfl) rfl (Nat.le_of_ble_eq_true rfl) ing1 mw_1412 (fv_int rfl) d_MO_lawLine_31 ?_
  have i9 := hS.rng 191 23
  refine r_bipush F.hx F.hb d_MO_lawLine_34 rfl ?_
  refine r_isub F.hx F.hb d_MO_lawLine_36 ?_
  refine lv_istore_n (lv' := [(1, vI (w32 ((M.1 191 23) - 13))), (0, .ref (b + 191))]) F.hx F.hb d_MO_lawLine_37 rfl hl (Nat.le_of_ble_eq_true rfl) rfl (fun ls hl => ?_)
  refine lv_aload_n F.hx F.hb d_MO_lawLine_38 rfl (lv_at hl 1 rfl) ?_
  refine r_get (v := vI (M.1 191 24)) (N := 68) (T := T1) (j := 24) F hS (show 191 < 231 by decide) (show shK 191 = 5 from rfl) (show shN 191 = 68 from rfl) rfl (Nat.le_of_ble_eq_true rfl) ing1 mw_1413 (fv_int rfl) d_MO_lawLine_39 ?_
  have i10 := hS.rng 191 24
  refine r_if_ne (tgt := 61) F.hx F.hb i10 d_MO_lawLine_42 (by decide) (fun c11 => ?_) (fun c11 => ?_)
  · replace hT := (if_neg c11).symm.trans hT
    exact k_MO_lawLine_L61 l hlo F hlk hr M (w32 ((M.1 191 23) - 13)) (inr_w32 _) _ _ _ hS (lv_sub hl [1, 0] rfl) hT
  · replace hT := (if_pos c11).symm.trans hT
    refine lv_aload_n F.hx F.hb d_MO_lawLine_45 rfl (lv_at hl 1 rfl) ?_
    refine r_bipush F.hx F.hb d_MO_lawLine_46 rfl ?_
    refine lv_iload_n F.hx F.hb d_MO_lawLine_48 rfl (lv_at hl 0 rfl) ?_
    refine r_iadd F.hx F.hb d_MO_lawLine_49 ?_
    obtain ⟨q12, hq12⟩ : ∃ q, q = (t_MO_isTold M (w32 (10 + (w32 ((M.1 191 23) - 13))))) := ⟨_, rfl⟩
    replace hT := qlet_eq hT hq12
    refine r_backZ F hS (r_runV (k := 191) (N := 68) (T := T1) (As := [vI (w32 (10 + (w32 ((M.1 191 23) - 13))))]) F hS (show 191 < 231 by decide) (show shK 191 = 5 from rfl) rfl (c_MO_isTold l F.2.2.1 M (w32 (10 + (w32 ((M.1 191 23) - 13)))) (inr_w32 _) _ hq12.symm) gs_MO_235 hd_MO_isTold ⟨Nat.le_of_ble_eq_true rfl, Nat.le_of_ble_eq_true rfl⟩ rfl hl.1 (Nat.le_of_ble_eq_true rfl) ⟨Nat.zero_le _, Nat.zero_le _⟩ rfl d_MO_lawLine_50) (fun H locs hS h13 => ?_)
    refine r_if_eq (tgt := 61) F.hx F.hb (inr_z h13) d_MO_lawLine_53 (by decide) (fun c14 => ?_) (fun c14 => ?_)
    · replace hT := (if_pos c14).symm.trans hT
      exact k_MO_lawLine_L61 l hlo F hlk hr M (w32 ((M.1 191 23) - 13)) (inr_w32 _) _ _ _ hS (lv_sub hl [1, 0] rfl) hT
    · replace hT := (if_neg c14).symm.trans hT
      refine lv_aload_n F.hx F.hb d_MO_lawLine_56 rfl (lv_at hl 1 rfl) ?_
      refine r_iconst F.hx F.hb d_MO_lawLine_57 ?_
      obtain ⟨q15, hq15⟩ : ∃ q, q = (t_MO_wrong M 3) := ⟨_, rfl⟩
      replace hT := qlet_eq hT hq15
      refine r_backV F hS (r_runV (k := 191) (N := 68) (T := T1) (As := [vI 3]) F hS (show 191 < 231 by decide) (show shK 191 = 5 from rfl) rfl (c_MO_wrong l F.2.2.1 M 3 (inr_c rfl) _ hq15.symm) gs_MO_208 hd_MO_wrong ⟨Nat.le_of_ble_eq_true rfl, Nat.le_of_ble_eq_true rfl⟩ rfl hl.1 (Nat.le_of_ble_eq_true rfl) ⟨Nat.zero_le _, Nat.zero_le _⟩ rfl d_MO_lawLine_58) (fun H locs hS => ?_)
      exact k_MO_lawLine_L61 l hlo F hlk hr q15 (w32 ((M.1 191 23) - 13)) (inr_w32 _) _ _ _ hS (lv_sub hl [1, 0] rfl) hT
set_option maxHeartbeats 4000000 in
set_option maxRecDepth 100000 in
theorem k_MO_lawLine_L25 (l : Launch) {p : Program} {e : Env} {s : State} {m : MethodId} {below : List Frame} {meth : Method} {c : Code} {b n : Nat} {C : CT} (hlo : 231 ≤ n)   (F : Cx b p m c b_MO_lawLine 2 s ([.ref (b + 191)] : List Value).toArray "WardFallsModel" C n 231) (hlk : meth.locks = false) (hr : meth.sig.returnType = none) {res : Mem} (M : Mem)  (H : Heap) (locs : List Loc) (ls : Array Slot) (hS : St b C n M s H locs) (hl : lv_has ls 2 [(0, .ref (b + 191))]) (hT : t_MO_lawLine_L25 M = some res) : W p l e (headSpec (wsM y_MO_lawLine b_MO_lawLine 2 (none)) (rmD 241)).room s m ([.ref (b + 191)] : List Value).toArray below meth c H locs 0 0 (MQ below (QV b C n res) ([.ref (b + 191)] : List Value).toArray s 0 0 (frb b)) (F0 m 25 ls []) := by
  unfold t_MO_lawLine_L25 at hT
  refine lv_aload_n F.hx F.hb d_MO_lawLine_25 rfl (lv_at hl 0 rfl) ?_
  refine r_iconst F.hx F.hb d_MO_lawLine_26 ?_
  obtain ⟨q7, hq7⟩ : ∃ q, q = (t_MO_wrong M 1) := ⟨_, rfl⟩
  replace hT := qlet_eq hT hq7
  refine r_backV F hS (r_runV (k := 191) (N := 68) (T := T1) (As := [vI 1]) F hS (show 191 < 231 by decide) (show shK 191 = 5 from rfl) rfl (c_MO_wrong l F.2.2.1 M 1 (inr_c rfl) _ hq7.symm) gs_MO_208 hd_MO_wrong ⟨Nat.le_of_ble_eq_true rfl, Nat.le_of_ble_eq_true rfl⟩ rfl hl.1 (Nat.le_of_ble_eq_true rfl) ⟨Nat.zero_le _, Nat.zero_le _⟩ rfl d_MO_lawLine_27) (fun H locs hS => ?_)
  exact k_MO_lawLine_L30 l hlo F hlk hr q7 _ _ _ hS (lv_sub hl [0] rfl) hT
set_option maxHeartbeats 4000000 in
set_option maxRecDepth 100000 in
theorem c_MO_lawLine (l : Launch) {b n : Nat} {C : CT} (hlo : 231 ≤ n) (M : Mem)   (res : Mem) (hT : t_MO_lawLine M  = some res) : CM l b C n 241 y_MO_lawLine b_MO_lawLine 2 (none) [.ref (b + 191)] M (QV b C n res) := by
  refine CM.of (lo := 231) (ow := "WardFallsModel") (by decide) rfl (Nat.le_of_ble_eq_true rfl) hlo (fun p e s m below meth c F hlk hr hS ls hl => ?_)
  have hl : lv_has ls 2 [(0, .ref (b + 191))] := hl
  unfold t_MO_lawLine at hT
  refine lv_aload_n F.hx F.hb d_MO_lawLine_0 rfl (lv_at hl 0 rfl) ?_
  refine r_get (v := vI (M.1 191 22)) (N := 68) (T := T1) (j := 22) F hS (show 191 < 231 by decide) (show shK 191 = 5 from rfl) (show shN 191 = 68 from rfl) rfl (Nat.le_of_ble_eq_true rfl) ing1 mw_1411 (fv_int rfl) d_MO_lawLine_1 ?_
  have i1 := hS.rng 191 22
  refine r_if_ne (tgt := 25) F.hx F.hb i1 d_MO_lawLine_4 (by decide) (fun c2 => ?_) (fun c2 => ?_)
  · replace hT := (if_neg c2).symm.trans hT
    exact k_MO_lawLine_L25 l hlo F hlk hr M _ _ _ hS (lv_sub hl [0] rfl) hT
  · replace hT := (if_pos c2).symm.trans hT
    refine lv_aload_n F.hx F.hb d_MO_lawLine_7 rfl (lv_at hl 0 rfl) ?_
    refine r_get (v := vI (M.1 191 23)) (N := 68) (T := T1) (j := 23) F hS (show 191 < 231 by decide) (show shK 191 = 5 from rfl) (show shN 191 = 68 from rfl) rfl (Nat.le_of_ble_eq_true rfl) ing1 mw_1412 (fv_int rfl) d_MO_lawLine_8 ?_
    have i3 := hS.rng 191 23
    refine r_bipush F.hx F.hb d_MO_lawLine_11 rfl ?_
    refine r_icmp_eq (tgt := 30) F.hx F.hb i3 (inr_c rfl) d_MO_lawLine_13 (by decide) (fun c4 => ?_) (fun c4 => ?_)
    · replace hT := (if_pos c4).symm.trans hT
      exact k_MO_lawLine_L30 l hlo F hlk hr M _ _ _ hS (lv_sub hl [0] rfl) hT
    · replace hT := (if_neg c4).symm.trans hT
      refine lv_aload_n F.hx F.hb d_MO_lawLine_16 rfl (lv_at hl 0 rfl) ?_
      refine r_get (v := vI (M.1 191 23)) (N := 68) (T := T1) (j := 23) F hS (show 191 < 231 by decide) (show shK 191 = 5 from rfl) (show shN 191 = 68 from rfl) rfl (Nat.le_of_ble_eq_true rfl) ing1 mw_1412 (fv_int rfl) d_MO_lawLine_17 ?_
      have i5 := hS.rng 191 23
      refine r_bipush F.hx F.hb d_MO_lawLine_20 rfl ?_
      refine r_icmp_eq (tgt := 30) F.hx F.hb i5 (inr_c rfl) d_MO_lawLine_22 (by decide) (fun c6 => ?_) (fun c6 => ?_)
      · replace hT := (if_pos c6).symm.trans hT
        exact k_MO_lawLine_L30 l hlo F hlk hr M _ _ _ hS (lv_sub hl [0] rfl) hT
      · replace hT := (if_neg c6).symm.trans hT
        exact k_MO_lawLine_L25 l hlo F hlk hr M _ _ _ hS (lv_sub hl [0] rfl) hT
theorem wn_MO_line_0 : ∀ i, i < 94 → bA b_MO_line (0 + i) = wB [42, 180, 0, 164, 154, 0, 12, 42, 180, 0, 174, 16, 7, 164, 0, 9, 42, 4, 182, 0, 208, 177, 42, 180, 0, 174, 60, 42, 27, 182, 0, 232, 153, 0, 11, 42, 5, 182, 0, 208, 167, 0, 70, 27, 153, 0, 9, 27, 16, 6, 160, 0, 19, 42, 27, 182, 0, 235, 153, 0, 11, 42, 6, 182, 0, 208, 167, 0, 44, 27, 154, 0, 40, 42, 5, 182, 0, 235, 154, 0, 27, 42, 6, 182, 0, 235, 154, 0, 19, 42, 7, 182, 0, 235] i := wB_of (by decide +kernel)
theorem d_MO_line_0 : decode b_MO_line 0 = .ok (.aload_n 0, 1) := dc_42 (q0_win (r := 0) wn_MO_line_0 (by decide +kernel))
theorem d_MO_line_1 : decode b_MO_line 1 = .ok (.getfield 164, 3) := dc_180 (qU2_win (r := 1) wn_MO_line_0 (by decide +kernel))
theorem d_MO_line_4 : decode b_MO_line 4 = .ok (.ifCond .ne 12, 3) := dc_154 (qS2_win (r := 4) wn_MO_line_0 (by decide +kernel))
theorem d_MO_line_7 : decode b_MO_line 7 = .ok (.aload_n 0, 1) := dc_42 (q0_win (r := 7) wn_MO_line_0 (by decide +kernel))
theorem d_MO_line_8 : decode b_MO_line 8 = .ok (.getfield 174, 3) := dc_180 (qU2_win (r := 8) wn_MO_line_0 (by decide +kernel))
theorem d_MO_line_11 : decode b_MO_line 11 = .ok (.bipush 7, 2) := dc_16 (qS1_win (r := 11) wn_MO_line_0 (by decide +kernel))
theorem d_MO_line_13 : decode b_MO_line 13 = .ok (.if_icmp .le 9, 3) := dc_164 (qS2_win (r := 13) wn_MO_line_0 (by decide +kernel))
theorem d_MO_line_16 : decode b_MO_line 16 = .ok (.aload_n 0, 1) := dc_42 (q0_win (r := 16) wn_MO_line_0 (by decide +kernel))
theorem d_MO_line_17 : decode b_MO_line 17 = .ok (.iconst 1, 1) := dc_4 (q0_win (r := 17) wn_MO_line_0 (by decide +kernel))
theorem d_MO_line_18 : decode b_MO_line 18 = .ok (.invokevirtual 208, 3) := dc_182 (qU2_win (r := 18) wn_MO_line_0 (by decide +kernel))
theorem d_MO_line_21 : decode b_MO_line 21 = .ok (.return_, 1) := dc_177 (q0_win (r := 21) wn_MO_line_0 (by decide +kernel))
theorem d_MO_line_22 : decode b_MO_line 22 = .ok (.aload_n 0, 1) := dc_42 (q0_win (r := 22) wn_MO_line_0 (by decide +kernel))
theorem d_MO_line_23 : decode b_MO_line 23 = .ok (.getfield 174, 3) := dc_180 (qU2_win (r := 23) wn_MO_line_0 (by decide +kernel))
theorem d_MO_line_26 : decode b_MO_line 26 = .ok (.istore_n 1, 1) := dc_60 (q0_win (r := 26) wn_MO_line_0 (by decide +kernel))
theorem d_MO_line_27 : decode b_MO_line 27 = .ok (.aload_n 0, 1) := dc_42 (q0_win (r := 27) wn_MO_line_0 (by decide +kernel))
theorem d_MO_line_28 : decode b_MO_line 28 = .ok (.iload_n 1, 1) := dc_27 (q0_win (r := 28) wn_MO_line_0 (by decide +kernel))
theorem d_MO_line_29 : decode b_MO_line 29 = .ok (.invokevirtual 232, 3) := dc_182 (qU2_win (r := 29) wn_MO_line_0 (by decide +kernel))
theorem d_MO_line_32 : decode b_MO_line 32 = .ok (.ifCond .eq 11, 3) := dc_153 (qS2_win (r := 32) wn_MO_line_0 (by decide +kernel))
theorem d_MO_line_35 : decode b_MO_line 35 = .ok (.aload_n 0, 1) := dc_42 (q0_win (r := 35) wn_MO_line_0 (by decide +kernel))
theorem d_MO_line_36 : decode b_MO_line 36 = .ok (.iconst 2, 1) := dc_5 (q0_win (r := 36) wn_MO_line_0 (by decide +kernel))
theorem d_MO_line_37 : decode b_MO_line 37 = .ok (.invokevirtual 208, 3) := dc_182 (qU2_win (r := 37) wn_MO_line_0 (by decide +kernel))
theorem d_MO_line_40 : decode b_MO_line 40 = .ok (.goto 70, 3) := dc_167 (qS2_win (r := 40) wn_MO_line_0 (by decide +kernel))
theorem d_MO_line_43 : decode b_MO_line 43 = .ok (.iload_n 1, 1) := dc_27 (q0_win (r := 43) wn_MO_line_0 (by decide +kernel))
theorem d_MO_line_44 : decode b_MO_line 44 = .ok (.ifCond .eq 9, 3) := dc_153 (qS2_win (r := 44) wn_MO_line_0 (by decide +kernel))
theorem d_MO_line_47 : decode b_MO_line 47 = .ok (.iload_n 1, 1) := dc_27 (q0_win (r := 47) wn_MO_line_0 (by decide +kernel))
theorem d_MO_line_48 : decode b_MO_line 48 = .ok (.bipush 6, 2) := dc_16 (qS1_win (r := 48) wn_MO_line_0 (by decide +kernel))
theorem d_MO_line_50 : decode b_MO_line 50 = .ok (.if_icmp .ne 19, 3) := dc_160 (qS2_win (r := 50) wn_MO_line_0 (by decide +kernel))
theorem d_MO_line_53 : decode b_MO_line 53 = .ok (.aload_n 0, 1) := dc_42 (q0_win (r := 53) wn_MO_line_0 (by decide +kernel))
theorem d_MO_line_54 : decode b_MO_line 54 = .ok (.iload_n 1, 1) := dc_27 (q0_win (r := 54) wn_MO_line_0 (by decide +kernel))
theorem d_MO_line_55 : decode b_MO_line 55 = .ok (.invokevirtual 235, 3) := dc_182 (qU2_win (r := 55) wn_MO_line_0 (by decide +kernel))
theorem d_MO_line_58 : decode b_MO_line 58 = .ok (.ifCond .eq 11, 3) := dc_153 (qS2_win (r := 58) wn_MO_line_0 (by decide +kernel))
theorem d_MO_line_61 : decode b_MO_line 61 = .ok (.aload_n 0, 1) := dc_42 (q0_win (r := 61) wn_MO_line_0 (by decide +kernel))
theorem d_MO_line_62 : decode b_MO_line 62 = .ok (.iconst 3, 1) := dc_6 (q0_win (r := 62) wn_MO_line_0 (by decide +kernel))
theorem d_MO_line_63 : decode b_MO_line 63 = .ok (.invokevirtual 208, 3) := dc_182 (qU2_win (r := 63) wn_MO_line_0 (by decide +kernel))
theorem d_MO_line_66 : decode b_MO_line 66 = .ok (.goto 44, 3) := dc_167 (qS2_win (r := 66) wn_MO_line_0 (by decide +kernel))
theorem d_MO_line_69 : decode b_MO_line 69 = .ok (.iload_n 1, 1) := dc_27 (q0_win (r := 69) wn_MO_line_0 (by decide +kernel))
theorem d_MO_line_70 : decode b_MO_line 70 = .ok (.ifCond .ne 40, 3) := dc_154 (qS2_win (r := 70) wn_MO_line_0 (by decide +kernel))
theorem d_MO_line_73 : decode b_MO_line 73 = .ok (.aload_n 0, 1) := dc_42 (q0_win (r := 73) wn_MO_line_0 (by decide +kernel))
theorem d_MO_line_74 : decode b_MO_line 74 = .ok (.iconst 2, 1) := dc_5 (q0_win (r := 74) wn_MO_line_0 (by decide +kernel))
theorem d_MO_line_75 : decode b_MO_line 75 = .ok (.invokevirtual 235, 3) := dc_182 (qU2_win (r := 75) wn_MO_line_0 (by decide +kernel))
theorem d_MO_line_78 : decode b_MO_line 78 = .ok (.ifCond .ne 27, 3) := dc_154 (qS2_win (r := 78) wn_MO_line_0 (by decide +kernel))
theorem d_MO_line_81 : decode b_MO_line 81 = .ok (.aload_n 0, 1) := dc_42 (q0_win (r := 81) wn_MO_line_0 (by decide +kernel))
theorem d_MO_line_82 : decode b_MO_line 82 = .ok (.iconst 3, 1) := dc_6 (q0_win (r := 82) wn_MO_line_0 (by decide +kernel))
theorem d_MO_line_83 : decode b_MO_line 83 = .ok (.invokevirtual 235, 3) := dc_182 (qU2_win (r := 83) wn_MO_line_0 (by decide +kernel))
theorem d_MO_line_86 : decode b_MO_line 86 = .ok (.ifCond .ne 19, 3) := dc_154 (qS2_win (r := 86) wn_MO_line_0 (by decide +kernel))
theorem d_MO_line_89 : decode b_MO_line 89 = .ok (.aload_n 0, 1) := dc_42 (q0_win (r := 89) wn_MO_line_0 (by decide +kernel))
theorem d_MO_line_90 : decode b_MO_line 90 = .ok (.iconst 4, 1) := dc_7 (q0_win (r := 90) wn_MO_line_0 (by decide +kernel))
theorem d_MO_line_91 : decode b_MO_line 91 = .ok (.invokevirtual 235, 3) := dc_182 (qU2_win (r := 91) wn_MO_line_0 (by decide +kernel))
theorem wn_MO_line_94 : ∀ i, i < 41 → bA b_MO_line (94 + i) = wB [154, 0, 11, 42, 8, 182, 0, 235, 153, 0, 8, 42, 7, 182, 0, 208, 42, 180, 0, 199, 153, 0, 4, 177, 42, 89, 180, 0, 229, 4, 27, 120, 128, 181, 0, 229, 42, 182, 0, 205, 27] i := wB_of (by decide +kernel)
theorem d_MO_line_94 : decode b_MO_line 94 = .ok (.ifCond .ne 11, 3) := dc_154 (qS2_win (r := 0) wn_MO_line_94 (by decide +kernel))
theorem d_MO_line_97 : decode b_MO_line 97 = .ok (.aload_n 0, 1) := dc_42 (q0_win (r := 3) wn_MO_line_94 (by decide +kernel))
theorem d_MO_line_98 : decode b_MO_line 98 = .ok (.iconst 5, 1) := dc_8 (q0_win (r := 4) wn_MO_line_94 (by decide +kernel))
theorem d_MO_line_99 : decode b_MO_line 99 = .ok (.invokevirtual 235, 3) := dc_182 (qU2_win (r := 5) wn_MO_line_94 (by decide +kernel))
theorem d_MO_line_102 : decode b_MO_line 102 = .ok (.ifCond .eq 8, 3) := dc_153 (qS2_win (r := 8) wn_MO_line_94 (by decide +kernel))
theorem d_MO_line_105 : decode b_MO_line 105 = .ok (.aload_n 0, 1) := dc_42 (q0_win (r := 11) wn_MO_line_94 (by decide +kernel))
theorem d_MO_line_106 : decode b_MO_line 106 = .ok (.iconst 4, 1) := dc_7 (q0_win (r := 12) wn_MO_line_94 (by decide +kernel))
theorem d_MO_line_107 : decode b_MO_line 107 = .ok (.invokevirtual 208, 3) := dc_182 (qU2_win (r := 13) wn_MO_line_94 (by decide +kernel))
theorem d_MO_line_110 : decode b_MO_line 110 = .ok (.aload_n 0, 1) := dc_42 (q0_win (r := 16) wn_MO_line_94 (by decide +kernel))
theorem d_MO_line_111 : decode b_MO_line 111 = .ok (.getfield 199, 3) := dc_180 (qU2_win (r := 17) wn_MO_line_94 (by decide +kernel))
theorem d_MO_line_114 : decode b_MO_line 114 = .ok (.ifCond .eq 4, 3) := dc_153 (qS2_win (r := 20) wn_MO_line_94 (by decide +kernel))
theorem d_MO_line_117 : decode b_MO_line 117 = .ok (.return_, 1) := dc_177 (q0_win (r := 23) wn_MO_line_94 (by decide +kernel))
theorem d_MO_line_118 : decode b_MO_line 118 = .ok (.aload_n 0, 1) := dc_42 (q0_win (r := 24) wn_MO_line_94 (by decide +kernel))
theorem d_MO_line_119 : decode b_MO_line 119 = .ok (.dup, 1) := dc_89 (q0_win (r := 25) wn_MO_line_94 (by decide +kernel))
theorem d_MO_line_120 : decode b_MO_line 120 = .ok (.getfield 229, 3) := dc_180 (qU2_win (r := 26) wn_MO_line_94 (by decide +kernel))
theorem d_MO_line_123 : decode b_MO_line 123 = .ok (.iconst 1, 1) := dc_4 (q0_win (r := 29) wn_MO_line_94 (by decide +kernel))
theorem d_MO_line_124 : decode b_MO_line 124 = .ok (.iload_n 1, 1) := dc_27 (q0_win (r := 30) wn_MO_line_94 (by decide +kernel))
theorem d_MO_line_125 : decode b_MO_line 125 = .ok (.ishl, 1) := dc_120 (q0_win (r := 31) wn_MO_line_94 (by decide +kernel))
theorem d_MO_line_126 : decode b_MO_line 126 = .ok (.ior, 1) := dc_128 (q0_win (r := 32) wn_MO_line_94 (by decide +kernel))
theorem d_MO_line_127 : decode b_MO_line 127 = .ok (.putfield 229, 3) := dc_181 (qU2_win (r := 33) wn_MO_line_94 (by decide +kernel))
theorem d_MO_line_130 : decode b_MO_line 130 = .ok (.aload_n 0, 1) := dc_42 (q0_win (r := 36) wn_MO_line_94 (by decide +kernel))
theorem d_MO_line_131 : decode b_MO_line 131 = .ok (.invokevirtual 205, 3) := dc_182 (qU2_win (r := 37) wn_MO_line_94 (by decide +kernel))
theorem d_MO_line_134 : decode b_MO_line 134 = .ok (.iload_n 1, 1) := dc_27 (q0_win (r := 40) wn_MO_line_94 (by decide +kernel))
theorem d_MO_line_135 : decode b_MO_line 135 = .ok (.tableswitch 135 0 6 #[41, 68, 82, 89, 96, 103, 119], 41) := by decide +kernel
theorem wn_MO_line_176 : ∀ i, i < 95 → bA b_MO_line (176 + i) = wB [42, 3, 42, 4, 16, 8, 182, 0, 226, 182, 0, 238, 42, 4, 42, 4, 16, 6, 182, 0, 226, 182, 0, 238, 167, 0, 74, 42, 7, 42, 5, 182, 0, 222, 96, 182, 0, 242, 167, 0, 60, 42, 182, 0, 245, 167, 0, 53, 42, 182, 0, 248, 167, 0, 46, 42, 182, 0, 251, 167, 0, 39, 42, 16, 8, 42, 16, 6, 182, 0, 222, 96, 182, 0, 254, 167, 0, 23, 42, 16, 7, 42, 3, 18, 183, 182, 0, 226, 182, 0, 238, 167, 0, 7, 42] i := wB_of (by decide +kernel)
theorem d_MO_line_176 : decode b_MO_line 176 = .ok (.aload_n 0, 1) := dc_42 (q0_win (r := 0) wn_MO_line_176 (by decide +kernel))
theorem d_MO_line_177 : decode b_MO_line 177 = .ok (.iconst 0, 1) := dc_3 (q0_win (r := 1) wn_MO_line_176 (by decide +kernel))
theorem d_MO_line_178 : decode b_MO_line 178 = .ok (.aload_n 0, 1) := dc_42 (q0_win (r := 2) wn_MO_line_176 (by decide +kernel))
theorem d_MO_line_179 : decode b_MO_line 179 = .ok (.iconst 1, 1) := dc_4 (q0_win (r := 3) wn_MO_line_176 (by decide +kernel))
theorem d_MO_line_180 : decode b_MO_line 180 = .ok (.bipush 8, 2) := dc_16 (qS1_win (r := 4) wn_MO_line_176 (by decide +kernel))
theorem d_MO_line_182 : decode b_MO_line 182 = .ok (.invokevirtual 226, 3) := dc_182 (qU2_win (r := 6) wn_MO_line_176 (by decide +kernel))
theorem d_MO_line_185 : decode b_MO_line 185 = .ok (.invokevirtual 238, 3) := dc_182 (qU2_win (r := 9) wn_MO_line_176 (by decide +kernel))
theorem d_MO_line_188 : decode b_MO_line 188 = .ok (.aload_n 0, 1) := dc_42 (q0_win (r := 12) wn_MO_line_176 (by decide +kernel))
theorem d_MO_line_189 : decode b_MO_line 189 = .ok (.iconst 1, 1) := dc_4 (q0_win (r := 13) wn_MO_line_176 (by decide +kernel))
theorem d_MO_line_190 : decode b_MO_line 190 = .ok (.aload_n 0, 1) := dc_42 (q0_win (r := 14) wn_MO_line_176 (by decide +kernel))
theorem d_MO_line_191 : decode b_MO_line 191 = .ok (.iconst 1, 1) := dc_4 (q0_win (r := 15) wn_MO_line_176 (by decide +kernel))
theorem d_MO_line_192 : decode b_MO_line 192 = .ok (.bipush 6, 2) := dc_16 (qS1_win (r := 16) wn_MO_line_176 (by decide +kernel))
theorem d_MO_line_194 : decode b_MO_line 194 = .ok (.invokevirtual 226, 3) := dc_182 (qU2_win (r := 18) wn_MO_line_176 (by decide +kernel))
theorem d_MO_line_197 : decode b_MO_line 197 = .ok (.invokevirtual 238, 3) := dc_182 (qU2_win (r := 21) wn_MO_line_176 (by decide +kernel))
theorem d_MO_line_200 : decode b_MO_line 200 = .ok (.goto 74, 3) := dc_167 (qS2_win (r := 24) wn_MO_line_176 (by decide +kernel))
theorem d_MO_line_203 : decode b_MO_line 203 = .ok (.aload_n 0, 1) := dc_42 (q0_win (r := 27) wn_MO_line_176 (by decide +kernel))
theorem d_MO_line_204 : decode b_MO_line 204 = .ok (.iconst 4, 1) := dc_7 (q0_win (r := 28) wn_MO_line_176 (by decide +kernel))
theorem d_MO_line_205 : decode b_MO_line 205 = .ok (.aload_n 0, 1) := dc_42 (q0_win (r := 29) wn_MO_line_176 (by decide +kernel))
theorem d_MO_line_206 : decode b_MO_line 206 = .ok (.iconst 2, 1) := dc_5 (q0_win (r := 30) wn_MO_line_176 (by decide +kernel))
theorem d_MO_line_207 : decode b_MO_line 207 = .ok (.invokevirtual 222, 3) := dc_182 (qU2_win (r := 31) wn_MO_line_176 (by decide +kernel))
theorem d_MO_line_210 : decode b_MO_line 210 = .ok (.iadd, 1) := dc_96 (q0_win (r := 34) wn_MO_line_176 (by decide +kernel))
theorem d_MO_line_211 : decode b_MO_line 211 = .ok (.invokevirtual 242, 3) := dc_182 (qU2_win (r := 35) wn_MO_line_176 (by decide +kernel))
theorem d_MO_line_214 : decode b_MO_line 214 = .ok (.goto 60, 3) := dc_167 (qS2_win (r := 38) wn_MO_line_176 (by decide +kernel))
theorem d_MO_line_217 : decode b_MO_line 217 = .ok (.aload_n 0, 1) := dc_42 (q0_win (r := 41) wn_MO_line_176 (by decide +kernel))
theorem d_MO_line_218 : decode b_MO_line 218 = .ok (.invokevirtual 245, 3) := dc_182 (qU2_win (r := 42) wn_MO_line_176 (by decide +kernel))
theorem d_MO_line_221 : decode b_MO_line 221 = .ok (.goto 53, 3) := dc_167 (qS2_win (r := 45) wn_MO_line_176 (by decide +kernel))
theorem d_MO_line_224 : decode b_MO_line 224 = .ok (.aload_n 0, 1) := dc_42 (q0_win (r := 48) wn_MO_line_176 (by decide +kernel))
theorem d_MO_line_225 : decode b_MO_line 225 = .ok (.invokevirtual 248, 3) := dc_182 (qU2_win (r := 49) wn_MO_line_176 (by decide +kernel))
theorem d_MO_line_228 : decode b_MO_line 228 = .ok (.goto 46, 3) := dc_167 (qS2_win (r := 52) wn_MO_line_176 (by decide +kernel))
theorem d_MO_line_231 : decode b_MO_line 231 = .ok (.aload_n 0, 1) := dc_42 (q0_win (r := 55) wn_MO_line_176 (by decide +kernel))
theorem d_MO_line_232 : decode b_MO_line 232 = .ok (.invokevirtual 251, 3) := dc_182 (qU2_win (r := 56) wn_MO_line_176 (by decide +kernel))
theorem d_MO_line_235 : decode b_MO_line 235 = .ok (.goto 39, 3) := dc_167 (qS2_win (r := 59) wn_MO_line_176 (by decide +kernel))
theorem d_MO_line_238 : decode b_MO_line 238 = .ok (.aload_n 0, 1) := dc_42 (q0_win (r := 62) wn_MO_line_176 (by decide +kernel))
theorem d_MO_line_239 : decode b_MO_line 239 = .ok (.bipush 8, 2) := dc_16 (qS1_win (r := 63) wn_MO_line_176 (by decide +kernel))
theorem d_MO_line_241 : decode b_MO_line 241 = .ok (.aload_n 0, 1) := dc_42 (q0_win (r := 65) wn_MO_line_176 (by decide +kernel))
theorem d_MO_line_242 : decode b_MO_line 242 = .ok (.bipush 6, 2) := dc_16 (qS1_win (r := 66) wn_MO_line_176 (by decide +kernel))
theorem d_MO_line_244 : decode b_MO_line 244 = .ok (.invokevirtual 222, 3) := dc_182 (qU2_win (r := 68) wn_MO_line_176 (by decide +kernel))
theorem d_MO_line_247 : decode b_MO_line 247 = .ok (.iadd, 1) := dc_96 (q0_win (r := 71) wn_MO_line_176 (by decide +kernel))
theorem d_MO_line_248 : decode b_MO_line 248 = .ok (.invokevirtual 254, 3) := dc_182 (qU2_win (r := 72) wn_MO_line_176 (by decide +kernel))
theorem d_MO_line_251 : decode b_MO_line 251 = .ok (.goto 23, 3) := dc_167 (qS2_win (r := 75) wn_MO_line_176 (by decide +kernel))
theorem d_MO_line_254 : decode b_MO_line 254 = .ok (.aload_n 0, 1) := dc_42 (q0_win (r := 78) wn_MO_line_176 (by decide +kernel))
theorem d_MO_line_255 : decode b_MO_line 255 = .ok (.bipush 7, 2) := dc_16 (qS1_win (r := 79) wn_MO_line_176 (by decide +kernel))
theorem d_MO_line_257 : decode b_MO_line 257 = .ok (.aload_n 0, 1) := dc_42 (q0_win (r := 81) wn_MO_line_176 (by decide +kernel))
theorem d_MO_line_258 : decode b_MO_line 258 = .ok (.iconst 0, 1) := dc_3 (q0_win (r := 82) wn_MO_line_176 (by decide +kernel))
theorem d_MO_line_259 : decode b_MO_line 259 = .ok (.ldc 183, 2) := dc_18 (qU1_win (r := 83) wn_MO_line_176 (by decide +kernel))
theorem d_MO_line_261 : decode b_MO_line 261 = .ok (.invokevirtual 226, 3) := dc_182 (qU2_win (r := 85) wn_MO_line_176 (by decide +kernel))
theorem d_MO_line_264 : decode b_MO_line 264 = .ok (.invokevirtual 238, 3) := dc_182 (qU2_win (r := 88) wn_MO_line_176 (by decide +kernel))
theorem d_MO_line_267 : decode b_MO_line 267 = .ok (.goto 7, 3) := dc_167 (qS2_win (r := 91) wn_MO_line_176 (by decide +kernel))
theorem d_MO_line_270 : decode b_MO_line 270 = .ok (.aload_n 0, 1) := dc_42 (q0_win (r := 94) wn_MO_line_176 (by decide +kernel))
theorem wn_MO_line_271 : ∀ i, i < 43 → bA b_MO_line (271 + i) = wB [182, 1, 1, 42, 180, 0, 199, 153, 0, 4, 177, 42, 16, 59, 182, 1, 4, 154, 0, 11, 42, 4, 182, 0, 208, 167, 0, 7, 42, 182, 0, 205, 42, 89, 180, 1, 7, 4, 96, 181, 1, 7, 177] i := wB_of (by decide +kernel)
theorem d_MO_line_271 : decode b_MO_line 271 = .ok (.invokevirtual 257, 3) := dc_182 (qU2_win (r := 0) wn_MO_line_271 (by decide +kernel))
theorem d_MO_line_274 : decode b_MO_line 274 = .ok (.aload_n 0, 1) := dc_42 (q0_win (r := 3) wn_MO_line_271 (by decide +kernel))
theorem d_MO_line_275 : decode b_MO_line 275 = .ok (.getfield 199, 3) := dc_180 (qU2_win (r := 4) wn_MO_line_271 (by decide +kernel))
theorem d_MO_line_278 : decode b_MO_line 278 = .ok (.ifCond .eq 4, 3) := dc_153 (qS2_win (r := 7) wn_MO_line_271 (by decide +kernel))
theorem d_MO_line_281 : decode b_MO_line 281 = .ok (.return_, 1) := dc_177 (q0_win (r := 10) wn_MO_line_271 (by decide +kernel))
theorem d_MO_line_282 : decode b_MO_line 282 = .ok (.aload_n 0, 1) := dc_42 (q0_win (r := 11) wn_MO_line_271 (by decide +kernel))
theorem d_MO_line_283 : decode b_MO_line 283 = .ok (.bipush 59, 2) := dc_16 (qS1_win (r := 12) wn_MO_line_271 (by decide +kernel))
theorem d_MO_line_285 : decode b_MO_line 285 = .ok (.invokevirtual 260, 3) := dc_182 (qU2_win (r := 14) wn_MO_line_271 (by decide +kernel))
theorem d_MO_line_288 : decode b_MO_line 288 = .ok (.ifCond .ne 11, 3) := dc_154 (qS2_win (r := 17) wn_MO_line_271 (by decide +kernel))
theorem d_MO_line_291 : decode b_MO_line 291 = .ok (.aload_n 0, 1) := dc_42 (q0_win (r := 20) wn_MO_line_271 (by decide +kernel))
theorem d_MO_line_292 : decode b_MO_line 292 = .ok (.iconst 1, 1) := dc_4 (q0_win (r := 21) wn_MO_line_271 (by decide +kernel))
theorem d_MO_line_293 : decode b_MO_line 293 = .ok (.invokevirtual 208, 3) := dc_182 (qU2_win (r := 22) wn_MO_line_271 (by decide +kernel))
theorem d_MO_line_296 : decode b_MO_line 296 = .ok (.goto 7, 3) := dc_167 (qS2_win (r := 25) wn_MO_line_271 (by decide +kernel))
theorem d_MO_line_299 : decode b_MO_line 299 = .ok (.aload_n 0, 1) := dc_42 (q0_win (r := 28) wn_MO_line_271 (by decide +kernel))
theorem d_MO_line_300 : decode b_MO_line 300 = .ok (.invokevirtual 205, 3) := dc_182 (qU2_win (r := 29) wn_MO_line_271 (by decide +kernel))
theorem d_MO_line_303 : decode b_MO_line 303 = .ok (.aload_n 0, 1) := dc_42 (q0_win (r := 32) wn_MO_line_271 (by decide +kernel))
theorem d_MO_line_304 : decode b_MO_line 304 = .ok (.dup, 1) := dc_89 (q0_win (r := 33) wn_MO_line_271 (by decide +kernel))
theorem d_MO_line_305 : decode b_MO_line 305 = .ok (.getfield 263, 3) := dc_180 (qU2_win (r := 34) wn_MO_line_271 (by decide +kernel))
theorem d_MO_line_308 : decode b_MO_line 308 = .ok (.iconst 1, 1) := dc_4 (q0_win (r := 37) wn_MO_line_271 (by decide +kernel))
theorem d_MO_line_309 : decode b_MO_line 309 = .ok (.iadd, 1) := dc_96 (q0_win (r := 38) wn_MO_line_271 (by decide +kernel))
theorem d_MO_line_310 : decode b_MO_line 310 = .ok (.putfield 263, 3) := dc_181 (qU2_win (r := 39) wn_MO_line_271 (by decide +kernel))
theorem d_MO_line_313 : decode b_MO_line 313 = .ok (.return_, 1) := dc_177 (q0_win (r := 42) wn_MO_line_271 (by decide +kernel))
def t_MO_line_L16   (M : Mem)  : Option (Mem) := (qlet (t_MO_wrong M 1) fun q13 => (some q13))
def t_MO_line_L303   (M : Mem)  : Option (Mem) := (qlet (setI M 191 18 (w32 ((M.1 191 18) + 1))) fun M86 => (some M86))
def t_MO_line_L274   (M : Mem)  : Option (Mem) := (if (M.1 191 24) = 0 then (qlet (t_MO_isSign M 59) fun q78 => (if q78 = 0 then (qlet (t_MO_wrong M 1) fun q83 => (t_MO_line_L303 q83)) else (obind (t_MO_token M) fun q81 => (t_MO_line_L303 q81)))) else (some M))
def t_MO_line_L110   (M : Mem) (v1_ : Int) : Option (Mem) := (if (M.1 191 24) = 0 then (qlet (setI M 191 17 (q_or (M.1 191 17) (q_shl 1 v1_))) fun M36 => (obind (t_MO_token M36) fun q37 => (if v1_ = 0 then (obind (t_MO_numeral q37 1 8) fun q40 => (obind (t_MO_reads (q40.1) 0 (q40.2)) fun q42 => (obind (t_MO_numeral q42 1 6) fun q44 => (obind (t_MO_reads (q44.1) 1 (q44.2)) fun q46 => (t_MO_line_L274 q46))))) else (if v1_ = 1 then (obind (t_MO_fresher q37 2) fun q49 => (obind (t_MO_wardLine q37 (w32 (4 + q49))) fun q51 => (t_MO_line_L274 q51))) else (if v1_ = 2 then (obind (t_MO_partLine q37) fun q54 => (t_MO_line_L274 q54)) else (if v1_ = 3 then (obind (t_MO_wallLine q37) fun q57 => (t_MO_line_L274 q57)) else (if v1_ = 4 then (obind (t_MO_stairLine q37) fun q60 => (t_MO_line_L274 q60)) else (if v1_ = 5 then (obind (t_MO_fresher q37 6) fun q63 => (obind (t_MO_thingLine q37 (w32 (8 + q63))) fun q65 => (t_MO_line_L274 q65))) else (if v1_ = 6 then (obind (t_MO_numeral q37 0 99999) fun q68 => (obind (t_MO_reads (q68.1) 7 (q68.2)) fun q70 => (t_MO_line_L274 q70))) else (obind (t_MO_lawLine q37) fun q72 => (t_MO_line_L274 q72))))))))))) else (some M))
def t_MO_line_L105   (M : Mem) (v1_ : Int) : Option (Mem) := (qlet (t_MO_wrong M 4) fun q74 => (t_MO_line_L110 q74 v1_))
def t_MO_line_L69   (M : Mem) (v1_ : Int) : Option (Mem) := (if v1_ = 0 then (qlet (t_MO_isTold M 2) fun q21 => (if q21 = 0 then (qlet (t_MO_isTold M 3) fun q24 => (if q24 = 0 then (qlet (t_MO_isTold M 4) fun q27 => (if q27 = 0 then (qlet (t_MO_isTold M 5) fun q30 => (if q30 = 0 then (t_MO_line_L110 M v1_) else (t_MO_line_L105 M v1_))) else (t_MO_line_L105 M v1_))) else (t_MO_line_L105 M v1_))) else (t_MO_line_L105 M v1_))) else (t_MO_line_L110 M v1_))
def t_MO_line_L53   (M : Mem) (v1_ : Int) : Option (Mem) := (qlet (t_MO_isTold M v1_) fun q15 => (if q15 = 0 then (t_MO_line_L69 M v1_) else (qlet (t_MO_wrong M 3) fun q18 => (t_MO_line_L110 q18 v1_))))
def t_MO_line (M : Mem)  : Option (Mem) := (if (M.1 191 22) = 0 then (if (M.1 191 23) ≤ 7 then (obind (t_MO_isFull M (M.1 191 23)) fun q6 => (if q6 = 0 then (if (M.1 191 23) = 0 then (t_MO_line_L53 M (M.1 191 23)) else (if (M.1 191 23) = 6 then (t_MO_line_L53 M (M.1 191 23)) else (t_MO_line_L69 M (M.1 191 23)))) else (qlet (t_MO_wrong M 2) fun q11 => (t_MO_line_L110 q11 (M.1 191 23))))) else (t_MO_line_L16 M)) else (t_MO_line_L16 M))
set_option maxHeartbeats 4000000 in
set_option maxRecDepth 100000 in
theorem k_MO_line_L16 (l : Launch) {p : Program} {e : Env} {s : State} {m : MethodId} {below : List Frame} {meth : Method} {c : Code} {b n : Nat} {C : CT} (hlo : 231 ≤ n)   (F : Cx b p m c b_MO_line 2 s ([.ref (b + 191)] : List Value).toArray "WardFallsModel" C n 231) (hlk : meth.locks = false) (hr : meth.sig.returnType = none) {res : Mem} (M : Mem)  (H : Heap) (locs : List Loc) (ls : Array Slot) (hS : St b C n M s H locs) (hl : lv_has ls 2 [(0, .ref (b + 191))]) (hT : t_MO_line_L16 M = some res) : W p l e (headSpec (wsM y_MO_line b_MO_line 2 (none)) (rmD 242)).room s m ([.ref (b + 191)] : List Value).toArray below meth c H locs 0 0 (MQ below (QV b C n res) ([.ref (b + 191)] : List Value).toArray s 0 0 (frb b)) (F0 m 16 ls []) := by
  unfold t_MO_line_L16 at hT
  refine lv_aload_n F.hx F.hb d_MO_line_16 rfl (lv_at hl 0 rfl) ?_
  refine r_iconst F.hx F.hb d_MO_line_17 ?_
  obtain ⟨q13, hq13⟩ : ∃ q, q = (t_MO_wrong M 1) := ⟨_, rfl⟩
  replace hT := qlet_eq hT hq13
  refine r_backV F hS (r_runV (k := 191) (N := 68) (T := T1) (As := [vI 1]) F hS (show 191 < 231 by decide) (show shK 191 = 5 from rfl) rfl (c_MO_wrong l F.2.2.1 M 1 (inr_c rfl) _ hq13.symm) gs_MO_208 hd_MO_wrong ⟨Nat.le_of_ble_eq_true rfl, Nat.le_of_ble_eq_true rfl⟩ rfl hl.1 (Nat.le_of_ble_eq_true rfl) ⟨Nat.zero_le _, Nat.zero_le _⟩ rfl d_MO_line_18) (fun H locs hS => ?_)
  cases hT
  exact r_vret F hlk hr hS d_MO_line_21
set_option maxHeartbeats 4000000 in
set_option maxRecDepth 100000 in
theorem k_MO_line_L303 (l : Launch) {p : Program} {e : Env} {s : State} {m : MethodId} {below : List Frame} {meth : Method} {c : Code} {b n : Nat} {C : CT} (hlo : 231 ≤ n)   (F : Cx b p m c b_MO_line 2 s ([.ref (b + 191)] : List Value).toArray "WardFallsModel" C n 231) (hlk : meth.locks = false) (hr : meth.sig.returnType = none) {res : Mem} (M : Mem)  (H : Heap) (locs : List Loc) (ls : Array Slot) (hS : St b C n M s H locs) (hl : lv_has ls 2 [(0, .ref (b + 191))]) (hT : t_MO_line_L303 M = some res) : W p l e (headSpec (wsM y_MO_line b_MO_line 2 (none)) (rmD 242)).room s m ([.ref (b + 191)] : List Value).toArray below meth c H locs 0 0 (MQ below (QV b C n res) ([.ref (b + 191)] : List Value).toArray s 0 0 (frb b)) (F0 m 303 ls []) := by
  unfold t_MO_line_L303 at hT
  refine lv_aload_n F.hx F.hb d_MO_line_303 rfl (lv_at hl 0 rfl) ?_
  refine lv_dup F.hx F.hb d_MO_line_304 rfl ?_
  refine r_get (v := vI (M.1 191 18)) (N := 68) (T := T1) (j := 18) F hS (show 191 < 231 by decide) (show shK 191 = 5 from rfl) (show shN 191 = 68 from rfl) rfl (Nat.le_of_ble_eq_true rfl) ing1 mw_1407 (fv_int rfl) d_MO_line_305 ?_
  have i85 := hS.rng 191 18
  refine r_iconst F.hx F.hb d_MO_line_308 ?_
  refine r_iadd F.hx F.hb d_MO_line_309 ?_
  refine r_putI (N := 68) (T := T1) (j := 18) F hS (show 191 < 231 by decide) (show shK 191 = 5 from rfl) (show shN 191 = 68 from rfl) rfl (Nat.le_of_ble_eq_true rfl) ing1 tyok1 nm1 rfl rfl rfl rfl rfl rfl mw_1407 (inr_w32 _) d_MO_line_310 (fun H locs hS => ?_)
  obtain ⟨M86, eM86⟩ : ∃ q, q = (setI M 191 18 (w32 ((M.1 191 18) + 1))) := ⟨_, rfl⟩
  replace hS : St b C n M86 s H locs := by rw [eM86]; exact hS
  replace hT := qlet_eq hT eM86
  cases hT
  exact r_vret F hlk hr hS d_MO_line_313
set_option maxHeartbeats 4000000 in
set_option maxRecDepth 100000 in
theorem k_MO_line_L274 (l : Launch) {p : Program} {e : Env} {s : State} {m : MethodId} {below : List Frame} {meth : Method} {c : Code} {b n : Nat} {C : CT} (hlo : 231 ≤ n)   (F : Cx b p m c b_MO_line 2 s ([.ref (b + 191)] : List Value).toArray "WardFallsModel" C n 231) (hlk : meth.locks = false) (hr : meth.sig.returnType = none) {res : Mem} (M : Mem)  (H : Heap) (locs : List Loc) (ls : Array Slot) (hS : St b C n M s H locs) (hl : lv_has ls 2 [(0, .ref (b + 191))]) (hT : t_MO_line_L274 M = some res) : W p l e (headSpec (wsM y_MO_line b_MO_line 2 (none)) (rmD 242)).room s m ([.ref (b + 191)] : List Value).toArray below meth c H locs 0 0 (MQ below (QV b C n res) ([.ref (b + 191)] : List Value).toArray s 0 0 (frb b)) (F0 m 274 ls []) := by
  unfold t_MO_line_L274 at hT
  refine lv_aload_n F.hx F.hb d_MO_line_274 rfl (lv_at hl 0 rfl) ?_
  refine r_get (v := vI (M.1 191 24)) (N := 68) (T := T1) (j := 24) F hS (show 191 < 231 by decide) (show shK 191 = 5 from rfl) (show shN 191 = 68 from rfl) rfl (Nat.le_of_ble_eq_true rfl) ing1 mw_1413 (fv_int rfl) d_MO_line_275 ?_
  have i76 := hS.rng 191 24
  refine r_if_eq (tgt := 282) F.hx F.hb i76 d_MO_line_278 (by decide) (fun c77 => ?_) (fun c77 => ?_)
  · replace hT := (if_pos c77).symm.trans hT
    refine lv_aload_n F.hx F.hb d_MO_line_282 rfl (lv_at hl 0 rfl) ?_
    refine r_bipush F.hx F.hb d_MO_line_283 rfl ?_
    obtain ⟨q78, hq78⟩ : ∃ q, q = (t_MO_isSign M 59) := ⟨_, rfl⟩
    replace hT := qlet_eq hT hq78
    refine r_backZ F hS (r_runV (k := 191) (N := 68) (T := T1) (As := [vI 59]) F hS (show 191 < 231 by decide) (show shK 191 = 5 from rfl) rfl (c_MO_isSign l F.2.2.1 M 59 (inr_c rfl) _ hq78.symm) gs_MO_260 hd_MO_isSign ⟨Nat.le_of_ble_eq_true rfl, Nat.le_of_ble_eq_true rfl⟩ rfl hl.1 (Nat.le_of_ble_eq_true rfl) ⟨Nat.zero_le _, Nat.zero_le _⟩ rfl d_MO_line_285) (fun H locs hS h79 => ?_)
    refine r_if_ne (tgt := 299) F.hx F.hb (inr_z h79) d_MO_line_288 (by decide) (fun c80 => ?_) (fun c80 => ?_)
    · replace hT := (if_neg c80).symm.trans hT
      refine lv_aload_n F.hx F.hb d_MO_line_299 rfl (lv_at hl 0 rfl) ?_
      obtain ⟨q81, hq81, hT⟩ := q_obind hT
      refine r_backV F hS (r_runV (k := 191) (N := 68) (T := T1) (As := []) F hS (show 191 < 231 by decide) (show shK 191 = 5 from rfl) rfl (c_MO_token l F.2.2.1 M _ hq81) gs_MO_205 hd_MO_token ⟨Nat.le_of_ble_eq_true rfl, Nat.le_of_ble_eq_true rfl⟩ rfl hl.1 (Nat.le_of_ble_eq_true rfl) ⟨Nat.zero_le _, Nat.zero_le _⟩ rfl d_MO_line_300) (fun H locs hS => ?_)
      exact k_MO_line_L303 l hlo F hlk hr q81 _ _ _ hS (lv_sub hl [0] rfl) hT
    · replace hT := (if_pos c80).symm.trans hT
      refine lv_aload_n F.hx F.hb d_MO_line_291 rfl (lv_at hl 0 rfl) ?_
      refine r_iconst F.hx F.hb d_MO_line_292 ?_
      obtain ⟨q83, hq83⟩ : ∃ q, q = (t_MO_wrong M 1) := ⟨_, rfl⟩
      replace hT := qlet_eq hT hq83
      refine r_backV F hS (r_runV (k := 191) (N := 68) (T := T1) (As := [vI 1]) F hS (show 191 < 231 by decide) (show shK 191 = 5 from rfl) rfl (c_MO_wrong l F.2.2.1 M 1 (inr_c rfl) _ hq83.symm) gs_MO_208 hd_MO_wrong ⟨Nat.le_of_ble_eq_true rfl, Nat.le_of_ble_eq_true rfl⟩ rfl hl.1 (Nat.le_of_ble_eq_true rfl) ⟨Nat.zero_le _, Nat.zero_le _⟩ rfl d_MO_line_293) (fun H locs hS => ?_)
      refine lv_goto (tgt := 303) F.hx F.hb d_MO_line_296 (by decide) ?_
      exact k_MO_line_L303 l hlo F hlk hr q83 _ _ _ hS (lv_sub hl [0] rfl) hT
  · replace hT := (if_neg c77).symm.trans hT
    cases hT
    exact r_vret F hlk hr hS d_MO_line_281
set_option maxHeartbeats 4000000 in
set_option maxRecDepth 100000 in
theorem k_MO_line_L110 (l : Launch) {p : Program} {e : Env} {s : State} {m : MethodId} {below : List Frame} {meth : Method} {c : Code} {b n : Nat} {C : CT} (hlo : 231 ≤ n)   (F : Cx b p m c b_MO_line 2 s ([.ref (b + 191)] : List Value).toArray "WardFallsModel" C n 231) (hlk : meth.locks = false) (hr : meth.sig.returnType = none) {res : Mem} (M : Mem) (v1_ : Int) (hv1_ : InR v1_) (H : Heap) (locs : List Loc) (ls : Array Slot) (hS : St b C n M s H locs) (hl : lv_has ls 2 [(0, .ref (b + 191)), (1, vI v1_)]) (hT : t_MO_line_L110 M v1_ = some res) : W p l e (headSpec (wsM y_MO_line b_MO_line 2 (none)) (rmD 242)).room s m ([.ref (b + 191)] : List Value).toArray below meth c H locs 0 0 (MQ below (QV b C n res) ([.ref (b + 191)] : List Value).toArray s 0 0 (frb b)) (F0 m 110 ls []) := by
  unfold t_MO_line_L110 at hT
  refine lv_aload_n F.hx F.hb d_MO_line_110 rfl (lv_at hl 0 rfl) ?_
  refine r_get (v := vI (M.1 191 24)) (N := 68) (T := T1) (j := 24) F hS (show 191 < 231 by decide) (show shK 191 = 5 from rfl) (show shN 191 = 68 from rfl) rfl (Nat.le_of_ble_eq_true rfl) ing1 mw_1413 (fv_int rfl) d_MO_line_111 ?_
  have i33 := hS.rng 191 24
  refine r_if_eq (tgt := 118) F.hx F.hb i33 d_MO_line_114 (by decide) (fun c34 => ?_) (fun c34 => ?_)
  · replace hT := (if_pos c34).symm.trans hT
    refine lv_aload_n F.hx F.hb d_MO_line_118 rfl (lv_at hl 0 rfl) ?_
    refine lv_dup F.hx F.hb d_MO_line_119 rfl ?_
    refine r_get (v := vI (M.1 191 17)) (N := 68) (T := T1) (j := 17) F hS (show 191 < 231 by decide) (show shK 191 = 5 from rfl) (show shN 191 = 68 from rfl) rfl (Nat.le_of_ble_eq_true rfl) ing1 mw_1406 (fv_int rfl) d_MO_line_120 ?_
    have i35 := hS.rng 191 17
    refine r_iconst F.hx F.hb d_MO_line_123 ?_
    refine lv_iload_n F.hx F.hb d_MO_line_124 rfl (lv_at hl 1 rfl) ?_
    refine r_ishl F.hx F.hb d_MO_line_125 ?_
    refine r_ior F.hx F.hb d_MO_line_126 ?_
    refine r_putI (N := 68) (T := T1) (j := 17) F hS (show 191 < 231 by decide) (show shK 191 = 5 from rfl) (show shN 191 = 68 from rfl) rfl (Nat.le_of_ble_eq_true rfl) ing1 tyok1 nm1 rfl rfl rfl rfl rfl rfl mw_1406 (q_inr_toInt _) d_MO_line_127 (fun H locs hS => ?_)
    obtain ⟨M36, eM36⟩ : ∃ q, q = (setI M 191 17 (q_or (M.1 191 17) (q_shl 1 v1_))) := ⟨_, rfl⟩
    replace hS : St b C n M36 s H locs := by rw [eM36]; exact hS
    replace hT := qlet_eq hT eM36
    refine lv_aload_n F.hx F.hb d_MO_line_130 rfl (lv_at hl 0 rfl) ?_
    obtain ⟨q37, hq37, hT⟩ := q_obind hT
    refine r_backV F hS (r_runV (k := 191) (N := 68) (T := T1) (As := []) F hS (show 191 < 231 by decide) (show shK 191 = 5 from rfl) rfl (c_MO_token l F.2.2.1 M36 _ hq37) gs_MO_205 hd_MO_token ⟨Nat.le_of_ble_eq_true rfl, Nat.le_of_ble_eq_true rfl⟩ rfl hl.1 (Nat.le_of_ble_eq_true rfl) ⟨Nat.zero_le _, Nat.zero_le _⟩ rfl d_MO_line_131) (fun H locs hS => ?_)
    refine lv_iload_n F.hx F.hb d_MO_line_134 rfl (lv_at hl 1 rfl) ?_
    rcases q_ite hT with ⟨c39, hT⟩ | ⟨c39, hT⟩
    · refine r_tableIn (i := 0) (tgt := 176) F.hx F.hb hv1_ c39 d_MO_line_135 (by decide) (by decide) rfl (by decide) ?_
      refine lv_aload_n F.hx F.hb d_MO_line_176 rfl (lv_at hl 0 rfl) ?_
      refine r_iconst F.hx F.hb d_MO_line_177 ?_
      refine lv_aload_n F.hx F.hb d_MO_line_178 rfl (lv_at hl 0 rfl) ?_
      refine r_iconst F.hx F.hb d_MO_line_179 ?_
      refine r_bipush F.hx F.hb d_MO_line_180 rfl ?_
      obtain ⟨q40, hq40, hT⟩ := q_obind hT
      refine r_backI F hS (r_runV (k := 191) (N := 68) (T := T1) (As := [vI 1, vI 8]) F hS (show 191 < 231 by decide) (show shK 191 = 5 from rfl) rfl (c_MO_numeral l F.2.2.1 q37 1 8 (inr_c rfl) (inr_c rfl) _ hq40) gs_MO_226 hd_MO_numeral ⟨Nat.le_of_ble_eq_true rfl, Nat.le_of_ble_eq_true rfl⟩ rfl hl.1 (Nat.le_of_ble_eq_true rfl) ⟨Nat.zero_le _, Nat.zero_le _⟩ rfl d_MO_line_182) (fun H locs hS h41 => ?_)
      obtain ⟨q42, hq42, hT⟩ := q_obind hT
      refine r_backV F hS (r_runV (k := 191) (N := 68) (T := T1) (As := [vI 0, vI (q40.2)]) F hS (show 191 < 231 by decide) (show shK 191 = 5 from rfl) rfl (c_MO_reads l F.2.2.1 (q40.1) 0 (q40.2) (inr_c rfl) h41 _ hq42) gs_MO_238 hd_MO_reads ⟨Nat.le_of_ble_eq_true rfl, Nat.le_of_ble_eq_true rfl⟩ rfl hl.1 (Nat.le_of_ble_eq_true rfl) ⟨Nat.zero_le _, Nat.zero_le _⟩ rfl d_MO_line_185) (fun H locs hS => ?_)
      refine lv_aload_n F.hx F.hb d_MO_line_188 rfl (lv_at hl 0 rfl) ?_
      refine r_iconst F.hx F.hb d_MO_line_189 ?_
      refine lv_aload_n F.hx F.hb d_MO_line_190 rfl (lv_at hl 0 rfl) ?_
      refine r_iconst F.hx F.hb d_MO_line_191 ?_
      refine r_bipush F.hx F.hb d_MO_line_192 rfl ?_
      obtain ⟨q44, hq44, hT⟩ := q_obind hT
      refine r_backI F hS (r_runV (k := 191) (N := 68) (T := T1) (As := [vI 1, vI 6]) F hS (show 191 < 231 by decide) (show shK 191 = 5 from rfl) rfl (c_MO_numeral l F.2.2.1 q42 1 6 (inr_c rfl) (inr_c rfl) _ hq44) gs_MO_226 hd_MO_numeral ⟨Nat.le_of_ble_eq_true rfl, Nat.le_of_ble_eq_true rfl⟩ rfl hl.1 (Nat.le_of_ble_eq_true rfl) ⟨Nat.zero_le _, Nat.zero_le _⟩ rfl d_MO_line_194) (fun H locs hS h45 => ?_)
      obtain ⟨q46, hq46, hT⟩ := q_obind hT
      refine r_backV F hS (r_runV (k := 191) (N := 68) (T := T1) (As := [vI 1, vI (q44.2)]) F hS (show 191 < 231 by decide) (show shK 191 = 5 from rfl) rfl (c_MO_reads l F.2.2.1 (q44.1) 1 (q44.2) (inr_c rfl) h45 _ hq46) gs_MO_238 hd_MO_reads ⟨Nat.le_of_ble_eq_true rfl, Nat.le_of_ble_eq_true rfl⟩ rfl hl.1 (Nat.le_of_ble_eq_true rfl) ⟨Nat.zero_le _, Nat.zero_le _⟩ rfl d_MO_line_197) (fun H locs hS => ?_)
      refine lv_goto (tgt := 274) F.hx F.hb d_MO_line_200 (by decide) ?_
      exact k_MO_line_L274 l hlo F hlk hr q46 _ _ _ hS (lv_sub hl [0] rfl) hT
    ·
      rcases q_ite hT with ⟨c48, hT⟩ | ⟨c48, hT⟩
      · refine r_tableIn (i := 1) (tgt := 203) F.hx F.hb hv1_ c48 d_MO_line_135 (by decide) (by decide) rfl (by decide) ?_
        refine lv_aload_n F.hx F.hb d_MO_line_203 rfl (lv_at hl 0 rfl) ?_
        refine r_iconst F.hx F.hb d_MO_line_204 ?_
        refine lv_aload_n F.hx F.hb d_MO_line_205 rfl (lv_at hl 0 rfl) ?_
        refine r_iconst F.hx F.hb d_MO_line_206 ?_
        obtain ⟨q49, hq49, hT⟩ := q_obind hT
        refine r_backI F hS (r_runV (k := 191) (N := 68) (T := T1) (As := [vI 2]) F hS (show 191 < 231 by decide) (show shK 191 = 5 from rfl) rfl (c_MO_fresher l F.2.2.1 q37 2 (inr_c rfl) _ hq49) gs_MO_222 hd_MO_fresher ⟨Nat.le_of_ble_eq_true rfl, Nat.le_of_ble_eq_true rfl⟩ rfl hl.1 (Nat.le_of_ble_eq_true rfl) ⟨Nat.zero_le _, Nat.zero_le _⟩ rfl d_MO_line_207) (fun H locs hS h50 => ?_)
        refine r_iadd F.hx F.hb d_MO_line_210 ?_
        obtain ⟨q51, hq51, hT⟩ := q_obind hT
        refine r_backV F hS (r_runV (k := 191) (N := 68) (T := T1) (As := [vI (w32 (4 + q49))]) F hS (show 191 < 231 by decide) (show shK 191 = 5 from rfl) rfl (c_MO_wardLine l F.2.2.1 q37 (w32 (4 + q49)) (inr_w32 _) _ hq51) gs_MO_242 hd_MO_wardLine ⟨Nat.le_of_ble_eq_true rfl, Nat.le_of_ble_eq_true rfl⟩ rfl hl.1 (Nat.le_of_ble_eq_true rfl) ⟨Nat.zero_le _, Nat.zero_le _⟩ rfl d_MO_line_211) (fun H locs hS => ?_)
        refine lv_goto (tgt := 274) F.hx F.hb d_MO_line_214 (by decide) ?_
        exact k_MO_line_L274 l hlo F hlk hr q51 _ _ _ hS (lv_sub hl [0] rfl) hT
      ·
        rcases q_ite hT with ⟨c53, hT⟩ | ⟨c53, hT⟩
        · refine r_tableIn (i := 2) (tgt := 217) F.hx F.hb hv1_ c53 d_MO_line_135 (by decide) (by decide) rfl (by decide) ?_
          refine lv_aload_n F.hx F.hb d_MO_line_217 rfl (lv_at hl 0 rfl) ?_
          obtain ⟨q54, hq54, hT⟩ := q_obind hT
          refine r_backV F hS (r_runV (k := 191) (N := 68) (T := T1) (As := []) F hS (show 191 < 231 by decide) (show shK 191 = 5 from rfl) rfl (c_MO_partLine l F.2.2.1 q37 _ hq54) gs_MO_245 hd_MO_partLine ⟨Nat.le_of_ble_eq_true rfl, Nat.le_of_ble_eq_true rfl⟩ rfl hl.1 (Nat.le_of_ble_eq_true rfl) ⟨Nat.zero_le _, Nat.zero_le _⟩ rfl d_MO_line_218) (fun H locs hS => ?_)
          refine lv_goto (tgt := 274) F.hx F.hb d_MO_line_221 (by decide) ?_
          exact k_MO_line_L274 l hlo F hlk hr q54 _ _ _ hS (lv_sub hl [0] rfl) hT
        ·
          rcases q_ite hT with ⟨c56, hT⟩ | ⟨c56, hT⟩
          · refine r_tableIn (i := 3) (tgt := 224) F.hx F.hb hv1_ c56 d_MO_line_135 (by decide) (by decide) rfl (by decide) ?_
            refine lv_aload_n F.hx F.hb d_MO_line_224 rfl (lv_at hl 0 rfl) ?_
            obtain ⟨q57, hq57, hT⟩ := q_obind hT
            refine r_backV F hS (r_runV (k := 191) (N := 68) (T := T1) (As := []) F hS (show 191 < 231 by decide) (show shK 191 = 5 from rfl) rfl (c_MO_wallLine l F.2.2.1 q37 _ hq57) gs_MO_248 hd_MO_wallLine ⟨Nat.le_of_ble_eq_true rfl, Nat.le_of_ble_eq_true rfl⟩ rfl hl.1 (Nat.le_of_ble_eq_true rfl) ⟨Nat.zero_le _, Nat.zero_le _⟩ rfl d_MO_line_225) (fun H locs hS => ?_)
            refine lv_goto (tgt := 274) F.hx F.hb d_MO_line_228 (by decide) ?_
            exact k_MO_line_L274 l hlo F hlk hr q57 _ _ _ hS (lv_sub hl [0] rfl) hT
          ·
            rcases q_ite hT with ⟨c59, hT⟩ | ⟨c59, hT⟩
            · refine r_tableIn (i := 4) (tgt := 231) F.hx F.hb hv1_ c59 d_MO_line_135 (by decide) (by decide) rfl (by decide) ?_
              refine lv_aload_n F.hx F.hb d_MO_line_231 rfl (lv_at hl 0 rfl) ?_
              obtain ⟨q60, hq60, hT⟩ := q_obind hT
              refine r_backV F hS (r_runV (k := 191) (N := 68) (T := T1) (As := []) F hS (show 191 < 231 by decide) (show shK 191 = 5 from rfl) rfl (c_MO_stairLine l F.2.2.1 q37 _ hq60) gs_MO_251 hd_MO_stairLine ⟨Nat.le_of_ble_eq_true rfl, Nat.le_of_ble_eq_true rfl⟩ rfl hl.1 (Nat.le_of_ble_eq_true rfl) ⟨Nat.zero_le _, Nat.zero_le _⟩ rfl d_MO_line_232) (fun H locs hS => ?_)
              refine lv_goto (tgt := 274) F.hx F.hb d_MO_line_235 (by decide) ?_
              exact k_MO_line_L274 l hlo F hlk hr q60 _ _ _ hS (lv_sub hl [0] rfl) hT
            ·
              rcases q_ite hT with ⟨c62, hT⟩ | ⟨c62, hT⟩
              · refine r_tableIn (i := 5) (tgt := 238) F.hx F.hb hv1_ c62 d_MO_line_135 (by decide) (by decide) rfl (by decide) ?_
                refine lv_aload_n F.hx F.hb d_MO_line_238 rfl (lv_at hl 0 rfl) ?_
                refine r_bipush F.hx F.hb d_MO_line_239 rfl ?_
                refine lv_aload_n F.hx F.hb d_MO_line_241 rfl (lv_at hl 0 rfl) ?_
                refine r_bipush F.hx F.hb d_MO_line_242 rfl ?_
                obtain ⟨q63, hq63, hT⟩ := q_obind hT
                refine r_backI F hS (r_runV (k := 191) (N := 68) (T := T1) (As := [vI 6]) F hS (show 191 < 231 by decide) (show shK 191 = 5 from rfl) rfl (c_MO_fresher l F.2.2.1 q37 6 (inr_c rfl) _ hq63) gs_MO_222 hd_MO_fresher ⟨Nat.le_of_ble_eq_true rfl, Nat.le_of_ble_eq_true rfl⟩ rfl hl.1 (Nat.le_of_ble_eq_true rfl) ⟨Nat.zero_le _, Nat.zero_le _⟩ rfl d_MO_line_244) (fun H locs hS h64 => ?_)
                refine r_iadd F.hx F.hb d_MO_line_247 ?_
                obtain ⟨q65, hq65, hT⟩ := q_obind hT
                refine r_backV F hS (r_runV (k := 191) (N := 68) (T := T1) (As := [vI (w32 (8 + q63))]) F hS (show 191 < 231 by decide) (show shK 191 = 5 from rfl) rfl (c_MO_thingLine l F.2.2.1 q37 (w32 (8 + q63)) (inr_w32 _) _ hq65) gs_MO_254 hd_MO_thingLine ⟨Nat.le_of_ble_eq_true rfl, Nat.le_of_ble_eq_true rfl⟩ rfl hl.1 (Nat.le_of_ble_eq_true rfl) ⟨Nat.zero_le _, Nat.zero_le _⟩ rfl d_MO_line_248) (fun H locs hS => ?_)
                refine lv_goto (tgt := 274) F.hx F.hb d_MO_line_251 (by decide) ?_
                exact k_MO_line_L274 l hlo F hlk hr q65 _ _ _ hS (lv_sub hl [0] rfl) hT
              ·
                rcases q_ite hT with ⟨c67, hT⟩ | ⟨c67, hT⟩
                · refine r_tableIn (i := 6) (tgt := 254) F.hx F.hb hv1_ c67 d_MO_line_135 (by decide) (by decide) rfl (by decide) ?_
                  refine lv_aload_n F.hx F.hb d_MO_line_254 rfl (lv_at hl 0 rfl) ?_
                  refine r_bipush F.hx F.hb d_MO_line_255 rfl ?_
                  refine lv_aload_n F.hx F.hb d_MO_line_257 rfl (lv_at hl 0 rfl) ?_
                  refine r_iconst F.hx F.hb d_MO_line_258 ?_
                  refine lv_ldc (v := Int32.ofInt 99999) F.hx F.hb F.hown (F.hts mw_1632) d_MO_line_259 ?_
                  obtain ⟨q68, hq68, hT⟩ := q_obind hT
                  refine r_backI F hS (r_runV (k := 191) (N := 68) (T := T1) (As := [vI 0, vI 99999]) F hS (show 191 < 231 by decide) (show shK 191 = 5 from rfl) rfl (c_MO_numeral l F.2.2.1 q37 0 99999 (inr_c rfl) (inr_c rfl) _ hq68) gs_MO_226 hd_MO_numeral ⟨Nat.le_of_ble_eq_true rfl, Nat.le_of_ble_eq_true rfl⟩ rfl hl.1 (Nat.le_of_ble_eq_true rfl) ⟨Nat.zero_le _, Nat.zero_le _⟩ rfl d_MO_line_261) (fun H locs hS h69 => ?_)
                  obtain ⟨q70, hq70, hT⟩ := q_obind hT
                  refine r_backV F hS (r_runV (k := 191) (N := 68) (T := T1) (As := [vI 7, vI (q68.2)]) F hS (show 191 < 231 by decide) (show shK 191 = 5 from rfl) rfl (c_MO_reads l F.2.2.1 (q68.1) 7 (q68.2) (inr_c rfl) h69 _ hq70) gs_MO_238 hd_MO_reads ⟨Nat.le_of_ble_eq_true rfl, Nat.le_of_ble_eq_true rfl⟩ rfl hl.1 (Nat.le_of_ble_eq_true rfl) ⟨Nat.zero_le _, Nat.zero_le _⟩ rfl d_MO_line_264) (fun H locs hS => ?_)
                  refine lv_goto (tgt := 274) F.hx F.hb d_MO_line_267 (by decide) ?_
                  exact k_MO_line_L274 l hlo F hlk hr q70 _ _ _ hS (lv_sub hl [0] rfl) hT
                ·
                  refine r_tableOut (tgt := 270) F.hx F.hb hv1_ (by omega) d_MO_line_135 (by decide) ?_
                  refine lv_aload_n F.hx F.hb d_MO_line_270 rfl (lv_at hl 0 rfl) ?_
                  obtain ⟨q72, hq72, hT⟩ := q_obind hT
                  refine r_backV F hS (r_runV (k := 191) (N := 68) (T := T1) (As := []) F hS (show 191 < 231 by decide) (show shK 191 = 5 from rfl) rfl (c_MO_lawLine l F.2.2.1 q37 _ hq72) gs_MO_257 hd_MO_lawLine ⟨Nat.le_of_ble_eq_true rfl, Nat.le_of_ble_eq_true rfl⟩ rfl hl.1 (Nat.le_of_ble_eq_true rfl) ⟨Nat.zero_le _, Nat.zero_le _⟩ rfl d_MO_line_271) (fun H locs hS => ?_)
                  exact k_MO_line_L274 l hlo F hlk hr q72 _ _ _ hS (lv_sub hl [0] rfl) hT
  · replace hT := (if_neg c34).symm.trans hT
    cases hT
    exact r_vret F hlk hr hS d_MO_line_117
set_option maxHeartbeats 4000000 in
set_option maxRecDepth 100000 in
theorem k_MO_line_L105 (l : Launch) {p : Program} {e : Env} {s : State} {m : MethodId} {below : List Frame} {meth : Method} {c : Code} {b n : Nat} {C : CT} (hlo : 231 ≤ n)   (F : Cx b p m c b_MO_line 2 s ([.ref (b + 191)] : List Value).toArray "WardFallsModel" C n 231) (hlk : meth.locks = false) (hr : meth.sig.returnType = none) {res : Mem} (M : Mem) (v1_ : Int) (hv1_ : InR v1_) (H : Heap) (locs : List Loc) (ls : Array Slot) (hS : St b C n M s H locs) (hl : lv_has ls 2 [(0, .ref (b + 191)), (1, vI v1_)]) (hT : t_MO_line_L105 M v1_ = some res) : W p l e (headSpec (wsM y_MO_line b_MO_line 2 (none)) (rmD 242)).room s m ([.ref (b + 191)] : List Value).toArray below meth c H locs 0 0 (MQ below (QV b C n res) ([.ref (b + 191)] : List Value).toArray s 0 0 (frb b)) (F0 m 105 ls []) := by
  unfold t_MO_line_L105 at hT
  refine lv_aload_n F.hx F.hb d_MO_line_105 rfl (lv_at hl 0 rfl) ?_
  refine r_iconst F.hx F.hb d_MO_line_106 ?_
  obtain ⟨q74, hq74⟩ : ∃ q, q = (t_MO_wrong M 4) := ⟨_, rfl⟩
  replace hT := qlet_eq hT hq74
  refine r_backV F hS (r_runV (k := 191) (N := 68) (T := T1) (As := [vI 4]) F hS (show 191 < 231 by decide) (show shK 191 = 5 from rfl) rfl (c_MO_wrong l F.2.2.1 M 4 (inr_c rfl) _ hq74.symm) gs_MO_208 hd_MO_wrong ⟨Nat.le_of_ble_eq_true rfl, Nat.le_of_ble_eq_true rfl⟩ rfl hl.1 (Nat.le_of_ble_eq_true rfl) ⟨Nat.zero_le _, Nat.zero_le _⟩ rfl d_MO_line_107) (fun H locs hS => ?_)
  exact k_MO_line_L110 l hlo F hlk hr q74 v1_ hv1_ _ _ _ hS (lv_sub hl [0, 1] rfl) hT
set_option maxHeartbeats 4000000 in
set_option maxRecDepth 100000 in
theorem k_MO_line_L69 (l : Launch) {p : Program} {e : Env} {s : State} {m : MethodId} {below : List Frame} {meth : Method} {c : Code} {b n : Nat} {C : CT} (hlo : 231 ≤ n)   (F : Cx b p m c b_MO_line 2 s ([.ref (b + 191)] : List Value).toArray "WardFallsModel" C n 231) (hlk : meth.locks = false) (hr : meth.sig.returnType = none) {res : Mem} (M : Mem) (v1_ : Int) (hv1_ : InR v1_) (H : Heap) (locs : List Loc) (ls : Array Slot) (hS : St b C n M s H locs) (hl : lv_has ls 2 [(0, .ref (b + 191)), (1, vI v1_)]) (hT : t_MO_line_L69 M v1_ = some res) : W p l e (headSpec (wsM y_MO_line b_MO_line 2 (none)) (rmD 242)).room s m ([.ref (b + 191)] : List Value).toArray below meth c H locs 0 0 (MQ below (QV b C n res) ([.ref (b + 191)] : List Value).toArray s 0 0 (frb b)) (F0 m 69 ls []) := by
  unfold t_MO_line_L69 at hT
  refine lv_iload_n F.hx F.hb d_MO_line_69 rfl (lv_at hl 1 rfl) ?_
  refine r_if_ne (tgt := 110) F.hx F.hb hv1_ d_MO_line_70 (by decide) (fun c20 => ?_) (fun c20 => ?_)
  · replace hT := (if_neg c20).symm.trans hT
    exact k_MO_line_L110 l hlo F hlk hr M v1_ hv1_ _ _ _ hS (lv_sub hl [0, 1] rfl) hT
  · replace hT := (if_pos c20).symm.trans hT
    refine lv_aload_n F.hx F.hb d_MO_line_73 rfl (lv_at hl 0 rfl) ?_
    refine r_iconst F.hx F.hb d_MO_line_74 ?_
    obtain ⟨q21, hq21⟩ : ∃ q, q = (t_MO_isTold M 2) := ⟨_, rfl⟩
    replace hT := qlet_eq hT hq21
    refine r_backZ F hS (r_runV (k := 191) (N := 68) (T := T1) (As := [vI 2]) F hS (show 191 < 231 by decide) (show shK 191 = 5 from rfl) rfl (c_MO_isTold l F.2.2.1 M 2 (inr_c rfl) _ hq21.symm) gs_MO_235 hd_MO_isTold ⟨Nat.le_of_ble_eq_true rfl, Nat.le_of_ble_eq_true rfl⟩ rfl hl.1 (Nat.le_of_ble_eq_true rfl) ⟨Nat.zero_le _, Nat.zero_le _⟩ rfl d_MO_line_75) (fun H locs hS h22 => ?_)
    refine r_if_ne (tgt := 105) F.hx F.hb (inr_z h22) d_MO_line_78 (by decide) (fun c23 => ?_) (fun c23 => ?_)
    · replace hT := (if_neg c23).symm.trans hT
      exact k_MO_line_L105 l hlo F hlk hr M v1_ hv1_ _ _ _ hS (lv_sub hl [0, 1] rfl) hT
    · replace hT := (if_pos c23).symm.trans hT
      refine lv_aload_n F.hx F.hb d_MO_line_81 rfl (lv_at hl 0 rfl) ?_
      refine r_iconst F.hx F.hb d_MO_line_82 ?_
      obtain ⟨q24, hq24⟩ : ∃ q, q = (t_MO_isTold M 3) := ⟨_, rfl⟩
      replace hT := qlet_eq hT hq24
      refine r_backZ F hS (r_runV (k := 191) (N := 68) (T := T1) (As := [vI 3]) F hS (show 191 < 231 by decide) (show shK 191 = 5 from rfl) rfl (c_MO_isTold l F.2.2.1 M 3 (inr_c rfl) _ hq24.symm) gs_MO_235 hd_MO_isTold ⟨Nat.le_of_ble_eq_true rfl, Nat.le_of_ble_eq_true rfl⟩ rfl hl.1 (Nat.le_of_ble_eq_true rfl) ⟨Nat.zero_le _, Nat.zero_le _⟩ rfl d_MO_line_83) (fun H locs hS h25 => ?_)
      refine r_if_ne (tgt := 105) F.hx F.hb (inr_z h25) d_MO_line_86 (by decide) (fun c26 => ?_) (fun c26 => ?_)
      · replace hT := (if_neg c26).symm.trans hT
        exact k_MO_line_L105 l hlo F hlk hr M v1_ hv1_ _ _ _ hS (lv_sub hl [0, 1] rfl) hT
      · replace hT := (if_pos c26).symm.trans hT
        refine lv_aload_n F.hx F.hb d_MO_line_89 rfl (lv_at hl 0 rfl) ?_
        refine r_iconst F.hx F.hb d_MO_line_90 ?_
        obtain ⟨q27, hq27⟩ : ∃ q, q = (t_MO_isTold M 4) := ⟨_, rfl⟩
        replace hT := qlet_eq hT hq27
        refine r_backZ F hS (r_runV (k := 191) (N := 68) (T := T1) (As := [vI 4]) F hS (show 191 < 231 by decide) (show shK 191 = 5 from rfl) rfl (c_MO_isTold l F.2.2.1 M 4 (inr_c rfl) _ hq27.symm) gs_MO_235 hd_MO_isTold ⟨Nat.le_of_ble_eq_true rfl, Nat.le_of_ble_eq_true rfl⟩ rfl hl.1 (Nat.le_of_ble_eq_true rfl) ⟨Nat.zero_le _, Nat.zero_le _⟩ rfl d_MO_line_91) (fun H locs hS h28 => ?_)
        refine r_if_ne (tgt := 105) F.hx F.hb (inr_z h28) d_MO_line_94 (by decide) (fun c29 => ?_) (fun c29 => ?_)
        · replace hT := (if_neg c29).symm.trans hT
          exact k_MO_line_L105 l hlo F hlk hr M v1_ hv1_ _ _ _ hS (lv_sub hl [0, 1] rfl) hT
        · replace hT := (if_pos c29).symm.trans hT
          refine lv_aload_n F.hx F.hb d_MO_line_97 rfl (lv_at hl 0 rfl) ?_
          refine r_iconst F.hx F.hb d_MO_line_98 ?_
          obtain ⟨q30, hq30⟩ : ∃ q, q = (t_MO_isTold M 5) := ⟨_, rfl⟩
          replace hT := qlet_eq hT hq30
          refine r_backZ F hS (r_runV (k := 191) (N := 68) (T := T1) (As := [vI 5]) F hS (show 191 < 231 by decide) (show shK 191 = 5 from rfl) rfl (c_MO_isTold l F.2.2.1 M 5 (inr_c rfl) _ hq30.symm) gs_MO_235 hd_MO_isTold ⟨Nat.le_of_ble_eq_true rfl, Nat.le_of_ble_eq_true rfl⟩ rfl hl.1 (Nat.le_of_ble_eq_true rfl) ⟨Nat.zero_le _, Nat.zero_le _⟩ rfl d_MO_line_99) (fun H locs hS h31 => ?_)
          refine r_if_eq (tgt := 110) F.hx F.hb (inr_z h31) d_MO_line_102 (by decide) (fun c32 => ?_) (fun c32 => ?_)
          · replace hT := (if_pos c32).symm.trans hT
            exact k_MO_line_L110 l hlo F hlk hr M v1_ hv1_ _ _ _ hS (lv_sub hl [0, 1] rfl) hT
          · replace hT := (if_neg c32).symm.trans hT
            exact k_MO_line_L105 l hlo F hlk hr M v1_ hv1_ _ _ _ hS (lv_sub hl [0, 1] rfl) hT
set_option maxHeartbeats 4000000 in
set_option maxRecDepth 100000 in
theorem k_MO_line_L53 (l : Launch) {p : Program} {e : Env} {s : State} {m : MethodId} {below : List Frame} {meth : Method} {c : Code} {b n : Nat} {C : CT} (hlo : 231 ≤ n)   (F : Cx b p m c b_MO_line 2 s ([.ref (b + 191)] : List Value).toArray "WardFallsModel" C n 231) (hlk : meth.locks = false) (hr : meth.sig.returnType = none) {res : Mem} (M : Mem) (v1_ : Int) (hv1_ : InR v1_) (H : Heap) (locs : List Loc) (ls : Array Slot) (hS : St b C n M s H locs) (hl : lv_has ls 2 [(0, .ref (b + 191)), (1, vI v1_)]) (hT : t_MO_line_L53 M v1_ = some res) : W p l e (headSpec (wsM y_MO_line b_MO_line 2 (none)) (rmD 242)).room s m ([.ref (b + 191)] : List Value).toArray below meth c H locs 0 0 (MQ below (QV b C n res) ([.ref (b + 191)] : List Value).toArray s 0 0 (frb b)) (F0 m 53 ls []) := by
  unfold t_MO_line_L53 at hT
  refine lv_aload_n F.hx F.hb d_MO_line_53 rfl (lv_at hl 0 rfl) ?_
  refine lv_iload_n F.hx F.hb d_MO_line_54 rfl (lv_at hl 1 rfl) ?_
  obtain ⟨q15, hq15⟩ : ∃ q, q = (t_MO_isTold M v1_) := ⟨_, rfl⟩
  replace hT := qlet_eq hT hq15
  refine r_backZ F hS (r_runV (k := 191) (N := 68) (T := T1) (As := [vI v1_]) F hS (show 191 < 231 by decide) (show shK 191 = 5 from rfl) rfl (c_MO_isTold l F.2.2.1 M v1_ hv1_ _ hq15.symm) gs_MO_235 hd_MO_isTold ⟨Nat.le_of_ble_eq_true rfl, Nat.le_of_ble_eq_true rfl⟩ rfl hl.1 (Nat.le_of_ble_eq_true rfl) ⟨Nat.zero_le _, Nat.zero_le _⟩ rfl d_MO_line_55) (fun H locs hS h16 => ?_)
  refine r_if_eq (tgt := 69) F.hx F.hb (inr_z h16) d_MO_line_58 (by decide) (fun c17 => ?_) (fun c17 => ?_)
  · replace hT := (if_pos c17).symm.trans hT
    exact k_MO_line_L69 l hlo F hlk hr M v1_ hv1_ _ _ _ hS (lv_sub hl [0, 1] rfl) hT
  · replace hT := (if_neg c17).symm.trans hT
    refine lv_aload_n F.hx F.hb d_MO_line_61 rfl (lv_at hl 0 rfl) ?_
    refine r_iconst F.hx F.hb d_MO_line_62 ?_
    obtain ⟨q18, hq18⟩ : ∃ q, q = (t_MO_wrong M 3) := ⟨_, rfl⟩
    replace hT := qlet_eq hT hq18
    refine r_backV F hS (r_runV (k := 191) (N := 68) (T := T1) (As := [vI 3]) F hS (show 191 < 231 by decide) (show shK 191 = 5 from rfl) rfl (c_MO_wrong l F.2.2.1 M 3 (inr_c rfl) _ hq18.symm) gs_MO_208 hd_MO_wrong ⟨Nat.le_of_ble_eq_true rfl, Nat.le_of_ble_eq_true rfl⟩ rfl hl.1 (Nat.le_of_ble_eq_true rfl) ⟨Nat.zero_le _, Nat.zero_le _⟩ rfl d_MO_line_63) (fun H locs hS => ?_)
    refine lv_goto (tgt := 110) F.hx F.hb d_MO_line_66 (by decide) ?_
    exact k_MO_line_L110 l hlo F hlk hr q18 v1_ hv1_ _ _ _ hS (lv_sub hl [0, 1] rfl) hT
set_option maxHeartbeats 4000000 in
set_option maxRecDepth 100000 in
theorem c_MO_line (l : Launch) {b n : Nat} {C : CT} (hlo : 231 ≤ n) (M : Mem)   (res : Mem) (hT : t_MO_line M  = some res) : CM l b C n 242 y_MO_line b_MO_line 2 (none) [.ref (b + 191)] M (QV b C n res) := by
  refine CM.of (lo := 231) (ow := "WardFallsModel") (by decide) rfl (Nat.le_of_ble_eq_true rfl) hlo (fun p e s m below meth c F hlk hr hS ls hl => ?_)
  have hl : lv_has ls 2 [(0, .ref (b + 191))] := hl
  unfold t_MO_line at hT
  refine lv_aload_n F.hx F.hb d_MO_line_0 rfl (lv_at hl 0 rfl) ?_
  refine r_get (v := vI (M.1 191 22)) (N := 68) (T := T1) (j := 22) F hS (show 191 < 231 by decide) (show shK 191 = 5 from rfl) (show shN 191 = 68 from rfl) rfl (Nat.le_of_ble_eq_true rfl) ing1 mw_1411 (fv_int rfl) d_MO_line_1 ?_
  have i1 := hS.rng 191 22
  refine r_if_ne (tgt := 16) F.hx F.hb i1 d_MO_line_4 (by decide) (fun c2 => ?_) (fun c2 => ?_)
  · replace hT := (if_neg c2).symm.trans hT
    exact k_MO_line_L16 l hlo F hlk hr M _ _ _ hS (lv_sub hl [0] rfl) hT
  · replace hT := (if_pos c2).symm.trans hT
    refine lv_aload_n F.hx F.hb d_MO_line_7 rfl (lv_at hl 0 rfl) ?_
    refine r_get (v := vI (M.1 191 23)) (N := 68) (T := T1) (j := 23) F hS (show 191 < 231 by decide) (show shK 191 = 5 from rfl) (show shN 191 = 68 from rfl) rfl (Nat.le_of_ble_eq_true rfl) ing1 mw_1412 (fv_int rfl) d_MO_line_8 ?_
    have i3 := hS.rng 191 23
    refine r_bipush F.hx F.hb d_MO_line_11 rfl ?_
    refine r_icmp_le (tgt := 22) F.hx F.hb i3 (inr_c rfl) d_MO_line_13 (by decide) (fun c4 => ?_) (fun c4 => ?_)
    · replace hT := (if_pos c4).symm.trans hT
      refine lv_aload_n F.hx F.hb d_MO_line_22 rfl (lv_at hl 0 rfl) ?_
      refine r_get (v := vI (M.1 191 23)) (N := 68) (T := T1) (j := 23) F hS (show 191 < 231 by decide) (show shK 191 = 5 from rfl) (show shN 191 = 68 from rfl) rfl (Nat.le_of_ble_eq_true rfl) ing1 mw_1412 (fv_int rfl) d_MO_line_23 ?_
      have i5 := hS.rng 191 23
      refine lv_istore_n (lv' := [(1, vI (M.1 191 23)), (0, .ref (b + 191))]) F.hx F.hb d_MO_line_26 rfl hl (Nat.le_of_ble_eq_true rfl) rfl (fun ls hl => ?_)
      refine lv_aload_n F.hx F.hb d_MO_line_27 rfl (lv_at hl 1 rfl) ?_
      refine lv_iload_n F.hx F.hb d_MO_line_28 rfl (lv_at hl 0 rfl) ?_
      obtain ⟨q6, hq6, hT⟩ := q_obind hT
      refine r_backZ F hS (r_runV (k := 191) (N := 68) (T := T1) (As := [vI (M.1 191 23)]) F hS (show 191 < 231 by decide) (show shK 191 = 5 from rfl) rfl (c_MO_isFull l F.2.2.1 M (M.1 191 23) i5 _ hq6) gs_MO_232 hd_MO_isFull ⟨Nat.le_of_ble_eq_true rfl, Nat.le_of_ble_eq_true rfl⟩ rfl hl.1 (Nat.le_of_ble_eq_true rfl) ⟨Nat.zero_le _, Nat.zero_le _⟩ rfl d_MO_line_29) (fun H locs hS h7 => ?_)
      refine r_if_eq (tgt := 43) F.hx F.hb (inr_z h7) d_MO_line_32 (by decide) (fun c8 => ?_) (fun c8 => ?_)
      · replace hT := (if_pos c8).symm.trans hT
        refine lv_iload_n F.hx F.hb d_MO_line_43 rfl (lv_at hl 0 rfl) ?_
        refine r_if_eq (tgt := 53) F.hx F.hb i5 d_MO_line_44 (by decide) (fun c9 => ?_) (fun c9 => ?_)
        · replace hT := (if_pos c9).symm.trans hT
          exact k_MO_line_L53 l hlo F hlk hr M (M.1 191 23) i5 _ _ _ hS (lv_sub hl [1, 0] rfl) hT
        · replace hT := (if_neg c9).symm.trans hT
          refine lv_iload_n F.hx F.hb d_MO_line_47 rfl (lv_at hl 0 rfl) ?_
          refine r_bipush F.hx F.hb d_MO_line_48 rfl ?_
          refine r_icmp_ne (tgt := 69) F.hx F.hb i5 (inr_c rfl) d_MO_line_50 (by decide) (fun c10 => ?_) (fun c10 => ?_)
          · replace hT := (if_neg c10).symm.trans hT
            exact k_MO_line_L69 l hlo F hlk hr M (M.1 191 23) i5 _ _ _ hS (lv_sub hl [1, 0] rfl) hT
          · replace hT := (if_pos c10).symm.trans hT
            exact k_MO_line_L53 l hlo F hlk hr M (M.1 191 23) i5 _ _ _ hS (lv_sub hl [1, 0] rfl) hT
      · replace hT := (if_neg c8).symm.trans hT
        refine lv_aload_n F.hx F.hb d_MO_line_35 rfl (lv_at hl 1 rfl) ?_
        refine r_iconst F.hx F.hb d_MO_line_36 ?_
        obtain ⟨q11, hq11⟩ : ∃ q, q = (t_MO_wrong M 2) := ⟨_, rfl⟩
        replace hT := qlet_eq hT hq11
        refine r_backV F hS (r_runV (k := 191) (N := 68) (T := T1) (As := [vI 2]) F hS (show 191 < 231 by decide) (show shK 191 = 5 from rfl) rfl (c_MO_wrong l F.2.2.1 M 2 (inr_c rfl) _ hq11.symm) gs_MO_208 hd_MO_wrong ⟨Nat.le_of_ble_eq_true rfl, Nat.le_of_ble_eq_true rfl⟩ rfl hl.1 (Nat.le_of_ble_eq_true rfl) ⟨Nat.zero_le _, Nat.zero_le _⟩ rfl d_MO_line_37) (fun H locs hS => ?_)
        refine lv_goto (tgt := 110) F.hx F.hb d_MO_line_40 (by decide) ?_
        exact k_MO_line_L110 l hlo F hlk hr q11 (M.1 191 23) i5 _ _ _ hS (lv_sub hl [1, 0] rfl) hT
    · replace hT := (if_neg c4).symm.trans hT
      exact k_MO_line_L16 l hlo F hlk hr M _ _ _ hS (lv_sub hl [0] rfl) hT
theorem d_MO_half_0 : decode b_MO_half 0 = .ok (.aload_n 0, 1) := dc_42 (by decide +kernel)
theorem d_MO_half_1 : decode b_MO_half 1 = .ok (.arraylength, 1) := dc_190 (by decide +kernel)
theorem d_MO_half_2 : decode b_MO_half 2 = .ok (.iconst 2, 1) := dc_5 (by decide +kernel)
theorem d_MO_half_3 : decode b_MO_half 3 = .ok (.idiv, 1) := dc_108 (by decide +kernel)
theorem d_MO_half_4 : decode b_MO_half 4 = .ok (.istore_n 1, 1) := dc_60 (by decide +kernel)
theorem d_MO_half_5 : decode b_MO_half 5 = .ok (.iconst 0, 1) := dc_3 (by decide +kernel)
theorem d_MO_half_6 : decode b_MO_half 6 = .ok (.istore_n 2, 1) := dc_61 (by decide +kernel)
theorem d_MO_half_7 : decode b_MO_half 7 = .ok (.iload_n 2, 1) := dc_28 (by decide +kernel)
theorem d_MO_half_8 : decode b_MO_half 8 = .ok (.iload_n 1, 1) := dc_27 (by decide +kernel)
theorem d_MO_half_9 : decode b_MO_half 9 = .ok (.if_icmp .ge 17, 3) := dc_162 (by decide +kernel)
theorem d_MO_half_12 : decode b_MO_half 12 = .ok (.aload_n 0, 1) := dc_42 (by decide +kernel)
theorem d_MO_half_13 : decode b_MO_half 13 = .ok (.iload_n 2, 1) := dc_28 (by decide +kernel)
theorem d_MO_half_14 : decode b_MO_half 14 = .ok (.aload_n 0, 1) := dc_42 (by decide +kernel)
theorem d_MO_half_15 : decode b_MO_half 15 = .ok (.iload_n 1, 1) := dc_27 (by decide +kernel)
theorem d_MO_half_16 : decode b_MO_half 16 = .ok (.iload_n 2, 1) := dc_28 (by decide +kernel)
theorem d_MO_half_17 : decode b_MO_half 17 = .ok (.iadd, 1) := dc_96 (by decide +kernel)
theorem d_MO_half_18 : decode b_MO_half 18 = .ok (.iaload, 1) := dc_46 (by decide +kernel)
theorem d_MO_half_19 : decode b_MO_half 19 = .ok (.iastore, 1) := dc_79 (by decide +kernel)
theorem d_MO_half_20 : decode b_MO_half 20 = .ok (.iinc 2 1, 3) := dc_132 (by decide +kernel)
theorem d_MO_half_23 : decode b_MO_half 23 = .ok (.goto (-16), 3) := dc_167 (by decide +kernel)
theorem d_MO_half_26 : decode b_MO_half 26 = .ok (.return_, 1) := dc_177 (by decide +kernel)
def t_MO_half_L7 (r1 : Nat) (N1 : Nat)  : Nat → Mem → Int → Int → Option (Mem)
  | 0, _, _, _ => none
  | fu + 1, M, v1_, v2_ => (if v1_ ≤ v2_ then (some M) else (qguard (0 ≤ (w32 (v1_ + v2_)) ∧ (w32 (v1_ + v2_)) < (N1 : Int)) (qguard (0 ≤ v2_ ∧ v2_ < (N1 : Int)) (qlet (setI M r1 v2_ (M.1 r1 (w32 (v1_ + v2_)))) fun M5 => (t_MO_half_L7 r1 N1 fu M5 v1_ (w32 (v2_ + 1)))))))
def t_MO_half (M : Mem) (r1 : Nat) (N1 : Nat) : Option (Mem) := (t_MO_half_L7 r1 N1 FU M (q_div (N1 : Int) 2) 0)
set_option maxHeartbeats 4000000 in
set_option maxRecDepth 100000 in
theorem k_MO_half_L7 (l : Launch) {p : Program} {e : Env} {s : State} {m : MethodId} {below : List Frame} {meth : Method} {c : Code} {b n : Nat} {C : CT} (hlo : 231 ≤ n) (r1 : Nat) (N1 : Nat) (hr1 : arrP 0 r1 N1 231) (F : Cx b p m c b_MO_half 3 s ([.ref (b + r1)] : List Value).toArray "WardFallsModel" C n 231) (hlk : meth.locks = false) (hr : meth.sig.returnType = none) {res : Mem} : ∀ (fu : Nat) (M : Mem) (v1_ : Int) (hv1_ : InR v1_) (v2_ : Int) (hv2_ : InR v2_) (H : Heap) (locs : List Loc) (ls : Array Slot), St b C n M s H locs → lv_has ls 3 [(0, .ref (b + r1)), (1, vI v1_), (2, vI v2_)] → t_MO_half_L7 r1 N1 fu M v1_ v2_ = some res → W p l e (headSpec (wsM y_MO_half b_MO_half 3 (none)) (rmD 0)).room s m ([.ref (b + r1)] : List Value).toArray below meth c H locs 0 0 (MQ below (QV b C n res) ([.ref (b + r1)] : List Value).toArray s 0 0 (frb b)) (F0 m 7 ls []) := by
  intro fu
  induction fu with
  | zero => intro M v1_ hv1_ v2_ hv2_ H locs ls hS hl hT; exact absurd hT (by simp [t_MO_half_L7])
  | succ fu ih =>
    intro M v1_ hv1_ v2_ hv2_ H locs ls hS hl hT
    rw [t_MO_half_L7] at hT
    refine lv_iload_n F.hx F.hb d_MO_half_7 rfl (lv_at hl 2 rfl) ?_
    refine lv_iload_n F.hx F.hb d_MO_half_8 rfl (lv_at hl 1 rfl) ?_
    refine r_icmp_ge (tgt := 26) F.hx F.hb hv2_ hv1_ d_MO_half_9 (by decide) (fun c1 => ?_) (fun c1 => ?_)
    · replace hT := (if_pos c1).symm.trans hT
      cases hT
      exact r_vret F hlk hr hS d_MO_half_26
    · replace hT := (if_neg c1).symm.trans hT
      refine lv_aload_n F.hx F.hb d_MO_half_12 rfl (lv_at hl 0 rfl) ?_
      refine lv_iload_n F.hx F.hb d_MO_half_13 rfl (lv_at hl 2 rfl) ?_
      refine lv_aload_n F.hx F.hb d_MO_half_14 rfl (lv_at hl 0 rfl) ?_
      refine lv_iload_n F.hx F.hb d_MO_half_15 rfl (lv_at hl 1 rfl) ?_
      refine lv_iload_n F.hx F.hb d_MO_half_16 rfl (lv_at hl 2 rfl) ?_
      refine r_iadd F.hx F.hb d_MO_half_17 ?_
      obtain ⟨⟨g2a, g2b⟩, hT⟩ := q_guard hT
      refine r_iald F hS hr1.2.2 hr1.1 hr1.2.1 (inr_w32 _) g2a g2b d_MO_half_18 ?_
      have i3 := hS.rng r1 (w32 (v1_ + v2_))
      obtain ⟨⟨g4a, g4b⟩, hT⟩ := q_guard hT
      refine r_iast F hS hr1.2.2 hr1.1 hr1.2.1 hv2_ i3 g4a g4b d_MO_half_19 (fun H locs hS => ?_)
      obtain ⟨M5, eM5⟩ : ∃ q, q = (setI M r1 v2_ (M.1 r1 (w32 (v1_ + v2_)))) := ⟨_, rfl⟩
      replace hS : St b C n M5 s H locs := by rw [eM5]; exact hS
      replace hT := qlet_eq hT eM5
      refine lv_iinc (v := Int32.ofInt (w32 (v2_ + 1))) (lv' := [(2, vI (w32 (v2_ + 1))), (0, .ref (b + r1)), (1, vI v1_)]) F.hx F.hb d_MO_half_20 hl (k := 2) rfl (q_of_add _ _) (Nat.le_of_ble_eq_true rfl) rfl (fun ls hl => ?_)
      refine lv_goto (tgt := 7) F.hx F.hb d_MO_half_23 (by decide) ?_
      exact ih M5 v1_ hv1_ (w32 (v2_ + 1)) (inr_w32 _) _ _ _ hS (lv_sub hl [1, 2, 0] rfl) hT
set_option maxHeartbeats 4000000 in
set_option maxRecDepth 100000 in
theorem c_MO_half (l : Launch) {b n : Nat} {C : CT} (hlo : 231 ≤ n) (M : Mem) (r1 : Nat) (N1 : Nat) (hr1 : arrP 0 r1 N1 231) (res : Mem) (hT : t_MO_half M r1 N1 = some res) : CM l b C n 0 y_MO_half b_MO_half 3 (none) [.ref (b + r1)] M (QV b C n res) := by
  refine CM.of (lo := 231) (ow := "WardFallsModel") (by decide) rfl (Nat.le_of_ble_eq_true rfl) hlo (fun p e s m below meth c F hlk hr hS ls hl => ?_)
  have hl : lv_has ls 3 [(0, .ref (b + r1))] := hl
  unfold t_MO_half at hT
  refine lv_aload_n F.hx F.hb d_MO_half_0 rfl (lv_at hl 0 rfl) ?_
  refine r_alen F hS hr1.2.2 (by rw [hr1.1]; decide) hr1.2.1 d_MO_half_1 rfl ?_
  refine r_iconst F.hx F.hb d_MO_half_2 ?_
  refine r_idiv F.hx F.hb (inr_c rfl) (by decide) d_MO_half_3 ?_
  refine lv_istore_n (lv' := [(1, vI (q_div (N1 : Int) 2)), (0, .ref (b + r1))]) F.hx F.hb d_MO_half_4 rfl hl (Nat.le_of_ble_eq_true rfl) rfl (fun ls hl => ?_)
  refine r_iconst F.hx F.hb d_MO_half_5 ?_
  refine lv_istore_n (lv' := [(2, vI 0), (1, vI (q_div (N1 : Int) 2)), (0, .ref (b + r1))]) F.hx F.hb d_MO_half_6 rfl hl (Nat.le_of_ble_eq_true rfl) rfl (fun ls hl => ?_)
  exact k_MO_half_L7 l hlo r1 N1 hr1 F hlk hr FU M (q_div (N1 : Int) 2) (q_inr_toInt _) 0 (inr_c rfl) _ _ _ hS (lv_sub hl [2, 1, 0] rfl) hT
