section
theorem d_MO_negation_0 : decode b_MO_negation 0 = .ok (.aload_n 0, 1) := dc_42 (by decide +kernel)
theorem d_MO_negation_1 : decode b_MO_negation 1 = .ok (.bipush 17, 2) := dc_16 (by decide +kernel)
theorem d_MO_negation_3 : decode b_MO_negation 3 = .ok (.invokevirtual 285, 3) := dc_182 (by decide +kernel)
theorem d_MO_negation_6 : decode b_MO_negation 6 = .ok (.ifCond .eq 24, 3) := dc_153 (by decide +kernel)
theorem d_MO_negation_9 : decode b_MO_negation 9 = .ok (.aload_n 0, 1) := dc_42 (by decide +kernel)
theorem d_MO_negation_10 : decode b_MO_negation 10 = .ok (.invokevirtual 288, 3) := dc_182 (by decide +kernel)
theorem d_MO_negation_13 : decode b_MO_negation 13 = .ok (.aload_n 0, 1) := dc_42 (by decide +kernel)
theorem d_MO_negation_14 : decode b_MO_negation 14 = .ok (.invokevirtual 215, 3) := dc_182 (by decide +kernel)
theorem d_MO_negation_17 : decode b_MO_negation 17 = .ok (.aload_n 0, 1) := dc_42 (by decide +kernel)
theorem d_MO_negation_18 : decode b_MO_negation 18 = .ok (.invokevirtual 294, 3) := dc_182 (by decide +kernel)
theorem d_MO_negation_21 : decode b_MO_negation 21 = .ok (.aload_n 0, 1) := dc_42 (by decide +kernel)
theorem d_MO_negation_22 : decode b_MO_negation 22 = .ok (.iconst 2, 1) := dc_5 (by decide +kernel)
theorem d_MO_negation_23 : decode b_MO_negation 23 = .ok (.sipush 260, 3) := dc_17 (by decide +kernel)
theorem d_MO_negation_26 : decode b_MO_negation 26 = .ok (.invokevirtual 291, 3) := dc_182 (by decide +kernel)
theorem d_MO_negation_29 : decode b_MO_negation 29 = .ok (.return_, 1) := dc_177 (by decide +kernel)
theorem d_MO_negation_30 : decode b_MO_negation 30 = .ok (.aload_n 0, 1) := dc_42 (by decide +kernel)
theorem d_MO_negation_31 : decode b_MO_negation 31 = .ok (.invokevirtual 297, 3) := dc_182 (by decide +kernel)
theorem d_MO_negation_34 : decode b_MO_negation 34 = .ok (.aload_n 0, 1) := dc_42 (by decide +kernel)
theorem d_MO_negation_35 : decode b_MO_negation 35 = .ok (.getfield 199, 3) := dc_180 (by decide +kernel)
theorem d_MO_negation_38 : decode b_MO_negation 38 = .ok (.ifCond .ne 48, 3) := dc_154 (by decide +kernel)
theorem d_MO_negation_41 : decode b_MO_negation 41 = .ok (.aload_n 0, 1) := dc_42 (by decide +kernel)
theorem d_MO_negation_42 : decode b_MO_negation 42 = .ok (.getfield 164, 3) := dc_180 (by decide +kernel)
theorem d_MO_negation_45 : decode b_MO_negation 45 = .ok (.iconst 3, 1) := dc_6 (by decide +kernel)
theorem d_MO_negation_46 : decode b_MO_negation 46 = .ok (.if_icmp .ne 40, 3) := dc_160 (by decide +kernel)
theorem d_MO_negation_49 : decode b_MO_negation 49 = .ok (.aload_n 0, 1) := dc_42 (by decide +kernel)
theorem d_MO_negation_50 : decode b_MO_negation 50 = .ok (.getfield 174, 3) := dc_180 (by decide +kernel)
theorem d_MO_negation_53 : decode b_MO_negation 53 = .ok (.bipush 60, 2) := dc_16 (by decide +kernel)
theorem d_MO_negation_55 : decode b_MO_negation 55 = .ok (.if_icmp .eq 32, 3) := dc_159 (by decide +kernel)
theorem d_MO_negation_58 : decode b_MO_negation 58 = .ok (.aload_n 0, 1) := dc_42 (by decide +kernel)
theorem d_MO_negation_59 : decode b_MO_negation 59 = .ok (.getfield 174, 3) := dc_180 (by decide +kernel)
theorem d_MO_negation_62 : decode b_MO_negation 62 = .ok (.bipush 62, 2) := dc_16 (by decide +kernel)
theorem d_MO_negation_64 : decode b_MO_negation 64 = .ok (.if_icmp .eq 23, 3) := dc_159 (by decide +kernel)
theorem d_MO_negation_67 : decode b_MO_negation 67 = .ok (.aload_n 0, 1) := dc_42 (by decide +kernel)
theorem d_MO_negation_68 : decode b_MO_negation 68 = .ok (.getfield 174, 3) := dc_180 (by decide +kernel)
theorem d_MO_negation_71 : decode b_MO_negation 71 = .ok (.bipush 61, 2) := dc_16 (by decide +kernel)
theorem d_MO_negation_73 : decode b_MO_negation 73 = .ok (.if_icmp .eq 14, 3) := dc_159 (by decide +kernel)
theorem d_MO_negation_76 : decode b_MO_negation 76 = .ok (.aload_n 0, 1) := dc_42 (by decide +kernel)
theorem d_MO_negation_77 : decode b_MO_negation 77 = .ok (.getfield 174, 3) := dc_180 (by decide +kernel)
theorem d_MO_negation_80 : decode b_MO_negation 80 = .ok (.sipush 256, 3) := dc_17 (by decide +kernel)
theorem d_MO_negation_83 : decode b_MO_negation 83 = .ok (.if_icmp .ge 4, 3) := dc_162 (by decide +kernel)
theorem d_MO_negation_86 : decode b_MO_negation 86 = .ok (.return_, 1) := dc_177 (by decide +kernel)
theorem d_MO_negation_87 : decode b_MO_negation 87 = .ok (.aload_n 0, 1) := dc_42 (by decide +kernel)
theorem d_MO_negation_88 : decode b_MO_negation 88 = .ok (.getfield 174, 3) := dc_180 (by decide +kernel)
theorem d_MO_negation_91 : decode b_MO_negation 91 = .ok (.istore_n 1, 1) := dc_60 (by decide +kernel)
theorem d_MO_negation_92 : decode b_MO_negation 92 = .ok (.aload_n 0, 1) := dc_42 (by decide +kernel)
theorem d_MO_negation_93 : decode b_MO_negation 93 = .ok (.invokevirtual 288, 3) := dc_182 (by decide +kernel)
theorem d_MO_negation_96 : decode b_MO_negation 96 = .ok (.aload_n 0, 1) := dc_42 (by decide +kernel)
theorem d_MO_negation_97 : decode b_MO_negation 97 = .ok (.invokevirtual 215, 3) := dc_182 (by decide +kernel)
theorem d_MO_negation_100 : decode b_MO_negation 100 = .ok (.aload_n 0, 1) := dc_42 (by decide +kernel)
theorem d_MO_negation_101 : decode b_MO_negation 101 = .ok (.invokevirtual 297, 3) := dc_182 (by decide +kernel)
theorem d_MO_negation_104 : decode b_MO_negation 104 = .ok (.aload_n 0, 1) := dc_42 (by decide +kernel)
theorem d_MO_negation_105 : decode b_MO_negation 105 = .ok (.iconst 2, 1) := dc_5 (by decide +kernel)
theorem d_MO_negation_106 : decode b_MO_negation 106 = .ok (.iload_n 1, 1) := dc_27 (by decide +kernel)
theorem d_MO_negation_107 : decode b_MO_negation 107 = .ok (.invokevirtual 291, 3) := dc_182 (by decide +kernel)
theorem d_MO_negation_110 : decode b_MO_negation 110 = .ok (.return_, 1) := dc_177 (by decide +kernel)
def t_MO_negation_L87 (rc : Nat → Mem → Option Mem)  (M : Mem)  : Option (Mem) := (qlet (t_MO_knot M) fun q27 => (obind (t_MO_goOn q27) fun q29 => (obind (rc 3 q29) fun q31 => (obind (t_MO_puts q31 2 (M.1 191 23)) fun q33 => (some q33)))))
def t_MO_negation_B (M : Mem) (rc : Nat → Mem → Option Mem) : Option (Mem) := (qlet (t_MO_isWord M 17) fun q1 => (if q1 = 0 then (obind (rc 3 M) fun q4 => (if (q4.1 191 24) = 0 then (if (q4.1 191 22) = 3 then (if (q4.1 191 23) = 60 then (t_MO_negation_L87 rc q4) else (if (q4.1 191 23) = 62 then (t_MO_negation_L87 rc q4) else (if (q4.1 191 23) = 61 then (t_MO_negation_L87 rc q4) else (if 256 ≤ (q4.1 191 23) then (t_MO_negation_L87 rc q4) else (some q4))))) else (some q4)) else (some q4))) else (qlet (t_MO_knot M) fun q18 => (obind (t_MO_goOn q18) fun q20 => (obind (rc 2 q20) fun q22 => (obind (t_MO_puts q22 2 260) fun q24 => (some q24)))))))
set_option maxHeartbeats 4000000 in
set_option maxRecDepth 100000 in
theorem k_MO_negation_L87 (l : Launch) {d : Nat} {p : Program} {e : Env} {s : State} {m : MethodId} {below : List Frame} {meth : Method} {c : Code} {b n : Nat} {C : CT} (hlo : 231 ≤ n) (rc : Nat → Mem → Option Mem) (hrc0 : ∀ (M res : Mem), rc 0 M = some res → CM l b C n (d + 40) y_MO_expression b_MO_expression 1 (none) [.ref (b + 191)] M (QV b C n res)) (hrc1 : ∀ (M res : Mem), rc 1 M = some res → CM l b C n (d + 40) y_MO_conjunction b_MO_conjunction 1 (none) [.ref (b + 191)] M (QV b C n res)) (hrc2 : ∀ (M res : Mem), rc 2 M = some res → CM l b C n (d + 40) y_MO_negation b_MO_negation 2 (none) [.ref (b + 191)] M (QV b C n res)) (hrc3 : ∀ (M res : Mem), rc 3 M = some res → CM l b C n (d + 40) y_MO_sum b_MO_sum 2 (none) [.ref (b + 191)] M (QV b C n res)) (hrc4 : ∀ (M res : Mem), rc 4 M = some res → CM l b C n (d + 40) y_MO_product b_MO_product 2 (none) [.ref (b + 191)] M (QV b C n res)) (hrc5 : ∀ (M res : Mem), rc 5 M = some res → CM l b C n (d + 40) y_MO_primary b_MO_primary 2 (none) [.ref (b + 191)] M (QV b C n res)) (F : Cx b p m c b_MO_negation 2 s ([.ref (b + 191)] : List Value).toArray "WardFallsModel" C n 231) (hlk : meth.locks = false) (hr : meth.sig.returnType = none) {res : Mem} (M : Mem)  (H : Heap) (locs : List Loc) (ls : Array Slot) (hS : St b C n M s H locs) (hl : lv_has ls 2 [(0, .ref (b + 191))]) (hT : t_MO_negation_L87 rc M = some res) : W p l e (headSpec (wsM y_MO_negation b_MO_negation 2 (none)) (rmD (d + 1 + 40))).room s m ([.ref (b + 191)] : List Value).toArray below meth c H locs 0 0 (MQ below (QV b C n res) ([.ref (b + 191)] : List Value).toArray s 0 0 (frb b)) (F0 m 87 ls []) := by
  unfold t_MO_negation_L87 at hT
  refine lv_aload_n F.hx F.hb d_MO_negation_87 rfl (lv_at hl 0 rfl) ?_
  refine r_get (v := vI (M.1 191 23)) (N := 68) (T := T1) (j := 23) F hS (show 191 < 231 by decide) (show shK 191 = 5 from rfl) (show shN 191 = 68 from rfl) rfl (Nat.le_of_ble_eq_true rfl) ing1 mw_1412 (fv_int rfl) d_MO_negation_88 ?_
  have i26 := hS.rng 191 23
  refine lv_istore_n (lv' := [(1, vI (M.1 191 23)), (0, .ref (b + 191))]) F.hx F.hb d_MO_negation_91 rfl hl (Nat.le_of_ble_eq_true rfl) rfl (fun ls hl => ?_)
  refine lv_aload_n F.hx F.hb d_MO_negation_92 rfl (lv_at hl 1 rfl) ?_
  obtain ⟨q27, hq27⟩ : ∃ q, q = (t_MO_knot M) := ⟨_, rfl⟩
  replace hT := qlet_eq hT hq27
  refine r_backV F hS (r_runV (k := 191) (N := 68) (T := T1) (As := []) F hS (show 191 < 231 by decide) (show shK 191 = 5 from rfl) rfl (c_MO_knot l F.2.2.1 M _ hq27.symm) gs_MO_288 hd_MO_knot ⟨(by show 1 + 1 ≤ d + 1 + 40; omega), (by show 8 + (1 + 11) + 48 * 1 ≤ 48 * (d + 1 + 40); omega)⟩ rfl hl.1 (Nat.le_of_ble_eq_true rfl) ⟨Nat.zero_le _, Nat.zero_le _⟩ rfl d_MO_negation_93) (fun H locs hS => ?_)
  refine lv_aload_n F.hx F.hb d_MO_negation_96 rfl (lv_at hl 1 rfl) ?_
  obtain ⟨q29, hq29, hT⟩ := q_obind hT
  refine r_backV F hS (r_runV (k := 191) (N := 68) (T := T1) (As := []) F hS (show 191 < 231 by decide) (show shK 191 = 5 from rfl) rfl (c_MO_goOn l F.2.2.1 q27 _ hq29) gs_MO_215 hd_MO_goOn ⟨(by show 6 + 1 ≤ d + 1 + 40; omega), (by show 8 + (1 + 11) + 48 * 6 ≤ 48 * (d + 1 + 40); omega)⟩ rfl hl.1 (Nat.le_of_ble_eq_true rfl) ⟨Nat.zero_le _, Nat.zero_le _⟩ rfl d_MO_negation_97) (fun H locs hS => ?_)
  refine lv_aload_n F.hx F.hb d_MO_negation_100 rfl (lv_at hl 1 rfl) ?_
  obtain ⟨q31, hq31, hT⟩ := q_obind hT
  refine r_backV F hS (r_runV (k := 191) (N := 68) (T := T1) (As := []) F hS (show 191 < 231 by decide) (show shK 191 = 5 from rfl) rfl (hrc3 _ _ hq31) gs_MO_297 hd_MO_sum ⟨(by show (d + 40) + 1 ≤ d + 1 + 40; omega), (by show 8 + (2 + 11) + 48 * (d + 40) ≤ 48 * (d + 1 + 40); omega)⟩ rfl hl.1 (Nat.le_of_ble_eq_true rfl) ⟨Nat.zero_le _, Nat.zero_le _⟩ rfl d_MO_negation_101) (fun H locs hS => ?_)
  refine lv_aload_n F.hx F.hb d_MO_negation_104 rfl (lv_at hl 1 rfl) ?_
  refine r_iconst F.hx F.hb d_MO_negation_105 ?_
  refine lv_iload_n F.hx F.hb d_MO_negation_106 rfl (lv_at hl 0 rfl) ?_
  obtain ⟨q33, hq33, hT⟩ := q_obind hT
  refine r_backV F hS (r_runV (k := 191) (N := 68) (T := T1) (As := [vI 2, vI (M.1 191 23)]) F hS (show 191 < 231 by decide) (show shK 191 = 5 from rfl) rfl (c_MO_puts l F.2.2.1 q31 2 (M.1 191 23) (inr_c rfl) i26 _ hq33) gs_MO_291 hd_MO_puts ⟨(by show 1 + 1 ≤ d + 1 + 40; omega), (by show 8 + (3 + 11) + 48 * 1 ≤ 48 * (d + 1 + 40); omega)⟩ rfl hl.1 (Nat.le_of_ble_eq_true rfl) ⟨Nat.zero_le _, Nat.zero_le _⟩ rfl d_MO_negation_107) (fun H locs hS => ?_)
  cases hT
  exact r_vret F hlk hr hS d_MO_negation_110
set_option maxHeartbeats 4000000 in
set_option maxRecDepth 100000 in
theorem c_MO_negation_B (l : Launch) {d : Nat} {b n : Nat} {C : CT} (hlo : 231 ≤ n) (M : Mem) (rc : Nat → Mem → Option Mem) (hrc0 : ∀ (M res : Mem), rc 0 M = some res → CM l b C n (d + 40) y_MO_expression b_MO_expression 1 (none) [.ref (b + 191)] M (QV b C n res)) (hrc1 : ∀ (M res : Mem), rc 1 M = some res → CM l b C n (d + 40) y_MO_conjunction b_MO_conjunction 1 (none) [.ref (b + 191)] M (QV b C n res)) (hrc2 : ∀ (M res : Mem), rc 2 M = some res → CM l b C n (d + 40) y_MO_negation b_MO_negation 2 (none) [.ref (b + 191)] M (QV b C n res)) (hrc3 : ∀ (M res : Mem), rc 3 M = some res → CM l b C n (d + 40) y_MO_sum b_MO_sum 2 (none) [.ref (b + 191)] M (QV b C n res)) (hrc4 : ∀ (M res : Mem), rc 4 M = some res → CM l b C n (d + 40) y_MO_product b_MO_product 2 (none) [.ref (b + 191)] M (QV b C n res)) (hrc5 : ∀ (M res : Mem), rc 5 M = some res → CM l b C n (d + 40) y_MO_primary b_MO_primary 2 (none) [.ref (b + 191)] M (QV b C n res)) (res : Mem) (hT : t_MO_negation_B M rc = some res) : CM l b C n (d + 1 + 40) y_MO_negation b_MO_negation 2 (none) [.ref (b + 191)] M (QV b C n res) := by
  refine CM.of (lo := 231) (ow := "WardFallsModel") (by decide) rfl (Nat.le_of_ble_eq_true rfl) hlo (fun p e s m below meth c F hlk hr hS ls hl => ?_)
  have hl : lv_has ls 2 [(0, .ref (b + 191))] := hl
  unfold t_MO_negation_B at hT
  refine lv_aload_n F.hx F.hb d_MO_negation_0 rfl (lv_at hl 0 rfl) ?_
  refine r_bipush F.hx F.hb d_MO_negation_1 rfl ?_
  obtain ⟨q1, hq1⟩ : ∃ q, q = (t_MO_isWord M 17) := ⟨_, rfl⟩
  replace hT := qlet_eq hT hq1
  refine r_backZ F hS (r_runV (k := 191) (N := 68) (T := T1) (As := [vI 17]) F hS (show 191 < 231 by decide) (show shK 191 = 5 from rfl) rfl (c_MO_isWord l F.2.2.1 M 17 (inr_c rfl) _ hq1.symm) gs_MO_285 hd_MO_isWord ⟨(by show 0 + 1 ≤ d + 1 + 40; omega), (by show 8 + (2 + 11) + 48 * 0 ≤ 48 * (d + 1 + 40); omega)⟩ rfl hl.1 (Nat.le_of_ble_eq_true rfl) ⟨Nat.zero_le _, Nat.zero_le _⟩ rfl d_MO_negation_3) (fun H locs hS h2 => ?_)
  refine r_if_eq (tgt := 30) F.hx F.hb (inr_z h2) d_MO_negation_6 (by decide) (fun c3 => ?_) (fun c3 => ?_)
  · replace hT := (if_pos c3).symm.trans hT
    refine lv_aload_n F.hx F.hb d_MO_negation_30 rfl (lv_at hl 0 rfl) ?_
    obtain ⟨q4, hq4, hT⟩ := q_obind hT
    refine r_backV F hS (r_runV (k := 191) (N := 68) (T := T1) (As := []) F hS (show 191 < 231 by decide) (show shK 191 = 5 from rfl) rfl (hrc3 _ _ hq4) gs_MO_297 hd_MO_sum ⟨(by show (d + 40) + 1 ≤ d + 1 + 40; omega), (by show 8 + (2 + 11) + 48 * (d + 40) ≤ 48 * (d + 1 + 40); omega)⟩ rfl hl.1 (Nat.le_of_ble_eq_true rfl) ⟨Nat.zero_le _, Nat.zero_le _⟩ rfl d_MO_negation_31) (fun H locs hS => ?_)
    refine lv_aload_n F.hx F.hb d_MO_negation_34 rfl (lv_at hl 0 rfl) ?_
    refine r_get (v := vI (q4.1 191 24)) (N := 68) (T := T1) (j := 24) F hS (show 191 < 231 by decide) (show shK 191 = 5 from rfl) (show shN 191 = 68 from rfl) rfl (Nat.le_of_ble_eq_true rfl) ing1 mw_1413 (fv_int rfl) d_MO_negation_35 ?_
    have i6 := hS.rng 191 24
    refine r_if_ne (tgt := 86) F.hx F.hb i6 d_MO_negation_38 (by decide) (fun c7 => ?_) (fun c7 => ?_)
    · replace hT := (if_neg c7).symm.trans hT
      cases hT
      exact r_vret F hlk hr hS d_MO_negation_86
    · replace hT := (if_pos c7).symm.trans hT
      refine lv_aload_n F.hx F.hb d_MO_negation_41 rfl (lv_at hl 0 rfl) ?_
      refine r_get (v := vI (q4.1 191 22)) (N := 68) (T := T1) (j := 22) F hS (show 191 < 231 by decide) (show shK 191 = 5 from rfl) (show shN 191 = 68 from rfl) rfl (Nat.le_of_ble_eq_true rfl) ing1 mw_1411 (fv_int rfl) d_MO_negation_42 ?_
      have i8 := hS.rng 191 22
      refine r_iconst F.hx F.hb d_MO_negation_45 ?_
      refine r_icmp_ne (tgt := 86) F.hx F.hb i8 (inr_c rfl) d_MO_negation_46 (by decide) (fun c9 => ?_) (fun c9 => ?_)
      · replace hT := (if_neg c9).symm.trans hT
        cases hT
        exact r_vret F hlk hr hS d_MO_negation_86
      · replace hT := (if_pos c9).symm.trans hT
        refine lv_aload_n F.hx F.hb d_MO_negation_49 rfl (lv_at hl 0 rfl) ?_
        refine r_get (v := vI (q4.1 191 23)) (N := 68) (T := T1) (j := 23) F hS (show 191 < 231 by decide) (show shK 191 = 5 from rfl) (show shN 191 = 68 from rfl) rfl (Nat.le_of_ble_eq_true rfl) ing1 mw_1412 (fv_int rfl) d_MO_negation_50 ?_
        have i10 := hS.rng 191 23
        refine r_bipush F.hx F.hb d_MO_negation_53 rfl ?_
        refine r_icmp_eq (tgt := 87) F.hx F.hb i10 (inr_c rfl) d_MO_negation_55 (by decide) (fun c11 => ?_) (fun c11 => ?_)
        · replace hT := (if_pos c11).symm.trans hT
          exact k_MO_negation_L87 l hlo rc hrc0 hrc1 hrc2 hrc3 hrc4 hrc5 F hlk hr q4 _ _ _ hS (lv_sub hl [0] rfl) hT
        · replace hT := (if_neg c11).symm.trans hT
          refine lv_aload_n F.hx F.hb d_MO_negation_58 rfl (lv_at hl 0 rfl) ?_
          refine r_get (v := vI (q4.1 191 23)) (N := 68) (T := T1) (j := 23) F hS (show 191 < 231 by decide) (show shK 191 = 5 from rfl) (show shN 191 = 68 from rfl) rfl (Nat.le_of_ble_eq_true rfl) ing1 mw_1412 (fv_int rfl) d_MO_negation_59 ?_
          have i12 := hS.rng 191 23
          refine r_bipush F.hx F.hb d_MO_negation_62 rfl ?_
          refine r_icmp_eq (tgt := 87) F.hx F.hb i12 (inr_c rfl) d_MO_negation_64 (by decide) (fun c13 => ?_) (fun c13 => ?_)
          · replace hT := (if_pos c13).symm.trans hT
            exact k_MO_negation_L87 l hlo rc hrc0 hrc1 hrc2 hrc3 hrc4 hrc5 F hlk hr q4 _ _ _ hS (lv_sub hl [0] rfl) hT
          · replace hT := (if_neg c13).symm.trans hT
            refine lv_aload_n F.hx F.hb d_MO_negation_67 rfl (lv_at hl 0 rfl) ?_
            refine r_get (v := vI (q4.1 191 23)) (N := 68) (T := T1) (j := 23) F hS (show 191 < 231 by decide) (show shK 191 = 5 from rfl) (show shN 191 = 68 from rfl) rfl (Nat.le_of_ble_eq_true rfl) ing1 mw_1412 (fv_int rfl) d_MO_negation_68 ?_
            have i14 := hS.rng 191 23
            refine r_bipush F.hx F.hb d_MO_negation_71 rfl ?_
            refine r_icmp_eq (tgt := 87) F.hx F.hb i14 (inr_c rfl) d_MO_negation_73 (by decide) (fun c15 => ?_) (fun c15 => ?_)
            · replace hT := (if_pos c15).symm.trans hT
              exact k_MO_negation_L87 l hlo rc hrc0 hrc1 hrc2 hrc3 hrc4 hrc5 F hlk hr q4 _ _ _ hS (lv_sub hl [0] rfl) hT
            · replace hT := (if_neg c15).symm.trans hT
              refine lv_aload_n F.hx F.hb d_MO_negation_76 rfl (lv_at hl 0 rfl) ?_
              refine r_get (v := vI (q4.1 191 23)) (N := 68) (T := T1) (j := 23) F hS (show 191 < 231 by decide) (show shK 191 = 5 from rfl) (show shN 191 = 68 from rfl) rfl (Nat.le_of_ble_eq_true rfl) ing1 mw_1412 (fv_int rfl) d_MO_negation_77 ?_
              have i16 := hS.rng 191 23
              refine r_sipush F.hx F.hb d_MO_negation_80 rfl ?_
              refine r_icmp_ge (tgt := 87) F.hx F.hb i16 (inr_c rfl) d_MO_negation_83 (by decide) (fun c17 => ?_) (fun c17 => ?_)
              · replace hT := (if_pos c17).symm.trans hT
                exact k_MO_negation_L87 l hlo rc hrc0 hrc1 hrc2 hrc3 hrc4 hrc5 F hlk hr q4 _ _ _ hS (lv_sub hl [0] rfl) hT
              · replace hT := (if_neg c17).symm.trans hT
                cases hT
                exact r_vret F hlk hr hS d_MO_negation_86
  · replace hT := (if_neg c3).symm.trans hT
    refine lv_aload_n F.hx F.hb d_MO_negation_9 rfl (lv_at hl 0 rfl) ?_
    obtain ⟨q18, hq18⟩ : ∃ q, q = (t_MO_knot M) := ⟨_, rfl⟩
    replace hT := qlet_eq hT hq18
    refine r_backV F hS (r_runV (k := 191) (N := 68) (T := T1) (As := []) F hS (show 191 < 231 by decide) (show shK 191 = 5 from rfl) rfl (c_MO_knot l F.2.2.1 M _ hq18.symm) gs_MO_288 hd_MO_knot ⟨(by show 1 + 1 ≤ d + 1 + 40; omega), (by show 8 + (1 + 11) + 48 * 1 ≤ 48 * (d + 1 + 40); omega)⟩ rfl hl.1 (Nat.le_of_ble_eq_true rfl) ⟨Nat.zero_le _, Nat.zero_le _⟩ rfl d_MO_negation_10) (fun H locs hS => ?_)
    refine lv_aload_n F.hx F.hb d_MO_negation_13 rfl (lv_at hl 0 rfl) ?_
    obtain ⟨q20, hq20, hT⟩ := q_obind hT
    refine r_backV F hS (r_runV (k := 191) (N := 68) (T := T1) (As := []) F hS (show 191 < 231 by decide) (show shK 191 = 5 from rfl) rfl (c_MO_goOn l F.2.2.1 q18 _ hq20) gs_MO_215 hd_MO_goOn ⟨(by show 6 + 1 ≤ d + 1 + 40; omega), (by show 8 + (1 + 11) + 48 * 6 ≤ 48 * (d + 1 + 40); omega)⟩ rfl hl.1 (Nat.le_of_ble_eq_true rfl) ⟨Nat.zero_le _, Nat.zero_le _⟩ rfl d_MO_negation_14) (fun H locs hS => ?_)
    refine lv_aload_n F.hx F.hb d_MO_negation_17 rfl (lv_at hl 0 rfl) ?_
    obtain ⟨q22, hq22, hT⟩ := q_obind hT
    refine r_backV F hS (r_runV (k := 191) (N := 68) (T := T1) (As := []) F hS (show 191 < 231 by decide) (show shK 191 = 5 from rfl) rfl (hrc2 _ _ hq22) gs_MO_294 hd_MO_negation ⟨(by show (d + 40) + 1 ≤ d + 1 + 40; omega), (by show 8 + (2 + 11) + 48 * (d + 40) ≤ 48 * (d + 1 + 40); omega)⟩ rfl hl.1 (Nat.le_of_ble_eq_true rfl) ⟨Nat.zero_le _, Nat.zero_le _⟩ rfl d_MO_negation_18) (fun H locs hS => ?_)
    refine lv_aload_n F.hx F.hb d_MO_negation_21 rfl (lv_at hl 0 rfl) ?_
    refine r_iconst F.hx F.hb d_MO_negation_22 ?_
    refine r_sipush F.hx F.hb d_MO_negation_23 rfl ?_
    obtain ⟨q24, hq24, hT⟩ := q_obind hT
    refine r_backV F hS (r_runV (k := 191) (N := 68) (T := T1) (As := [vI 2, vI 260]) F hS (show 191 < 231 by decide) (show shK 191 = 5 from rfl) rfl (c_MO_puts l F.2.2.1 q22 2 260 (inr_c rfl) (inr_c rfl) _ hq24) gs_MO_291 hd_MO_puts ⟨(by show 1 + 1 ≤ d + 1 + 40; omega), (by show 8 + (3 + 11) + 48 * 1 ≤ 48 * (d + 1 + 40); omega)⟩ rfl hl.1 (Nat.le_of_ble_eq_true rfl) ⟨Nat.zero_le _, Nat.zero_le _⟩ rfl d_MO_negation_26) (fun H locs hS => ?_)
    cases hT
    exact r_vret F hlk hr hS d_MO_negation_29
theorem d_MO_conjunction_0 : decode b_MO_conjunction 0 = .ok (.aload_n 0, 1) := dc_42 (by decide +kernel)
theorem d_MO_conjunction_1 : decode b_MO_conjunction 1 = .ok (.invokevirtual 294, 3) := dc_182 (by decide +kernel)
theorem d_MO_conjunction_4 : decode b_MO_conjunction 4 = .ok (.aload_n 0, 1) := dc_42 (by decide +kernel)
theorem d_MO_conjunction_5 : decode b_MO_conjunction 5 = .ok (.bipush 16, 2) := dc_16 (by decide +kernel)
theorem d_MO_conjunction_7 : decode b_MO_conjunction 7 = .ok (.invokevirtual 285, 3) := dc_182 (by decide +kernel)
theorem d_MO_conjunction_10 : decode b_MO_conjunction 10 = .ok (.ifCond .eq 26, 3) := dc_153 (by decide +kernel)
theorem d_MO_conjunction_13 : decode b_MO_conjunction 13 = .ok (.aload_n 0, 1) := dc_42 (by decide +kernel)
theorem d_MO_conjunction_14 : decode b_MO_conjunction 14 = .ok (.invokevirtual 288, 3) := dc_182 (by decide +kernel)
theorem d_MO_conjunction_17 : decode b_MO_conjunction 17 = .ok (.aload_n 0, 1) := dc_42 (by decide +kernel)
theorem d_MO_conjunction_18 : decode b_MO_conjunction 18 = .ok (.invokevirtual 215, 3) := dc_182 (by decide +kernel)
theorem d_MO_conjunction_21 : decode b_MO_conjunction 21 = .ok (.aload_n 0, 1) := dc_42 (by decide +kernel)
theorem d_MO_conjunction_22 : decode b_MO_conjunction 22 = .ok (.invokevirtual 294, 3) := dc_182 (by decide +kernel)
theorem d_MO_conjunction_25 : decode b_MO_conjunction 25 = .ok (.aload_n 0, 1) := dc_42 (by decide +kernel)
theorem d_MO_conjunction_26 : decode b_MO_conjunction 26 = .ok (.iconst 2, 1) := dc_5 (by decide +kernel)
theorem d_MO_conjunction_27 : decode b_MO_conjunction 27 = .ok (.sipush 261, 3) := dc_17 (by decide +kernel)
theorem d_MO_conjunction_30 : decode b_MO_conjunction 30 = .ok (.invokevirtual 291, 3) := dc_182 (by decide +kernel)
theorem d_MO_conjunction_33 : decode b_MO_conjunction 33 = .ok (.goto (-29), 3) := dc_167 (by decide +kernel)
theorem d_MO_conjunction_36 : decode b_MO_conjunction 36 = .ok (.return_, 1) := dc_177 (by decide +kernel)
def t_MO_conjunction_L4 (rc : Nat → Mem → Option Mem)  : Nat → Mem → Option (Mem)
  | 0, _ => none
  | fu + 1, M => (qlet (t_MO_isWord M 16) fun q3 => (if q3 = 0 then (some M) else (qlet (t_MO_knot M) fun q6 => (obind (t_MO_goOn q6) fun q8 => (obind (rc 2 q8) fun q10 => (obind (t_MO_puts q10 2 261) fun q12 => (t_MO_conjunction_L4 rc fu q12)))))))
def t_MO_conjunction_B (M : Mem) (rc : Nat → Mem → Option Mem) : Option (Mem) := (obind (rc 2 M) fun q1 => (t_MO_conjunction_L4 rc FU q1))
set_option maxHeartbeats 4000000 in
set_option maxRecDepth 100000 in
theorem k_MO_conjunction_L4 (l : Launch) {d : Nat} {p : Program} {e : Env} {s : State} {m : MethodId} {below : List Frame} {meth : Method} {c : Code} {b n : Nat} {C : CT} (hlo : 231 ≤ n) (rc : Nat → Mem → Option Mem) (hrc0 : ∀ (M res : Mem), rc 0 M = some res → CM l b C n (d + 40) y_MO_expression b_MO_expression 1 (none) [.ref (b + 191)] M (QV b C n res)) (hrc1 : ∀ (M res : Mem), rc 1 M = some res → CM l b C n (d + 40) y_MO_conjunction b_MO_conjunction 1 (none) [.ref (b + 191)] M (QV b C n res)) (hrc2 : ∀ (M res : Mem), rc 2 M = some res → CM l b C n (d + 40) y_MO_negation b_MO_negation 2 (none) [.ref (b + 191)] M (QV b C n res)) (hrc3 : ∀ (M res : Mem), rc 3 M = some res → CM l b C n (d + 40) y_MO_sum b_MO_sum 2 (none) [.ref (b + 191)] M (QV b C n res)) (hrc4 : ∀ (M res : Mem), rc 4 M = some res → CM l b C n (d + 40) y_MO_product b_MO_product 2 (none) [.ref (b + 191)] M (QV b C n res)) (hrc5 : ∀ (M res : Mem), rc 5 M = some res → CM l b C n (d + 40) y_MO_primary b_MO_primary 2 (none) [.ref (b + 191)] M (QV b C n res)) (F : Cx b p m c b_MO_conjunction 1 s ([.ref (b + 191)] : List Value).toArray "WardFallsModel" C n 231) (hlk : meth.locks = false) (hr : meth.sig.returnType = none) {res : Mem} : ∀ (fu : Nat) (M : Mem)  (H : Heap) (locs : List Loc) (ls : Array Slot), St b C n M s H locs → lv_has ls 1 [(0, .ref (b + 191))] → t_MO_conjunction_L4 rc fu M = some res → W p l e (headSpec (wsM y_MO_conjunction b_MO_conjunction 1 (none)) (rmD (d + 1 + 40))).room s m ([.ref (b + 191)] : List Value).toArray below meth c H locs 0 0 (MQ below (QV b C n res) ([.ref (b + 191)] : List Value).toArray s 0 0 (frb b)) (F0 m 4 ls []) := by
  intro fu
  induction fu with
  | zero => intro M  H locs ls hS hl hT; exact absurd hT (by simp [t_MO_conjunction_L4])
  | succ fu ih =>
    intro M  H locs ls hS hl hT
    rw [t_MO_conjunction_L4] at hT
    refine lv_aload_n F.hx F.hb d_MO_conjunction_4 rfl (lv_at hl 0 rfl) ?_
    refine r_bipush F.hx F.hb d_MO_conjunction_5 rfl ?_
    obtain ⟨q3, hq3⟩ : ∃ q, q = (t_MO_isWord M 16) := ⟨_, rfl⟩
    replace hT := qlet_eq hT hq3
    refine r_backZ F hS (r_runV (k := 191) (N := 68) (T := T1) (As := [vI 16]) F hS (show 191 < 231 by decide) (show shK 191 = 5 from rfl) rfl (c_MO_isWord l F.2.2.1 M 16 (inr_c rfl) _ hq3.symm) gs_MO_285 hd_MO_isWord ⟨(by show 0 + 1 ≤ d + 1 + 40; omega), (by show 8 + (2 + 11) + 48 * 0 ≤ 48 * (d + 1 + 40); omega)⟩ rfl hl.1 (Nat.le_of_ble_eq_true rfl) ⟨Nat.zero_le _, Nat.zero_le _⟩ rfl d_MO_conjunction_7) (fun H locs hS h4 => ?_)
    refine r_if_eq (tgt := 36) F.hx F.hb (inr_z h4) d_MO_conjunction_10 (by decide) (fun c5 => ?_) (fun c5 => ?_)
    · replace hT := (if_pos c5).symm.trans hT
      cases hT
      exact r_vret F hlk hr hS d_MO_conjunction_36
    · replace hT := (if_neg c5).symm.trans hT
      refine lv_aload_n F.hx F.hb d_MO_conjunction_13 rfl (lv_at hl 0 rfl) ?_
      obtain ⟨q6, hq6⟩ : ∃ q, q = (t_MO_knot M) := ⟨_, rfl⟩
      replace hT := qlet_eq hT hq6
      refine r_backV F hS (r_runV (k := 191) (N := 68) (T := T1) (As := []) F hS (show 191 < 231 by decide) (show shK 191 = 5 from rfl) rfl (c_MO_knot l F.2.2.1 M _ hq6.symm) gs_MO_288 hd_MO_knot ⟨(by show 1 + 1 ≤ d + 1 + 40; omega), (by show 8 + (1 + 11) + 48 * 1 ≤ 48 * (d + 1 + 40); omega)⟩ rfl hl.1 (Nat.le_of_ble_eq_true rfl) ⟨Nat.zero_le _, Nat.zero_le _⟩ rfl d_MO_conjunction_14) (fun H locs hS => ?_)
      refine lv_aload_n F.hx F.hb d_MO_conjunction_17 rfl (lv_at hl 0 rfl) ?_
      obtain ⟨q8, hq8, hT⟩ := q_obind hT
      refine r_backV F hS (r_runV (k := 191) (N := 68) (T := T1) (As := []) F hS (show 191 < 231 by decide) (show shK 191 = 5 from rfl) rfl (c_MO_goOn l F.2.2.1 q6 _ hq8) gs_MO_215 hd_MO_goOn ⟨(by show 6 + 1 ≤ d + 1 + 40; omega), (by show 8 + (1 + 11) + 48 * 6 ≤ 48 * (d + 1 + 40); omega)⟩ rfl hl.1 (Nat.le_of_ble_eq_true rfl) ⟨Nat.zero_le _, Nat.zero_le _⟩ rfl d_MO_conjunction_18) (fun H locs hS => ?_)
      refine lv_aload_n F.hx F.hb d_MO_conjunction_21 rfl (lv_at hl 0 rfl) ?_
      obtain ⟨q10, hq10, hT⟩ := q_obind hT
      refine r_backV F hS (r_runV (k := 191) (N := 68) (T := T1) (As := []) F hS (show 191 < 231 by decide) (show shK 191 = 5 from rfl) rfl (hrc2 _ _ hq10) gs_MO_294 hd_MO_negation ⟨(by show (d + 40) + 1 ≤ d + 1 + 40; omega), (by show 8 + (2 + 11) + 48 * (d + 40) ≤ 48 * (d + 1 + 40); omega)⟩ rfl hl.1 (Nat.le_of_ble_eq_true rfl) ⟨Nat.zero_le _, Nat.zero_le _⟩ rfl d_MO_conjunction_22) (fun H locs hS => ?_)
      refine lv_aload_n F.hx F.hb d_MO_conjunction_25 rfl (lv_at hl 0 rfl) ?_
      refine r_iconst F.hx F.hb d_MO_conjunction_26 ?_
      refine r_sipush F.hx F.hb d_MO_conjunction_27 rfl ?_
      obtain ⟨q12, hq12, hT⟩ := q_obind hT
      refine r_backV F hS (r_runV (k := 191) (N := 68) (T := T1) (As := [vI 2, vI 261]) F hS (show 191 < 231 by decide) (show shK 191 = 5 from rfl) rfl (c_MO_puts l F.2.2.1 q10 2 261 (inr_c rfl) (inr_c rfl) _ hq12) gs_MO_291 hd_MO_puts ⟨(by show 1 + 1 ≤ d + 1 + 40; omega), (by show 8 + (3 + 11) + 48 * 1 ≤ 48 * (d + 1 + 40); omega)⟩ rfl hl.1 (Nat.le_of_ble_eq_true rfl) ⟨Nat.zero_le _, Nat.zero_le _⟩ rfl d_MO_conjunction_30) (fun H locs hS => ?_)
      refine lv_goto (tgt := 4) F.hx F.hb d_MO_conjunction_33 (by decide) ?_
      exact ih q12 _ _ _ hS (lv_sub hl [0] rfl) hT
set_option maxHeartbeats 4000000 in
set_option maxRecDepth 100000 in
theorem c_MO_conjunction_B (l : Launch) {d : Nat} {b n : Nat} {C : CT} (hlo : 231 ≤ n) (M : Mem) (rc : Nat → Mem → Option Mem) (hrc0 : ∀ (M res : Mem), rc 0 M = some res → CM l b C n (d + 40) y_MO_expression b_MO_expression 1 (none) [.ref (b + 191)] M (QV b C n res)) (hrc1 : ∀ (M res : Mem), rc 1 M = some res → CM l b C n (d + 40) y_MO_conjunction b_MO_conjunction 1 (none) [.ref (b + 191)] M (QV b C n res)) (hrc2 : ∀ (M res : Mem), rc 2 M = some res → CM l b C n (d + 40) y_MO_negation b_MO_negation 2 (none) [.ref (b + 191)] M (QV b C n res)) (hrc3 : ∀ (M res : Mem), rc 3 M = some res → CM l b C n (d + 40) y_MO_sum b_MO_sum 2 (none) [.ref (b + 191)] M (QV b C n res)) (hrc4 : ∀ (M res : Mem), rc 4 M = some res → CM l b C n (d + 40) y_MO_product b_MO_product 2 (none) [.ref (b + 191)] M (QV b C n res)) (hrc5 : ∀ (M res : Mem), rc 5 M = some res → CM l b C n (d + 40) y_MO_primary b_MO_primary 2 (none) [.ref (b + 191)] M (QV b C n res)) (res : Mem) (hT : t_MO_conjunction_B M rc = some res) : CM l b C n (d + 1 + 40) y_MO_conjunction b_MO_conjunction 1 (none) [.ref (b + 191)] M (QV b C n res) := by
  refine CM.of (lo := 231) (ow := "WardFallsModel") (by decide) rfl (Nat.le_of_ble_eq_true rfl) hlo (fun p e s m below meth c F hlk hr hS ls hl => ?_)
  have hl : lv_has ls 1 [(0, .ref (b + 191))] := hl
  unfold t_MO_conjunction_B at hT
  refine lv_aload_n F.hx F.hb d_MO_conjunction_0 rfl (lv_at hl 0 rfl) ?_
  obtain ⟨q1, hq1, hT⟩ := q_obind hT
  refine r_backV F hS (r_runV (k := 191) (N := 68) (T := T1) (As := []) F hS (show 191 < 231 by decide) (show shK 191 = 5 from rfl) rfl (hrc2 _ _ hq1) gs_MO_294 hd_MO_negation ⟨(by show (d + 40) + 1 ≤ d + 1 + 40; omega), (by show 8 + (2 + 11) + 48 * (d + 40) ≤ 48 * (d + 1 + 40); omega)⟩ rfl hl.1 (Nat.le_of_ble_eq_true rfl) ⟨Nat.zero_le _, Nat.zero_le _⟩ rfl d_MO_conjunction_1) (fun H locs hS => ?_)
  exact k_MO_conjunction_L4 l hlo rc hrc0 hrc1 hrc2 hrc3 hrc4 hrc5 F hlk hr FU q1 _ _ _ hS (lv_sub hl [0] rfl) hT
theorem d_MO_expression_0 : decode b_MO_expression 0 = .ok (.aload_n 0, 1) := dc_42 (by decide +kernel)
theorem d_MO_expression_1 : decode b_MO_expression 1 = .ok (.invokevirtual 282, 3) := dc_182 (by decide +kernel)
theorem d_MO_expression_4 : decode b_MO_expression 4 = .ok (.aload_n 0, 1) := dc_42 (by decide +kernel)
theorem d_MO_expression_5 : decode b_MO_expression 5 = .ok (.bipush 15, 2) := dc_16 (by decide +kernel)
theorem d_MO_expression_7 : decode b_MO_expression 7 = .ok (.invokevirtual 285, 3) := dc_182 (by decide +kernel)
theorem d_MO_expression_10 : decode b_MO_expression 10 = .ok (.ifCond .eq 26, 3) := dc_153 (by decide +kernel)
theorem d_MO_expression_13 : decode b_MO_expression 13 = .ok (.aload_n 0, 1) := dc_42 (by decide +kernel)
theorem d_MO_expression_14 : decode b_MO_expression 14 = .ok (.invokevirtual 288, 3) := dc_182 (by decide +kernel)
theorem d_MO_expression_17 : decode b_MO_expression 17 = .ok (.aload_n 0, 1) := dc_42 (by decide +kernel)
theorem d_MO_expression_18 : decode b_MO_expression 18 = .ok (.invokevirtual 215, 3) := dc_182 (by decide +kernel)
theorem d_MO_expression_21 : decode b_MO_expression 21 = .ok (.aload_n 0, 1) := dc_42 (by decide +kernel)
theorem d_MO_expression_22 : decode b_MO_expression 22 = .ok (.invokevirtual 282, 3) := dc_182 (by decide +kernel)
theorem d_MO_expression_25 : decode b_MO_expression 25 = .ok (.aload_n 0, 1) := dc_42 (by decide +kernel)
theorem d_MO_expression_26 : decode b_MO_expression 26 = .ok (.iconst 2, 1) := dc_5 (by decide +kernel)
theorem d_MO_expression_27 : decode b_MO_expression 27 = .ok (.sipush 262, 3) := dc_17 (by decide +kernel)
theorem d_MO_expression_30 : decode b_MO_expression 30 = .ok (.invokevirtual 291, 3) := dc_182 (by decide +kernel)
theorem d_MO_expression_33 : decode b_MO_expression 33 = .ok (.goto (-29), 3) := dc_167 (by decide +kernel)
theorem d_MO_expression_36 : decode b_MO_expression 36 = .ok (.return_, 1) := dc_177 (by decide +kernel)
def t_MO_expression_L4 (rc : Nat → Mem → Option Mem)  : Nat → Mem → Option (Mem)
  | 0, _ => none
  | fu + 1, M => (qlet (t_MO_isWord M 15) fun q3 => (if q3 = 0 then (some M) else (qlet (t_MO_knot M) fun q6 => (obind (t_MO_goOn q6) fun q8 => (obind (rc 1 q8) fun q10 => (obind (t_MO_puts q10 2 262) fun q12 => (t_MO_expression_L4 rc fu q12)))))))
def t_MO_expression_B (M : Mem) (rc : Nat → Mem → Option Mem) : Option (Mem) := (obind (rc 1 M) fun q1 => (t_MO_expression_L4 rc FU q1))
set_option maxHeartbeats 4000000 in
set_option maxRecDepth 100000 in
theorem k_MO_expression_L4 (l : Launch) {d : Nat} {p : Program} {e : Env} {s : State} {m : MethodId} {below : List Frame} {meth : Method} {c : Code} {b n : Nat} {C : CT} (hlo : 231 ≤ n) (rc : Nat → Mem → Option Mem) (hrc0 : ∀ (M res : Mem), rc 0 M = some res → CM l b C n (d + 40) y_MO_expression b_MO_expression 1 (none) [.ref (b + 191)] M (QV b C n res)) (hrc1 : ∀ (M res : Mem), rc 1 M = some res → CM l b C n (d + 40) y_MO_conjunction b_MO_conjunction 1 (none) [.ref (b + 191)] M (QV b C n res)) (hrc2 : ∀ (M res : Mem), rc 2 M = some res → CM l b C n (d + 40) y_MO_negation b_MO_negation 2 (none) [.ref (b + 191)] M (QV b C n res)) (hrc3 : ∀ (M res : Mem), rc 3 M = some res → CM l b C n (d + 40) y_MO_sum b_MO_sum 2 (none) [.ref (b + 191)] M (QV b C n res)) (hrc4 : ∀ (M res : Mem), rc 4 M = some res → CM l b C n (d + 40) y_MO_product b_MO_product 2 (none) [.ref (b + 191)] M (QV b C n res)) (hrc5 : ∀ (M res : Mem), rc 5 M = some res → CM l b C n (d + 40) y_MO_primary b_MO_primary 2 (none) [.ref (b + 191)] M (QV b C n res)) (F : Cx b p m c b_MO_expression 1 s ([.ref (b + 191)] : List Value).toArray "WardFallsModel" C n 231) (hlk : meth.locks = false) (hr : meth.sig.returnType = none) {res : Mem} : ∀ (fu : Nat) (M : Mem)  (H : Heap) (locs : List Loc) (ls : Array Slot), St b C n M s H locs → lv_has ls 1 [(0, .ref (b + 191))] → t_MO_expression_L4 rc fu M = some res → W p l e (headSpec (wsM y_MO_expression b_MO_expression 1 (none)) (rmD (d + 1 + 40))).room s m ([.ref (b + 191)] : List Value).toArray below meth c H locs 0 0 (MQ below (QV b C n res) ([.ref (b + 191)] : List Value).toArray s 0 0 (frb b)) (F0 m 4 ls []) := by
  intro fu
  induction fu with
  | zero => intro M  H locs ls hS hl hT; exact absurd hT (by simp [t_MO_expression_L4])
  | succ fu ih =>
    intro M  H locs ls hS hl hT
    rw [t_MO_expression_L4] at hT
    refine lv_aload_n F.hx F.hb d_MO_expression_4 rfl (lv_at hl 0 rfl) ?_
    refine r_bipush F.hx F.hb d_MO_expression_5 rfl ?_
    obtain ⟨q3, hq3⟩ : ∃ q, q = (t_MO_isWord M 15) := ⟨_, rfl⟩
    replace hT := qlet_eq hT hq3
    refine r_backZ F hS (r_runV (k := 191) (N := 68) (T := T1) (As := [vI 15]) F hS (show 191 < 231 by decide) (show shK 191 = 5 from rfl) rfl (c_MO_isWord l F.2.2.1 M 15 (inr_c rfl) _ hq3.symm) gs_MO_285 hd_MO_isWord ⟨(by show 0 + 1 ≤ d + 1 + 40; omega), (by show 8 + (2 + 11) + 48 * 0 ≤ 48 * (d + 1 + 40); omega)⟩ rfl hl.1 (Nat.le_of_ble_eq_true rfl) ⟨Nat.zero_le _, Nat.zero_le _⟩ rfl d_MO_expression_7) (fun H locs hS h4 => ?_)
    refine r_if_eq (tgt := 36) F.hx F.hb (inr_z h4) d_MO_expression_10 (by decide) (fun c5 => ?_) (fun c5 => ?_)
    · replace hT := (if_pos c5).symm.trans hT
      cases hT
      exact r_vret F hlk hr hS d_MO_expression_36
    · replace hT := (if_neg c5).symm.trans hT
      refine lv_aload_n F.hx F.hb d_MO_expression_13 rfl (lv_at hl 0 rfl) ?_
      obtain ⟨q6, hq6⟩ : ∃ q, q = (t_MO_knot M) := ⟨_, rfl⟩
      replace hT := qlet_eq hT hq6
      refine r_backV F hS (r_runV (k := 191) (N := 68) (T := T1) (As := []) F hS (show 191 < 231 by decide) (show shK 191 = 5 from rfl) rfl (c_MO_knot l F.2.2.1 M _ hq6.symm) gs_MO_288 hd_MO_knot ⟨(by show 1 + 1 ≤ d + 1 + 40; omega), (by show 8 + (1 + 11) + 48 * 1 ≤ 48 * (d + 1 + 40); omega)⟩ rfl hl.1 (Nat.le_of_ble_eq_true rfl) ⟨Nat.zero_le _, Nat.zero_le _⟩ rfl d_MO_expression_14) (fun H locs hS => ?_)
      refine lv_aload_n F.hx F.hb d_MO_expression_17 rfl (lv_at hl 0 rfl) ?_
      obtain ⟨q8, hq8, hT⟩ := q_obind hT
      refine r_backV F hS (r_runV (k := 191) (N := 68) (T := T1) (As := []) F hS (show 191 < 231 by decide) (show shK 191 = 5 from rfl) rfl (c_MO_goOn l F.2.2.1 q6 _ hq8) gs_MO_215 hd_MO_goOn ⟨(by show 6 + 1 ≤ d + 1 + 40; omega), (by show 8 + (1 + 11) + 48 * 6 ≤ 48 * (d + 1 + 40); omega)⟩ rfl hl.1 (Nat.le_of_ble_eq_true rfl) ⟨Nat.zero_le _, Nat.zero_le _⟩ rfl d_MO_expression_18) (fun H locs hS => ?_)
      refine lv_aload_n F.hx F.hb d_MO_expression_21 rfl (lv_at hl 0 rfl) ?_
      obtain ⟨q10, hq10, hT⟩ := q_obind hT
      refine r_backV F hS (r_runV (k := 191) (N := 68) (T := T1) (As := []) F hS (show 191 < 231 by decide) (show shK 191 = 5 from rfl) rfl (hrc1 _ _ hq10) gs_MO_282 hd_MO_conjunction ⟨(by show (d + 40) + 1 ≤ d + 1 + 40; omega), (by show 8 + (1 + 11) + 48 * (d + 40) ≤ 48 * (d + 1 + 40); omega)⟩ rfl hl.1 (Nat.le_of_ble_eq_true rfl) ⟨Nat.zero_le _, Nat.zero_le _⟩ rfl d_MO_expression_22) (fun H locs hS => ?_)
      refine lv_aload_n F.hx F.hb d_MO_expression_25 rfl (lv_at hl 0 rfl) ?_
      refine r_iconst F.hx F.hb d_MO_expression_26 ?_
      refine r_sipush F.hx F.hb d_MO_expression_27 rfl ?_
      obtain ⟨q12, hq12, hT⟩ := q_obind hT
      refine r_backV F hS (r_runV (k := 191) (N := 68) (T := T1) (As := [vI 2, vI 262]) F hS (show 191 < 231 by decide) (show shK 191 = 5 from rfl) rfl (c_MO_puts l F.2.2.1 q10 2 262 (inr_c rfl) (inr_c rfl) _ hq12) gs_MO_291 hd_MO_puts ⟨(by show 1 + 1 ≤ d + 1 + 40; omega), (by show 8 + (3 + 11) + 48 * 1 ≤ 48 * (d + 1 + 40); omega)⟩ rfl hl.1 (Nat.le_of_ble_eq_true rfl) ⟨Nat.zero_le _, Nat.zero_le _⟩ rfl d_MO_expression_30) (fun H locs hS => ?_)
      refine lv_goto (tgt := 4) F.hx F.hb d_MO_expression_33 (by decide) ?_
      exact ih q12 _ _ _ hS (lv_sub hl [0] rfl) hT
set_option maxHeartbeats 4000000 in
set_option maxRecDepth 100000 in
theorem c_MO_expression_B (l : Launch) {d : Nat} {b n : Nat} {C : CT} (hlo : 231 ≤ n) (M : Mem) (rc : Nat → Mem → Option Mem) (hrc0 : ∀ (M res : Mem), rc 0 M = some res → CM l b C n (d + 40) y_MO_expression b_MO_expression 1 (none) [.ref (b + 191)] M (QV b C n res)) (hrc1 : ∀ (M res : Mem), rc 1 M = some res → CM l b C n (d + 40) y_MO_conjunction b_MO_conjunction 1 (none) [.ref (b + 191)] M (QV b C n res)) (hrc2 : ∀ (M res : Mem), rc 2 M = some res → CM l b C n (d + 40) y_MO_negation b_MO_negation 2 (none) [.ref (b + 191)] M (QV b C n res)) (hrc3 : ∀ (M res : Mem), rc 3 M = some res → CM l b C n (d + 40) y_MO_sum b_MO_sum 2 (none) [.ref (b + 191)] M (QV b C n res)) (hrc4 : ∀ (M res : Mem), rc 4 M = some res → CM l b C n (d + 40) y_MO_product b_MO_product 2 (none) [.ref (b + 191)] M (QV b C n res)) (hrc5 : ∀ (M res : Mem), rc 5 M = some res → CM l b C n (d + 40) y_MO_primary b_MO_primary 2 (none) [.ref (b + 191)] M (QV b C n res)) (res : Mem) (hT : t_MO_expression_B M rc = some res) : CM l b C n (d + 1 + 40) y_MO_expression b_MO_expression 1 (none) [.ref (b + 191)] M (QV b C n res) := by
  refine CM.of (lo := 231) (ow := "WardFallsModel") (by decide) rfl (Nat.le_of_ble_eq_true rfl) hlo (fun p e s m below meth c F hlk hr hS ls hl => ?_)
  have hl : lv_has ls 1 [(0, .ref (b + 191))] := hl
  unfold t_MO_expression_B at hT
  refine lv_aload_n F.hx F.hb d_MO_expression_0 rfl (lv_at hl 0 rfl) ?_
  obtain ⟨q1, hq1, hT⟩ := q_obind hT
  refine r_backV F hS (r_runV (k := 191) (N := 68) (T := T1) (As := []) F hS (show 191 < 231 by decide) (show shK 191 = 5 from rfl) rfl (hrc1 _ _ hq1) gs_MO_282 hd_MO_conjunction ⟨(by show (d + 40) + 1 ≤ d + 1 + 40; omega), (by show 8 + (1 + 11) + 48 * (d + 40) ≤ 48 * (d + 1 + 40); omega)⟩ rfl hl.1 (Nat.le_of_ble_eq_true rfl) ⟨Nat.zero_le _, Nat.zero_le _⟩ rfl d_MO_expression_1) (fun H locs hS => ?_)
  exact k_MO_expression_L4 l hlo rc hrc0 hrc1 hrc2 hrc3 hrc4 hrc5 F hlk hr FU q1 _ _ _ hS (lv_sub hl [0] rfl) hT
def t_MO_G : Nat → Nat → Mem → Option Mem
  | 0, _, _ => none
  | d + 1, i, M => (if i = 0 then t_MO_expression_B M (fun i_ M_ => t_MO_G d i_ M_) else (if i = 1 then t_MO_conjunction_B M (fun i_ M_ => t_MO_G d i_ M_) else (if i = 2 then t_MO_negation_B M (fun i_ M_ => t_MO_G d i_ M_) else (if i = 3 then t_MO_sum_B M (fun i_ M_ => t_MO_G d i_ M_) else (if i = 4 then t_MO_product_B M (fun i_ M_ => t_MO_G d i_ M_) else (if i = 5 then t_MO_primary_B M (fun i_ M_ => t_MO_G d i_ M_) else none))))))
theorem c_MO_G (l : Launch) {b n : Nat} {C : CT} (hlo : 231 ≤ n) : ∀ d : Nat, (∀ (M res : Mem), t_MO_G d 0 M = some res → CM l b C n (d + 40) y_MO_expression b_MO_expression 1 (none) [.ref (b + 191)] M (QV b C n res)) ∧ (∀ (M res : Mem), t_MO_G d 1 M = some res → CM l b C n (d + 40) y_MO_conjunction b_MO_conjunction 1 (none) [.ref (b + 191)] M (QV b C n res)) ∧ (∀ (M res : Mem), t_MO_G d 2 M = some res → CM l b C n (d + 40) y_MO_negation b_MO_negation 2 (none) [.ref (b + 191)] M (QV b C n res)) ∧ (∀ (M res : Mem), t_MO_G d 3 M = some res → CM l b C n (d + 40) y_MO_sum b_MO_sum 2 (none) [.ref (b + 191)] M (QV b C n res)) ∧ (∀ (M res : Mem), t_MO_G d 4 M = some res → CM l b C n (d + 40) y_MO_product b_MO_product 2 (none) [.ref (b + 191)] M (QV b C n res)) ∧ (∀ (M res : Mem), t_MO_G d 5 M = some res → CM l b C n (d + 40) y_MO_primary b_MO_primary 2 (none) [.ref (b + 191)] M (QV b C n res)) := by
  intro d
  induction d with
  | zero => exact ⟨fun M res h => (by cases h), fun M res h => (by cases h), fun M res h => (by cases h), fun M res h => (by cases h), fun M res h => (by cases h), fun M res h => (by cases h)⟩
  | succ d ih =>
    obtain ⟨h0, h1, h2, h3, h4, h5⟩ := ih
    refine ⟨fun M res h => ?_, fun M res h => ?_, fun M res h => ?_, fun M res h => ?_, fun M res h => ?_, fun M res h => ?_⟩
    · exact c_MO_expression_B l (d := d) hlo M (fun i_ M_ => t_MO_G d i_ M_) h0 h1 h2 h3 h4 h5 res h
    · exact c_MO_conjunction_B l (d := d) hlo M (fun i_ M_ => t_MO_G d i_ M_) h0 h1 h2 h3 h4 h5 res h
    · exact c_MO_negation_B l (d := d) hlo M (fun i_ M_ => t_MO_G d i_ M_) h0 h1 h2 h3 h4 h5 res h
    · exact c_MO_sum_B l (d := d) hlo M (fun i_ M_ => t_MO_G d i_ M_) h0 h1 h2 h3 h4 h5 res h
    · exact c_MO_product_B l (d := d) hlo M (fun i_ M_ => t_MO_G d i_ M_) h0 h1 h2 h3 h4 h5 res h
    · exact c_MO_primary_B l (d := d) hlo M (fun i_ M_ => t_MO_G d i_ M_) h0 h1 h2 h3 h4 h5 res h
def t_MO_expression (M : Mem) : Option Mem := t_MO_G 200 0 M
theorem c_MO_expression (l : Launch) {b n : Nat} {C : CT} (hlo : 231 ≤ n) (M res : Mem) (hT : t_MO_expression M = some res) : CM l b C n 240 y_MO_expression b_MO_expression 1 (none) [.ref (b + 191)] M (QV b C n res) := (c_MO_G l hlo 200).1 M res hT
def t_MO_conjunction (M : Mem) : Option Mem := t_MO_G 200 1 M
theorem c_MO_conjunction (l : Launch) {b n : Nat} {C : CT} (hlo : 231 ≤ n) (M res : Mem) (hT : t_MO_conjunction M = some res) : CM l b C n 240 y_MO_conjunction b_MO_conjunction 1 (none) [.ref (b + 191)] M (QV b C n res) := (c_MO_G l hlo 200).2.1 M res hT
def t_MO_negation (M : Mem) : Option Mem := t_MO_G 200 2 M
theorem c_MO_negation (l : Launch) {b n : Nat} {C : CT} (hlo : 231 ≤ n) (M res : Mem) (hT : t_MO_negation M = some res) : CM l b C n 240 y_MO_negation b_MO_negation 2 (none) [.ref (b + 191)] M (QV b C n res) := (c_MO_G l hlo 200).2.2.1 M res hT
def t_MO_sum (M : Mem) : Option Mem := t_MO_G 200 3 M
theorem c_MO_sum (l : Launch) {b n : Nat} {C : CT} (hlo : 231 ≤ n) (M res : Mem) (hT : t_MO_sum M = some res) : CM l b C n 240 y_MO_sum b_MO_sum 2 (none) [.ref (b + 191)] M (QV b C n res) := (c_MO_G l hlo 200).2.2.2.1 M res hT
def t_MO_product (M : Mem) : Option Mem := t_MO_G 200 4 M
theorem c_MO_product (l : Launch) {b n : Nat} {C : CT} (hlo : 231 ≤ n) (M res : Mem) (hT : t_MO_product M = some res) : CM l b C n 240 y_MO_product b_MO_product 2 (none) [.ref (b + 191)] M (QV b C n res) := (c_MO_G l hlo 200).2.2.2.2.1 M res hT
def t_MO_primary (M : Mem) : Option Mem := t_MO_G 200 5 M
theorem c_MO_primary (l : Launch) {b n : Nat} {C : CT} (hlo : 231 ≤ n) (M res : Mem) (hT : t_MO_primary M = some res) : CM l b C n 240 y_MO_primary b_MO_primary 2 (none) [.ref (b + 191)] M (QV b C n res) := (c_MO_G l hlo 200).2.2.2.2.2 M res hT
theorem d_MO_lawLine_0 : decode b_MO_lawLine 0 = .ok (.aload_n 0, 1) := dc_42 (by decide +kernel)
theorem d_MO_lawLine_1 : decode b_MO_lawLine 1 = .ok (.getfield 164, 3) := dc_180 (by decide +kernel)
theorem d_MO_lawLine_4 : decode b_MO_lawLine 4 = .ok (.ifCond .ne 21, 3) := dc_154 (by decide +kernel)
theorem d_MO_lawLine_7 : decode b_MO_lawLine 7 = .ok (.aload_n 0, 1) := dc_42 (by decide +kernel)
theorem d_MO_lawLine_8 : decode b_MO_lawLine 8 = .ok (.getfield 174, 3) := dc_180 (by decide +kernel)
theorem d_MO_lawLine_11 : decode b_MO_lawLine 11 = .ok (.bipush 13, 2) := dc_16 (by decide +kernel)
theorem d_MO_lawLine_13 : decode b_MO_lawLine 13 = .ok (.if_icmp .eq 17, 3) := dc_159 (by decide +kernel)
theorem d_MO_lawLine_16 : decode b_MO_lawLine 16 = .ok (.aload_n 0, 1) := dc_42 (by decide +kernel)
theorem d_MO_lawLine_17 : decode b_MO_lawLine 17 = .ok (.getfield 174, 3) := dc_180 (by decide +kernel)
theorem d_MO_lawLine_20 : decode b_MO_lawLine 20 = .ok (.bipush 14, 2) := dc_16 (by decide +kernel)
theorem d_MO_lawLine_22 : decode b_MO_lawLine 22 = .ok (.if_icmp .eq 8, 3) := dc_159 (by decide +kernel)
theorem d_MO_lawLine_25 : decode b_MO_lawLine 25 = .ok (.aload_n 0, 1) := dc_42 (by decide +kernel)
theorem d_MO_lawLine_26 : decode b_MO_lawLine 26 = .ok (.iconst 1, 1) := dc_4 (by decide +kernel)
theorem d_MO_lawLine_27 : decode b_MO_lawLine 27 = .ok (.invokevirtual 208, 3) := dc_182 (by decide +kernel)
theorem d_MO_lawLine_30 : decode b_MO_lawLine 30 = .ok (.aload_n 0, 1) := dc_42 (by decide +kernel)
theorem d_MO_lawLine_31 : decode b_MO_lawLine 31 = .ok (.getfield 174, 3) := dc_180 (by decide +kernel)
theorem d_MO_lawLine_34 : decode b_MO_lawLine 34 = .ok (.bipush 13, 2) := dc_16 (by decide +kernel)
theorem d_MO_lawLine_36 : decode b_MO_lawLine 36 = .ok (.isub, 1) := dc_100 (by decide +kernel)
theorem d_MO_lawLine_37 : decode b_MO_lawLine 37 = .ok (.istore_n 1, 1) := dc_60 (by decide +kernel)
theorem d_MO_lawLine_38 : decode b_MO_lawLine 38 = .ok (.aload_n 0, 1) := dc_42 (by decide +kernel)
theorem d_MO_lawLine_39 : decode b_MO_lawLine 39 = .ok (.getfield 199, 3) := dc_180 (by decide +kernel)
theorem d_MO_lawLine_42 : decode b_MO_lawLine 42 = .ok (.ifCond .ne 19, 3) := dc_154 (by decide +kernel)
theorem d_MO_lawLine_45 : decode b_MO_lawLine 45 = .ok (.aload_n 0, 1) := dc_42 (by decide +kernel)
theorem d_MO_lawLine_46 : decode b_MO_lawLine 46 = .ok (.bipush 10, 2) := dc_16 (by decide +kernel)
theorem d_MO_lawLine_48 : decode b_MO_lawLine 48 = .ok (.iload_n 1, 1) := dc_27 (by decide +kernel)
theorem d_MO_lawLine_49 : decode b_MO_lawLine 49 = .ok (.iadd, 1) := dc_96 (by decide +kernel)
theorem d_MO_lawLine_50 : decode b_MO_lawLine 50 = .ok (.invokevirtual 235, 3) := dc_182 (by decide +kernel)
theorem d_MO_lawLine_53 : decode b_MO_lawLine 53 = .ok (.ifCond .eq 8, 3) := dc_153 (by decide +kernel)
theorem d_MO_lawLine_56 : decode b_MO_lawLine 56 = .ok (.aload_n 0, 1) := dc_42 (by decide +kernel)
theorem d_MO_lawLine_57 : decode b_MO_lawLine 57 = .ok (.iconst 3, 1) := dc_6 (by decide +kernel)
theorem d_MO_lawLine_58 : decode b_MO_lawLine 58 = .ok (.invokevirtual 208, 3) := dc_182 (by decide +kernel)
theorem d_MO_lawLine_61 : decode b_MO_lawLine 61 = .ok (.aload_n 0, 1) := dc_42 (by decide +kernel)
theorem d_MO_lawLine_62 : decode b_MO_lawLine 62 = .ok (.getfield 199, 3) := dc_180 (by decide +kernel)
theorem d_MO_lawLine_65 : decode b_MO_lawLine 65 = .ok (.ifCond .eq 4, 3) := dc_153 (by decide +kernel)
theorem d_MO_lawLine_68 : decode b_MO_lawLine 68 = .ok (.return_, 1) := dc_177 (by decide +kernel)
theorem d_MO_lawLine_69 : decode b_MO_lawLine 69 = .ok (.aload_n 0, 1) := dc_42 (by decide +kernel)
theorem d_MO_lawLine_70 : decode b_MO_lawLine 70 = .ok (.dup, 1) := dc_89 (by decide +kernel)
theorem d_MO_lawLine_71 : decode b_MO_lawLine 71 = .ok (.getfield 229, 3) := dc_180 (by decide +kernel)
theorem d_MO_lawLine_74 : decode b_MO_lawLine 74 = .ok (.iconst 1, 1) := dc_4 (by decide +kernel)
theorem d_MO_lawLine_75 : decode b_MO_lawLine 75 = .ok (.bipush 10, 2) := dc_16 (by decide +kernel)
theorem d_MO_lawLine_77 : decode b_MO_lawLine 77 = .ok (.iload_n 1, 1) := dc_27 (by decide +kernel)
theorem d_MO_lawLine_78 : decode b_MO_lawLine 78 = .ok (.iadd, 1) := dc_96 (by decide +kernel)
theorem d_MO_lawLine_79 : decode b_MO_lawLine 79 = .ok (.ishl, 1) := dc_120 (by decide +kernel)
theorem d_MO_lawLine_80 : decode b_MO_lawLine 80 = .ok (.ior, 1) := dc_128 (by decide +kernel)
theorem d_MO_lawLine_81 : decode b_MO_lawLine 81 = .ok (.putfield 229, 3) := dc_181 (by decide +kernel)
theorem d_MO_lawLine_84 : decode b_MO_lawLine 84 = .ok (.aload_n 0, 1) := dc_42 (by decide +kernel)
theorem d_MO_lawLine_85 : decode b_MO_lawLine 85 = .ok (.invokevirtual 205, 3) := dc_182 (by decide +kernel)
theorem d_MO_lawLine_88 : decode b_MO_lawLine 88 = .ok (.aload_n 0, 1) := dc_42 (by decide +kernel)
theorem d_MO_lawLine_89 : decode b_MO_lawLine 89 = .ok (.getfield 44, 3) := dc_180 (by decide +kernel)
theorem d_MO_lawLine_92 : decode b_MO_lawLine 92 = .ok (.iconst 2, 1) := dc_5 (by decide +kernel)
theorem d_MO_lawLine_93 : decode b_MO_lawLine 93 = .ok (.iload_n 1, 1) := dc_27 (by decide +kernel)
theorem d_MO_lawLine_94 : decode b_MO_lawLine 94 = .ok (.iadd, 1) := dc_96 (by decide +kernel)
theorem d_MO_lawLine_95 : decode b_MO_lawLine 95 = .ok (.aload_n 0, 1) := dc_42 (by decide +kernel)
theorem d_MO_lawLine_96 : decode b_MO_lawLine 96 = .ok (.bipush 8, 2) := dc_16 (by decide +kernel)
theorem d_MO_lawLine_98 : decode b_MO_lawLine 98 = .ok (.invokevirtual 222, 3) := dc_182 (by decide +kernel)
theorem d_MO_lawLine_101 : decode b_MO_lawLine 101 = .ok (.iastore, 1) := dc_79 (by decide +kernel)
theorem d_MO_lawLine_102 : decode b_MO_lawLine 102 = .ok (.aload_n 0, 1) := dc_42 (by decide +kernel)
theorem d_MO_lawLine_103 : decode b_MO_lawLine 103 = .ok (.invokevirtual 276, 3) := dc_182 (by decide +kernel)
theorem d_MO_lawLine_106 : decode b_MO_lawLine 106 = .ok (.aload_n 0, 1) := dc_42 (by decide +kernel)
theorem d_MO_lawLine_107 : decode b_MO_lawLine 107 = .ok (.getfield 47, 3) := dc_180 (by decide +kernel)
theorem d_MO_lawLine_110 : decode b_MO_lawLine 110 = .ok (.iconst 2, 1) := dc_5 (by decide +kernel)
theorem d_MO_lawLine_111 : decode b_MO_lawLine 111 = .ok (.iload_n 1, 1) := dc_27 (by decide +kernel)
theorem d_MO_lawLine_112 : decode b_MO_lawLine 112 = .ok (.iadd, 1) := dc_96 (by decide +kernel)
theorem d_MO_lawLine_113 : decode b_MO_lawLine 113 = .ok (.aload_n 0, 1) := dc_42 (by decide +kernel)
theorem d_MO_lawLine_114 : decode b_MO_lawLine 114 = .ok (.bipush 8, 2) := dc_16 (by decide +kernel)
theorem d_MO_lawLine_116 : decode b_MO_lawLine 116 = .ok (.invokevirtual 222, 3) := dc_182 (by decide +kernel)
theorem d_MO_lawLine_119 : decode b_MO_lawLine 119 = .ok (.iastore, 1) := dc_79 (by decide +kernel)
theorem d_MO_lawLine_120 : decode b_MO_lawLine 120 = .ok (.return_, 1) := dc_177 (by decide +kernel)
def t_MO_lawLine_L61   (M : Mem) (v1_ : Int) : Option (Mem) := (if (M.1 191 24) = 0 then (qlet (setI M 191 17 (q_or (M.1 191 17) (q_shl 1 (w32 (10 + v1_))))) fun M20 => (obind (t_MO_token M20) fun q21 => (obind (t_MO_fresher q21 8) fun q23 => (qguard (0 ≤ (w32 (2 + v1_)) ∧ (w32 (2 + v1_)) < 4) (qlet (setI q21 203 (w32 (2 + v1_)) q23) fun M26 => (obind (t_MO_expression M26) fun q27 => (obind (t_MO_fresher q27 8) fun q29 => (qguard (0 ≤ (w32 (2 + v1_)) ∧ (w32 (2 + v1_)) < 4) (qlet (setI q27 204 (w32 (2 + v1_)) q29) fun M32 => (some M32)))))))))) else (some M))
def t_MO_lawLine_L30   (M : Mem)  : Option (Mem) := (if (M.1 191 24) = 0 then (qlet (t_MO_isTold M (w32 (10 + (w32 ((M.1 191 23) - 13))))) fun q12 => (if q12 = 0 then (t_MO_lawLine_L61 M (w32 ((M.1 191 23) - 13))) else (qlet (t_MO_wrong M 3) fun q15 => (t_MO_lawLine_L61 q15 (w32 ((M.1 191 23) - 13)))))) else (t_MO_lawLine_L61 M (w32 ((M.1 191 23) - 13))))
def t_MO_lawLine_L25   (M : Mem)  : Option (Mem) := (qlet (t_MO_wrong M 1) fun q7 => (t_MO_lawLine_L30 q7))
def t_MO_lawLine (M : Mem)  : Option (Mem) := (if (M.1 191 22) = 0 then (if (M.1 191 23) = 13 then (t_MO_lawLine_L30 M) else (if (M.1 191 23) = 14 then (t_MO_lawLine_L30 M) else (t_MO_lawLine_L25 M))) else (t_MO_lawLine_L25 M))
set_option maxHeartbeats 4000000 in
set_option maxRecDepth 100000 in
theorem k_MO_lawLine_L61 (l : Launch) {p : Program} {e : Env} {s : State} {m : MethodId} {below : List Frame} {meth : Method} {c : Code} {b n : Nat} {C : CT} (hlo : 231 ≤ n)   (F : Cx b p m c b_MO_lawLine 2 s ([.ref (b + 191)] : List Value).toArray "WardFallsModel" C n 231) (hlk : meth.locks = false) (hr : meth.sig.returnType = none) {res : Mem} (M : Mem) (v1_ : Int) (hv1_ : InR v1_) (H : Heap) (locs : List Loc) (ls : Array Slot) (hS : St b C n M s H locs) (hl : lv_has ls 2 [(0, .ref (b + 191)), (1, vI v1_)]) (hT : t_MO_lawLine_L61 M v1_ = some res) : W p l e (headSpec (wsM y_MO_lawLine b_MO_lawLine 2 (none)) (rmD 241)).room s m ([.ref (b + 191)] : List Value).toArray below meth c H locs 0 0 (MQ below (QV b C n res) ([.ref (b + 191)] : List Value).toArray s 0 0 (frb b)) (F0 m 61 ls []) := by
  unfold t_MO_lawLine_L61 at hT
  refine lv_aload_n F.hx F.hb d_MO_lawLine_61 rfl (lv_at hl 0 rfl) ?_
  refine r_get (v := vI (M.1 191 24)) (N := 68) (T := T1) (j := 24) F hS (show 191 < 231 by decide) (show shK 191 = 5 from rfl) (show shN 191 = 68 from rfl) rfl (Nat.le_of_ble_eq_true rfl) ing1 mw_1413 (fv_int rfl) d_MO_lawLine_62 ?_
  have i17 := hS.rng 191 24
  refine r_if_eq (tgt := 69) F.hx F.hb i17 d_MO_lawLine_65 (by decide) (fun c18 => ?_) (fun c18 => ?_)
  · replace hT := (if_pos c18).symm.trans hT
    refine lv_aload_n F.hx F.hb d_MO_lawLine_69 rfl (lv_at hl 0 rfl) ?_
    refine lv_dup F.hx F.hb d_MO_lawLine_70 rfl ?_
    refine r_get (v := vI (M.1 191 17)) (N := 68) (T := T1) (j := 17) F hS (show 191 < 231 by decide) (show shK 191 = 5 from rfl) (show shN 191 = 68 from rfl) rfl (Nat.le_of_ble_eq_true rfl) ing1 mw_1406 (fv_int rfl) d_MO_lawLine_71 ?_
    have i19 := hS.rng 191 17
    refine r_iconst F.hx F.hb d_MO_lawLine_74 ?_
    refine r_bipush F.hx F.hb d_MO_lawLine_75 rfl ?_
    refine lv_iload_n F.hx F.hb d_MO_lawLine_77 rfl (lv_at hl 1 rfl) ?_
    refine r_iadd F.hx F.hb d_MO_lawLine_78 ?_
    refine r_ishl F.hx F.hb d_MO_lawLine_79 ?_
    refine r_ior F.hx F.hb d_MO_lawLine_80 ?_
    refine r_putI (N := 68) (T := T1) (j := 17) F hS (show 191 < 231 by decide) (show shK 191 = 5 from rfl) (show shN 191 = 68 from rfl) rfl (Nat.le_of_ble_eq_true rfl) ing1 tyok1 nm1 rfl rfl rfl rfl rfl rfl mw_1406 (q_inr_toInt _) d_MO_lawLine_81 (fun H locs hS => ?_)
    obtain ⟨M20, eM20⟩ : ∃ q, q = (setI M 191 17 (q_or (M.1 191 17) (q_shl 1 (w32 (10 + v1_))))) := ⟨_, rfl⟩
    replace hS : St b C n M20 s H locs := by rw [eM20]; exact hS
    replace hT := qlet_eq hT eM20
    refine lv_aload_n F.hx F.hb d_MO_lawLine_84 rfl (lv_at hl 0 rfl) ?_
    obtain ⟨q21, hq21, hT⟩ := q_obind hT
    refine r_backV F hS (r_runV (k := 191) (N := 68) (T := T1) (As := []) F hS (show 191 < 231 by decide) (show shK 191 = 5 from rfl) rfl (c_MO_token l F.2.2.1 M20 _ hq21) gs_MO_205 hd_MO_token ⟨Nat.le_of_ble_eq_true rfl, Nat.le_of_ble_eq_true rfl⟩ rfl hl.1 (Nat.le_of_ble_eq_true rfl) ⟨Nat.zero_le _, Nat.zero_le _⟩ rfl d_MO_lawLine_85) (fun H locs hS => ?_)
    refine lv_aload_n F.hx F.hb d_MO_lawLine_88 rfl (lv_at hl 0 rfl) ?_
    refine r_get (v := .ref (b + 203)) (N := 68) (T := T1) (j := 13) F hS (show 191 < 231 by decide) (show shK 191 = 5 from rfl) (show shN 191 = 68 from rfl) rfl (Nat.le_of_ble_eq_true rfl) ing1 mw_1402 (fv_sg rfl rfl rfl) d_MO_lawLine_89 ?_
    refine r_iconst F.hx F.hb d_MO_lawLine_92 ?_
    refine lv_iload_n F.hx F.hb d_MO_lawLine_93 rfl (lv_at hl 1 rfl) ?_
    refine r_iadd F.hx F.hb d_MO_lawLine_94 ?_
    refine lv_aload_n F.hx F.hb d_MO_lawLine_95 rfl (lv_at hl 0 rfl) ?_
    refine r_bipush F.hx F.hb d_MO_lawLine_96 rfl ?_
    obtain ⟨q23, hq23, hT⟩ := q_obind hT
    refine r_backI F hS (r_runV (k := 191) (N := 68) (T := T1) (As := [vI 8]) F hS (show 191 < 231 by decide) (show shK 191 = 5 from rfl) rfl (c_MO_fresher l F.2.2.1 q21 8 (inr_c rfl) _ hq23) gs_MO_222 hd_MO_fresher ⟨Nat.le_of_ble_eq_true rfl, Nat.le_of_ble_eq_true rfl⟩ rfl hl.1 (Nat.le_of_ble_eq_true rfl) ⟨Nat.zero_le _, Nat.zero_le _⟩ rfl d_MO_lawLine_98) (fun H locs hS h24 => ?_)
    obtain ⟨⟨g25a, g25b⟩, hT⟩ := q_guard hT
    refine r_iast F hS (show 203 < 231 by decide) (show shK 203 = 0 from rfl) (show shN 203 = 4 from rfl) (inr_w32 _) h24 g25a g25b d_MO_lawLine_101 (fun H locs hS => ?_)
    obtain ⟨M26, eM26⟩ : ∃ q, q = (setI q21 203 (w32 (2 + v1_)) q23) := ⟨_, rfl⟩
    replace hS : St b C n M26 s H locs := by rw [eM26]; exact hS
    replace hT := qlet_eq hT eM26
    refine lv_aload_n F.hx F.hb d_MO_lawLine_102 rfl (lv_at hl 0 rfl) ?_
    obtain ⟨q27, hq27, hT⟩ := q_obind hT
    refine r_backV F hS (r_runV (k := 191) (N := 68) (T := T1) (As := []) F hS (show 191 < 231 by decide) (show shK 191 = 5 from rfl) rfl (c_MO_expression l F.2.2.1 M26 _ hq27) gs_MO_276 hd_MO_expression ⟨Nat.le_of_ble_eq_true rfl, Nat.le_of_ble_eq_true rfl⟩ rfl hl.1 (Nat.le_of_ble_eq_true rfl) ⟨Nat.zero_le _, Nat.zero_le _⟩ rfl d_MO_lawLine_103) (fun H locs hS => ?_)
    refine lv_aload_n F.hx F.hb d_MO_lawLine_106 rfl (lv_at hl 0 rfl) ?_
    refine r_get (v := .ref (b + 204)) (N := 68) (T := T1) (j := 14) F hS (show 191 < 231 by decide) (show shK 191 = 5 from rfl) (show shN 191 = 68 from rfl) rfl (Nat.le_of_ble_eq_true rfl) ing1 mw_1403 (fv_sg rfl rfl rfl) d_MO_lawLine_107 ?_
    refine r_iconst F.hx F.hb d_MO_lawLine_110 ?_
    refine lv_iload_n F.hx F.hb d_MO_lawLine_111 rfl (lv_at hl 1 rfl) ?_
    refine r_iadd F.hx F.hb d_MO_lawLine_112 ?_
    refine lv_aload_n F.hx F.hb d_MO_lawLine_113 rfl (lv_at hl 0 rfl) ?_
    refine r_bipush F.hx F.hb d_MO_lawLine_114 rfl ?_
    obtain ⟨q29, hq29, hT⟩ := q_obind hT
    refine r_backI F hS (r_runV (k := 191) (N := 68) (T := T1) (As := [vI 8]) F hS (show 191 < 231 by decide) (show shK 191 = 5 from rfl) rfl (c_MO_fresher l F.2.2.1 q27 8 (inr_c rfl) _ hq29) gs_MO_222 hd_MO_fresher ⟨Nat.le_of_ble_eq_true rfl, Nat.le_of_ble_eq_true rfl⟩ rfl hl.1 (Nat.le_of_ble_eq_true rfl) ⟨Nat.zero_le _, Nat.zero_le _⟩ rfl d_MO_lawLine_116) (fun H locs hS h30 => ?_)
    obtain ⟨⟨g31a, g31b⟩, hT⟩ := q_guard hT
    refine r_iast F hS (show 204 < 231 by decide) (show shK 204 = 0 from rfl) (show shN 204 = 4 from rfl) (inr_w32 _) h30 g31a g31b d_MO_lawLine_119 (fun H locs hS => ?_)
    obtain ⟨M32, eM32⟩ : ∃ q, q = (setI q27 204 (w32 (2 + v1_)) q29) := ⟨_, rfl⟩
    replace hS : St b C n M32 s H locs := by rw [eM32]; exact hS
    replace hT := qlet_eq hT eM32
    cases hT
    exact r_vret F hlk hr hS d_MO_lawLine_120
  · replace hT := (if_neg c18).symm.trans hT
    cases hT
    exact r_vret F hlk hr hS d_MO_lawLine_68
set_option maxHeartbeats 4000000 in
set_option maxRecDepth 100000 in
theorem k_MO_lawLine_L30 (l : Launch) {p : Program} {e : Env} {s : State} {m : MethodId} {below : List Frame} {meth : Method} {c : Code} {b n : Nat} {C : CT} (hlo : 231 ≤ n)   (F : Cx b p m c b_MO_lawLine 2 s ([.ref (b + 191)] : List Value).toArray "WardFallsModel" C n 231) (hlk : meth.locks = false) (hr : meth.sig.returnType = none) {res : Mem} (M : Mem)  (H : Heap) (locs : List Loc) (ls : Array Slot) (hS : St b C n M s H locs) (hl : lv_has ls 2 [(0, .ref (b + 191))]) (hT : t_MO_lawLine_L30 M = some res) : W p l e (headSpec (wsM y_MO_lawLine b_MO_lawLine 2 (none)) (rmD 241)).room s m ([.ref (b + 191)] : List Value).toArray below meth c H locs 0 0 (MQ below (QV b C n res) ([.ref (b + 191)] : List Value).toArray s 0 0 (frb b)) (F0 m 30 ls []) := by
  unfold t_MO_lawLine_L30 at hT
  refine lv_aload_n F.hx F.hb d_MO_lawLine_30 rfl (lv_at hl 0 rfl) ?_
  refine r_get (v := vI (M.1 191 23)) (N := 68) (T := T1) (j := 23) F hS (show 191 < 231 by decide) (show shK 191 = 5 from rfl) (show shN 191 = 68 from rfl) rfl (Nat.le_of_ble_eq_true rfl) ing1 mw_1412 (fv_int rfl) d_MO_lawLine_31 ?_
  have i9 := hS.rng 191 23
  refine r_bipush F.hx F.hb d_MO_lawLine_34 rfl ?_
  refine r_isub F.hx F.hb d_MO_lawLine_36 ?_
  refine lv_istore_n (lv' := [(1, vI (w32 ((M.1 191 23) - 13))), (0, .ref (b + 191))]) F.hx F.hb d_MO_lawLine_37 rfl hl (Nat.le_of_ble_eq_true rfl) rfl (fun ls hl => ?_)
  refine lv_aload_n F.hx F.hb d_MO_lawLine_38 rfl (lv_at hl 1 rfl) ?_
  refine r_get (v := vI (M.1 191 24)) (N := 68) (T := T1) (j := 24) F hS (show 191 < 231 by decide) (show shK 191 = 5 from rfl) (show shN 191 = 68 from rfl) rfl (Nat.le_of_ble_eq_true rfl) ing1 mw_1413 (fv_int rfl) d_MO_lawLine_39 ?_
  have i10 := hS.rng 191 24
  refine r_if_ne (tgt := 61) F.hx F.hb i10 d_MO_lawLine_42 (by decide) (fun c11 => ?_) (fun c11 => ?_)
  · replace hT := (if_neg c11).symm.trans hT
    exact k_MO_lawLine_L61 l hlo F hlk hr M (w32 ((M.1 191 23) - 13)) (inr_w32 _) _ _ _ hS (lv_sub hl [1, 0] rfl) hT
  · replace hT := (if_pos c11).symm.trans hT
    refine lv_aload_n F.hx F.hb d_MO_lawLine_45 rfl (lv_at hl 1 rfl) ?_
    refine r_bipush F.hx F.hb d_MO_lawLine_46 rfl ?_
    refine lv_iload_n F.hx F.hb d_MO_lawLine_48 rfl (lv_at hl 0 rfl) ?_
    refine r_iadd F.hx F.hb d_MO_lawLine_49 ?_
    obtain ⟨q12, hq12⟩ : ∃ q, q = (t_MO_isTold M (w32 (10 + (w32 ((M.1 191 23) - 13))))) := ⟨_, rfl⟩
    replace hT := qlet_eq hT hq12
    refine r_backZ F hS (r_runV (k := 191) (N := 68) (T := T1) (As := [vI (w32 (10 + (w32 ((M.1 191 23) - 13))))]) F hS (show 191 < 231 by decide) (show shK 191 = 5 from rfl) rfl (c_MO_isTold l F.2.2.1 M (w32 (10 + (w32 ((M.1 191 23) - 13)))) (inr_w32 _) _ hq12.symm) gs_MO_235 hd_MO_isTold ⟨Nat.le_of_ble_eq_true rfl, Nat.le_of_ble_eq_true rfl⟩ rfl hl.1 (Nat.le_of_ble_eq_true rfl) ⟨Nat.zero_le _, Nat.zero_le _⟩ rfl d_MO_lawLine_50) (fun H locs hS h13 => ?_)
    refine r_if_eq (tgt := 61) F.hx F.hb (inr_z h13) d_MO_lawLine_53 (by decide) (fun c14 => ?_) (fun c14 => ?_)
    · replace hT := (if_pos c14).symm.trans hT
      exact k_MO_lawLine_L61 l hlo F hlk hr M (w32 ((M.1 191 23) - 13)) (inr_w32 _) _ _ _ hS (lv_sub hl [1, 0] rfl) hT
    · replace hT := (if_neg c14).symm.trans hT
      refine lv_aload_n F.hx F.hb d_MO_lawLine_56 rfl (lv_at hl 1 rfl) ?_
      refine r_iconst F.hx F.hb d_MO_lawLine_57 ?_
      obtain ⟨q15, hq15⟩ : ∃ q, q = (t_MO_wrong M 3) := ⟨_, rfl⟩
      replace hT := qlet_eq hT hq15
      refine r_backV F hS (r_runV (k := 191) (N := 68) (T := T1) (As := [vI 3]) F hS (show 191 < 231 by decide) (show shK 191 = 5 from rfl) rfl (c_MO_wrong l F.2.2.1 M 3 (inr_c rfl) _ hq15.symm) gs_MO_208 hd_MO_wrong ⟨Nat.le_of_ble_eq_true rfl, Nat.le_of_ble_eq_true rfl⟩ rfl hl.1 (Nat.le_of_ble_eq_true rfl) ⟨Nat.zero_le _, Nat.zero_le _⟩ rfl d_MO_lawLine_58) (fun H locs hS => ?_)
      exact k_MO_lawLine_L61 l hlo F hlk hr q15 (w32 ((M.1 191 23) - 13)) (inr_w32 _) _ _ _ hS (lv_sub hl [1, 0] rfl) hT
set_option maxHeartbeats 4000000 in
set_option maxRecDepth 100000 in
theorem k_MO_lawLine_L25 (l : Launch) {p : Program} {e : Env} {s : State} {m : MethodId} {below : List Frame} {meth : Method} {c : Code} {b n : Nat} {C : CT} (hlo : 231 ≤ n)   (F : Cx b p m c b_MO_lawLine 2 s ([.ref (b + 191)] : List Value).toArray "WardFallsModel" C n 231) (hlk : meth.locks = false) (hr : meth.sig.returnType = none) {res : Mem} (M : Mem)  (H : Heap) (locs : List Loc) (ls : Array Slot) (hS : St b C n M s H locs) (hl : lv_has ls 2 [(0, .ref (b + 191))]) (hT : t_MO_lawLine_L25 M = some res) : W p l e (headSpec (wsM y_MO_lawLine b_MO_lawLine 2 (none)) (rmD 241)).room s m ([.ref (b + 191)] : List Value).toArray below meth c H locs 0 0 (MQ below (QV b C n res) ([.ref (b + 191)] : List Value).toArray s 0 0 (frb b)) (F0 m 25 ls []) := by
  unfold t_MO_lawLine_L25 at hT
  refine lv_aload_n F.hx F.hb d_MO_lawLine_25 rfl (lv_at hl 0 rfl) ?_
  refine r_iconst F.hx F.hb d_MO_lawLine_26 ?_
  obtain ⟨q7, hq7⟩ : ∃ q, q = (t_MO_wrong M 1) := ⟨_, rfl⟩
  replace hT := qlet_eq hT hq7
  refine r_backV F hS (r_runV (k := 191) (N := 68) (T := T1) (As := [vI 1]) F hS (show 191 < 231 by decide) (show shK 191 = 5 from rfl) rfl (c_MO_wrong l F.2.2.1 M 1 (inr_c rfl) _ hq7.symm) gs_MO_208 hd_MO_wrong ⟨Nat.le_of_ble_eq_true rfl, Nat.le_of_ble_eq_true rfl⟩ rfl hl.1 (Nat.le_of_ble_eq_true rfl) ⟨Nat.zero_le _, Nat.zero_le _⟩ rfl d_MO_lawLine_27) (fun H locs hS => ?_)
  exact k_MO_lawLine_L30 l hlo F hlk hr q7 _ _ _ hS (lv_sub hl [0] rfl) hT
set_option maxHeartbeats 4000000 in
set_option maxRecDepth 100000 in
theorem c_MO_lawLine (l : Launch) {b n : Nat} {C : CT} (hlo : 231 ≤ n) (M : Mem)   (res : Mem) (hT : t_MO_lawLine M  = some res) : CM l b C n 241 y_MO_lawLine b_MO_lawLine 2 (none) [.ref (b + 191)] M (QV b C n res) := by
  refine CM.of (lo := 231) (ow := "WardFallsModel") (by decide) rfl (Nat.le_of_ble_eq_true rfl) hlo (fun p e s m below meth c F hlk hr hS ls hl => ?_)
  have hl : lv_has ls 2 [(0, .ref (b + 191))] := hl
  unfold t_MO_lawLine at hT
  refine lv_aload_n F.hx F.hb d_MO_lawLine_0 rfl (lv_at hl 0 rfl) ?_
  refine r_get (v := vI (M.1 191 22)) (N := 68) (T := T1) (j := 22) F hS (show 191 < 231 by decide) (show shK 191 = 5 from rfl) (show shN 191 = 68 from rfl) rfl (Nat.le_of_ble_eq_true rfl) ing1 mw_1411 (fv_int rfl) d_MO_lawLine_1 ?_
  have i1 := hS.rng 191 22
  refine r_if_ne (tgt := 25) F.hx F.hb i1 d_MO_lawLine_4 (by decide) (fun c2 => ?_) (fun c2 => ?_)
  · replace hT := (if_neg c2).symm.trans hT
    exact k_MO_lawLine_L25 l hlo F hlk hr M _ _ _ hS (lv_sub hl [0] rfl) hT
  · replace hT := (if_pos c2).symm.trans hT
    refine lv_aload_n F.hx F.hb d_MO_lawLine_7 rfl (lv_at hl 0 rfl) ?_
    refine r_get (v := vI (M.1 191 23)) (N := 68) (T := T1) (j := 23) F hS (show 191 < 231 by decide) (show shK 191 = 5 from rfl) (show shN 191 = 68 from rfl) rfl (Nat.le_of_ble_eq_true rfl) ing1 mw_1412 (fv_int rfl) d_MO_lawLine_8 ?_
    have i3 := hS.rng 191 23
    refine r_bipush F.hx F.hb d_MO_lawLine_11 rfl ?_
    refine r_icmp_eq (tgt := 30) F.hx F.hb i3 (inr_c rfl) d_MO_lawLine_13 (by decide) (fun c4 => ?_) (fun c4 => ?_)
    · replace hT := (if_pos c4).symm.trans hT
      exact k_MO_lawLine_L30 l hlo F hlk hr M _ _ _ hS (lv_sub hl [0] rfl) hT
    · replace hT := (if_neg c4).symm.trans hT
      refine lv_aload_n F.hx F.hb d_MO_lawLine_16 rfl (lv_at hl 0 rfl) ?_
      refine r_get (v := vI (M.1 191 23)) (N := 68) (T := T1) (j := 23) F hS (show 191 < 231 by decide) (show shK 191 = 5 from rfl) (show shN 191 = 68 from rfl) rfl (Nat.le_of_ble_eq_true rfl) ing1 mw_1412 (fv_int rfl) d_MO_lawLine_17 ?_
      have i5 := hS.rng 191 23
      refine r_bipush F.hx F.hb d_MO_lawLine_20 rfl ?_
      refine r_icmp_eq (tgt := 30) F.hx F.hb i5 (inr_c rfl) d_MO_lawLine_22 (by decide) (fun c6 => ?_) (fun c6 => ?_)
      · replace hT := (if_pos c6).symm.trans hT
        exact k_MO_lawLine_L30 l hlo F hlk hr M _ _ _ hS (lv_sub hl [0] rfl) hT
      · replace hT := (if_neg c6).symm.trans hT
        exact k_MO_lawLine_L25 l hlo F hlk hr M _ _ _ hS (lv_sub hl [0] rfl) hT
theorem wn_MO_line_0 : ∀ i, i < 94 → bA b_MO_line (0 + i) = wB [42, 180, 0, 164, 154, 0, 12, 42, 180, 0, 174, 16, 7, 164, 0, 9, 42, 4, 182, 0, 208, 177, 42, 180, 0, 174, 60, 42, 27, 182, 0, 232, 153, 0, 11, 42, 5, 182, 0, 208, 167, 0, 70, 27, 153, 0, 9, 27, 16, 6, 160, 0, 19, 42, 27, 182, 0, 235, 153, 0, 11, 42, 6, 182, 0, 208, 167, 0, 44, 27, 154, 0, 40, 42, 5, 182, 0, 235, 154, 0, 27, 42, 6, 182, 0, 235, 154, 0, 19, 42, 7, 182, 0, 235] i := wB_of (by decide +kernel)
theorem d_MO_line_0 : decode b_MO_line 0 = .ok (.aload_n 0, 1) := dc_42 (q0_win (r := 0) wn_MO_line_0 (by decide +kernel))
theorem d_MO_line_1 : decode b_MO_line 1 = .ok (.getfield 164, 3) := dc_180 (qU2_win (r := 1) wn_MO_line_0 (by decide +kernel))
theorem d_MO_line_4 : decode b_MO_line 4 = .ok (.ifCond .ne 12, 3) := dc_154 (qS2_win (r := 4) wn_MO_line_0 (by decide +kernel))
theorem d_MO_line_7 : decode b_MO_line 7 = .ok (.aload_n 0, 1) := dc_42 (q0_win (r := 7) wn_MO_line_0 (by decide +kernel))
theorem d_MO_line_8 : decode b_MO_line 8 = .ok (.getfield 174, 3) := dc_180 (qU2_win (r := 8) wn_MO_line_0 (by decide +kernel))
theorem d_MO_line_11 : decode b_MO_line 11 = .ok (.bipush 7, 2) := dc_16 (qS1_win (r := 11) wn_MO_line_0 (by decide +kernel))
theorem d_MO_line_13 : decode b_MO_line 13 = .ok (.if_icmp .le 9, 3) := dc_164 (qS2_win (r := 13) wn_MO_line_0 (by decide +kernel))
theorem d_MO_line_16 : decode b_MO_line 16 = .ok (.aload_n 0, 1) := dc_42 (q0_win (r := 16) wn_MO_line_0 (by decide +kernel))
theorem d_MO_line_17 : decode b_MO_line 17 = .ok (.iconst 1, 1) := dc_4 (q0_win (r := 17) wn_MO_line_0 (by decide +kernel))
theorem d_MO_line_18 : decode b_MO_line 18 = .ok (.invokevirtual 208, 3) := dc_182 (qU2_win (r := 18) wn_MO_line_0 (by decide +kernel))
theorem d_MO_line_21 : decode b_MO_line 21 = .ok (.return_, 1) := dc_177 (q0_win (r := 21) wn_MO_line_0 (by decide +kernel))
theorem d_MO_line_22 : decode b_MO_line 22 = .ok (.aload_n 0, 1) := dc_42 (q0_win (r := 22) wn_MO_line_0 (by decide +kernel))
theorem d_MO_line_23 : decode b_MO_line 23 = .ok (.getfield 174, 3) := dc_180 (qU2_win (r := 23) wn_MO_line_0 (by decide +kernel))
theorem d_MO_line_26 : decode b_MO_line 26 = .ok (.istore_n 1, 1) := dc_60 (q0_win (r := 26) wn_MO_line_0 (by decide +kernel))
theorem d_MO_line_27 : decode b_MO_line 27 = .ok (.aload_n 0, 1) := dc_42 (q0_win (r := 27) wn_MO_line_0 (by decide +kernel))
theorem d_MO_line_28 : decode b_MO_line 28 = .ok (.iload_n 1, 1) := dc_27 (q0_win (r := 28) wn_MO_line_0 (by decide +kernel))
theorem d_MO_line_29 : decode b_MO_line 29 = .ok (.invokevirtual 232, 3) := dc_182 (qU2_win (r := 29) wn_MO_line_0 (by decide +kernel))
theorem d_MO_line_32 : decode b_MO_line 32 = .ok (.ifCond .eq 11, 3) := dc_153 (qS2_win (r := 32) wn_MO_line_0 (by decide +kernel))
theorem d_MO_line_35 : decode b_MO_line 35 = .ok (.aload_n 0, 1) := dc_42 (q0_win (r := 35) wn_MO_line_0 (by decide +kernel))
theorem d_MO_line_36 : decode b_MO_line 36 = .ok (.iconst 2, 1) := dc_5 (q0_win (r := 36) wn_MO_line_0 (by decide +kernel))
theorem d_MO_line_37 : decode b_MO_line 37 = .ok (.invokevirtual 208, 3) := dc_182 (qU2_win (r := 37) wn_MO_line_0 (by decide +kernel))
theorem d_MO_line_40 : decode b_MO_line 40 = .ok (.goto 70, 3) := dc_167 (qS2_win (r := 40) wn_MO_line_0 (by decide +kernel))
theorem d_MO_line_43 : decode b_MO_line 43 = .ok (.iload_n 1, 1) := dc_27 (q0_win (r := 43) wn_MO_line_0 (by decide +kernel))
theorem d_MO_line_44 : decode b_MO_line 44 = .ok (.ifCond .eq 9, 3) := dc_153 (qS2_win (r := 44) wn_MO_line_0 (by decide +kernel))
theorem d_MO_line_47 : decode b_MO_line 47 = .ok (.iload_n 1, 1) := dc_27 (q0_win (r := 47) wn_MO_line_0 (by decide +kernel))
theorem d_MO_line_48 : decode b_MO_line 48 = .ok (.bipush 6, 2) := dc_16 (qS1_win (r := 48) wn_MO_line_0 (by decide +kernel))
theorem d_MO_line_50 : decode b_MO_line 50 = .ok (.if_icmp .ne 19, 3) := dc_160 (qS2_win (r := 50) wn_MO_line_0 (by decide +kernel))
theorem d_MO_line_53 : decode b_MO_line 53 = .ok (.aload_n 0, 1) := dc_42 (q0_win (r := 53) wn_MO_line_0 (by decide +kernel))
theorem d_MO_line_54 : decode b_MO_line 54 = .ok (.iload_n 1, 1) := dc_27 (q0_win (r := 54) wn_MO_line_0 (by decide +kernel))
theorem d_MO_line_55 : decode b_MO_line 55 = .ok (.invokevirtual 235, 3) := dc_182 (qU2_win (r := 55) wn_MO_line_0 (by decide +kernel))
theorem d_MO_line_58 : decode b_MO_line 58 = .ok (.ifCond .eq 11, 3) := dc_153 (qS2_win (r := 58) wn_MO_line_0 (by decide +kernel))
theorem d_MO_line_61 : decode b_MO_line 61 = .ok (.aload_n 0, 1) := dc_42 (q0_win (r := 61) wn_MO_line_0 (by decide +kernel))
theorem d_MO_line_62 : decode b_MO_line 62 = .ok (.iconst 3, 1) := dc_6 (q0_win (r := 62) wn_MO_line_0 (by decide +kernel))
theorem d_MO_line_63 : decode b_MO_line 63 = .ok (.invokevirtual 208, 3) := dc_182 (qU2_win (r := 63) wn_MO_line_0 (by decide +kernel))
theorem d_MO_line_66 : decode b_MO_line 66 = .ok (.goto 44, 3) := dc_167 (qS2_win (r := 66) wn_MO_line_0 (by decide +kernel))
theorem d_MO_line_69 : decode b_MO_line 69 = .ok (.iload_n 1, 1) := dc_27 (q0_win (r := 69) wn_MO_line_0 (by decide +kernel))
theorem d_MO_line_70 : decode b_MO_line 70 = .ok (.ifCond .ne 40, 3) := dc_154 (qS2_win (r := 70) wn_MO_line_0 (by decide +kernel))
theorem d_MO_line_73 : decode b_MO_line 73 = .ok (.aload_n 0, 1) := dc_42 (q0_win (r := 73) wn_MO_line_0 (by decide +kernel))
theorem d_MO_line_74 : decode b_MO_line 74 = .ok (.iconst 2, 1) := dc_5 (q0_win (r := 74) wn_MO_line_0 (by decide +kernel))
theorem d_MO_line_75 : decode b_MO_line 75 = .ok (.invokevirtual 235, 3) := dc_182 (qU2_win (r := 75) wn_MO_line_0 (by decide +kernel))
theorem d_MO_line_78 : decode b_MO_line 78 = .ok (.ifCond .ne 27, 3) := dc_154 (qS2_win (r := 78) wn_MO_line_0 (by decide +kernel))
theorem d_MO_line_81 : decode b_MO_line 81 = .ok (.aload_n 0, 1) := dc_42 (q0_win (r := 81) wn_MO_line_0 (by decide +kernel))
theorem d_MO_line_82 : decode b_MO_line 82 = .ok (.iconst 3, 1) := dc_6 (q0_win (r := 82) wn_MO_line_0 (by decide +kernel))
theorem d_MO_line_83 : decode b_MO_line 83 = .ok (.invokevirtual 235, 3) := dc_182 (qU2_win (r := 83) wn_MO_line_0 (by decide +kernel))
theorem d_MO_line_86 : decode b_MO_line 86 = .ok (.ifCond .ne 19, 3) := dc_154 (qS2_win (r := 86) wn_MO_line_0 (by decide +kernel))
theorem d_MO_line_89 : decode b_MO_line 89 = .ok (.aload_n 0, 1) := dc_42 (q0_win (r := 89) wn_MO_line_0 (by decide +kernel))
theorem d_MO_line_90 : decode b_MO_line 90 = .ok (.iconst 4, 1) := dc_7 (q0_win (r := 90) wn_MO_line_0 (by decide +kernel))
theorem d_MO_line_91 : decode b_MO_line 91 = .ok (.invokevirtual 235, 3) := dc_182 (qU2_win (r := 91) wn_MO_line_0 (by decide +kernel))
theorem wn_MO_line_94 : ∀ i, i < 41 → bA b_MO_line (94 + i) = wB [154, 0, 11, 42, 8, 182, 0, 235, 153, 0, 8, 42, 7, 182, 0, 208, 42, 180, 0, 199, 153, 0, 4, 177, 42, 89, 180, 0, 229, 4, 27, 120, 128, 181, 0, 229, 42, 182, 0, 205, 27] i := wB_of (by decide +kernel)
theorem d_MO_line_94 : decode b_MO_line 94 = .ok (.ifCond .ne 11, 3) := dc_154 (qS2_win (r := 0) wn_MO_line_94 (by decide +kernel))
theorem d_MO_line_97 : decode b_MO_line 97 = .ok (.aload_n 0, 1) := dc_42 (q0_win (r := 3) wn_MO_line_94 (by decide +kernel))
theorem d_MO_line_98 : decode b_MO_line 98 = .ok (.iconst 5, 1) := dc_8 (q0_win (r := 4) wn_MO_line_94 (by decide +kernel))
theorem d_MO_line_99 : decode b_MO_line 99 = .ok (.invokevirtual 235, 3) := dc_182 (qU2_win (r := 5) wn_MO_line_94 (by decide +kernel))
theorem d_MO_line_102 : decode b_MO_line 102 = .ok (.ifCond .eq 8, 3) := dc_153 (qS2_win (r := 8) wn_MO_line_94 (by decide +kernel))
theorem d_MO_line_105 : decode b_MO_line 105 = .ok (.aload_n 0, 1) := dc_42 (q0_win (r := 11) wn_MO_line_94 (by decide +kernel))
theorem d_MO_line_106 : decode b_MO_line 106 = .ok (.iconst 4, 1) := dc_7 (q0_win (r := 12) wn_MO_line_94 (by decide +kernel))
theorem d_MO_line_107 : decode b_MO_line 107 = .ok (.invokevirtual 208, 3) := dc_182 (qU2_win (r := 13) wn_MO_line_94 (by decide +kernel))
theorem d_MO_line_110 : decode b_MO_line 110 = .ok (.aload_n 0, 1) := dc_42 (q0_win (r := 16) wn_MO_line_94 (by decide +kernel))
theorem d_MO_line_111 : decode b_MO_line 111 = .ok (.getfield 199, 3) := dc_180 (qU2_win (r := 17) wn_MO_line_94 (by decide +kernel))
theorem d_MO_line_114 : decode b_MO_line 114 = .ok (.ifCond .eq 4, 3) := dc_153 (qS2_win (r := 20) wn_MO_line_94 (by decide +kernel))
theorem d_MO_line_117 : decode b_MO_line 117 = .ok (.return_, 1) := dc_177 (q0_win (r := 23) wn_MO_line_94 (by decide +kernel))
theorem d_MO_line_118 : decode b_MO_line 118 = .ok (.aload_n 0, 1) := dc_42 (q0_win (r := 24) wn_MO_line_94 (by decide +kernel))
theorem d_MO_line_119 : decode b_MO_line 119 = .ok (.dup, 1) := dc_89 (q0_win (r := 25) wn_MO_line_94 (by decide +kernel))
theorem d_MO_line_120 : decode b_MO_line 120 = .ok (.getfield 229, 3) := dc_180 (qU2_win (r := 26) wn_MO_line_94 (by decide +kernel))
theorem d_MO_line_123 : decode b_MO_line 123 = .ok (.iconst 1, 1) := dc_4 (q0_win (r := 29) wn_MO_line_94 (by decide +kernel))
theorem d_MO_line_124 : decode b_MO_line 124 = .ok (.iload_n 1, 1) := dc_27 (q0_win (r := 30) wn_MO_line_94 (by decide +kernel))
theorem d_MO_line_125 : decode b_MO_line 125 = .ok (.ishl, 1) := dc_120 (q0_win (r := 31) wn_MO_line_94 (by decide +kernel))
theorem d_MO_line_126 : decode b_MO_line 126 = .ok (.ior, 1) := dc_128 (q0_win (r := 32) wn_MO_line_94 (by decide +kernel))
theorem d_MO_line_127 : decode b_MO_line 127 = .ok (.putfield 229, 3) := dc_181 (qU2_win (r := 33) wn_MO_line_94 (by decide +kernel))
theorem d_MO_line_130 : decode b_MO_line 130 = .ok (.aload_n 0, 1) := dc_42 (q0_win (r := 36) wn_MO_line_94 (by decide +kernel))
theorem d_MO_line_131 : decode b_MO_line 131 = .ok (.invokevirtual 205, 3) := dc_182 (qU2_win (r := 37) wn_MO_line_94 (by decide +kernel))
theorem d_MO_line_134 : decode b_MO_line 134 = .ok (.iload_n 1, 1) := dc_27 (q0_win (r := 40) wn_MO_line_94 (by decide +kernel))
theorem d_MO_line_135 : decode b_MO_line 135 = .ok (.tableswitch 135 0 6 #[41, 68, 82, 89, 96, 103, 119], 41) := by decide +kernel
theorem wn_MO_line_176 : ∀ i, i < 95 → bA b_MO_line (176 + i) = wB [42, 3, 42, 4, 16, 8, 182, 0, 226, 182, 0, 238, 42, 4, 42, 4, 16, 6, 182, 0, 226, 182, 0, 238, 167, 0, 74, 42, 7, 42, 5, 182, 0, 222, 96, 182, 0, 242, 167, 0, 60, 42, 182, 0, 245, 167, 0, 53, 42, 182, 0, 248, 167, 0, 46, 42, 182, 0, 251, 167, 0, 39, 42, 16, 8, 42, 16, 6, 182, 0, 222, 96, 182, 0, 254, 167, 0, 23, 42, 16, 7, 42, 3, 18, 183, 182, 0, 226, 182, 0, 238, 167, 0, 7, 42] i := wB_of (by decide +kernel)
theorem d_MO_line_176 : decode b_MO_line 176 = .ok (.aload_n 0, 1) := dc_42 (q0_win (r := 0) wn_MO_line_176 (by decide +kernel))
theorem d_MO_line_177 : decode b_MO_line 177 = .ok (.iconst 0, 1) := dc_3 (q0_win (r := 1) wn_MO_line_176 (by decide +kernel))
theorem d_MO_line_178 : decode b_MO_line 178 = .ok (.aload_n 0, 1) := dc_42 (q0_win (r := 2) wn_MO_line_176 (by decide +kernel))
theorem d_MO_line_179 : decode b_MO_line 179 = .ok (.iconst 1, 1) := dc_4 (q0_win (r := 3) wn_MO_line_176 (by decide +kernel))
theorem d_MO_line_180 : decode b_MO_line 180 = .ok (.bipush 8, 2) := dc_16 (qS1_win (r := 4) wn_MO_line_176 (by decide +kernel))
theorem d_MO_line_182 : decode b_MO_line 182 = .ok (.invokevirtual 226, 3) := dc_182 (qU2_win (r := 6) wn_MO_line_176 (by decide +kernel))
theorem d_MO_line_185 : decode b_MO_line 185 = .ok (.invokevirtual 238, 3) := dc_182 (qU2_win (r := 9) wn_MO_line_176 (by decide +kernel))
theorem d_MO_line_188 : decode b_MO_line 188 = .ok (.aload_n 0, 1) := dc_42 (q0_win (r := 12) wn_MO_line_176 (by decide +kernel))
theorem d_MO_line_189 : decode b_MO_line 189 = .ok (.iconst 1, 1) := dc_4 (q0_win (r := 13) wn_MO_line_176 (by decide +kernel))
theorem d_MO_line_190 : decode b_MO_line 190 = .ok (.aload_n 0, 1) := dc_42 (q0_win (r := 14) wn_MO_line_176 (by decide +kernel))
theorem d_MO_line_191 : decode b_MO_line 191 = .ok (.iconst 1, 1) := dc_4 (q0_win (r := 15) wn_MO_line_176 (by decide +kernel))
theorem d_MO_line_192 : decode b_MO_line 192 = .ok (.bipush 6, 2) := dc_16 (qS1_win (r := 16) wn_MO_line_176 (by decide +kernel))
theorem d_MO_line_194 : decode b_MO_line 194 = .ok (.invokevirtual 226, 3) := dc_182 (qU2_win (r := 18) wn_MO_line_176 (by decide +kernel))
theorem d_MO_line_197 : decode b_MO_line 197 = .ok (.invokevirtual 238, 3) := dc_182 (qU2_win (r := 21) wn_MO_line_176 (by decide +kernel))
theorem d_MO_line_200 : decode b_MO_line 200 = .ok (.goto 74, 3) := dc_167 (qS2_win (r := 24) wn_MO_line_176 (by decide +kernel))
theorem d_MO_line_203 : decode b_MO_line 203 = .ok (.aload_n 0, 1) := dc_42 (q0_win (r := 27) wn_MO_line_176 (by decide +kernel))
theorem d_MO_line_204 : decode b_MO_line 204 = .ok (.iconst 4, 1) := dc_7 (q0_win (r := 28) wn_MO_line_176 (by decide +kernel))
theorem d_MO_line_205 : decode b_MO_line 205 = .ok (.aload_n 0, 1) := dc_42 (q0_win (r := 29) wn_MO_line_176 (by decide +kernel))
theorem d_MO_line_206 : decode b_MO_line 206 = .ok (.iconst 2, 1) := dc_5 (q0_win (r := 30) wn_MO_line_176 (by decide +kernel))
theorem d_MO_line_207 : decode b_MO_line 207 = .ok (.invokevirtual 222, 3) := dc_182 (qU2_win (r := 31) wn_MO_line_176 (by decide +kernel))
theorem d_MO_line_210 : decode b_MO_line 210 = .ok (.iadd, 1) := dc_96 (q0_win (r := 34) wn_MO_line_176 (by decide +kernel))
theorem d_MO_line_211 : decode b_MO_line 211 = .ok (.invokevirtual 242, 3) := dc_182 (qU2_win (r := 35) wn_MO_line_176 (by decide +kernel))
theorem d_MO_line_214 : decode b_MO_line 214 = .ok (.goto 60, 3) := dc_167 (qS2_win (r := 38) wn_MO_line_176 (by decide +kernel))
theorem d_MO_line_217 : decode b_MO_line 217 = .ok (.aload_n 0, 1) := dc_42 (q0_win (r := 41) wn_MO_line_176 (by decide +kernel))
theorem d_MO_line_218 : decode b_MO_line 218 = .ok (.invokevirtual 245, 3) := dc_182 (qU2_win (r := 42) wn_MO_line_176 (by decide +kernel))
theorem d_MO_line_221 : decode b_MO_line 221 = .ok (.goto 53, 3) := dc_167 (qS2_win (r := 45) wn_MO_line_176 (by decide +kernel))
theorem d_MO_line_224 : decode b_MO_line 224 = .ok (.aload_n 0, 1) := dc_42 (q0_win (r := 48) wn_MO_line_176 (by decide +kernel))
theorem d_MO_line_225 : decode b_MO_line 225 = .ok (.invokevirtual 248, 3) := dc_182 (qU2_win (r := 49) wn_MO_line_176 (by decide +kernel))
theorem d_MO_line_228 : decode b_MO_line 228 = .ok (.goto 46, 3) := dc_167 (qS2_win (r := 52) wn_MO_line_176 (by decide +kernel))
theorem d_MO_line_231 : decode b_MO_line 231 = .ok (.aload_n 0, 1) := dc_42 (q0_win (r := 55) wn_MO_line_176 (by decide +kernel))
theorem d_MO_line_232 : decode b_MO_line 232 = .ok (.invokevirtual 251, 3) := dc_182 (qU2_win (r := 56) wn_MO_line_176 (by decide +kernel))
theorem d_MO_line_235 : decode b_MO_line 235 = .ok (.goto 39, 3) := dc_167 (qS2_win (r := 59) wn_MO_line_176 (by decide +kernel))
theorem d_MO_line_238 : decode b_MO_line 238 = .ok (.aload_n 0, 1) := dc_42 (q0_win (r := 62) wn_MO_line_176 (by decide +kernel))
theorem d_MO_line_239 : decode b_MO_line 239 = .ok (.bipush 8, 2) := dc_16 (qS1_win (r := 63) wn_MO_line_176 (by decide +kernel))
theorem d_MO_line_241 : decode b_MO_line 241 = .ok (.aload_n 0, 1) := dc_42 (q0_win (r := 65) wn_MO_line_176 (by decide +kernel))
theorem d_MO_line_242 : decode b_MO_line 242 = .ok (.bipush 6, 2) := dc_16 (qS1_win (r := 66) wn_MO_line_176 (by decide +kernel))
theorem d_MO_line_244 : decode b_MO_line 244 = .ok (.invokevirtual 222, 3) := dc_182 (qU2_win (r := 68) wn_MO_line_176 (by decide +kernel))
theorem d_MO_line_247 : decode b_MO_line 247 = .ok (.iadd, 1) := dc_96 (q0_win (r := 71) wn_MO_line_176 (by decide +kernel))
theorem d_MO_line_248 : decode b_MO_line 248 = .ok (.invokevirtual 254, 3) := dc_182 (qU2_win (r := 72) wn_MO_line_176 (by decide +kernel))
theorem d_MO_line_251 : decode b_MO_line 251 = .ok (.goto 23, 3) := dc_167 (qS2_win (r := 75) wn_MO_line_176 (by decide +kernel))
theorem d_MO_line_254 : decode b_MO_line 254 = .ok (.aload_n 0, 1) := dc_42 (q0_win (r := 78) wn_MO_line_176 (by decide +kernel))
theorem d_MO_line_255 : decode b_MO_line 255 = .ok (.bipush 7, 2) := dc_16 (qS1_win (r := 79) wn_MO_line_176 (by decide +kernel))
theorem d_MO_line_257 : decode b_MO_line 257 = .ok (.aload_n 0, 1) := dc_42 (q0_win (r := 81) wn_MO_line_176 (by decide +kernel))
theorem d_MO_line_258 : decode b_MO_line 258 = .ok (.iconst 0, 1) := dc_3 (q0_win (r := 82) wn_MO_line_176 (by decide +kernel))
theorem d_MO_line_259 : decode b_MO_line 259 = .ok (.ldc 183, 2) := dc_18 (qU1_win (r := 83) wn_MO_line_176 (by decide +kernel))
theorem d_MO_line_261 : decode b_MO_line 261 = .ok (.invokevirtual 226, 3) := dc_182 (qU2_win (r := 85) wn_MO_line_176 (by decide +kernel))
theorem d_MO_line_264 : decode b_MO_line 264 = .ok (.invokevirtual 238, 3) := dc_182 (qU2_win (r := 88) wn_MO_line_176 (by decide +kernel))
theorem d_MO_line_267 : decode b_MO_line 267 = .ok (.goto 7, 3) := dc_167 (qS2_win (r := 91) wn_MO_line_176 (by decide +kernel))
theorem d_MO_line_270 : decode b_MO_line 270 = .ok (.aload_n 0, 1) := dc_42 (q0_win (r := 94) wn_MO_line_176 (by decide +kernel))
theorem wn_MO_line_271 : ∀ i, i < 43 → bA b_MO_line (271 + i) = wB [182, 1, 1, 42, 180, 0, 199, 153, 0, 4, 177, 42, 16, 59, 182, 1, 4, 154, 0, 11, 42, 4, 182, 0, 208, 167, 0, 7, 42, 182, 0, 205, 42, 89, 180, 1, 7, 4, 96, 181, 1, 7, 177] i := wB_of (by decide +kernel)
theorem d_MO_line_271 : decode b_MO_line 271 = .ok (.invokevirtual 257, 3) := dc_182 (qU2_win (r := 0) wn_MO_line_271 (by decide +kernel))
theorem d_MO_line_274 : decode b_MO_line 274 = .ok (.aload_n 0, 1) := dc_42 (q0_win (r := 3) wn_MO_line_271 (by decide +kernel))
theorem d_MO_line_275 : decode b_MO_line 275 = .ok (.getfield 199, 3) := dc_180 (qU2_win (r := 4) wn_MO_line_271 (by decide +kernel))
theorem d_MO_line_278 : decode b_MO_line 278 = .ok (.ifCond .eq 4, 3) := dc_153 (qS2_win (r := 7) wn_MO_line_271 (by decide +kernel))
theorem d_MO_line_281 : decode b_MO_line 281 = .ok (.return_, 1) := dc_177 (q0_win (r := 10) wn_MO_line_271 (by decide +kernel))
theorem d_MO_line_282 : decode b_MO_line 282 = .ok (.aload_n 0, 1) := dc_42 (q0_win (r := 11) wn_MO_line_271 (by decide +kernel))
theorem d_MO_line_283 : decode b_MO_line 283 = .ok (.bipush 59, 2) := dc_16 (qS1_win (r := 12) wn_MO_line_271 (by decide +kernel))
theorem d_MO_line_285 : decode b_MO_line 285 = .ok (.invokevirtual 260, 3) := dc_182 (qU2_win (r := 14) wn_MO_line_271 (by decide +kernel))
theorem d_MO_line_288 : decode b_MO_line 288 = .ok (.ifCond .ne 11, 3) := dc_154 (qS2_win (r := 17) wn_MO_line_271 (by decide +kernel))
theorem d_MO_line_291 : decode b_MO_line 291 = .ok (.aload_n 0, 1) := dc_42 (q0_win (r := 20) wn_MO_line_271 (by decide +kernel))
theorem d_MO_line_292 : decode b_MO_line 292 = .ok (.iconst 1, 1) := dc_4 (q0_win (r := 21) wn_MO_line_271 (by decide +kernel))
theorem d_MO_line_293 : decode b_MO_line 293 = .ok (.invokevirtual 208, 3) := dc_182 (qU2_win (r := 22) wn_MO_line_271 (by decide +kernel))
theorem d_MO_line_296 : decode b_MO_line 296 = .ok (.goto 7, 3) := dc_167 (qS2_win (r := 25) wn_MO_line_271 (by decide +kernel))
theorem d_MO_line_299 : decode b_MO_line 299 = .ok (.aload_n 0, 1) := dc_42 (q0_win (r := 28) wn_MO_line_271 (by decide +kernel))
theorem d_MO_line_300 : decode b_MO_line 300 = .ok (.invokevirtual 205, 3) := dc_182 (qU2_win (r := 29) wn_MO_line_271 (by decide +kernel))
theorem d_MO_line_303 : decode b_MO_line 303 = .ok (.aload_n 0, 1) := dc_42 (q0_win (r := 32) wn_MO_line_271 (by decide +kernel))
theorem d_MO_line_304 : decode b_MO_line 304 = .ok (.dup, 1) := dc_89 (q0_win (r := 33) wn_MO_line_271 (by decide +kernel))
theorem d_MO_line_305 : decode b_MO_line 305 = .ok (.getfield 263, 3) := dc_180 (qU2_win (r := 34) wn_MO_line_271 (by decide +kernel))
theorem d_MO_line_308 : decode b_MO_line 308 = .ok (.iconst 1, 1) := dc_4 (q0_win (r := 37) wn_MO_line_271 (by decide +kernel))
theorem d_MO_line_309 : decode b_MO_line 309 = .ok (.iadd, 1) := dc_96 (q0_win (r := 38) wn_MO_line_271 (by decide +kernel))
theorem d_MO_line_310 : decode b_MO_line 310 = .ok (.putfield 263, 3) := dc_181 (qU2_win (r := 39) wn_MO_line_271 (by decide +kernel))
theorem d_MO_line_313 : decode b_MO_line 313 = .ok (.return_, 1) := dc_177 (q0_win (r := 42) wn_MO_line_271 (by decide +kernel))
def t_MO_line_L16   (M : Mem)  : Option (Mem) := (qlet (t_MO_wrong M 1) fun q13 => (some q13))
def t_MO_line_L303   (M : Mem)  : Option (Mem) := (qlet (setI M 191 18 (w32 ((M.1 191 18) + 1))) fun M86 => (some M86))
def t_MO_line_L274   (M : Mem)  : Option (Mem) := (if (M.1 191 24) = 0 then (qlet (t_MO_isSign M 59) fun q78 => (if q78 = 0 then (qlet (t_MO_wrong M 1) fun q83 => (t_MO_line_L303 q83)) else (obind (t_MO_token M) fun q81 => (t_MO_line_L303 q81)))) else (some M))
def t_MO_line_L110   (M : Mem) (v1_ : Int) : Option (Mem) := (if (M.1 191 24) = 0 then (qlet (setI M 191 17 (q_or (M.1 191 17) (q_shl 1 v1_))) fun M36 => (obind (t_MO_token M36) fun q37 => (if v1_ = 0 then (obind (t_MO_numeral q37 1 8) fun q40 => (obind (t_MO_reads (q40.1) 0 (q40.2)) fun q42 => (obind (t_MO_numeral q42 1 6) fun q44 => (obind (t_MO_reads (q44.1) 1 (q44.2)) fun q46 => (t_MO_line_L274 q46))))) else (if v1_ = 1 then (obind (t_MO_fresher q37 2) fun q49 => (obind (t_MO_wardLine q37 (w32 (4 + q49))) fun q51 => (t_MO_line_L274 q51))) else (if v1_ = 2 then (obind (t_MO_partLine q37) fun q54 => (t_MO_line_L274 q54)) else (if v1_ = 3 then (obind (t_MO_wallLine q37) fun q57 => (t_MO_line_L274 q57)) else (if v1_ = 4 then (obind (t_MO_stairLine q37) fun q60 => (t_MO_line_L274 q60)) else (if v1_ = 5 then (obind (t_MO_fresher q37 6) fun q63 => (obind (t_MO_thingLine q37 (w32 (8 + q63))) fun q65 => (t_MO_line_L274 q65))) else (if v1_ = 6 then (obind (t_MO_numeral q37 0 99999) fun q68 => (obind (t_MO_reads (q68.1) 7 (q68.2)) fun q70 => (t_MO_line_L274 q70))) else (obind (t_MO_lawLine q37) fun q72 => (t_MO_line_L274 q72))))))))))) else (some M))
def t_MO_line_L105   (M : Mem) (v1_ : Int) : Option (Mem) := (qlet (t_MO_wrong M 4) fun q74 => (t_MO_line_L110 q74 v1_))
def t_MO_line_L69   (M : Mem) (v1_ : Int) : Option (Mem) := (if v1_ = 0 then (qlet (t_MO_isTold M 2) fun q21 => (if q21 = 0 then (qlet (t_MO_isTold M 3) fun q24 => (if q24 = 0 then (qlet (t_MO_isTold M 4) fun q27 => (if q27 = 0 then (qlet (t_MO_isTold M 5) fun q30 => (if q30 = 0 then (t_MO_line_L110 M v1_) else (t_MO_line_L105 M v1_))) else (t_MO_line_L105 M v1_))) else (t_MO_line_L105 M v1_))) else (t_MO_line_L105 M v1_))) else (t_MO_line_L110 M v1_))
def t_MO_line_L53   (M : Mem) (v1_ : Int) : Option (Mem) := (qlet (t_MO_isTold M v1_) fun q15 => (if q15 = 0 then (t_MO_line_L69 M v1_) else (qlet (t_MO_wrong M 3) fun q18 => (t_MO_line_L110 q18 v1_))))
def t_MO_line (M : Mem)  : Option (Mem) := (if (M.1 191 22) = 0 then (if (M.1 191 23) ≤ 7 then (obind (t_MO_isFull M (M.1 191 23)) fun q6 => (if q6 = 0 then (if (M.1 191 23) = 0 then (t_MO_line_L53 M (M.1 191 23)) else (if (M.1 191 23) = 6 then (t_MO_line_L53 M (M.1 191 23)) else (t_MO_line_L69 M (M.1 191 23)))) else (qlet (t_MO_wrong M 2) fun q11 => (t_MO_line_L110 q11 (M.1 191 23))))) else (t_MO_line_L16 M)) else (t_MO_line_L16 M))
set_option maxHeartbeats 4000000 in
set_option maxRecDepth 100000 in
theorem k_MO_line_L16 (l : Launch) {p : Program} {e : Env} {s : State} {m : MethodId} {below : List Frame} {meth : Method} {c : Code} {b n : Nat} {C : CT} (hlo : 231 ≤ n)   (F : Cx b p m c b_MO_line 2 s ([.ref (b + 191)] : List Value).toArray "WardFallsModel" C n 231) (hlk : meth.locks = false) (hr : meth.sig.returnType = none) {res : Mem} (M : Mem)  (H : Heap) (locs : List Loc) (ls : Array Slot) (hS : St b C n M s H locs) (hl : lv_has ls 2 [(0, .ref (b + 191))]) (hT : t_MO_line_L16 M = some res) : W p l e (headSpec (wsM y_MO_line b_MO_line 2 (none)) (rmD 242)).room s m ([.ref (b + 191)] : List Value).toArray below meth c H locs 0 0 (MQ below (QV b C n res) ([.ref (b + 191)] : List Value).toArray s 0 0 (frb b)) (F0 m 16 ls []) := by
  unfold t_MO_line_L16 at hT
  refine lv_aload_n F.hx F.hb d_MO_line_16 rfl (lv_at hl 0 rfl) ?_
  refine r_iconst F.hx F.hb d_MO_line_17 ?_
  obtain ⟨q13, hq13⟩ : ∃ q, q = (t_MO_wrong M 1) := ⟨_, rfl⟩
  replace hT := qlet_eq hT hq13
  refine r_backV F hS (r_runV (k := 191) (N := 68) (T := T1) (As := [vI 1]) F hS (show 191 < 231 by decide) (show shK 191 = 5 from rfl) rfl (c_MO_wrong l F.2.2.1 M 1 (inr_c rfl) _ hq13.symm) gs_MO_208 hd_MO_wrong ⟨Nat.le_of_ble_eq_true rfl, Nat.le_of_ble_eq_true rfl⟩ rfl hl.1 (Nat.le_of_ble_eq_true rfl) ⟨Nat.zero_le _, Nat.zero_le _⟩ rfl d_MO_line_18) (fun H locs hS => ?_)
  cases hT
  exact r_vret F hlk hr hS d_MO_line_21
set_option maxHeartbeats 4000000 in
set_option maxRecDepth 100000 in
theorem k_MO_line_L303 (l : Launch) {p : Program} {e : Env} {s : State} {m : MethodId} {below : List Frame} {meth : Method} {c : Code} {b n : Nat} {C : CT} (hlo : 231 ≤ n)   (F : Cx b p m c b_MO_line 2 s ([.ref (b + 191)] : List Value).toArray "WardFallsModel" C n 231) (hlk : meth.locks = false) (hr : meth.sig.returnType = none) {res : Mem} (M : Mem)  (H : Heap) (locs : List Loc) (ls : Array Slot) (hS : St b C n M s H locs) (hl : lv_has ls 2 [(0, .ref (b + 191))]) (hT : t_MO_line_L303 M = some res) : W p l e (headSpec (wsM y_MO_line b_MO_line 2 (none)) (rmD 242)).room s m ([.ref (b + 191)] : List Value).toArray below meth c H locs 0 0 (MQ below (QV b C n res) ([.ref (b + 191)] : List Value).toArray s 0 0 (frb b)) (F0 m 303 ls []) := by
  unfold t_MO_line_L303 at hT
  refine lv_aload_n F.hx F.hb d_MO_line_303 rfl (lv_at hl 0 rfl) ?_
  refine lv_dup F.hx F.hb d_MO_line_304 rfl ?_
  refine r_get (v := vI (M.1 191 18)) (N := 68) (T := T1) (j := 18) F hS (show 191 < 231 by decide) (show shK 191 = 5 from rfl) (show shN 191 = 68 from rfl) rfl (Nat.le_of_ble_eq_true rfl) ing1 mw_1407 (fv_int rfl) d_MO_line_305 ?_
  have i85 := hS.rng 191 18
  refine r_iconst F.hx F.hb d_MO_line_308 ?_
  refine r_iadd F.hx F.hb d_MO_line_309 ?_
  refine r_putI (N := 68) (T := T1) (j := 18) F hS (show 191 < 231 by decide) (show shK 191 = 5 from rfl) (show shN 191 = 68 from rfl) rfl (Nat.le_of_ble_eq_true rfl) ing1 tyok1 nm1 rfl rfl rfl rfl rfl rfl mw_1407 (inr_w32 _) d_MO_line_310 (fun H locs hS => ?_)
  obtain ⟨M86, eM86⟩ : ∃ q, q = (setI M 191 18 (w32 ((M.1 191 18) + 1))) := ⟨_, rfl⟩
  replace hS : St b C n M86 s H locs := by rw [eM86]; exact hS
  replace hT := qlet_eq hT eM86
  cases hT
  exact r_vret F hlk hr hS d_MO_line_313
set_option maxHeartbeats 4000000 in
set_option maxRecDepth 100000 in
theorem k_MO_line_L274 (l : Launch) {p : Program} {e : Env} {s : State} {m : MethodId} {below : List Frame} {meth : Method} {c : Code} {b n : Nat} {C : CT} (hlo : 231 ≤ n)   (F : Cx b p m c b_MO_line 2 s ([.ref (b + 191)] : List Value).toArray "WardFallsModel" C n 231) (hlk : meth.locks = false) (hr : meth.sig.returnType = none) {res : Mem} (M : Mem)  (H : Heap) (locs : List Loc) (ls : Array Slot) (hS : St b C n M s H locs) (hl : lv_has ls 2 [(0, .ref (b + 191))]) (hT : t_MO_line_L274 M = some res) : W p l e (headSpec (wsM y_MO_line b_MO_line 2 (none)) (rmD 242)).room s m ([.ref (b + 191)] : List Value).toArray below meth c H locs 0 0 (MQ below (QV b C n res) ([.ref (b + 191)] : List Value).toArray s 0 0 (frb b)) (F0 m 274 ls []) := by
  unfold t_MO_line_L274 at hT
  refine lv_aload_n F.hx F.hb d_MO_line_274 rfl (lv_at hl 0 rfl) ?_
  refine r_get (v := vI (M.1 191 24)) (N := 68) (T := T1) (j := 24) F hS (show 191 < 231 by decide) (show shK 191 = 5 from rfl) (show shN 191 = 68 from rfl) rfl (Nat.le_of_ble_eq_true rfl) ing1 mw_1413 (fv_int rfl) d_MO_line_275 ?_
  have i76 := hS.rng 191 24
  refine r_if_eq (tgt := 282) F.hx F.hb i76 d_MO_line_278 (by decide) (fun c77 => ?_) (fun c77 => ?_)
  · replace hT := (if_pos c77).symm.trans hT
    refine lv_aload_n F.hx F.hb d_MO_line_282 rfl (lv_at hl 0 rfl) ?_
    refine r_bipush F.hx F.hb d_MO_line_283 rfl ?_
    obtain ⟨q78, hq78⟩ : ∃ q, q = (t_MO_isSign M 59) := ⟨_, rfl⟩
    replace hT := qlet_eq hT hq78
    refine r_backZ F hS (r_runV (k := 191) (N := 68) (T := T1) (As := [vI 59]) F hS (show 191 < 231 by decide) (show shK 191 = 5 from rfl) rfl (c_MO_isSign l F.2.2.1 M 59 (inr_c rfl) _ hq78.symm) gs_MO_260 hd_MO_isSign ⟨Nat.le_of_ble_eq_true rfl, Nat.le_of_ble_eq_true rfl⟩ rfl hl.1 (Nat.le_of_ble_eq_true rfl) ⟨Nat.zero_le _, Nat.zero_le _⟩ rfl d_MO_line_285) (fun H locs hS h79 => ?_)
    refine r_if_ne (tgt := 299) F.hx F.hb (inr_z h79) d_MO_line_288 (by decide) (fun c80 => ?_) (fun c80 => ?_)
    · replace hT := (if_neg c80).symm.trans hT
      refine lv_aload_n F.hx F.hb d_MO_line_299 rfl (lv_at hl 0 rfl) ?_
      obtain ⟨q81, hq81, hT⟩ := q_obind hT
      refine r_backV F hS (r_runV (k := 191) (N := 68) (T := T1) (As := []) F hS (show 191 < 231 by decide) (show shK 191 = 5 from rfl) rfl (c_MO_token l F.2.2.1 M _ hq81) gs_MO_205 hd_MO_token ⟨Nat.le_of_ble_eq_true rfl, Nat.le_of_ble_eq_true rfl⟩ rfl hl.1 (Nat.le_of_ble_eq_true rfl) ⟨Nat.zero_le _, Nat.zero_le _⟩ rfl d_MO_line_300) (fun H locs hS => ?_)
      exact k_MO_line_L303 l hlo F hlk hr q81 _ _ _ hS (lv_sub hl [0] rfl) hT
    · replace hT := (if_pos c80).symm.trans hT
      refine lv_aload_n F.hx F.hb d_MO_line_291 rfl (lv_at hl 0 rfl) ?_
      refine r_iconst F.hx F.hb d_MO_line_292 ?_
      obtain ⟨q83, hq83⟩ : ∃ q, q = (t_MO_wrong M 1) := ⟨_, rfl⟩
      replace hT := qlet_eq hT hq83
      refine r_backV F hS (r_runV (k := 191) (N := 68) (T := T1) (As := [vI 1]) F hS (show 191 < 231 by decide) (show shK 191 = 5 from rfl) rfl (c_MO_wrong l F.2.2.1 M 1 (inr_c rfl) _ hq83.symm) gs_MO_208 hd_MO_wrong ⟨Nat.le_of_ble_eq_true rfl, Nat.le_of_ble_eq_true rfl⟩ rfl hl.1 (Nat.le_of_ble_eq_true rfl) ⟨Nat.zero_le _, Nat.zero_le _⟩ rfl d_MO_line_293) (fun H locs hS => ?_)
      refine lv_goto (tgt := 303) F.hx F.hb d_MO_line_296 (by decide) ?_
      exact k_MO_line_L303 l hlo F hlk hr q83 _ _ _ hS (lv_sub hl [0] rfl) hT
  · replace hT := (if_neg c77).symm.trans hT
    cases hT
    exact r_vret F hlk hr hS d_MO_line_281
set_option maxHeartbeats 4000000 in
set_option maxRecDepth 100000 in
theorem k_MO_line_L110 (l : Launch) {p : Program} {e : Env} {s : State} {m : MethodId} {below : List Frame} {meth : Method} {c : Code} {b n : Nat} {C : CT} (hlo : 231 ≤ n)   (F : Cx b p m c b_MO_line 2 s ([.ref (b + 191)] : List Value).toArray "WardFallsModel" C n 231) (hlk : meth.locks = false) (hr : meth.sig.returnType = none) {res : Mem} (M : Mem) (v1_ : Int) (hv1_ : InR v1_) (H : Heap) (locs : List Loc) (ls : Array Slot) (hS : St b C n M s H locs) (hl : lv_has ls 2 [(0, .ref (b + 191)), (1, vI v1_)]) (hT : t_MO_line_L110 M v1_ = some res) : W p l e (headSpec (wsM y_MO_line b_MO_line 2 (none)) (rmD 242)).room s m ([.ref (b + 191)] : List Value).toArray below meth c H locs 0 0 (MQ below (QV b C n res) ([.ref (b + 191)] : List Value).toArray s 0 0 (frb b)) (F0 m 110 ls []) := by
  unfold t_MO_line_L110 at hT
  refine lv_aload_n F.hx F.hb d_MO_line_110 rfl (lv_at hl 0 rfl) ?_
  refine r_get (v := vI (M.1 191 24)) (N := 68) (T := T1) (j := 24) F hS (show 191 < 231 by decide) (show shK 191 = 5 from rfl) (show shN 191 = 68 from rfl) rfl (Nat.le_of_ble_eq_true rfl) ing1 mw_1413 (fv_int rfl) d_MO_line_111 ?_
  have i33 := hS.rng 191 24
  refine r_if_eq (tgt := 118) F.hx F.hb i33 d_MO_line_114 (by decide) (fun c34 => ?_) (fun c34 => ?_)
  · replace hT := (if_pos c34).symm.trans hT
    refine lv_aload_n F.hx F.hb d_MO_line_118 rfl (lv_at hl 0 rfl) ?_
    refine lv_dup F.hx F.hb d_MO_line_119 rfl ?_
    refine r_get (v := vI (M.1 191 17)) (N := 68) (T := T1) (j := 17) F hS (show 191 < 231 by decide) (show shK 191 = 5 from rfl) (show shN 191 = 68 from rfl) rfl (Nat.le_of_ble_eq_true rfl) ing1 mw_1406 (fv_int rfl) d_MO_line_120 ?_
    have i35 := hS.rng 191 17
    refine r_iconst F.hx F.hb d_MO_line_123 ?_
    refine lv_iload_n F.hx F.hb d_MO_line_124 rfl (lv_at hl 1 rfl) ?_
    refine r_ishl F.hx F.hb d_MO_line_125 ?_
    refine r_ior F.hx F.hb d_MO_line_126 ?_
    refine r_putI (N := 68) (T := T1) (j := 17) F hS (show 191 < 231 by decide) (show shK 191 = 5 from rfl) (show shN 191 = 68 from rfl) rfl (Nat.le_of_ble_eq_true rfl) ing1 tyok1 nm1 rfl rfl rfl rfl rfl rfl mw_1406 (q_inr_toInt _) d_MO_line_127 (fun H locs hS => ?_)
    obtain ⟨M36, eM36⟩ : ∃ q, q = (setI M 191 17 (q_or (M.1 191 17) (q_shl 1 v1_))) := ⟨_, rfl⟩
    replace hS : St b C n M36 s H locs := by rw [eM36]; exact hS
    replace hT := qlet_eq hT eM36
    refine lv_aload_n F.hx F.hb d_MO_line_130 rfl (lv_at hl 0 rfl) ?_
    obtain ⟨q37, hq37, hT⟩ := q_obind hT
    refine r_backV F hS (r_runV (k := 191) (N := 68) (T := T1) (As := []) F hS (show 191 < 231 by decide) (show shK 191 = 5 from rfl) rfl (c_MO_token l F.2.2.1 M36 _ hq37) gs_MO_205 hd_MO_token ⟨Nat.le_of_ble_eq_true rfl, Nat.le_of_ble_eq_true rfl⟩ rfl hl.1 (Nat.le_of_ble_eq_true rfl) ⟨Nat.zero_le _, Nat.zero_le _⟩ rfl d_MO_line_131) (fun H locs hS => ?_)
    refine lv_iload_n F.hx F.hb d_MO_line_134 rfl (lv_at hl 1 rfl) ?_
    rcases q_ite hT with ⟨c39, hT⟩ | ⟨c39, hT⟩
    · refine r_tableIn (i := 0) (tgt := 176) F.hx F.hb hv1_ c39 d_MO_line_135 (by decide) (by decide) rfl (by decide) ?_
      refine lv_aload_n F.hx F.hb d_MO_line_176 rfl (lv_at hl 0 rfl) ?_
      refine r_iconst F.hx F.hb d_MO_line_177 ?_
      refine lv_aload_n F.hx F.hb d_MO_line_178 rfl (lv_at hl 0 rfl) ?_
      refine r_iconst F.hx F.hb d_MO_line_179 ?_
      refine r_bipush F.hx F.hb d_MO_line_180 rfl ?_
      obtain ⟨q40, hq40, hT⟩ := q_obind hT
      refine r_backI F hS (r_runV (k := 191) (N := 68) (T := T1) (As := [vI 1, vI 8]) F hS (show 191 < 231 by decide) (show shK 191 = 5 from rfl) rfl (c_MO_numeral l F.2.2.1 q37 1 8 (inr_c rfl) (inr_c rfl) _ hq40) gs_MO_226 hd_MO_numeral ⟨Nat.le_of_ble_eq_true rfl, Nat.le_of_ble_eq_true rfl⟩ rfl hl.1 (Nat.le_of_ble_eq_true rfl) ⟨Nat.zero_le _, Nat.zero_le _⟩ rfl d_MO_line_182) (fun H locs hS h41 => ?_)
      obtain ⟨q42, hq42, hT⟩ := q_obind hT
      refine r_backV F hS (r_runV (k := 191) (N := 68) (T := T1) (As := [vI 0, vI (q40.2)]) F hS (show 191 < 231 by decide) (show shK 191 = 5 from rfl) rfl (c_MO_reads l F.2.2.1 (q40.1) 0 (q40.2) (inr_c rfl) h41 _ hq42) gs_MO_238 hd_MO_reads ⟨Nat.le_of_ble_eq_true rfl, Nat.le_of_ble_eq_true rfl⟩ rfl hl.1 (Nat.le_of_ble_eq_true rfl) ⟨Nat.zero_le _, Nat.zero_le _⟩ rfl d_MO_line_185) (fun H locs hS => ?_)
      refine lv_aload_n F.hx F.hb d_MO_line_188 rfl (lv_at hl 0 rfl) ?_
      refine r_iconst F.hx F.hb d_MO_line_189 ?_
      refine lv_aload_n F.hx F.hb d_MO_line_190 rfl (lv_at hl 0 rfl) ?_
      refine r_iconst F.hx F.hb d_MO_line_191 ?_
      refine r_bipush F.hx F.hb d_MO_line_192 rfl ?_
      obtain ⟨q44, hq44, hT⟩ := q_obind hT
      refine r_backI F hS (r_runV (k := 191) (N := 68) (T := T1) (As := [vI 1, vI 6]) F hS (show 191 < 231 by decide) (show shK 191 = 5 from rfl) rfl (c_MO_numeral l F.2.2.1 q42 1 6 (inr_c rfl) (inr_c rfl) _ hq44) gs_MO_226 hd_MO_numeral ⟨Nat.le_of_ble_eq_true rfl, Nat.le_of_ble_eq_true rfl⟩ rfl hl.1 (Nat.le_of_ble_eq_true rfl) ⟨Nat.zero_le _, Nat.zero_le _⟩ rfl d_MO_line_194) (fun H locs hS h45 => ?_)
      obtain ⟨q46, hq46, hT⟩ := q_obind hT
      refine r_backV F hS (r_runV (k := 191) (N := 68) (T := T1) (As := [vI 1, vI (q44.2)]) F hS (show 191 < 231 by decide) (show shK 191 = 5 from rfl) rfl (c_MO_reads l F.2.2.1 (q44.1) 1 (q44.2) (inr_c rfl) h45 _ hq46) gs_MO_238 hd_MO_reads ⟨Nat.le_of_ble_eq_true rfl, Nat.le_of_ble_eq_true rfl⟩ rfl hl.1 (Nat.le_of_ble_eq_true rfl) ⟨Nat.zero_le _, Nat.zero_le _⟩ rfl d_MO_line_197) (fun H locs hS => ?_)
      refine lv_goto (tgt := 274) F.hx F.hb d_MO_line_200 (by decide) ?_
      exact k_MO_line_L274 l hlo F hlk hr q46 _ _ _ hS (lv_sub hl [0] rfl) hT
    ·
      rcases q_ite hT with ⟨c48, hT⟩ | ⟨c48, hT⟩
      · refine r_tableIn (i := 1) (tgt := 203) F.hx F.hb hv1_ c48 d_MO_line_135 (by decide) (by decide) rfl (by decide) ?_
        refine lv_aload_n F.hx F.hb d_MO_line_203 rfl (lv_at hl 0 rfl) ?_
        refine r_iconst F.hx F.hb d_MO_line_204 ?_
        refine lv_aload_n F.hx F.hb d_MO_line_205 rfl (lv_at hl 0 rfl) ?_
        refine r_iconst F.hx F.hb d_MO_line_206 ?_
        obtain ⟨q49, hq49, hT⟩ := q_obind hT
        refine r_backI F hS (r_runV (k := 191) (N := 68) (T := T1) (As := [vI 2]) F hS (show 191 < 231 by decide) (show shK 191 = 5 from rfl) rfl (c_MO_fresher l F.2.2.1 q37 2 (inr_c rfl) _ hq49) gs_MO_222 hd_MO_fresher ⟨Nat.le_of_ble_eq_true rfl, Nat.le_of_ble_eq_true rfl⟩ rfl hl.1 (Nat.le_of_ble_eq_true rfl) ⟨Nat.zero_le _, Nat.zero_le _⟩ rfl d_MO_line_207) (fun H locs hS h50 => ?_)
        refine r_iadd F.hx F.hb d_MO_line_210 ?_
        obtain ⟨q51, hq51, hT⟩ := q_obind hT
        refine r_backV F hS (r_runV (k := 191) (N := 68) (T := T1) (As := [vI (w32 (4 + q49))]) F hS (show 191 < 231 by decide) (show shK 191 = 5 from rfl) rfl (c_MO_wardLine l F.2.2.1 q37 (w32 (4 + q49)) (inr_w32 _) _ hq51) gs_MO_242 hd_MO_wardLine ⟨Nat.le_of_ble_eq_true rfl, Nat.le_of_ble_eq_true rfl⟩ rfl hl.1 (Nat.le_of_ble_eq_true rfl) ⟨Nat.zero_le _, Nat.zero_le _⟩ rfl d_MO_line_211) (fun H locs hS => ?_)
        refine lv_goto (tgt := 274) F.hx F.hb d_MO_line_214 (by decide) ?_
        exact k_MO_line_L274 l hlo F hlk hr q51 _ _ _ hS (lv_sub hl [0] rfl) hT
      ·
        rcases q_ite hT with ⟨c53, hT⟩ | ⟨c53, hT⟩
        · refine r_tableIn (i := 2) (tgt := 217) F.hx F.hb hv1_ c53 d_MO_line_135 (by decide) (by decide) rfl (by decide) ?_
          refine lv_aload_n F.hx F.hb d_MO_line_217 rfl (lv_at hl 0 rfl) ?_
          obtain ⟨q54, hq54, hT⟩ := q_obind hT
          refine r_backV F hS (r_runV (k := 191) (N := 68) (T := T1) (As := []) F hS (show 191 < 231 by decide) (show shK 191 = 5 from rfl) rfl (c_MO_partLine l F.2.2.1 q37 _ hq54) gs_MO_245 hd_MO_partLine ⟨Nat.le_of_ble_eq_true rfl, Nat.le_of_ble_eq_true rfl⟩ rfl hl.1 (Nat.le_of_ble_eq_true rfl) ⟨Nat.zero_le _, Nat.zero_le _⟩ rfl d_MO_line_218) (fun H locs hS => ?_)
          refine lv_goto (tgt := 274) F.hx F.hb d_MO_line_221 (by decide) ?_
          exact k_MO_line_L274 l hlo F hlk hr q54 _ _ _ hS (lv_sub hl [0] rfl) hT
        ·
          rcases q_ite hT with ⟨c56, hT⟩ | ⟨c56, hT⟩
          · refine r_tableIn (i := 3) (tgt := 224) F.hx F.hb hv1_ c56 d_MO_line_135 (by decide) (by decide) rfl (by decide) ?_
            refine lv_aload_n F.hx F.hb d_MO_line_224 rfl (lv_at hl 0 rfl) ?_
            obtain ⟨q57, hq57, hT⟩ := q_obind hT
            refine r_backV F hS (r_runV (k := 191) (N := 68) (T := T1) (As := []) F hS (show 191 < 231 by decide) (show shK 191 = 5 from rfl) rfl (c_MO_wallLine l F.2.2.1 q37 _ hq57) gs_MO_248 hd_MO_wallLine ⟨Nat.le_of_ble_eq_true rfl, Nat.le_of_ble_eq_true rfl⟩ rfl hl.1 (Nat.le_of_ble_eq_true rfl) ⟨Nat.zero_le _, Nat.zero_le _⟩ rfl d_MO_line_225) (fun H locs hS => ?_)
            refine lv_goto (tgt := 274) F.hx F.hb d_MO_line_228 (by decide) ?_
            exact k_MO_line_L274 l hlo F hlk hr q57 _ _ _ hS (lv_sub hl [0] rfl) hT
          ·
            rcases q_ite hT with ⟨c59, hT⟩ | ⟨c59, hT⟩
            · refine r_tableIn (i := 4) (tgt := 231) F.hx F.hb hv1_ c59 d_MO_line_135 (by decide) (by decide) rfl (by decide) ?_
              refine lv_aload_n F.hx F.hb d_MO_line_231 rfl (lv_at hl 0 rfl) ?_
              obtain ⟨q60, hq60, hT⟩ := q_obind hT
              refine r_backV F hS (r_runV (k := 191) (N := 68) (T := T1) (As := []) F hS (show 191 < 231 by decide) (show shK 191 = 5 from rfl) rfl (c_MO_stairLine l F.2.2.1 q37 _ hq60) gs_MO_251 hd_MO_stairLine ⟨Nat.le_of_ble_eq_true rfl, Nat.le_of_ble_eq_true rfl⟩ rfl hl.1 (Nat.le_of_ble_eq_true rfl) ⟨Nat.zero_le _, Nat.zero_le _⟩ rfl d_MO_line_232) (fun H locs hS => ?_)
              refine lv_goto (tgt := 274) F.hx F.hb d_MO_line_235 (by decide) ?_
              exact k_MO_line_L274 l hlo F hlk hr q60 _ _ _ hS (lv_sub hl [0] rfl) hT
            ·
              rcases q_ite hT with ⟨c62, hT⟩ | ⟨c62, hT⟩
              · refine r_tableIn (i := 5) (tgt := 238) F.hx F.hb hv1_ c62 d_MO_line_135 (by decide) (by decide) rfl (by decide) ?_
                refine lv_aload_n F.hx F.hb d_MO_line_238 rfl (lv_at hl 0 rfl) ?_
                refine r_bipush F.hx F.hb d_MO_line_239 rfl ?_
                refine lv_aload_n F.hx F.hb d_MO_line_241 rfl (lv_at hl 0 rfl) ?_
                refine r_bipush F.hx F.hb d_MO_line_242 rfl ?_
                obtain ⟨q63, hq63, hT⟩ := q_obind hT
                refine r_backI F hS (r_runV (k := 191) (N := 68) (T := T1) (As := [vI 6]) F hS (show 191 < 231 by decide) (show shK 191 = 5 from rfl) rfl (c_MO_fresher l F.2.2.1 q37 6 (inr_c rfl) _ hq63) gs_MO_222 hd_MO_fresher ⟨Nat.le_of_ble_eq_true rfl, Nat.le_of_ble_eq_true rfl⟩ rfl hl.1 (Nat.le_of_ble_eq_true rfl) ⟨Nat.zero_le _, Nat.zero_le _⟩ rfl d_MO_line_244) (fun H locs hS h64 => ?_)
                refine r_iadd F.hx F.hb d_MO_line_247 ?_
                obtain ⟨q65, hq65, hT⟩ := q_obind hT
                refine r_backV F hS (r_runV (k := 191) (N := 68) (T := T1) (As := [vI (w32 (8 + q63))]) F hS (show 191 < 231 by decide) (show shK 191 = 5 from rfl) rfl (c_MO_thingLine l F.2.2.1 q37 (w32 (8 + q63)) (inr_w32 _) _ hq65) gs_MO_254 hd_MO_thingLine ⟨Nat.le_of_ble_eq_true rfl, Nat.le_of_ble_eq_true rfl⟩ rfl hl.1 (Nat.le_of_ble_eq_true rfl) ⟨Nat.zero_le _, Nat.zero_le _⟩ rfl d_MO_line_248) (fun H locs hS => ?_)
                refine lv_goto (tgt := 274) F.hx F.hb d_MO_line_251 (by decide) ?_
                exact k_MO_line_L274 l hlo F hlk hr q65 _ _ _ hS (lv_sub hl [0] rfl) hT
              ·
                rcases q_ite hT with ⟨c67, hT⟩ | ⟨c67, hT⟩
                · refine r_tableIn (i := 6) (tgt := 254) F.hx F.hb hv1_ c67 d_MO_line_135 (by decide) (by decide) rfl (by decide) ?_
                  refine lv_aload_n F.hx F.hb d_MO_line_254 rfl (lv_at hl 0 rfl) ?_
                  refine r_bipush F.hx F.hb d_MO_line_255 rfl ?_
                  refine lv_aload_n F.hx F.hb d_MO_line_257 rfl (lv_at hl 0 rfl) ?_
                  refine r_iconst F.hx F.hb d_MO_line_258 ?_
                  refine lv_ldc (v := Int32.ofInt 99999) F.hx F.hb F.hown (F.hts mw_1632) d_MO_line_259 ?_
                  obtain ⟨q68, hq68, hT⟩ := q_obind hT
                  refine r_backI F hS (r_runV (k := 191) (N := 68) (T := T1) (As := [vI 0, vI 99999]) F hS (show 191 < 231 by decide) (show shK 191 = 5 from rfl) rfl (c_MO_numeral l F.2.2.1 q37 0 99999 (inr_c rfl) (inr_c rfl) _ hq68) gs_MO_226 hd_MO_numeral ⟨Nat.le_of_ble_eq_true rfl, Nat.le_of_ble_eq_true rfl⟩ rfl hl.1 (Nat.le_of_ble_eq_true rfl) ⟨Nat.zero_le _, Nat.zero_le _⟩ rfl d_MO_line_261) (fun H locs hS h69 => ?_)
                  obtain ⟨q70, hq70, hT⟩ := q_obind hT
                  refine r_backV F hS (r_runV (k := 191) (N := 68) (T := T1) (As := [vI 7, vI (q68.2)]) F hS (show 191 < 231 by decide) (show shK 191 = 5 from rfl) rfl (c_MO_reads l F.2.2.1 (q68.1) 7 (q68.2) (inr_c rfl) h69 _ hq70) gs_MO_238 hd_MO_reads ⟨Nat.le_of_ble_eq_true rfl, Nat.le_of_ble_eq_true rfl⟩ rfl hl.1 (Nat.le_of_ble_eq_true rfl) ⟨Nat.zero_le _, Nat.zero_le _⟩ rfl d_MO_line_264) (fun H locs hS => ?_)
                  refine lv_goto (tgt := 274) F.hx F.hb d_MO_line_267 (by decide) ?_
                  exact k_MO_line_L274 l hlo F hlk hr q70 _ _ _ hS (lv_sub hl [0] rfl) hT
                ·
                  refine r_tableOut (tgt := 270) F.hx F.hb hv1_ (by omega) d_MO_line_135 (by decide) ?_
                  refine lv_aload_n F.hx F.hb d_MO_line_270 rfl (lv_at hl 0 rfl) ?_
                  obtain ⟨q72, hq72, hT⟩ := q_obind hT
                  refine r_backV F hS (r_runV (k := 191) (N := 68) (T := T1) (As := []) F hS (show 191 < 231 by decide) (show shK 191 = 5 from rfl) rfl (c_MO_lawLine l F.2.2.1 q37 _ hq72) gs_MO_257 hd_MO_lawLine ⟨Nat.le_of_ble_eq_true rfl, Nat.le_of_ble_eq_true rfl⟩ rfl hl.1 (Nat.le_of_ble_eq_true rfl) ⟨Nat.zero_le _, Nat.zero_le _⟩ rfl d_MO_line_271) (fun H locs hS => ?_)
                  exact k_MO_line_L274 l hlo F hlk hr q72 _ _ _ hS (lv_sub hl [0] rfl) hT
  · replace hT := (if_neg c34).symm.trans hT
    cases hT
    exact r_vret F hlk hr hS d_MO_line_117
set_option maxHeartbeats 4000000 in
set_option maxRecDepth 100000 in
theorem k_MO_line_L105 (l : Launch) {p : Program} {e : Env} {s : State} {m : MethodId} {below : List Frame} {meth : Method} {c : Code} {b n : Nat} {C : CT} (hlo : 231 ≤ n)   (F : Cx b p m c b_MO_line 2 s ([.ref (b + 191)] : List Value).toArray "WardFallsModel" C n 231) (hlk : meth.locks = false) (hr : meth.sig.returnType = none) {res : Mem} (M : Mem) (v1_ : Int) (hv1_ : InR v1_) (H : Heap) (locs : List Loc) (ls : Array Slot) (hS : St b C n M s H locs) (hl : lv_has ls 2 [(0, .ref (b + 191)), (1, vI v1_)]) (hT : t_MO_line_L105 M v1_ = some res) : W p l e (headSpec (wsM y_MO_line b_MO_line 2 (none)) (rmD 242)).room s m ([.ref (b + 191)] : List Value).toArray below meth c H locs 0 0 (MQ below (QV b C n res) ([.ref (b + 191)] : List Value).toArray s 0 0 (frb b)) (F0 m 105 ls []) := by
  unfold t_MO_line_L105 at hT
  refine lv_aload_n F.hx F.hb d_MO_line_105 rfl (lv_at hl 0 rfl) ?_
  refine r_iconst F.hx F.hb d_MO_line_106 ?_
  obtain ⟨q74, hq74⟩ : ∃ q, q = (t_MO_wrong M 4) := ⟨_, rfl⟩
  replace hT := qlet_eq hT hq74
  refine r_backV F hS (r_runV (k := 191) (N := 68) (T := T1) (As := [vI 4]) F hS (show 191 < 231 by decide) (show shK 191 = 5 from rfl) rfl (c_MO_wrong l F.2.2.1 M 4 (inr_c rfl) _ hq74.symm) gs_MO_208 hd_MO_wrong ⟨Nat.le_of_ble_eq_true rfl, Nat.le_of_ble_eq_true rfl⟩ rfl hl.1 (Nat.le_of_ble_eq_true rfl) ⟨Nat.zero_le _, Nat.zero_le _⟩ rfl d_MO_line_107) (fun H locs hS => ?_)
  exact k_MO_line_L110 l hlo F hlk hr q74 v1_ hv1_ _ _ _ hS (lv_sub hl [0, 1] rfl) hT
set_option maxHeartbeats 4000000 in
set_option maxRecDepth 100000 in
theorem k_MO_line_L69 (l : Launch) {p : Program} {e : Env} {s : State} {m : MethodId} {below : List Frame} {meth : Method} {c : Code} {b n : Nat} {C : CT} (hlo : 231 ≤ n)   (F : Cx b p m c b_MO_line 2 s ([.ref (b + 191)] : List Value).toArray "WardFallsModel" C n 231) (hlk : meth.locks = false) (hr : meth.sig.returnType = none) {res : Mem} (M : Mem) (v1_ : Int) (hv1_ : InR v1_) (H : Heap) (locs : List Loc) (ls : Array Slot) (hS : St b C n M s H locs) (hl : lv_has ls 2 [(0, .ref (b + 191)), (1, vI v1_)]) (hT : t_MO_line_L69 M v1_ = some res) : W p l e (headSpec (wsM y_MO_line b_MO_line 2 (none)) (rmD 242)).room s m ([.ref (b + 191)] : List Value).toArray below meth c H locs 0 0 (MQ below (QV b C n res) ([.ref (b + 191)] : List Value).toArray s 0 0 (frb b)) (F0 m 69 ls []) := by
  unfold t_MO_line_L69 at hT
  refine lv_iload_n F.hx F.hb d_MO_line_69 rfl (lv_at hl 1 rfl) ?_
  refine r_if_ne (tgt := 110) F.hx F.hb hv1_ d_MO_line_70 (by decide) (fun c20 => ?_) (fun c20 => ?_)
  · replace hT := (if_neg c20).symm.trans hT
    exact k_MO_line_L110 l hlo F hlk hr M v1_ hv1_ _ _ _ hS (lv_sub hl [0, 1] rfl) hT
  · replace hT := (if_pos c20).symm.trans hT
    refine lv_aload_n F.hx F.hb d_MO_line_73 rfl (lv_at hl 0 rfl) ?_
    refine r_iconst F.hx F.hb d_MO_line_74 ?_
    obtain ⟨q21, hq21⟩ : ∃ q, q = (t_MO_isTold M 2) := ⟨_, rfl⟩
    replace hT := qlet_eq hT hq21
    refine r_backZ F hS (r_runV (k := 191) (N := 68) (T := T1) (As := [vI 2]) F hS (show 191 < 231 by decide) (show shK 191 = 5 from rfl) rfl (c_MO_isTold l F.2.2.1 M 2 (inr_c rfl) _ hq21.symm) gs_MO_235 hd_MO_isTold ⟨Nat.le_of_ble_eq_true rfl, Nat.le_of_ble_eq_true rfl⟩ rfl hl.1 (Nat.le_of_ble_eq_true rfl) ⟨Nat.zero_le _, Nat.zero_le _⟩ rfl d_MO_line_75) (fun H locs hS h22 => ?_)
    refine r_if_ne (tgt := 105) F.hx F.hb (inr_z h22) d_MO_line_78 (by decide) (fun c23 => ?_) (fun c23 => ?_)
    · replace hT := (if_neg c23).symm.trans hT
      exact k_MO_line_L105 l hlo F hlk hr M v1_ hv1_ _ _ _ hS (lv_sub hl [0, 1] rfl) hT
    · replace hT := (if_pos c23).symm.trans hT
      refine lv_aload_n F.hx F.hb d_MO_line_81 rfl (lv_at hl 0 rfl) ?_
      refine r_iconst F.hx F.hb d_MO_line_82 ?_
      obtain ⟨q24, hq24⟩ : ∃ q, q = (t_MO_isTold M 3) := ⟨_, rfl⟩
      replace hT := qlet_eq hT hq24
      refine r_backZ F hS (r_runV (k := 191) (N := 68) (T := T1) (As := [vI 3]) F hS (show 191 < 231 by decide) (show shK 191 = 5 from rfl) rfl (c_MO_isTold l F.2.2.1 M 3 (inr_c rfl) _ hq24.symm) gs_MO_235 hd_MO_isTold ⟨Nat.le_of_ble_eq_true rfl, Nat.le_of_ble_eq_true rfl⟩ rfl hl.1 (Nat.le_of_ble_eq_true rfl) ⟨Nat.zero_le _, Nat.zero_le _⟩ rfl d_MO_line_83) (fun H locs hS h25 => ?_)
      refine r_if_ne (tgt := 105) F.hx F.hb (inr_z h25) d_MO_line_86 (by decide) (fun c26 => ?_) (fun c26 => ?_)
      · replace hT := (if_neg c26).symm.trans hT
        exact k_MO_line_L105 l hlo F hlk hr M v1_ hv1_ _ _ _ hS (lv_sub hl [0, 1] rfl) hT
      · replace hT := (if_pos c26).symm.trans hT
        refine lv_aload_n F.hx F.hb d_MO_line_89 rfl (lv_at hl 0 rfl) ?_
        refine r_iconst F.hx F.hb d_MO_line_90 ?_
        obtain ⟨q27, hq27⟩ : ∃ q, q = (t_MO_isTold M 4) := ⟨_, rfl⟩
        replace hT := qlet_eq hT hq27
        refine r_backZ F hS (r_runV (k := 191) (N := 68) (T := T1) (As := [vI 4]) F hS (show 191 < 231 by decide) (show shK 191 = 5 from rfl) rfl (c_MO_isTold l F.2.2.1 M 4 (inr_c rfl) _ hq27.symm) gs_MO_235 hd_MO_isTold ⟨Nat.le_of_ble_eq_true rfl, Nat.le_of_ble_eq_true rfl⟩ rfl hl.1 (Nat.le_of_ble_eq_true rfl) ⟨Nat.zero_le _, Nat.zero_le _⟩ rfl d_MO_line_91) (fun H locs hS h28 => ?_)
        refine r_if_ne (tgt := 105) F.hx F.hb (inr_z h28) d_MO_line_94 (by decide) (fun c29 => ?_) (fun c29 => ?_)
        · replace hT := (if_neg c29).symm.trans hT
          exact k_MO_line_L105 l hlo F hlk hr M v1_ hv1_ _ _ _ hS (lv_sub hl [0, 1] rfl) hT
        · replace hT := (if_pos c29).symm.trans hT
          refine lv_aload_n F.hx F.hb d_MO_line_97 rfl (lv_at hl 0 rfl) ?_
          refine r_iconst F.hx F.hb d_MO_line_98 ?_
          obtain ⟨q30, hq30⟩ : ∃ q, q = (t_MO_isTold M 5) := ⟨_, rfl⟩
          replace hT := qlet_eq hT hq30
          refine r_backZ F hS (r_runV (k := 191) (N := 68) (T := T1) (As := [vI 5]) F hS (show 191 < 231 by decide) (show shK 191 = 5 from rfl) rfl (c_MO_isTold l F.2.2.1 M 5 (inr_c rfl) _ hq30.symm) gs_MO_235 hd_MO_isTold ⟨Nat.le_of_ble_eq_true rfl, Nat.le_of_ble_eq_true rfl⟩ rfl hl.1 (Nat.le_of_ble_eq_true rfl) ⟨Nat.zero_le _, Nat.zero_le _⟩ rfl d_MO_line_99) (fun H locs hS h31 => ?_)
          refine r_if_eq (tgt := 110) F.hx F.hb (inr_z h31) d_MO_line_102 (by decide) (fun c32 => ?_) (fun c32 => ?_)
          · replace hT := (if_pos c32).symm.trans hT
            exact k_MO_line_L110 l hlo F hlk hr M v1_ hv1_ _ _ _ hS (lv_sub hl [0, 1] rfl) hT
          · replace hT := (if_neg c32).symm.trans hT
            exact k_MO_line_L105 l hlo F hlk hr M v1_ hv1_ _ _ _ hS (lv_sub hl [0, 1] rfl) hT
set_option maxHeartbeats 4000000 in
set_option maxRecDepth 100000 in
theorem k_MO_line_L53 (l : Launch) {p : Program} {e : Env} {s : State} {m : MethodId} {below : List Frame} {meth : Method} {c : Code} {b n : Nat} {C : CT} (hlo : 231 ≤ n)   (F : Cx b p m c b_MO_line 2 s ([.ref (b + 191)] : List Value).toArray "WardFallsModel" C n 231) (hlk : meth.locks = false) (hr : meth.sig.returnType = none) {res : Mem} (M : Mem) (v1_ : Int) (hv1_ : InR v1_) (H : Heap) (locs : List Loc) (ls : Array Slot) (hS : St b C n M s H locs) (hl : lv_has ls 2 [(0, .ref (b + 191)), (1, vI v1_)]) (hT : t_MO_line_L53 M v1_ = some res) : W p l e (headSpec (wsM y_MO_line b_MO_line 2 (none)) (rmD 242)).room s m ([.ref (b + 191)] : List Value).toArray below meth c H locs 0 0 (MQ below (QV b C n res) ([.ref (b + 191)] : List Value).toArray s 0 0 (frb b)) (F0 m 53 ls []) := by
  unfold t_MO_line_L53 at hT
  refine lv_aload_n F.hx F.hb d_MO_line_53 rfl (lv_at hl 0 rfl) ?_
  refine lv_iload_n F.hx F.hb d_MO_line_54 rfl (lv_at hl 1 rfl) ?_
  obtain ⟨q15, hq15⟩ : ∃ q, q = (t_MO_isTold M v1_) := ⟨_, rfl⟩
  replace hT := qlet_eq hT hq15
  refine r_backZ F hS (r_runV (k := 191) (N := 68) (T := T1) (As := [vI v1_]) F hS (show 191 < 231 by decide) (show shK 191 = 5 from rfl) rfl (c_MO_isTold l F.2.2.1 M v1_ hv1_ _ hq15.symm) gs_MO_235 hd_MO_isTold ⟨Nat.le_of_ble_eq_true rfl, Nat.le_of_ble_eq_true rfl⟩ rfl hl.1 (Nat.le_of_ble_eq_true rfl) ⟨Nat.zero_le _, Nat.zero_le _⟩ rfl d_MO_line_55) (fun H locs hS h16 => ?_)
  refine r_if_eq (tgt := 69) F.hx F.hb (inr_z h16) d_MO_line_58 (by decide) (fun c17 => ?_) (fun c17 => ?_)
  · replace hT := (if_pos c17).symm.trans hT
    exact k_MO_line_L69 l hlo F hlk hr M v1_ hv1_ _ _ _ hS (lv_sub hl [0, 1] rfl) hT
  · replace hT := (if_neg c17).symm.trans hT
    refine lv_aload_n F.hx F.hb d_MO_line_61 rfl (lv_at hl 0 rfl) ?_
    refine r_iconst F.hx F.hb d_MO_line_62 ?_
    obtain ⟨q18, hq18⟩ : ∃ q, q = (t_MO_wrong M 3) := ⟨_, rfl⟩
    replace hT := qlet_eq hT hq18
    refine r_backV F hS (r_runV (k := 191) (N := 68) (T := T1) (As := [vI 3]) F hS (show 191 < 231 by decide) (show shK 191 = 5 from rfl) rfl (c_MO_wrong l F.2.2.1 M 3 (inr_c rfl) _ hq18.symm) gs_MO_208 hd_MO_wrong ⟨Nat.le_of_ble_eq_true rfl, Nat.le_of_ble_eq_true rfl⟩ rfl hl.1 (Nat.le_of_ble_eq_true rfl) ⟨Nat.zero_le _, Nat.zero_le _⟩ rfl d_MO_line_63) (fun H locs hS => ?_)
    refine lv_goto (tgt := 110) F.hx F.hb d_MO_line_66 (by decide) ?_
    exact k_MO_line_L110 l hlo F hlk hr q18 v1_ hv1_ _ _ _ hS (lv_sub hl [0, 1] rfl) hT
set_option maxHeartbeats 4000000 in
set_option maxRecDepth 100000 in
theorem c_MO_line (l : Launch) {b n : Nat} {C : CT} (hlo : 231 ≤ n) (M : Mem)   (res : Mem) (hT : t_MO_line M  = some res) : CM l b C n 242 y_MO_line b_MO_line 2 (none) [.ref (b + 191)] M (QV b C n res) := by
  refine CM.of (lo := 231) (ow := "WardFallsModel") (by decide) rfl (Nat.le_of_ble_eq_true rfl) hlo (fun p e s m below meth c F hlk hr hS ls hl => ?_)
  have hl : lv_has ls 2 [(0, .ref (b + 191))] := hl
  unfold t_MO_line at hT
  refine lv_aload_n F.hx F.hb d_MO_line_0 rfl (lv_at hl 0 rfl) ?_
  refine r_get (v := vI (M.1 191 22)) (N := 68) (T := T1) (j := 22) F hS (show 191 < 231 by decide) (show shK 191 = 5 from rfl) (show shN 191 = 68 from rfl) rfl (Nat.le_of_ble_eq_true rfl) ing1 mw_1411 (fv_int rfl) d_MO_line_1 ?_
  have i1 := hS.rng 191 22
  refine r_if_ne (tgt := 16) F.hx F.hb i1 d_MO_line_4 (by decide) (fun c2 => ?_) (fun c2 => ?_)
  · replace hT := (if_neg c2).symm.trans hT
    exact k_MO_line_L16 l hlo F hlk hr M _ _ _ hS (lv_sub hl [0] rfl) hT
  · replace hT := (if_pos c2).symm.trans hT
    refine lv_aload_n F.hx F.hb d_MO_line_7 rfl (lv_at hl 0 rfl) ?_
    refine r_get (v := vI (M.1 191 23)) (N := 68) (T := T1) (j := 23) F hS (show 191 < 231 by decide) (show shK 191 = 5 from rfl) (show shN 191 = 68 from rfl) rfl (Nat.le_of_ble_eq_true rfl) ing1 mw_1412 (fv_int rfl) d_MO_line_8 ?_
    have i3 := hS.rng 191 23
    refine r_bipush F.hx F.hb d_MO_line_11 rfl ?_
    refine r_icmp_le (tgt := 22) F.hx F.hb i3 (inr_c rfl) d_MO_line_13 (by decide) (fun c4 => ?_) (fun c4 => ?_)
    · replace hT := (if_pos c4).symm.trans hT
      refine lv_aload_n F.hx F.hb d_MO_line_22 rfl (lv_at hl 0 rfl) ?_
      refine r_get (v := vI (M.1 191 23)) (N := 68) (T := T1) (j := 23) F hS (show 191 < 231 by decide) (show shK 191 = 5 from rfl) (show shN 191 = 68 from rfl) rfl (Nat.le_of_ble_eq_true rfl) ing1 mw_1412 (fv_int rfl) d_MO_line_23 ?_
      have i5 := hS.rng 191 23
      refine lv_istore_n (lv' := [(1, vI (M.1 191 23)), (0, .ref (b + 191))]) F.hx F.hb d_MO_line_26 rfl hl (Nat.le_of_ble_eq_true rfl) rfl (fun ls hl => ?_)
      refine lv_aload_n F.hx F.hb d_MO_line_27 rfl (lv_at hl 1 rfl) ?_
      refine lv_iload_n F.hx F.hb d_MO_line_28 rfl (lv_at hl 0 rfl) ?_
      obtain ⟨q6, hq6, hT⟩ := q_obind hT
      refine r_backZ F hS (r_runV (k := 191) (N := 68) (T := T1) (As := [vI (M.1 191 23)]) F hS (show 191 < 231 by decide) (show shK 191 = 5 from rfl) rfl (c_MO_isFull l F.2.2.1 M (M.1 191 23) i5 _ hq6) gs_MO_232 hd_MO_isFull ⟨Nat.le_of_ble_eq_true rfl, Nat.le_of_ble_eq_true rfl⟩ rfl hl.1 (Nat.le_of_ble_eq_true rfl) ⟨Nat.zero_le _, Nat.zero_le _⟩ rfl d_MO_line_29) (fun H locs hS h7 => ?_)
      refine r_if_eq (tgt := 43) F.hx F.hb (inr_z h7) d_MO_line_32 (by decide) (fun c8 => ?_) (fun c8 => ?_)
      · replace hT := (if_pos c8).symm.trans hT
        refine lv_iload_n F.hx F.hb d_MO_line_43 rfl (lv_at hl 0 rfl) ?_
        refine r_if_eq (tgt := 53) F.hx F.hb i5 d_MO_line_44 (by decide) (fun c9 => ?_) (fun c9 => ?_)
        · replace hT := (if_pos c9).symm.trans hT
          exact k_MO_line_L53 l hlo F hlk hr M (M.1 191 23) i5 _ _ _ hS (lv_sub hl [1, 0] rfl) hT
        · replace hT := (if_neg c9).symm.trans hT
          refine lv_iload_n F.hx F.hb d_MO_line_47 rfl (lv_at hl 0 rfl) ?_
          refine r_bipush F.hx F.hb d_MO_line_48 rfl ?_
          refine r_icmp_ne (tgt := 69) F.hx F.hb i5 (inr_c rfl) d_MO_line_50 (by decide) (fun c10 => ?_) (fun c10 => ?_)
          · replace hT := (if_neg c10).symm.trans hT
            exact k_MO_line_L69 l hlo F hlk hr M (M.1 191 23) i5 _ _ _ hS (lv_sub hl [1, 0] rfl) hT
          · replace hT := (if_pos c10).symm.trans hT
            exact k_MO_line_L53 l hlo F hlk hr M (M.1 191 23) i5 _ _ _ hS (lv_sub hl [1, 0] rfl) hT
      · replace hT := (if_neg c8).symm.trans hT
        refine lv_aload_n F.hx F.hb d_MO_line_35 rfl (lv_at hl 1 rfl) ?_
        refine r_iconst F.hx F.hb d_MO_line_36 ?_
        obtain ⟨q11, hq11⟩ : ∃ q, q = (t_MO_wrong M 2) := ⟨_, rfl⟩
        replace hT := qlet_eq hT hq11
        refine r_backV F hS (r_runV (k := 191) (N := 68) (T := T1) (As := [vI 2]) F hS (show 191 < 231 by decide) (show shK 191 = 5 from rfl) rfl (c_MO_wrong l F.2.2.1 M 2 (inr_c rfl) _ hq11.symm) gs_MO_208 hd_MO_wrong ⟨Nat.le_of_ble_eq_true rfl, Nat.le_of_ble_eq_true rfl⟩ rfl hl.1 (Nat.le_of_ble_eq_true rfl) ⟨Nat.zero_le _, Nat.zero_le _⟩ rfl d_MO_line_37) (fun H locs hS => ?_)
        refine lv_goto (tgt := 110) F.hx F.hb d_MO_line_40 (by decide) ?_
        exact k_MO_line_L110 l hlo F hlk hr q11 (M.1 191 23) i5 _ _ _ hS (lv_sub hl [1, 0] rfl) hT
    · replace hT := (if_neg c4).symm.trans hT
      exact k_MO_line_L16 l hlo F hlk hr M _ _ _ hS (lv_sub hl [0] rfl) hT
theorem d_MO_half_0 : decode b_MO_half 0 = .ok (.aload_n 0, 1) := dc_42 (by decide +kernel)
theorem d_MO_half_1 : decode b_MO_half 1 = .ok (.arraylength, 1) := dc_190 (by decide +kernel)
theorem d_MO_half_2 : decode b_MO_half 2 = .ok (.iconst 2, 1) := dc_5 (by decide +kernel)
theorem d_MO_half_3 : decode b_MO_half 3 = .ok (.idiv, 1) := dc_108 (by decide +kernel)
theorem d_MO_half_4 : decode b_MO_half 4 = .ok (.istore_n 1, 1) := dc_60 (by decide +kernel)
theorem d_MO_half_5 : decode b_MO_half 5 = .ok (.iconst 0, 1) := dc_3 (by decide +kernel)
theorem d_MO_half_6 : decode b_MO_half 6 = .ok (.istore_n 2, 1) := dc_61 (by decide +kernel)
theorem d_MO_half_7 : decode b_MO_half 7 = .ok (.iload_n 2, 1) := dc_28 (by decide +kernel)
theorem d_MO_half_8 : decode b_MO_half 8 = .ok (.iload_n 1, 1) := dc_27 (by decide +kernel)
theorem d_MO_half_9 : decode b_MO_half 9 = .ok (.if_icmp .ge 17, 3) := dc_162 (by decide +kernel)
theorem d_MO_half_12 : decode b_MO_half 12 = .ok (.aload_n 0, 1) := dc_42 (by decide +kernel)
theorem d_MO_half_13 : decode b_MO_half 13 = .ok (.iload_n 2, 1) := dc_28 (by decide +kernel)
theorem d_MO_half_14 : decode b_MO_half 14 = .ok (.aload_n 0, 1) := dc_42 (by decide +kernel)
theorem d_MO_half_15 : decode b_MO_half 15 = .ok (.iload_n 1, 1) := dc_27 (by decide +kernel)
theorem d_MO_half_16 : decode b_MO_half 16 = .ok (.iload_n 2, 1) := dc_28 (by decide +kernel)
theorem d_MO_half_17 : decode b_MO_half 17 = .ok (.iadd, 1) := dc_96 (by decide +kernel)
theorem d_MO_half_18 : decode b_MO_half 18 = .ok (.iaload, 1) := dc_46 (by decide +kernel)
theorem d_MO_half_19 : decode b_MO_half 19 = .ok (.iastore, 1) := dc_79 (by decide +kernel)
theorem d_MO_half_20 : decode b_MO_half 20 = .ok (.iinc 2 1, 3) := dc_132 (by decide +kernel)
theorem d_MO_half_23 : decode b_MO_half 23 = .ok (.goto (-16), 3) := dc_167 (by decide +kernel)
theorem d_MO_half_26 : decode b_MO_half 26 = .ok (.return_, 1) := dc_177 (by decide +kernel)
def t_MO_half_L7 (r1 : Nat) (N1 : Nat)  : Nat → Mem → Int → Int → Option (Mem)
  | 0, _, _, _ => none
  | fu + 1, M, v1_, v2_ => (if v1_ ≤ v2_ then (some M) else (qguard (0 ≤ (w32 (v1_ + v2_)) ∧ (w32 (v1_ + v2_)) < (N1 : Int)) (qguard (0 ≤ v2_ ∧ v2_ < (N1 : Int)) (qlet (setI M r1 v2_ (M.1 r1 (w32 (v1_ + v2_)))) fun M5 => (t_MO_half_L7 r1 N1 fu M5 v1_ (w32 (v2_ + 1)))))))
def t_MO_half (M : Mem) (r1 : Nat) (N1 : Nat) : Option (Mem) := (t_MO_half_L7 r1 N1 FU M (q_div (N1 : Int) 2) 0)
set_option maxHeartbeats 4000000 in
set_option maxRecDepth 100000 in
theorem k_MO_half_L7 (l : Launch) {p : Program} {e : Env} {s : State} {m : MethodId} {below : List Frame} {meth : Method} {c : Code} {b n : Nat} {C : CT} (hlo : 231 ≤ n) (r1 : Nat) (N1 : Nat) (hr1 : arrP 0 r1 N1 231) (F : Cx b p m c b_MO_half 3 s ([.ref (b + r1)] : List Value).toArray "WardFallsModel" C n 231) (hlk : meth.locks = false) (hr : meth.sig.returnType = none) {res : Mem} : ∀ (fu : Nat) (M : Mem) (v1_ : Int) (hv1_ : InR v1_) (v2_ : Int) (hv2_ : InR v2_) (H : Heap) (locs : List Loc) (ls : Array Slot), St b C n M s H locs → lv_has ls 3 [(0, .ref (b + r1)), (1, vI v1_), (2, vI v2_)] → t_MO_half_L7 r1 N1 fu M v1_ v2_ = some res → W p l e (headSpec (wsM y_MO_half b_MO_half 3 (none)) (rmD 0)).room s m ([.ref (b + r1)] : List Value).toArray below meth c H locs 0 0 (MQ below (QV b C n res) ([.ref (b + r1)] : List Value).toArray s 0 0 (frb b)) (F0 m 7 ls []) := by
  intro fu
  induction fu with
  | zero => intro M v1_ hv1_ v2_ hv2_ H locs ls hS hl hT; exact absurd hT (by simp [t_MO_half_L7])
  | succ fu ih =>
    intro M v1_ hv1_ v2_ hv2_ H locs ls hS hl hT
    rw [t_MO_half_L7] at hT
    refine lv_iload_n F.hx F.hb d_MO_half_7 rfl (lv_at hl 2 rfl) ?_
    refine lv_iload_n F.hx F.hb d_MO_half_8 rfl (lv_at hl 1 rfl) ?_
    refine r_icmp_ge (tgt := 26) F.hx F.hb hv2_ hv1_ d_MO_half_9 (by decide) (fun c1 => ?_) (fun c1 => ?_)
    · replace hT := (if_pos c1).symm.trans hT
      cases hT
      exact r_vret F hlk hr hS d_MO_half_26
    · replace hT := (if_neg c1).symm.trans hT
      refine lv_aload_n F.hx F.hb d_MO_half_12 rfl (lv_at hl 0 rfl) ?_
      refine lv_iload_n F.hx F.hb d_MO_half_13 rfl (lv_at hl 2 rfl) ?_
      refine lv_aload_n F.hx F.hb d_MO_half_14 rfl (lv_at hl 0 rfl) ?_
      refine lv_iload_n F.hx F.hb d_MO_half_15 rfl (lv_at hl 1 rfl) ?_
      refine lv_iload_n F.hx F.hb d_MO_half_16 rfl (lv_at hl 2 rfl) ?_
      refine r_iadd F.hx F.hb d_MO_half_17 ?_
      obtain ⟨⟨g2a, g2b⟩, hT⟩ := q_guard hT
      refine r_iald F hS hr1.2.2 hr1.1 hr1.2.1 (inr_w32 _) g2a g2b d_MO_half_18 ?_
      have i3 := hS.rng r1 (w32 (v1_ + v2_))
      obtain ⟨⟨g4a, g4b⟩, hT⟩ := q_guard hT
      refine r_iast F hS hr1.2.2 hr1.1 hr1.2.1 hv2_ i3 g4a g4b d_MO_half_19 (fun H locs hS => ?_)
      obtain ⟨M5, eM5⟩ : ∃ q, q = (setI M r1 v2_ (M.1 r1 (w32 (v1_ + v2_)))) := ⟨_, rfl⟩
      replace hS : St b C n M5 s H locs := by rw [eM5]; exact hS
      replace hT := qlet_eq hT eM5
      refine lv_iinc (v := Int32.ofInt (w32 (v2_ + 1))) (lv' := [(2, vI (w32 (v2_ + 1))), (0, .ref (b + r1)), (1, vI v1_)]) F.hx F.hb d_MO_half_20 hl (k := 2) rfl (q_of_add _ _) (Nat.le_of_ble_eq_true rfl) rfl (fun ls hl => ?_)
      refine lv_goto (tgt := 7) F.hx F.hb d_MO_half_23 (by decide) ?_
      exact ih M5 v1_ hv1_ (w32 (v2_ + 1)) (inr_w32 _) _ _ _ hS (lv_sub hl [1, 2, 0] rfl) hT
set_option maxHeartbeats 4000000 in
set_option maxRecDepth 100000 in
theorem c_MO_half (l : Launch) {b n : Nat} {C : CT} (hlo : 231 ≤ n) (M : Mem) (r1 : Nat) (N1 : Nat) (hr1 : arrP 0 r1 N1 231) (res : Mem) (hT : t_MO_half M r1 N1 = some res) : CM l b C n 0 y_MO_half b_MO_half 3 (none) [.ref (b + r1)] M (QV b C n res) := by
  refine CM.of (lo := 231) (ow := "WardFallsModel") (by decide) rfl (Nat.le_of_ble_eq_true rfl) hlo (fun p e s m below meth c F hlk hr hS ls hl => ?_)
  have hl : lv_has ls 3 [(0, .ref (b + r1))] := hl
  unfold t_MO_half at hT
  refine lv_aload_n F.hx F.hb d_MO_half_0 rfl (lv_at hl 0 rfl) ?_
  refine r_alen F hS hr1.2.2 (by rw [hr1.1]; decide) hr1.2.1 d_MO_half_1 rfl ?_
  refine r_iconst F.hx F.hb d_MO_half_2 ?_
  refine r_idiv F.hx F.hb (inr_c rfl) (by decide) d_MO_half_3 ?_
  refine lv_istore_n (lv' := [(1, vI (q_div (N1 : Int) 2)), (0, .ref (b + r1))]) F.hx F.hb d_MO_half_4 rfl hl (Nat.le_of_ble_eq_true rfl) rfl (fun ls hl => ?_)
  refine r_iconst F.hx F.hb d_MO_half_5 ?_
  refine lv_istore_n (lv' := [(2, vI 0), (1, vI (q_div (N1 : Int) 2)), (0, .ref (b + r1))]) F.hx F.hb d_MO_half_6 rfl hl (Nat.le_of_ble_eq_true rfl) rfl (fun ls hl => ?_)
  exact k_MO_half_L7 l hlo r1 N1 hr1 F hlk hr FU M (q_div (N1 : Int) 2) (q_inr_toInt _) 0 (inr_c rfl) _ _ _ hS (lv_sub hl [2, 1, 0] rfl) hT
end
section
theorem wn_MO_text_0 : ∀ i, i < 96 → bA b_MO_text (0 + i) = wB [42, 3, 181, 0, 145, 27, 155, 0, 11, 27, 42, 180, 0, 148, 164, 0, 6, 16, 254, 172, 42, 27, 181, 0, 154, 42, 3, 181, 0, 148, 42, 3, 181, 0, 151, 42, 3, 181, 0, 199, 42, 2, 181, 0, 202, 3, 61, 28, 16, 9, 162, 0, 28, 42, 28, 28, 153, 0, 8, 28, 4, 160, 0, 7, 7, 167, 0, 4, 3, 182, 0, 238, 132, 2, 1, 167, 255, 228, 3, 61, 28, 16, 48, 162, 0, 39, 42, 180, 0, 25, 16, 48, 28, 96, 3, 79] i := wB_of (by decide +kernel)
theorem d_MO_text_0 : decode b_MO_text 0 = .ok (.aload_n 0, 1) := dc_42 (q0_win (r := 0) wn_MO_text_0 (by decide +kernel))
theorem d_MO_text_1 : decode b_MO_text 1 = .ok (.iconst 0, 1) := dc_3 (q0_win (r := 1) wn_MO_text_0 (by decide +kernel))
theorem d_MO_text_2 : decode b_MO_text 2 = .ok (.putfield 145, 3) := dc_181 (qU2_win (r := 2) wn_MO_text_0 (by decide +kernel))
theorem d_MO_text_5 : decode b_MO_text 5 = .ok (.iload_n 1, 1) := dc_27 (q0_win (r := 5) wn_MO_text_0 (by decide +kernel))
theorem d_MO_text_6 : decode b_MO_text 6 = .ok (.ifCond .lt 11, 3) := dc_155 (qS2_win (r := 6) wn_MO_text_0 (by decide +kernel))
theorem d_MO_text_9 : decode b_MO_text 9 = .ok (.iload_n 1, 1) := dc_27 (q0_win (r := 9) wn_MO_text_0 (by decide +kernel))
theorem d_MO_text_10 : decode b_MO_text 10 = .ok (.aload_n 0, 1) := dc_42 (q0_win (r := 10) wn_MO_text_0 (by decide +kernel))
theorem d_MO_text_11 : decode b_MO_text 11 = .ok (.getfield 148, 3) := dc_180 (qU2_win (r := 11) wn_MO_text_0 (by decide +kernel))
theorem d_MO_text_14 : decode b_MO_text 14 = .ok (.if_icmp .le 6, 3) := dc_164 (qS2_win (r := 14) wn_MO_text_0 (by decide +kernel))
theorem d_MO_text_17 : decode b_MO_text 17 = .ok (.bipush (-2), 2) := dc_16 (qS1_win (r := 17) wn_MO_text_0 (by decide +kernel))
theorem d_MO_text_19 : decode b_MO_text 19 = .ok (.ireturn, 1) := dc_172 (q0_win (r := 19) wn_MO_text_0 (by decide +kernel))
theorem d_MO_text_20 : decode b_MO_text 20 = .ok (.aload_n 0, 1) := dc_42 (q0_win (r := 20) wn_MO_text_0 (by decide +kernel))
theorem d_MO_text_21 : decode b_MO_text 21 = .ok (.iload_n 1, 1) := dc_27 (q0_win (r := 21) wn_MO_text_0 (by decide +kernel))
theorem d_MO_text_22 : decode b_MO_text 22 = .ok (.putfield 154, 3) := dc_181 (qU2_win (r := 22) wn_MO_text_0 (by decide +kernel))
theorem d_MO_text_25 : decode b_MO_text 25 = .ok (.aload_n 0, 1) := dc_42 (q0_win (r := 25) wn_MO_text_0 (by decide +kernel))
theorem d_MO_text_26 : decode b_MO_text 26 = .ok (.iconst 0, 1) := dc_3 (q0_win (r := 26) wn_MO_text_0 (by decide +kernel))
theorem d_MO_text_27 : decode b_MO_text 27 = .ok (.putfield 148, 3) := dc_181 (qU2_win (r := 27) wn_MO_text_0 (by decide +kernel))
theorem d_MO_text_30 : decode b_MO_text 30 = .ok (.aload_n 0, 1) := dc_42 (q0_win (r := 30) wn_MO_text_0 (by decide +kernel))
theorem d_MO_text_31 : decode b_MO_text 31 = .ok (.iconst 0, 1) := dc_3 (q0_win (r := 31) wn_MO_text_0 (by decide +kernel))
theorem d_MO_text_32 : decode b_MO_text 32 = .ok (.putfield 151, 3) := dc_181 (qU2_win (r := 32) wn_MO_text_0 (by decide +kernel))
theorem d_MO_text_35 : decode b_MO_text 35 = .ok (.aload_n 0, 1) := dc_42 (q0_win (r := 35) wn_MO_text_0 (by decide +kernel))
theorem d_MO_text_36 : decode b_MO_text 36 = .ok (.iconst 0, 1) := dc_3 (q0_win (r := 36) wn_MO_text_0 (by decide +kernel))
theorem d_MO_text_37 : decode b_MO_text 37 = .ok (.putfield 199, 3) := dc_181 (qU2_win (r := 37) wn_MO_text_0 (by decide +kernel))
theorem d_MO_text_40 : decode b_MO_text 40 = .ok (.aload_n 0, 1) := dc_42 (q0_win (r := 40) wn_MO_text_0 (by decide +kernel))
theorem d_MO_text_41 : decode b_MO_text 41 = .ok (.iconst (-1), 1) := dc_2 (q0_win (r := 41) wn_MO_text_0 (by decide +kernel))
theorem d_MO_text_42 : decode b_MO_text 42 = .ok (.putfield 202, 3) := dc_181 (qU2_win (r := 42) wn_MO_text_0 (by decide +kernel))
theorem d_MO_text_45 : decode b_MO_text 45 = .ok (.iconst 0, 1) := dc_3 (q0_win (r := 45) wn_MO_text_0 (by decide +kernel))
theorem d_MO_text_46 : decode b_MO_text 46 = .ok (.istore_n 2, 1) := dc_61 (q0_win (r := 46) wn_MO_text_0 (by decide +kernel))
theorem d_MO_text_47 : decode b_MO_text 47 = .ok (.iload_n 2, 1) := dc_28 (q0_win (r := 47) wn_MO_text_0 (by decide +kernel))
theorem d_MO_text_48 : decode b_MO_text 48 = .ok (.bipush 9, 2) := dc_16 (qS1_win (r := 48) wn_MO_text_0 (by decide +kernel))
theorem d_MO_text_50 : decode b_MO_text 50 = .ok (.if_icmp .ge 28, 3) := dc_162 (qS2_win (r := 50) wn_MO_text_0 (by decide +kernel))
theorem d_MO_text_53 : decode b_MO_text 53 = .ok (.aload_n 0, 1) := dc_42 (q0_win (r := 53) wn_MO_text_0 (by decide +kernel))
theorem d_MO_text_54 : decode b_MO_text 54 = .ok (.iload_n 2, 1) := dc_28 (q0_win (r := 54) wn_MO_text_0 (by decide +kernel))
theorem d_MO_text_55 : decode b_MO_text 55 = .ok (.iload_n 2, 1) := dc_28 (q0_win (r := 55) wn_MO_text_0 (by decide +kernel))
theorem d_MO_text_56 : decode b_MO_text 56 = .ok (.ifCond .eq 8, 3) := dc_153 (qS2_win (r := 56) wn_MO_text_0 (by decide +kernel))
theorem d_MO_text_59 : decode b_MO_text 59 = .ok (.iload_n 2, 1) := dc_28 (q0_win (r := 59) wn_MO_text_0 (by decide +kernel))
theorem d_MO_text_60 : decode b_MO_text 60 = .ok (.iconst 1, 1) := dc_4 (q0_win (r := 60) wn_MO_text_0 (by decide +kernel))
theorem d_MO_text_61 : decode b_MO_text 61 = .ok (.if_icmp .ne 7, 3) := dc_160 (qS2_win (r := 61) wn_MO_text_0 (by decide +kernel))
theorem d_MO_text_64 : decode b_MO_text 64 = .ok (.iconst 4, 1) := dc_7 (q0_win (r := 64) wn_MO_text_0 (by decide +kernel))
theorem d_MO_text_65 : decode b_MO_text 65 = .ok (.goto 4, 3) := dc_167 (qS2_win (r := 65) wn_MO_text_0 (by decide +kernel))
theorem d_MO_text_68 : decode b_MO_text 68 = .ok (.iconst 0, 1) := dc_3 (q0_win (r := 68) wn_MO_text_0 (by decide +kernel))
theorem d_MO_text_69 : decode b_MO_text 69 = .ok (.invokevirtual 238, 3) := dc_182 (qU2_win (r := 69) wn_MO_text_0 (by decide +kernel))
theorem d_MO_text_72 : decode b_MO_text 72 = .ok (.iinc 2 1, 3) := dc_132 (qI_win (r := 72) wn_MO_text_0 (by decide +kernel))
theorem d_MO_text_75 : decode b_MO_text 75 = .ok (.goto (-28), 3) := dc_167 (qS2_win (r := 75) wn_MO_text_0 (by decide +kernel))
theorem d_MO_text_78 : decode b_MO_text 78 = .ok (.iconst 0, 1) := dc_3 (q0_win (r := 78) wn_MO_text_0 (by decide +kernel))
theorem d_MO_text_79 : decode b_MO_text 79 = .ok (.istore_n 2, 1) := dc_61 (q0_win (r := 79) wn_MO_text_0 (by decide +kernel))
theorem d_MO_text_80 : decode b_MO_text 80 = .ok (.iload_n 2, 1) := dc_28 (q0_win (r := 80) wn_MO_text_0 (by decide +kernel))
theorem d_MO_text_81 : decode b_MO_text 81 = .ok (.bipush 48, 2) := dc_16 (qS1_win (r := 81) wn_MO_text_0 (by decide +kernel))
theorem d_MO_text_83 : decode b_MO_text 83 = .ok (.if_icmp .ge 39, 3) := dc_162 (qS2_win (r := 83) wn_MO_text_0 (by decide +kernel))
theorem d_MO_text_86 : decode b_MO_text 86 = .ok (.aload_n 0, 1) := dc_42 (q0_win (r := 86) wn_MO_text_0 (by decide +kernel))
theorem d_MO_text_87 : decode b_MO_text 87 = .ok (.getfield 25, 3) := dc_180 (qU2_win (r := 87) wn_MO_text_0 (by decide +kernel))
theorem d_MO_text_90 : decode b_MO_text 90 = .ok (.bipush 48, 2) := dc_16 (qS1_win (r := 90) wn_MO_text_0 (by decide +kernel))
theorem d_MO_text_92 : decode b_MO_text 92 = .ok (.iload_n 2, 1) := dc_28 (q0_win (r := 92) wn_MO_text_0 (by decide +kernel))
theorem d_MO_text_93 : decode b_MO_text 93 = .ok (.iadd, 1) := dc_96 (q0_win (r := 93) wn_MO_text_0 (by decide +kernel))
theorem d_MO_text_94 : decode b_MO_text 94 = .ok (.iconst 0, 1) := dc_3 (q0_win (r := 94) wn_MO_text_0 (by decide +kernel))
theorem d_MO_text_95 : decode b_MO_text 95 = .ok (.iastore, 1) := dc_79 (q0_win (r := 95) wn_MO_text_0 (by decide +kernel))
theorem wn_MO_text_96 : ∀ i, i < 96 → bA b_MO_text (96 + i) = wB [42, 180, 0, 28, 16, 48, 28, 96, 3, 84, 42, 180, 0, 32, 16, 48, 28, 96, 3, 84, 132, 2, 1, 167, 255, 217, 5, 61, 28, 7, 162, 0, 23, 42, 180, 0, 44, 28, 3, 79, 42, 180, 0, 47, 28, 3, 79, 132, 2, 1, 167, 255, 234, 42, 3, 181, 0, 229, 42, 3, 181, 1, 7, 42, 3, 181, 1, 50, 42, 3, 181, 1, 23, 42, 182, 0, 205, 42, 180, 0, 199, 154, 0, 18, 42, 180, 0, 164, 7, 159, 0, 10, 42, 182, 1, 53] i := wB_of (by decide +kernel)
theorem d_MO_text_96 : decode b_MO_text 96 = .ok (.aload_n 0, 1) := dc_42 (q0_win (r := 0) wn_MO_text_96 (by decide +kernel))
theorem d_MO_text_97 : decode b_MO_text 97 = .ok (.getfield 28, 3) := dc_180 (qU2_win (r := 1) wn_MO_text_96 (by decide +kernel))
theorem d_MO_text_100 : decode b_MO_text 100 = .ok (.bipush 48, 2) := dc_16 (qS1_win (r := 4) wn_MO_text_96 (by decide +kernel))
theorem d_MO_text_102 : decode b_MO_text 102 = .ok (.iload_n 2, 1) := dc_28 (q0_win (r := 6) wn_MO_text_96 (by decide +kernel))
theorem d_MO_text_103 : decode b_MO_text 103 = .ok (.iadd, 1) := dc_96 (q0_win (r := 7) wn_MO_text_96 (by decide +kernel))
theorem d_MO_text_104 : decode b_MO_text 104 = .ok (.iconst 0, 1) := dc_3 (q0_win (r := 8) wn_MO_text_96 (by decide +kernel))
theorem d_MO_text_105 : decode b_MO_text 105 = .ok (.bastore, 1) := dc_84 (q0_win (r := 9) wn_MO_text_96 (by decide +kernel))
theorem d_MO_text_106 : decode b_MO_text 106 = .ok (.aload_n 0, 1) := dc_42 (q0_win (r := 10) wn_MO_text_96 (by decide +kernel))
theorem d_MO_text_107 : decode b_MO_text 107 = .ok (.getfield 32, 3) := dc_180 (qU2_win (r := 11) wn_MO_text_96 (by decide +kernel))
theorem d_MO_text_110 : decode b_MO_text 110 = .ok (.bipush 48, 2) := dc_16 (qS1_win (r := 14) wn_MO_text_96 (by decide +kernel))
theorem d_MO_text_112 : decode b_MO_text 112 = .ok (.iload_n 2, 1) := dc_28 (q0_win (r := 16) wn_MO_text_96 (by decide +kernel))
theorem d_MO_text_113 : decode b_MO_text 113 = .ok (.iadd, 1) := dc_96 (q0_win (r := 17) wn_MO_text_96 (by decide +kernel))
theorem d_MO_text_114 : decode b_MO_text 114 = .ok (.iconst 0, 1) := dc_3 (q0_win (r := 18) wn_MO_text_96 (by decide +kernel))
theorem d_MO_text_115 : decode b_MO_text 115 = .ok (.bastore, 1) := dc_84 (q0_win (r := 19) wn_MO_text_96 (by decide +kernel))
theorem d_MO_text_116 : decode b_MO_text 116 = .ok (.iinc 2 1, 3) := dc_132 (qI_win (r := 20) wn_MO_text_96 (by decide +kernel))
theorem d_MO_text_119 : decode b_MO_text 119 = .ok (.goto (-39), 3) := dc_167 (qS2_win (r := 23) wn_MO_text_96 (by decide +kernel))
theorem d_MO_text_122 : decode b_MO_text 122 = .ok (.iconst 2, 1) := dc_5 (q0_win (r := 26) wn_MO_text_96 (by decide +kernel))
theorem d_MO_text_123 : decode b_MO_text 123 = .ok (.istore_n 2, 1) := dc_61 (q0_win (r := 27) wn_MO_text_96 (by decide +kernel))
theorem d_MO_text_124 : decode b_MO_text 124 = .ok (.iload_n 2, 1) := dc_28 (q0_win (r := 28) wn_MO_text_96 (by decide +kernel))
theorem d_MO_text_125 : decode b_MO_text 125 = .ok (.iconst 4, 1) := dc_7 (q0_win (r := 29) wn_MO_text_96 (by decide +kernel))
theorem d_MO_text_126 : decode b_MO_text 126 = .ok (.if_icmp .ge 23, 3) := dc_162 (qS2_win (r := 30) wn_MO_text_96 (by decide +kernel))
theorem d_MO_text_129 : decode b_MO_text 129 = .ok (.aload_n 0, 1) := dc_42 (q0_win (r := 33) wn_MO_text_96 (by decide +kernel))
theorem d_MO_text_130 : decode b_MO_text 130 = .ok (.getfield 44, 3) := dc_180 (qU2_win (r := 34) wn_MO_text_96 (by decide +kernel))
theorem d_MO_text_133 : decode b_MO_text 133 = .ok (.iload_n 2, 1) := dc_28 (q0_win (r := 37) wn_MO_text_96 (by decide +kernel))
theorem d_MO_text_134 : decode b_MO_text 134 = .ok (.iconst 0, 1) := dc_3 (q0_win (r := 38) wn_MO_text_96 (by decide +kernel))
theorem d_MO_text_135 : decode b_MO_text 135 = .ok (.iastore, 1) := dc_79 (q0_win (r := 39) wn_MO_text_96 (by decide +kernel))
theorem d_MO_text_136 : decode b_MO_text 136 = .ok (.aload_n 0, 1) := dc_42 (q0_win (r := 40) wn_MO_text_96 (by decide +kernel))
theorem d_MO_text_137 : decode b_MO_text 137 = .ok (.getfield 47, 3) := dc_180 (qU2_win (r := 41) wn_MO_text_96 (by decide +kernel))
theorem d_MO_text_140 : decode b_MO_text 140 = .ok (.iload_n 2, 1) := dc_28 (q0_win (r := 44) wn_MO_text_96 (by decide +kernel))
theorem d_MO_text_141 : decode b_MO_text 141 = .ok (.iconst 0, 1) := dc_3 (q0_win (r := 45) wn_MO_text_96 (by decide +kernel))
theorem d_MO_text_142 : decode b_MO_text 142 = .ok (.iastore, 1) := dc_79 (q0_win (r := 46) wn_MO_text_96 (by decide +kernel))
theorem d_MO_text_143 : decode b_MO_text 143 = .ok (.iinc 2 1, 3) := dc_132 (qI_win (r := 47) wn_MO_text_96 (by decide +kernel))
theorem d_MO_text_146 : decode b_MO_text 146 = .ok (.goto (-22), 3) := dc_167 (qS2_win (r := 50) wn_MO_text_96 (by decide +kernel))
theorem d_MO_text_149 : decode b_MO_text 149 = .ok (.aload_n 0, 1) := dc_42 (q0_win (r := 53) wn_MO_text_96 (by decide +kernel))
theorem d_MO_text_150 : decode b_MO_text 150 = .ok (.iconst 0, 1) := dc_3 (q0_win (r := 54) wn_MO_text_96 (by decide +kernel))
theorem d_MO_text_151 : decode b_MO_text 151 = .ok (.putfield 229, 3) := dc_181 (qU2_win (r := 55) wn_MO_text_96 (by decide +kernel))
theorem d_MO_text_154 : decode b_MO_text 154 = .ok (.aload_n 0, 1) := dc_42 (q0_win (r := 58) wn_MO_text_96 (by decide +kernel))
theorem d_MO_text_155 : decode b_MO_text 155 = .ok (.iconst 0, 1) := dc_3 (q0_win (r := 59) wn_MO_text_96 (by decide +kernel))
theorem d_MO_text_156 : decode b_MO_text 156 = .ok (.putfield 263, 3) := dc_181 (qU2_win (r := 60) wn_MO_text_96 (by decide +kernel))
theorem d_MO_text_159 : decode b_MO_text 159 = .ok (.aload_n 0, 1) := dc_42 (q0_win (r := 63) wn_MO_text_96 (by decide +kernel))
theorem d_MO_text_160 : decode b_MO_text 160 = .ok (.iconst 0, 1) := dc_3 (q0_win (r := 64) wn_MO_text_96 (by decide +kernel))
theorem d_MO_text_161 : decode b_MO_text 161 = .ok (.putfield 306, 3) := dc_181 (qU2_win (r := 65) wn_MO_text_96 (by decide +kernel))
theorem d_MO_text_164 : decode b_MO_text 164 = .ok (.aload_n 0, 1) := dc_42 (q0_win (r := 68) wn_MO_text_96 (by decide +kernel))
theorem d_MO_text_165 : decode b_MO_text 165 = .ok (.iconst 0, 1) := dc_3 (q0_win (r := 69) wn_MO_text_96 (by decide +kernel))
theorem d_MO_text_166 : decode b_MO_text 166 = .ok (.putfield 279, 3) := dc_181 (qU2_win (r := 70) wn_MO_text_96 (by decide +kernel))
theorem d_MO_text_169 : decode b_MO_text 169 = .ok (.aload_n 0, 1) := dc_42 (q0_win (r := 73) wn_MO_text_96 (by decide +kernel))
theorem d_MO_text_170 : decode b_MO_text 170 = .ok (.invokevirtual 205, 3) := dc_182 (qU2_win (r := 74) wn_MO_text_96 (by decide +kernel))
theorem d_MO_text_173 : decode b_MO_text 173 = .ok (.aload_n 0, 1) := dc_42 (q0_win (r := 77) wn_MO_text_96 (by decide +kernel))
theorem d_MO_text_174 : decode b_MO_text 174 = .ok (.getfield 199, 3) := dc_180 (qU2_win (r := 78) wn_MO_text_96 (by decide +kernel))
theorem d_MO_text_177 : decode b_MO_text 177 = .ok (.ifCond .ne 18, 3) := dc_154 (qS2_win (r := 81) wn_MO_text_96 (by decide +kernel))
theorem d_MO_text_180 : decode b_MO_text 180 = .ok (.aload_n 0, 1) := dc_42 (q0_win (r := 84) wn_MO_text_96 (by decide +kernel))
theorem d_MO_text_181 : decode b_MO_text 181 = .ok (.getfield 164, 3) := dc_180 (qU2_win (r := 85) wn_MO_text_96 (by decide +kernel))
theorem d_MO_text_184 : decode b_MO_text 184 = .ok (.iconst 4, 1) := dc_7 (q0_win (r := 88) wn_MO_text_96 (by decide +kernel))
theorem d_MO_text_185 : decode b_MO_text 185 = .ok (.if_icmp .eq 10, 3) := dc_159 (qS2_win (r := 89) wn_MO_text_96 (by decide +kernel))
theorem d_MO_text_188 : decode b_MO_text 188 = .ok (.aload_n 0, 1) := dc_42 (q0_win (r := 92) wn_MO_text_96 (by decide +kernel))
theorem d_MO_text_189 : decode b_MO_text 189 = .ok (.invokevirtual 309, 3) := dc_182 (qU2_win (r := 93) wn_MO_text_96 (by decide +kernel))
theorem wn_MO_text_192 : ∀ i, i < 95 → bA b_MO_text (192 + i) = wB [167, 255, 237, 42, 42, 180, 0, 199, 181, 1, 56, 42, 42, 180, 0, 202, 181, 0, 56, 42, 180, 0, 199, 153, 0, 5, 2, 172, 42, 180, 0, 13, 184, 1, 59, 42, 180, 0, 16, 184, 1, 59, 42, 180, 0, 19, 184, 1, 59, 42, 180, 0, 22, 184, 1, 59, 42, 180, 0, 25, 184, 1, 59, 3, 61, 28, 16, 48, 162, 0, 39, 42, 180, 0, 28, 28, 42, 180, 0, 28, 16, 48, 28, 96, 51, 84, 42, 180, 0, 32, 28, 42, 180, 0, 32] i := wB_of (by decide +kernel)
theorem d_MO_text_192 : decode b_MO_text 192 = .ok (.goto (-19), 3) := dc_167 (qS2_win (r := 0) wn_MO_text_192 (by decide +kernel))
theorem d_MO_text_195 : decode b_MO_text 195 = .ok (.aload_n 0, 1) := dc_42 (q0_win (r := 3) wn_MO_text_192 (by decide +kernel))
theorem d_MO_text_196 : decode b_MO_text 196 = .ok (.aload_n 0, 1) := dc_42 (q0_win (r := 4) wn_MO_text_192 (by decide +kernel))
theorem d_MO_text_197 : decode b_MO_text 197 = .ok (.getfield 199, 3) := dc_180 (qU2_win (r := 5) wn_MO_text_192 (by decide +kernel))
theorem d_MO_text_200 : decode b_MO_text 200 = .ok (.putfield 312, 3) := dc_181 (qU2_win (r := 8) wn_MO_text_192 (by decide +kernel))
theorem d_MO_text_203 : decode b_MO_text 203 = .ok (.aload_n 0, 1) := dc_42 (q0_win (r := 11) wn_MO_text_192 (by decide +kernel))
theorem d_MO_text_204 : decode b_MO_text 204 = .ok (.aload_n 0, 1) := dc_42 (q0_win (r := 12) wn_MO_text_192 (by decide +kernel))
theorem d_MO_text_205 : decode b_MO_text 205 = .ok (.getfield 202, 3) := dc_180 (qU2_win (r := 13) wn_MO_text_192 (by decide +kernel))
theorem d_MO_text_208 : decode b_MO_text 208 = .ok (.putfield 56, 3) := dc_181 (qU2_win (r := 16) wn_MO_text_192 (by decide +kernel))
theorem d_MO_text_211 : decode b_MO_text 211 = .ok (.aload_n 0, 1) := dc_42 (q0_win (r := 19) wn_MO_text_192 (by decide +kernel))
theorem d_MO_text_212 : decode b_MO_text 212 = .ok (.getfield 199, 3) := dc_180 (qU2_win (r := 20) wn_MO_text_192 (by decide +kernel))
theorem d_MO_text_215 : decode b_MO_text 215 = .ok (.ifCond .eq 5, 3) := dc_153 (qS2_win (r := 23) wn_MO_text_192 (by decide +kernel))
theorem d_MO_text_218 : decode b_MO_text 218 = .ok (.iconst (-1), 1) := dc_2 (q0_win (r := 26) wn_MO_text_192 (by decide +kernel))
theorem d_MO_text_219 : decode b_MO_text 219 = .ok (.ireturn, 1) := dc_172 (q0_win (r := 27) wn_MO_text_192 (by decide +kernel))
theorem d_MO_text_220 : decode b_MO_text 220 = .ok (.aload_n 0, 1) := dc_42 (q0_win (r := 28) wn_MO_text_192 (by decide +kernel))
theorem d_MO_text_221 : decode b_MO_text 221 = .ok (.getfield 13, 3) := dc_180 (qU2_win (r := 29) wn_MO_text_192 (by decide +kernel))
theorem d_MO_text_224 : decode b_MO_text 224 = .ok (.invokestatic 315, 3) := dc_184 (qU2_win (r := 32) wn_MO_text_192 (by decide +kernel))
theorem d_MO_text_227 : decode b_MO_text 227 = .ok (.aload_n 0, 1) := dc_42 (q0_win (r := 35) wn_MO_text_192 (by decide +kernel))
theorem d_MO_text_228 : decode b_MO_text 228 = .ok (.getfield 16, 3) := dc_180 (qU2_win (r := 36) wn_MO_text_192 (by decide +kernel))
theorem d_MO_text_231 : decode b_MO_text 231 = .ok (.invokestatic 315, 3) := dc_184 (qU2_win (r := 39) wn_MO_text_192 (by decide +kernel))
theorem d_MO_text_234 : decode b_MO_text 234 = .ok (.aload_n 0, 1) := dc_42 (q0_win (r := 42) wn_MO_text_192 (by decide +kernel))
theorem d_MO_text_235 : decode b_MO_text 235 = .ok (.getfield 19, 3) := dc_180 (qU2_win (r := 43) wn_MO_text_192 (by decide +kernel))
theorem d_MO_text_238 : decode b_MO_text 238 = .ok (.invokestatic 315, 3) := dc_184 (qU2_win (r := 46) wn_MO_text_192 (by decide +kernel))
theorem d_MO_text_241 : decode b_MO_text 241 = .ok (.aload_n 0, 1) := dc_42 (q0_win (r := 49) wn_MO_text_192 (by decide +kernel))
theorem d_MO_text_242 : decode b_MO_text 242 = .ok (.getfield 22, 3) := dc_180 (qU2_win (r := 50) wn_MO_text_192 (by decide +kernel))
theorem d_MO_text_245 : decode b_MO_text 245 = .ok (.invokestatic 315, 3) := dc_184 (qU2_win (r := 53) wn_MO_text_192 (by decide +kernel))
theorem d_MO_text_248 : decode b_MO_text 248 = .ok (.aload_n 0, 1) := dc_42 (q0_win (r := 56) wn_MO_text_192 (by decide +kernel))
theorem d_MO_text_249 : decode b_MO_text 249 = .ok (.getfield 25, 3) := dc_180 (qU2_win (r := 57) wn_MO_text_192 (by decide +kernel))
theorem d_MO_text_252 : decode b_MO_text 252 = .ok (.invokestatic 315, 3) := dc_184 (qU2_win (r := 60) wn_MO_text_192 (by decide +kernel))
theorem d_MO_text_255 : decode b_MO_text 255 = .ok (.iconst 0, 1) := dc_3 (q0_win (r := 63) wn_MO_text_192 (by decide +kernel))
theorem d_MO_text_256 : decode b_MO_text 256 = .ok (.istore_n 2, 1) := dc_61 (q0_win (r := 64) wn_MO_text_192 (by decide +kernel))
theorem d_MO_text_257 : decode b_MO_text 257 = .ok (.iload_n 2, 1) := dc_28 (q0_win (r := 65) wn_MO_text_192 (by decide +kernel))
theorem d_MO_text_258 : decode b_MO_text 258 = .ok (.bipush 48, 2) := dc_16 (qS1_win (r := 66) wn_MO_text_192 (by decide +kernel))
theorem d_MO_text_260 : decode b_MO_text 260 = .ok (.if_icmp .ge 39, 3) := dc_162 (qS2_win (r := 68) wn_MO_text_192 (by decide +kernel))
theorem d_MO_text_263 : decode b_MO_text 263 = .ok (.aload_n 0, 1) := dc_42 (q0_win (r := 71) wn_MO_text_192 (by decide +kernel))
theorem d_MO_text_264 : decode b_MO_text 264 = .ok (.getfield 28, 3) := dc_180 (qU2_win (r := 72) wn_MO_text_192 (by decide +kernel))
theorem d_MO_text_267 : decode b_MO_text 267 = .ok (.iload_n 2, 1) := dc_28 (q0_win (r := 75) wn_MO_text_192 (by decide +kernel))
theorem d_MO_text_268 : decode b_MO_text 268 = .ok (.aload_n 0, 1) := dc_42 (q0_win (r := 76) wn_MO_text_192 (by decide +kernel))
theorem d_MO_text_269 : decode b_MO_text 269 = .ok (.getfield 28, 3) := dc_180 (qU2_win (r := 77) wn_MO_text_192 (by decide +kernel))
theorem d_MO_text_272 : decode b_MO_text 272 = .ok (.bipush 48, 2) := dc_16 (qS1_win (r := 80) wn_MO_text_192 (by decide +kernel))
theorem d_MO_text_274 : decode b_MO_text 274 = .ok (.iload_n 2, 1) := dc_28 (q0_win (r := 82) wn_MO_text_192 (by decide +kernel))
theorem d_MO_text_275 : decode b_MO_text 275 = .ok (.iadd, 1) := dc_96 (q0_win (r := 83) wn_MO_text_192 (by decide +kernel))
theorem d_MO_text_276 : decode b_MO_text 276 = .ok (.baload, 1) := dc_51 (q0_win (r := 84) wn_MO_text_192 (by decide +kernel))
theorem d_MO_text_277 : decode b_MO_text 277 = .ok (.bastore, 1) := dc_84 (q0_win (r := 85) wn_MO_text_192 (by decide +kernel))
theorem d_MO_text_278 : decode b_MO_text 278 = .ok (.aload_n 0, 1) := dc_42 (q0_win (r := 86) wn_MO_text_192 (by decide +kernel))
theorem d_MO_text_279 : decode b_MO_text 279 = .ok (.getfield 32, 3) := dc_180 (qU2_win (r := 87) wn_MO_text_192 (by decide +kernel))
theorem d_MO_text_282 : decode b_MO_text 282 = .ok (.iload_n 2, 1) := dc_28 (q0_win (r := 90) wn_MO_text_192 (by decide +kernel))
theorem d_MO_text_283 : decode b_MO_text 283 = .ok (.aload_n 0, 1) := dc_42 (q0_win (r := 91) wn_MO_text_192 (by decide +kernel))
theorem d_MO_text_284 : decode b_MO_text 284 = .ok (.getfield 32, 3) := dc_180 (qU2_win (r := 92) wn_MO_text_192 (by decide +kernel))
theorem wn_MO_text_287 : ∀ i, i < 90 → bA b_MO_text (287 + i) = wB [16, 48, 28, 96, 51, 84, 132, 2, 1, 167, 255, 217, 42, 180, 0, 35, 184, 1, 59, 42, 180, 0, 38, 184, 1, 59, 42, 180, 0, 41, 184, 1, 59, 42, 180, 0, 44, 184, 1, 59, 42, 180, 0, 47, 184, 1, 59, 42, 180, 0, 50, 184, 1, 59, 42, 180, 0, 53, 184, 1, 59, 42, 3, 181, 1, 63, 42, 2, 181, 0, 124, 42, 3, 181, 1, 66, 42, 3, 181, 1, 70, 42, 182, 0, 142, 42, 180, 1, 7, 172] i := wB_of (by decide +kernel)
theorem d_MO_text_287 : decode b_MO_text 287 = .ok (.bipush 48, 2) := dc_16 (qS1_win (r := 0) wn_MO_text_287 (by decide +kernel))
theorem d_MO_text_289 : decode b_MO_text 289 = .ok (.iload_n 2, 1) := dc_28 (q0_win (r := 2) wn_MO_text_287 (by decide +kernel))
theorem d_MO_text_290 : decode b_MO_text 290 = .ok (.iadd, 1) := dc_96 (q0_win (r := 3) wn_MO_text_287 (by decide +kernel))
theorem d_MO_text_291 : decode b_MO_text 291 = .ok (.baload, 1) := dc_51 (q0_win (r := 4) wn_MO_text_287 (by decide +kernel))
theorem d_MO_text_292 : decode b_MO_text 292 = .ok (.bastore, 1) := dc_84 (q0_win (r := 5) wn_MO_text_287 (by decide +kernel))
theorem d_MO_text_293 : decode b_MO_text 293 = .ok (.iinc 2 1, 3) := dc_132 (qI_win (r := 6) wn_MO_text_287 (by decide +kernel))
theorem d_MO_text_296 : decode b_MO_text 296 = .ok (.goto (-39), 3) := dc_167 (qS2_win (r := 9) wn_MO_text_287 (by decide +kernel))
theorem d_MO_text_299 : decode b_MO_text 299 = .ok (.aload_n 0, 1) := dc_42 (q0_win (r := 12) wn_MO_text_287 (by decide +kernel))
theorem d_MO_text_300 : decode b_MO_text 300 = .ok (.getfield 35, 3) := dc_180 (qU2_win (r := 13) wn_MO_text_287 (by decide +kernel))
theorem d_MO_text_303 : decode b_MO_text 303 = .ok (.invokestatic 315, 3) := dc_184 (qU2_win (r := 16) wn_MO_text_287 (by decide +kernel))
theorem d_MO_text_306 : decode b_MO_text 306 = .ok (.aload_n 0, 1) := dc_42 (q0_win (r := 19) wn_MO_text_287 (by decide +kernel))
theorem d_MO_text_307 : decode b_MO_text 307 = .ok (.getfield 38, 3) := dc_180 (qU2_win (r := 20) wn_MO_text_287 (by decide +kernel))
theorem d_MO_text_310 : decode b_MO_text 310 = .ok (.invokestatic 315, 3) := dc_184 (qU2_win (r := 23) wn_MO_text_287 (by decide +kernel))
theorem d_MO_text_313 : decode b_MO_text 313 = .ok (.aload_n 0, 1) := dc_42 (q0_win (r := 26) wn_MO_text_287 (by decide +kernel))
theorem d_MO_text_314 : decode b_MO_text 314 = .ok (.getfield 41, 3) := dc_180 (qU2_win (r := 27) wn_MO_text_287 (by decide +kernel))
theorem d_MO_text_317 : decode b_MO_text 317 = .ok (.invokestatic 315, 3) := dc_184 (qU2_win (r := 30) wn_MO_text_287 (by decide +kernel))
theorem d_MO_text_320 : decode b_MO_text 320 = .ok (.aload_n 0, 1) := dc_42 (q0_win (r := 33) wn_MO_text_287 (by decide +kernel))
theorem d_MO_text_321 : decode b_MO_text 321 = .ok (.getfield 44, 3) := dc_180 (qU2_win (r := 34) wn_MO_text_287 (by decide +kernel))
theorem d_MO_text_324 : decode b_MO_text 324 = .ok (.invokestatic 315, 3) := dc_184 (qU2_win (r := 37) wn_MO_text_287 (by decide +kernel))
theorem d_MO_text_327 : decode b_MO_text 327 = .ok (.aload_n 0, 1) := dc_42 (q0_win (r := 40) wn_MO_text_287 (by decide +kernel))
theorem d_MO_text_328 : decode b_MO_text 328 = .ok (.getfield 47, 3) := dc_180 (qU2_win (r := 41) wn_MO_text_287 (by decide +kernel))
theorem d_MO_text_331 : decode b_MO_text 331 = .ok (.invokestatic 315, 3) := dc_184 (qU2_win (r := 44) wn_MO_text_287 (by decide +kernel))
theorem d_MO_text_334 : decode b_MO_text 334 = .ok (.aload_n 0, 1) := dc_42 (q0_win (r := 47) wn_MO_text_287 (by decide +kernel))
theorem d_MO_text_335 : decode b_MO_text 335 = .ok (.getfield 50, 3) := dc_180 (qU2_win (r := 48) wn_MO_text_287 (by decide +kernel))
theorem d_MO_text_338 : decode b_MO_text 338 = .ok (.invokestatic 315, 3) := dc_184 (qU2_win (r := 51) wn_MO_text_287 (by decide +kernel))
theorem d_MO_text_341 : decode b_MO_text 341 = .ok (.aload_n 0, 1) := dc_42 (q0_win (r := 54) wn_MO_text_287 (by decide +kernel))
theorem d_MO_text_342 : decode b_MO_text 342 = .ok (.getfield 53, 3) := dc_180 (qU2_win (r := 55) wn_MO_text_287 (by decide +kernel))
theorem d_MO_text_345 : decode b_MO_text 345 = .ok (.invokestatic 315, 3) := dc_184 (qU2_win (r := 58) wn_MO_text_287 (by decide +kernel))
theorem d_MO_text_348 : decode b_MO_text 348 = .ok (.aload_n 0, 1) := dc_42 (q0_win (r := 61) wn_MO_text_287 (by decide +kernel))
theorem d_MO_text_349 : decode b_MO_text 349 = .ok (.iconst 0, 1) := dc_3 (q0_win (r := 62) wn_MO_text_287 (by decide +kernel))
theorem d_MO_text_350 : decode b_MO_text 350 = .ok (.putfield 319, 3) := dc_181 (qU2_win (r := 63) wn_MO_text_287 (by decide +kernel))
theorem d_MO_text_353 : decode b_MO_text 353 = .ok (.aload_n 0, 1) := dc_42 (q0_win (r := 66) wn_MO_text_287 (by decide +kernel))
theorem d_MO_text_354 : decode b_MO_text 354 = .ok (.iconst (-1), 1) := dc_2 (q0_win (r := 67) wn_MO_text_287 (by decide +kernel))
theorem d_MO_text_355 : decode b_MO_text 355 = .ok (.putfield 124, 3) := dc_181 (qU2_win (r := 68) wn_MO_text_287 (by decide +kernel))
theorem d_MO_text_358 : decode b_MO_text 358 = .ok (.aload_n 0, 1) := dc_42 (q0_win (r := 71) wn_MO_text_287 (by decide +kernel))
theorem d_MO_text_359 : decode b_MO_text 359 = .ok (.iconst 0, 1) := dc_3 (q0_win (r := 72) wn_MO_text_287 (by decide +kernel))
theorem d_MO_text_360 : decode b_MO_text 360 = .ok (.putfield 322, 3) := dc_181 (qU2_win (r := 73) wn_MO_text_287 (by decide +kernel))
theorem d_MO_text_363 : decode b_MO_text 363 = .ok (.aload_n 0, 1) := dc_42 (q0_win (r := 76) wn_MO_text_287 (by decide +kernel))
theorem d_MO_text_364 : decode b_MO_text 364 = .ok (.iconst 0, 1) := dc_3 (q0_win (r := 77) wn_MO_text_287 (by decide +kernel))
theorem d_MO_text_365 : decode b_MO_text 365 = .ok (.putfield 326, 3) := dc_181 (qU2_win (r := 78) wn_MO_text_287 (by decide +kernel))
theorem d_MO_text_368 : decode b_MO_text 368 = .ok (.aload_n 0, 1) := dc_42 (q0_win (r := 81) wn_MO_text_287 (by decide +kernel))
theorem d_MO_text_369 : decode b_MO_text 369 = .ok (.invokevirtual 142, 3) := dc_182 (qU2_win (r := 82) wn_MO_text_287 (by decide +kernel))
theorem d_MO_text_372 : decode b_MO_text 372 = .ok (.aload_n 0, 1) := dc_42 (q0_win (r := 85) wn_MO_text_287 (by decide +kernel))
theorem d_MO_text_373 : decode b_MO_text 373 = .ok (.getfield 263, 3) := dc_180 (qU2_win (r := 86) wn_MO_text_287 (by decide +kernel))
theorem d_MO_text_376 : decode b_MO_text 376 = .ok (.ireturn, 1) := dc_172 (q0_win (r := 89) wn_MO_text_287 (by decide +kernel))
def t_MO_text_L69 (x1 : Int) (bk47 : Mem → Int → Option (Mem × Int)) (M : Mem) (v1_ : Int) (v3_ : Int) (v4_ : Int) : Option (Mem × Int) := (obind (t_MO_reads M v3_ v4_) fun q20 => (bk47 q20 (w32 (v1_ + 1))))
def t_MO_text_L64 (x1 : Int) (bk47 : Mem → Int → Option (Mem × Int)) (M : Mem) (v1_ : Int) (v3_ : Int) : Option (Mem × Int) := (t_MO_text_L69 x1 bk47 M v1_ v3_ 4)
def t_MO_text_L257 (x1 : Int)  : Nat → Mem → Int → Option (Mem × Int)
  | 0, _, _ => none
  | fu + 1, M, v1_ => (if 48 ≤ v1_ then (obind (t_MO_half M 200 16) fun q56 => (obind (t_MO_half q56 201 16) fun q58 => (obind (t_MO_half q58 202 16) fun q60 => (obind (t_MO_half q60 203 4) fun q62 => (obind (t_MO_half q62 204 4) fun q64 => (obind (t_MO_half q64 205 128) fun q66 => (obind (t_MO_half q66 206 128) fun q68 => (qlet (setI q68 191 60 0) fun M70 => (qlet (setI M70 191 61 (-1)) fun M71 => (qlet (setI M71 191 42 0) fun M72 => (qlet (setI M72 191 43 0) fun M73 => (obind (t_MO_begins M73) fun q74 => (some (q74, (q74.1 191 18))))))))))))))) else (qguard (0 ≤ (w32 (48 + v1_)) ∧ (w32 (48 + v1_)) < 96) (qguard (0 ≤ v1_ ∧ v1_ < 96) (qlet (setI M 198 v1_ (M.1 198 (w32 (48 + v1_)))) fun M80 => (qguard (0 ≤ (w32 (48 + v1_)) ∧ (w32 (48 + v1_)) < 96) (qguard (0 ≤ v1_ ∧ v1_ < 96) (qlet (setI M80 199 v1_ (M80.1 199 (w32 (48 + v1_)))) fun M84 => (t_MO_text_L257 x1 fu M84 (w32 (v1_ + 1))))))))))
def t_MO_text_L195 (x1 : Int)  (M : Mem)  : Option (Mem × Int) := (qlet (setI M 191 26 (M.1 191 24)) fun M40 => (qlet (setI M40 191 27 (M40.1 191 25)) fun M42 => (if (M42.1 191 24) = 0 then (obind (t_MO_half M42 193 18) fun q45 => (obind (t_MO_half q45 194 8) fun q47 => (obind (t_MO_half q47 195 8) fun q49 => (obind (t_MO_half q49 196 8) fun q51 => (obind (t_MO_half q51 197 96) fun q53 => (t_MO_text_L257 x1 FU q53 0)))))) else (some (M42, (-1))))))
def t_MO_text_L173 (x1 : Int)  : Nat → Mem → Option (Mem × Int)
  | 0, _ => none
  | fu + 1, M => (if (M.1 191 24) = 0 then (if (M.1 191 22) = 4 then (t_MO_text_L195 x1 M) else (obind (t_MO_line M) fun q37 => (t_MO_text_L173 x1 fu q37))) else (t_MO_text_L195 x1 M))
def t_MO_text_L124 (x1 : Int)  : Nat → Mem → Int → Option (Mem × Int)
  | 0, _, _ => none
  | fu + 1, M, v1_ => (if 4 ≤ v1_ then (qlet (setI M 191 17 0) fun M23 => (qlet (setI M23 191 18 0) fun M24 => (qlet (setI M24 191 28 0) fun M25 => (qlet (setI M25 191 29 0) fun M26 => (obind (t_MO_token M26) fun q27 => (t_MO_text_L173 x1 FU q27)))))) else (qguard (0 ≤ v1_ ∧ v1_ < 4) (qlet (setI M 203 v1_ 0) fun M30 => (qguard (0 ≤ v1_ ∧ v1_ < 4) (qlet (setI M30 204 v1_ 0) fun M32 => (t_MO_text_L124 x1 fu M32 (w32 (v1_ + 1))))))))
def t_MO_text_L80 (x1 : Int)  : Nat → Mem → Int → Option (Mem × Int)
  | 0, _, _ => none
  | fu + 1, M, v1_ => (if 48 ≤ v1_ then (t_MO_text_L124 x1 FU M 2) else (qguard (0 ≤ (w32 (48 + v1_)) ∧ (w32 (48 + v1_)) < 96) (qlet (setI M 197 (w32 (48 + v1_)) 0) fun M15 => (qguard (0 ≤ (w32 (48 + v1_)) ∧ (w32 (48 + v1_)) < 96) (qlet (setI M15 198 (w32 (48 + v1_)) 0) fun M17 => (qguard (0 ≤ (w32 (48 + v1_)) ∧ (w32 (48 + v1_)) < 96) (qlet (setI M17 199 (w32 (48 + v1_)) 0) fun M19 => (t_MO_text_L80 x1 fu M19 (w32 (v1_ + 1))))))))))
def t_MO_text_L47 (x1 : Int)  : Nat → Mem → Int → Option (Mem × Int)
  | 0, _, _ => none
  | fu + 1, M, v1_ => (if 9 ≤ v1_ then (t_MO_text_L80 x1 FU M 0) else (if v1_ = 0 then (t_MO_text_L64 x1 (fun a0_ a1_ => t_MO_text_L47 x1 fu a0_ a1_) M v1_ v1_) else (if v1_ = 1 then (t_MO_text_L64 x1 (fun a0_ a1_ => t_MO_text_L47 x1 fu a0_ a1_) M v1_ v1_) else (t_MO_text_L69 x1 (fun a0_ a1_ => t_MO_text_L47 x1 fu a0_ a1_) M v1_ v1_ 0))))
def t_MO_text (M : Mem) (x1 : Int) : Option (Mem × Int) := (qlet (setI M 191 0 0) fun M1 => (if x1 < 0 then (some (M1, (-2))) else (if x1 ≤ (M1.1 191 2) then (qlet (setI M1 191 19 x1) fun M5 => (qlet (setI M5 191 2 0) fun M6 => (qlet (setI M6 191 20 0) fun M7 => (qlet (setI M7 191 24 0) fun M8 => (qlet (setI M8 191 25 (-1)) fun M9 => (t_MO_text_L47 x1 FU M9 0)))))) else (some (M1, (-2))))))
set_option maxHeartbeats 4000000 in
set_option maxRecDepth 100000 in
theorem k_MO_text_L69 (l : Launch) {p : Program} {e : Env} {s : State} {m : MethodId} {below : List Frame} {meth : Method} {c : Code} {b n : Nat} {C : CT} (hlo : 231 ≤ n) (x1 : Int) (hx1 : InR x1) (F : Cx b p m c b_MO_text 3 s ([.ref (b + 191), vI x1] : List Value).toArray "WardFallsModel" C n 231) (hlk : meth.locks = false) (hr : meth.sig.returnType = some .int) {res : Mem × Int} (bk47 : Mem → Int → Option (Mem × Int)) (hbk47 : ∀ (M : Mem) (v1_ : Int) (hv1_ : InR v1_) (H : Heap) (locs : List Loc) (ls : Array Slot), St b C n M s H locs → lv_has ls 3 [(0, .ref (b + 191)), (2, vI v1_)] → bk47 M v1_ = some res → W p l e (headSpec (wsM y_MO_text b_MO_text 3 (some .int)) (rmD 243)).room s m ([.ref (b + 191), vI x1] : List Value).toArray below meth c H locs 0 0 (MQ below (QI b C n res.1 res.2) ([.ref (b + 191), vI x1] : List Value).toArray s 0 0 (frb b)) (F0 m 47 ls [])) (M : Mem) (v1_ : Int) (hv1_ : InR v1_) (v3_ : Int) (hv3_ : InR v3_) (v4_ : Int) (hv4_ : InR v4_) (H : Heap) (locs : List Loc) (ls : Array Slot) (hS : St b C n M s H locs) (hl : lv_has ls 3 [(0, .ref (b + 191)), (2, vI v1_)]) (hT : t_MO_text_L69 x1 bk47 M v1_ v3_ v4_ = some res) : W p l e (headSpec (wsM y_MO_text b_MO_text 3 (some .int)) (rmD 243)).room s m ([.ref (b + 191), vI x1] : List Value).toArray below meth c H locs 0 0 (MQ below (QI b C n res.1 res.2) ([.ref (b + 191), vI x1] : List Value).toArray s 0 0 (frb b)) (F0 m 69 ls [vI v4_, vI v3_, .ref (b + 191)]) := by
  unfold t_MO_text_L69 at hT
  obtain ⟨q20, hq20, hT⟩ := q_obind hT
  refine r_backV F hS (r_runV (k := 191) (N := 68) (T := T1) (As := [vI v3_, vI v4_]) F hS (show 191 < 231 by decide) (show shK 191 = 5 from rfl) rfl (c_MO_reads l F.2.2.1 M v3_ v4_ hv3_ hv4_ _ hq20) gs_MO_238 hd_MO_reads ⟨Nat.le_of_ble_eq_true rfl, Nat.le_of_ble_eq_true rfl⟩ rfl hl.1 (Nat.le_of_ble_eq_true rfl) ⟨Nat.zero_le _, Nat.zero_le _⟩ rfl d_MO_text_69) (fun H locs hS => ?_)
  refine lv_iinc (v := Int32.ofInt (w32 (v1_ + 1))) (lv' := [(2, vI (w32 (v1_ + 1))), (0, .ref (b + 191))]) F.hx F.hb d_MO_text_72 hl (k := 1) rfl (q_of_add _ _) (Nat.le_of_ble_eq_true rfl) rfl (fun ls hl => ?_)
  refine lv_goto (tgt := 47) F.hx F.hb d_MO_text_75 (by decide) ?_
  exact hbk47 q20 (w32 (v1_ + 1)) (inr_w32 _) _ _ _ hS (lv_sub hl [1, 0] rfl) hT
set_option maxHeartbeats 4000000 in
set_option maxRecDepth 100000 in
theorem k_MO_text_L64 (l : Launch) {p : Program} {e : Env} {s : State} {m : MethodId} {below : List Frame} {meth : Method} {c : Code} {b n : Nat} {C : CT} (hlo : 231 ≤ n) (x1 : Int) (hx1 : InR x1) (F : Cx b p m c b_MO_text 3 s ([.ref (b + 191), vI x1] : List Value).toArray "WardFallsModel" C n 231) (hlk : meth.locks = false) (hr : meth.sig.returnType = some .int) {res : Mem × Int} (bk47 : Mem → Int → Option (Mem × Int)) (hbk47 : ∀ (M : Mem) (v1_ : Int) (hv1_ : InR v1_) (H : Heap) (locs : List Loc) (ls : Array Slot), St b C n M s H locs → lv_has ls 3 [(0, .ref (b + 191)), (2, vI v1_)] → bk47 M v1_ = some res → W p l e (headSpec (wsM y_MO_text b_MO_text 3 (some .int)) (rmD 243)).room s m ([.ref (b + 191), vI x1] : List Value).toArray below meth c H locs 0 0 (MQ below (QI b C n res.1 res.2) ([.ref (b + 191), vI x1] : List Value).toArray s 0 0 (frb b)) (F0 m 47 ls [])) (M : Mem) (v1_ : Int) (hv1_ : InR v1_) (v3_ : Int) (hv3_ : InR v3_) (H : Heap) (locs : List Loc) (ls : Array Slot) (hS : St b C n M s H locs) (hl : lv_has ls 3 [(0, .ref (b + 191)), (2, vI v1_)]) (hT : t_MO_text_L64 x1 bk47 M v1_ v3_ = some res) : W p l e (headSpec (wsM y_MO_text b_MO_text 3 (some .int)) (rmD 243)).room s m ([.ref (b + 191), vI x1] : List Value).toArray below meth c H locs 0 0 (MQ below (QI b C n res.1 res.2) ([.ref (b + 191), vI x1] : List Value).toArray s 0 0 (frb b)) (F0 m 64 ls [vI v3_, .ref (b + 191)]) := by
  unfold t_MO_text_L64 at hT
  refine r_iconst F.hx F.hb d_MO_text_64 ?_
  refine lv_goto (tgt := 69) F.hx F.hb d_MO_text_65 (by decide) ?_
  exact k_MO_text_L69 l hlo x1 hx1 F hlk hr bk47 hbk47 M v1_ hv1_ v3_ hv3_ 4 (inr_c rfl) _ _ _ hS (lv_sub hl [0, 1] rfl) hT
set_option maxHeartbeats 4000000 in
set_option maxRecDepth 100000 in
theorem k_MO_text_L257 (l : Launch) {p : Program} {e : Env} {s : State} {m : MethodId} {below : List Frame} {meth : Method} {c : Code} {b n : Nat} {C : CT} (hlo : 231 ≤ n) (x1 : Int) (hx1 : InR x1) (F : Cx b p m c b_MO_text 3 s ([.ref (b + 191), vI x1] : List Value).toArray "WardFallsModel" C n 231) (hlk : meth.locks = false) (hr : meth.sig.returnType = some .int) {res : Mem × Int} : ∀ (fu : Nat) (M : Mem) (v1_ : Int) (hv1_ : InR v1_) (H : Heap) (locs : List Loc) (ls : Array Slot), St b C n M s H locs → lv_has ls 3 [(0, .ref (b + 191)), (2, vI v1_)] → t_MO_text_L257 x1 fu M v1_ = some res → W p l e (headSpec (wsM y_MO_text b_MO_text 3 (some .int)) (rmD 243)).room s m ([.ref (b + 191), vI x1] : List Value).toArray below meth c H locs 0 0 (MQ below (QI b C n res.1 res.2) ([.ref (b + 191), vI x1] : List Value).toArray s 0 0 (frb b)) (F0 m 257 ls []) := by
  intro fu
  induction fu with
  | zero => intro M v1_ hv1_ H locs ls hS hl hT; exact absurd hT (by simp [t_MO_text_L257])
  | succ fu ih =>
    intro M v1_ hv1_ H locs ls hS hl hT
    rw [t_MO_text_L257] at hT
    refine lv_iload_n F.hx F.hb d_MO_text_257 rfl (lv_at hl 1 rfl) ?_
    refine r_bipush F.hx F.hb d_MO_text_258 rfl ?_
    refine r_icmp_ge (tgt := 299) F.hx F.hb hv1_ (inr_c rfl) d_MO_text_260 (by decide) (fun c55 => ?_) (fun c55 => ?_)
    · replace hT := (if_pos c55).symm.trans hT
      refine lv_aload_n F.hx F.hb d_MO_text_299 rfl (lv_at hl 0 rfl) ?_
      refine r_get (v := .ref (b + 200)) (N := 68) (T := T1) (j := 10) F hS (show 191 < 231 by decide) (show shK 191 = 5 from rfl) (show shN 191 = 68 from rfl) rfl (Nat.le_of_ble_eq_true rfl) ing1 mw_1399 (fv_sg rfl rfl rfl) d_MO_text_300 ?_
      obtain ⟨q56, hq56, hT⟩ := q_obind hT
      refine r_backV F hS (r_runS (As := [.ref (b + 200)]) F hS (c_MO_half l F.2.2.1 M 200 16 (show arrP 0 200 16 231 from ⟨rfl, rfl, by decide⟩) _ hq56) gs_MO_315 hd_MO_half ⟨Nat.le_of_ble_eq_true rfl, Nat.le_of_ble_eq_true rfl⟩ rfl hl.1 (Nat.le_of_ble_eq_true rfl) ⟨Nat.zero_le _, Nat.zero_le _⟩ rfl d_MO_text_303) (fun H locs hS => ?_)
      refine lv_aload_n F.hx F.hb d_MO_text_306 rfl (lv_at hl 0 rfl) ?_
      refine r_get (v := .ref (b + 201)) (N := 68) (T := T1) (j := 11) F hS (show 191 < 231 by decide) (show shK 191 = 5 from rfl) (show shN 191 = 68 from rfl) rfl (Nat.le_of_ble_eq_true rfl) ing1 mw_1400 (fv_sg rfl rfl rfl) d_MO_text_307 ?_
      obtain ⟨q58, hq58, hT⟩ := q_obind hT
      refine r_backV F hS (r_runS (As := [.ref (b + 201)]) F hS (c_MO_half l F.2.2.1 q56 201 16 (show arrP 0 201 16 231 from ⟨rfl, rfl, by decide⟩) _ hq58) gs_MO_315 hd_MO_half ⟨Nat.le_of_ble_eq_true rfl, Nat.le_of_ble_eq_true rfl⟩ rfl hl.1 (Nat.le_of_ble_eq_true rfl) ⟨Nat.zero_le _, Nat.zero_le _⟩ rfl d_MO_text_310) (fun H locs hS => ?_)
      refine lv_aload_n F.hx F.hb d_MO_text_313 rfl (lv_at hl 0 rfl) ?_
      refine r_get (v := .ref (b + 202)) (N := 68) (T := T1) (j := 12) F hS (show 191 < 231 by decide) (show shK 191 = 5 from rfl) (show shN 191 = 68 from rfl) rfl (Nat.le_of_ble_eq_true rfl) ing1 mw_1401 (fv_sg rfl rfl rfl) d_MO_text_314 ?_
      obtain ⟨q60, hq60, hT⟩ := q_obind hT
      refine r_backV F hS (r_runS (As := [.ref (b + 202)]) F hS (c_MO_half l F.2.2.1 q58 202 16 (show arrP 0 202 16 231 from ⟨rfl, rfl, by decide⟩) _ hq60) gs_MO_315 hd_MO_half ⟨Nat.le_of_ble_eq_true rfl, Nat.le_of_ble_eq_true rfl⟩ rfl hl.1 (Nat.le_of_ble_eq_true rfl) ⟨Nat.zero_le _, Nat.zero_le _⟩ rfl d_MO_text_317) (fun H locs hS => ?_)
      refine lv_aload_n F.hx F.hb d_MO_text_320 rfl (lv_at hl 0 rfl) ?_
      refine r_get (v := .ref (b + 203)) (N := 68) (T := T1) (j := 13) F hS (show 191 < 231 by decide) (show shK 191 = 5 from rfl) (show shN 191 = 68 from rfl) rfl (Nat.le_of_ble_eq_true rfl) ing1 mw_1402 (fv_sg rfl rfl rfl) d_MO_text_321 ?_
      obtain ⟨q62, hq62, hT⟩ := q_obind hT
      refine r_backV F hS (r_runS (As := [.ref (b + 203)]) F hS (c_MO_half l F.2.2.1 q60 203 4 (show arrP 0 203 4 231 from ⟨rfl, rfl, by decide⟩) _ hq62) gs_MO_315 hd_MO_half ⟨Nat.le_of_ble_eq_true rfl, Nat.le_of_ble_eq_true rfl⟩ rfl hl.1 (Nat.le_of_ble_eq_true rfl) ⟨Nat.zero_le _, Nat.zero_le _⟩ rfl d_MO_text_324) (fun H locs hS => ?_)
      refine lv_aload_n F.hx F.hb d_MO_text_327 rfl (lv_at hl 0 rfl) ?_
      refine r_get (v := .ref (b + 204)) (N := 68) (T := T1) (j := 14) F hS (show 191 < 231 by decide) (show shK 191 = 5 from rfl) (show shN 191 = 68 from rfl) rfl (Nat.le_of_ble_eq_true rfl) ing1 mw_1403 (fv_sg rfl rfl rfl) d_MO_text_328 ?_
      obtain ⟨q64, hq64, hT⟩ := q_obind hT
      refine r_backV F hS (r_runS (As := [.ref (b + 204)]) F hS (c_MO_half l F.2.2.1 q62 204 4 (show arrP 0 204 4 231 from ⟨rfl, rfl, by decide⟩) _ hq64) gs_MO_315 hd_MO_half ⟨Nat.le_of_ble_eq_true rfl, Nat.le_of_ble_eq_true rfl⟩ rfl hl.1 (Nat.le_of_ble_eq_true rfl) ⟨Nat.zero_le _, Nat.zero_le _⟩ rfl d_MO_text_331) (fun H locs hS => ?_)
      refine lv_aload_n F.hx F.hb d_MO_text_334 rfl (lv_at hl 0 rfl) ?_
      refine r_get (v := .ref (b + 205)) (N := 68) (T := T1) (j := 15) F hS (show 191 < 231 by decide) (show shK 191 = 5 from rfl) (show shN 191 = 68 from rfl) rfl (Nat.le_of_ble_eq_true rfl) ing1 mw_1404 (fv_sg rfl rfl rfl) d_MO_text_335 ?_
      obtain ⟨q66, hq66, hT⟩ := q_obind hT
      refine r_backV F hS (r_runS (As := [.ref (b + 205)]) F hS (c_MO_half l F.2.2.1 q64 205 128 (show arrP 0 205 128 231 from ⟨rfl, rfl, by decide⟩) _ hq66) gs_MO_315 hd_MO_half ⟨Nat.le_of_ble_eq_true rfl, Nat.le_of_ble_eq_true rfl⟩ rfl hl.1 (Nat.le_of_ble_eq_true rfl) ⟨Nat.zero_le _, Nat.zero_le _⟩ rfl d_MO_text_338) (fun H locs hS => ?_)
      refine lv_aload_n F.hx F.hb d_MO_text_341 rfl (lv_at hl 0 rfl) ?_
      refine r_get (v := .ref (b + 206)) (N := 68) (T := T1) (j := 16) F hS (show 191 < 231 by decide) (show shK 191 = 5 from rfl) (show shN 191 = 68 from rfl) rfl (Nat.le_of_ble_eq_true rfl) ing1 mw_1405 (fv_sg rfl rfl rfl) d_MO_text_342 ?_
      obtain ⟨q68, hq68, hT⟩ := q_obind hT
      refine r_backV F hS (r_runS (As := [.ref (b + 206)]) F hS (c_MO_half l F.2.2.1 q66 206 128 (show arrP 0 206 128 231 from ⟨rfl, rfl, by decide⟩) _ hq68) gs_MO_315 hd_MO_half ⟨Nat.le_of_ble_eq_true rfl, Nat.le_of_ble_eq_true rfl⟩ rfl hl.1 (Nat.le_of_ble_eq_true rfl) ⟨Nat.zero_le _, Nat.zero_le _⟩ rfl d_MO_text_345) (fun H locs hS => ?_)
      refine lv_aload_n F.hx F.hb d_MO_text_348 rfl (lv_at hl 0 rfl) ?_
      refine r_iconst F.hx F.hb d_MO_text_349 ?_
      refine r_putI (N := 68) (T := T1) (j := 60) F hS (show 191 < 231 by decide) (show shK 191 = 5 from rfl) (show shN 191 = 68 from rfl) rfl (Nat.le_of_ble_eq_true rfl) ing1 tyok1 nm1 rfl rfl rfl rfl rfl rfl mw_1449 (inr_c rfl) d_MO_text_350 (fun H locs hS => ?_)
      obtain ⟨M70, eM70⟩ : ∃ q, q = (setI q68 191 60 0) := ⟨_, rfl⟩
      replace hS : St b C n M70 s H locs := by rw [eM70]; exact hS
      replace hT := qlet_eq hT eM70
      refine lv_aload_n F.hx F.hb d_MO_text_353 rfl (lv_at hl 0 rfl) ?_
      refine r_iconst F.hx F.hb d_MO_text_354 ?_
      refine r_putI (N := 68) (T := T1) (j := 61) F hS (show 191 < 231 by decide) (show shK 191 = 5 from rfl) (show shN 191 = 68 from rfl) rfl (Nat.le_of_ble_eq_true rfl) ing1 tyok1 nm1 rfl rfl rfl rfl rfl rfl mw_1450 (inr_c rfl) d_MO_text_355 (fun H locs hS => ?_)
      obtain ⟨M71, eM71⟩ : ∃ q, q = (setI M70 191 61 (-1)) := ⟨_, rfl⟩
      replace hS : St b C n M71 s H locs := by rw [eM71]; exact hS
      replace hT := qlet_eq hT eM71
      refine lv_aload_n F.hx F.hb d_MO_text_358 rfl (lv_at hl 0 rfl) ?_
      refine r_iconst F.hx F.hb d_MO_text_359 ?_
      refine r_putI (N := 68) (T := T1) (j := 42) F hS (show 191 < 231 by decide) (show shK 191 = 5 from rfl) (show shN 191 = 68 from rfl) rfl (Nat.le_of_ble_eq_true rfl) ing1 tyok1 nm1 rfl rfl (nar_z (Or.inl rfl)) (fit_z (Or.inl rfl)) rfl rfl mw_1431 (inr_c rfl) d_MO_text_360 (fun H locs hS => ?_)
      obtain ⟨M72, eM72⟩ : ∃ q, q = (setI M71 191 42 0) := ⟨_, rfl⟩
      replace hS : St b C n M72 s H locs := by rw [eM72]; exact hS
      replace hT := qlet_eq hT eM72
      refine lv_aload_n F.hx F.hb d_MO_text_363 rfl (lv_at hl 0 rfl) ?_
      refine r_iconst F.hx F.hb d_MO_text_364 ?_
      refine r_putI (N := 68) (T := T1) (j := 43) F hS (show 191 < 231 by decide) (show shK 191 = 5 from rfl) (show shN 191 = 68 from rfl) rfl (Nat.le_of_ble_eq_true rfl) ing1 tyok1 nm1 rfl rfl rfl rfl rfl rfl mw_1432 (inr_c rfl) d_MO_text_365 (fun H locs hS => ?_)
      obtain ⟨M73, eM73⟩ : ∃ q, q = (setI M72 191 43 0) := ⟨_, rfl⟩
      replace hS : St b C n M73 s H locs := by rw [eM73]; exact hS
      replace hT := qlet_eq hT eM73
      refine lv_aload_n F.hx F.hb d_MO_text_368 rfl (lv_at hl 0 rfl) ?_
      obtain ⟨q74, hq74, hT⟩ := q_obind hT
      refine r_backV F hS (r_runV (k := 191) (N := 68) (T := T1) (As := []) F hS (show 191 < 231 by decide) (show shK 191 = 5 from rfl) rfl (c_MO_begins l F.2.2.1 M73 _ hq74) gs_MO_142 hd_MO_begins ⟨Nat.le_of_ble_eq_true rfl, Nat.le_of_ble_eq_true rfl⟩ rfl hl.1 (Nat.le_of_ble_eq_true rfl) ⟨Nat.zero_le _, Nat.zero_le _⟩ rfl d_MO_text_369) (fun H locs hS => ?_)
      refine lv_aload_n F.hx F.hb d_MO_text_372 rfl (lv_at hl 0 rfl) ?_
      refine r_get (v := vI (q74.1 191 18)) (N := 68) (T := T1) (j := 18) F hS (show 191 < 231 by decide) (show shK 191 = 5 from rfl) (show shN 191 = 68 from rfl) rfl (Nat.le_of_ble_eq_true rfl) ing1 mw_1407 (fv_int rfl) d_MO_text_373 ?_
      have i76 := hS.rng 191 18
      cases hT
      exact r_iret F hlk hr rfl hS i76 d_MO_text_376
    · replace hT := (if_neg c55).symm.trans hT
      refine lv_aload_n F.hx F.hb d_MO_text_263 rfl (lv_at hl 0 rfl) ?_
      refine r_get (v := .ref (b + 198)) (N := 68) (T := T1) (j := 8) F hS (show 191 < 231 by decide) (show shK 191 = 5 from rfl) (show shN 191 = 68 from rfl) rfl (Nat.le_of_ble_eq_true rfl) ing1 mw_1397 (fv_sg rfl rfl rfl) d_MO_text_264 ?_
      refine lv_iload_n F.hx F.hb d_MO_text_267 rfl (lv_at hl 1 rfl) ?_
      refine lv_aload_n F.hx F.hb d_MO_text_268 rfl (lv_at hl 0 rfl) ?_
      refine r_get (v := .ref (b + 198)) (N := 68) (T := T1) (j := 8) F hS (show 191 < 231 by decide) (show shK 191 = 5 from rfl) (show shN 191 = 68 from rfl) rfl (Nat.le_of_ble_eq_true rfl) ing1 mw_1397 (fv_sg rfl rfl rfl) d_MO_text_269 ?_
      refine r_bipush F.hx F.hb d_MO_text_272 rfl ?_
      refine lv_iload_n F.hx F.hb d_MO_text_274 rfl (lv_at hl 1 rfl) ?_
      refine r_iadd F.hx F.hb d_MO_text_275 ?_
      obtain ⟨⟨g77a, g77b⟩, hT⟩ := q_guard hT
      have z78 := hS.bool (show shK 198 = 1 from rfl) (w32 (48 + v1_))
      refine r_zald F hS (show 198 < 231 by decide) (show shK 198 = 1 from rfl) (show shN 198 = 96 from rfl) (inr_w32 _) g77a g77b d_MO_text_276 ?_
      obtain ⟨⟨g79a, g79b⟩, hT⟩ := q_guard hT
      refine r_zast F hS (show 198 < 231 by decide) (show shK 198 = 1 from rfl) (show shN 198 = 96 from rfl) hv1_ z78 g79a g79b d_MO_text_277 (fun H locs hS => ?_)
      obtain ⟨M80, eM80⟩ : ∃ q, q = (setI M 198 v1_ (M.1 198 (w32 (48 + v1_)))) := ⟨_, rfl⟩
      replace hS : St b C n M80 s H locs := by rw [eM80]; exact hS
      replace hT := qlet_eq hT eM80
      refine lv_aload_n F.hx F.hb d_MO_text_278 rfl (lv_at hl 0 rfl) ?_
      refine r_get (v := .ref (b + 199)) (N := 68) (T := T1) (j := 9) F hS (show 191 < 231 by decide) (show shK 191 = 5 from rfl) (show shN 191 = 68 from rfl) rfl (Nat.le_of_ble_eq_true rfl) ing1 mw_1398 (fv_sg rfl rfl rfl) d_MO_text_279 ?_
      refine lv_iload_n F.hx F.hb d_MO_text_282 rfl (lv_at hl 1 rfl) ?_
      refine lv_aload_n F.hx F.hb d_MO_text_283 rfl (lv_at hl 0 rfl) ?_
      refine r_get (v := .ref (b + 199)) (N := 68) (T := T1) (j := 9) F hS (show 191 < 231 by decide) (show shK 191 = 5 from rfl) (show shN 191 = 68 from rfl) rfl (Nat.le_of_ble_eq_true rfl) ing1 mw_1398 (fv_sg rfl rfl rfl) d_MO_text_284 ?_
      refine r_bipush F.hx F.hb d_MO_text_287 rfl ?_
      refine lv_iload_n F.hx F.hb d_MO_text_289 rfl (lv_at hl 1 rfl) ?_
      refine r_iadd F.hx F.hb d_MO_text_290 ?_
      obtain ⟨⟨g81a, g81b⟩, hT⟩ := q_guard hT
      have z82 := hS.bool (show shK 199 = 1 from rfl) (w32 (48 + v1_))
      refine r_zald F hS (show 199 < 231 by decide) (show shK 199 = 1 from rfl) (show shN 199 = 96 from rfl) (inr_w32 _) g81a g81b d_MO_text_291 ?_
      obtain ⟨⟨g83a, g83b⟩, hT⟩ := q_guard hT
      refine r_zast F hS (show 199 < 231 by decide) (show shK 199 = 1 from rfl) (show shN 199 = 96 from rfl) hv1_ z82 g83a g83b d_MO_text_292 (fun H locs hS => ?_)
      obtain ⟨M84, eM84⟩ : ∃ q, q = (setI M80 199 v1_ (M80.1 199 (w32 (48 + v1_)))) := ⟨_, rfl⟩
      replace hS : St b C n M84 s H locs := by rw [eM84]; exact hS
      replace hT := qlet_eq hT eM84
      refine lv_iinc (v := Int32.ofInt (w32 (v1_ + 1))) (lv' := [(2, vI (w32 (v1_ + 1))), (0, .ref (b + 191))]) F.hx F.hb d_MO_text_293 hl (k := 1) rfl (q_of_add _ _) (Nat.le_of_ble_eq_true rfl) rfl (fun ls hl => ?_)
      refine lv_goto (tgt := 257) F.hx F.hb d_MO_text_296 (by decide) ?_
      exact ih M84 (w32 (v1_ + 1)) (inr_w32 _) _ _ _ hS (lv_sub hl [1, 0] rfl) hT
set_option maxHeartbeats 4000000 in
set_option maxRecDepth 100000 in
theorem k_MO_text_L195 (l : Launch) {p : Program} {e : Env} {s : State} {m : MethodId} {below : List Frame} {meth : Method} {c : Code} {b n : Nat} {C : CT} (hlo : 231 ≤ n) (x1 : Int) (hx1 : InR x1) (F : Cx b p m c b_MO_text 3 s ([.ref (b + 191), vI x1] : List Value).toArray "WardFallsModel" C n 231) (hlk : meth.locks = false) (hr : meth.sig.returnType = some .int) {res : Mem × Int} (M : Mem)  (H : Heap) (locs : List Loc) (ls : Array Slot) (hS : St b C n M s H locs) (hl : lv_has ls 3 [(0, .ref (b + 191))]) (hT : t_MO_text_L195 x1 M = some res) : W p l e (headSpec (wsM y_MO_text b_MO_text 3 (some .int)) (rmD 243)).room s m ([.ref (b + 191), vI x1] : List Value).toArray below meth c H locs 0 0 (MQ below (QI b C n res.1 res.2) ([.ref (b + 191), vI x1] : List Value).toArray s 0 0 (frb b)) (F0 m 195 ls []) := by
  unfold t_MO_text_L195 at hT
  refine lv_aload_n F.hx F.hb d_MO_text_195 rfl (lv_at hl 0 rfl) ?_
  refine lv_aload_n F.hx F.hb d_MO_text_196 rfl (lv_at hl 0 rfl) ?_
  refine r_get (v := vI (M.1 191 24)) (N := 68) (T := T1) (j := 24) F hS (show 191 < 231 by decide) (show shK 191 = 5 from rfl) (show shN 191 = 68 from rfl) rfl (Nat.le_of_ble_eq_true rfl) ing1 mw_1413 (fv_int rfl) d_MO_text_197 ?_
  have i39 := hS.rng 191 24
  refine r_putI (N := 68) (T := T1) (j := 26) F hS (show 191 < 231 by decide) (show shK 191 = 5 from rfl) (show shN 191 = 68 from rfl) rfl (Nat.le_of_ble_eq_true rfl) ing1 tyok1 nm1 rfl rfl rfl rfl rfl rfl mw_1415 i39 d_MO_text_200 (fun H locs hS => ?_)
  obtain ⟨M40, eM40⟩ : ∃ q, q = (setI M 191 26 (M.1 191 24)) := ⟨_, rfl⟩
  replace hS : St b C n M40 s H locs := by rw [eM40]; exact hS
  replace hT := qlet_eq hT eM40
  refine lv_aload_n F.hx F.hb d_MO_text_203 rfl (lv_at hl 0 rfl) ?_
  refine lv_aload_n F.hx F.hb d_MO_text_204 rfl (lv_at hl 0 rfl) ?_
  refine r_get (v := vI (M40.1 191 25)) (N := 68) (T := T1) (j := 25) F hS (show 191 < 231 by decide) (show shK 191 = 5 from rfl) (show shN 191 = 68 from rfl) rfl (Nat.le_of_ble_eq_true rfl) ing1 mw_1414 (fv_int rfl) d_MO_text_205 ?_
  have i41 := hS.rng 191 25
  refine r_putI (N := 68) (T := T1) (j := 27) F hS (show 191 < 231 by decide) (show shK 191 = 5 from rfl) (show shN 191 = 68 from rfl) rfl (Nat.le_of_ble_eq_true rfl) ing1 tyok1 nm1 rfl rfl rfl rfl rfl rfl mw_1416 i41 d_MO_text_208 (fun H locs hS => ?_)
  obtain ⟨M42, eM42⟩ : ∃ q, q = (setI M40 191 27 (M40.1 191 25)) := ⟨_, rfl⟩
  replace hS : St b C n M42 s H locs := by rw [eM42]; exact hS
  replace hT := qlet_eq hT eM42
  refine lv_aload_n F.hx F.hb d_MO_text_211 rfl (lv_at hl 0 rfl) ?_
  refine r_get (v := vI (M42.1 191 24)) (N := 68) (T := T1) (j := 24) F hS (show 191 < 231 by decide) (show shK 191 = 5 from rfl) (show shN 191 = 68 from rfl) rfl (Nat.le_of_ble_eq_true rfl) ing1 mw_1413 (fv_int rfl) d_MO_text_212 ?_
  have i43 := hS.rng 191 24
  refine r_if_eq (tgt := 220) F.hx F.hb i43 d_MO_text_215 (by decide) (fun c44 => ?_) (fun c44 => ?_)
  · replace hT := (if_pos c44).symm.trans hT
    refine lv_aload_n F.hx F.hb d_MO_text_220 rfl (lv_at hl 0 rfl) ?_
    refine r_get (v := .ref (b + 193)) (N := 68) (T := T1) (j := 3) F hS (show 191 < 231 by decide) (show shK 191 = 5 from rfl) (show shN 191 = 68 from rfl) rfl (Nat.le_of_ble_eq_true rfl) ing1 mw_1392 (fv_sg rfl rfl rfl) d_MO_text_221 ?_
    obtain ⟨q45, hq45, hT⟩ := q_obind hT
    refine r_backV F hS (r_runS (As := [.ref (b + 193)]) F hS (c_MO_half l F.2.2.1 M42 193 18 (show arrP 0 193 18 231 from ⟨rfl, rfl, by decide⟩) _ hq45) gs_MO_315 hd_MO_half ⟨Nat.le_of_ble_eq_true rfl, Nat.le_of_ble_eq_true rfl⟩ rfl hl.1 (Nat.le_of_ble_eq_true rfl) ⟨Nat.zero_le _, Nat.zero_le _⟩ rfl d_MO_text_224) (fun H locs hS => ?_)
    refine lv_aload_n F.hx F.hb d_MO_text_227 rfl (lv_at hl 0 rfl) ?_
    refine r_get (v := .ref (b + 194)) (N := 68) (T := T1) (j := 4) F hS (show 191 < 231 by decide) (show shK 191 = 5 from rfl) (show shN 191 = 68 from rfl) rfl (Nat.le_of_ble_eq_true rfl) ing1 mw_1393 (fv_sg rfl rfl rfl) d_MO_text_228 ?_
    obtain ⟨q47, hq47, hT⟩ := q_obind hT
    refine r_backV F hS (r_runS (As := [.ref (b + 194)]) F hS (c_MO_half l F.2.2.1 q45 194 8 (show arrP 0 194 8 231 from ⟨rfl, rfl, by decide⟩) _ hq47) gs_MO_315 hd_MO_half ⟨Nat.le_of_ble_eq_true rfl, Nat.le_of_ble_eq_true rfl⟩ rfl hl.1 (Nat.le_of_ble_eq_true rfl) ⟨Nat.zero_le _, Nat.zero_le _⟩ rfl d_MO_text_231) (fun H locs hS => ?_)
    refine lv_aload_n F.hx F.hb d_MO_text_234 rfl (lv_at hl 0 rfl) ?_
    refine r_get (v := .ref (b + 195)) (N := 68) (T := T1) (j := 5) F hS (show 191 < 231 by decide) (show shK 191 = 5 from rfl) (show shN 191 = 68 from rfl) rfl (Nat.le_of_ble_eq_true rfl) ing1 mw_1394 (fv_sg rfl rfl rfl) d_MO_text_235 ?_
    obtain ⟨q49, hq49, hT⟩ := q_obind hT
    refine r_backV F hS (r_runS (As := [.ref (b + 195)]) F hS (c_MO_half l F.2.2.1 q47 195 8 (show arrP 0 195 8 231 from ⟨rfl, rfl, by decide⟩) _ hq49) gs_MO_315 hd_MO_half ⟨Nat.le_of_ble_eq_true rfl, Nat.le_of_ble_eq_true rfl⟩ rfl hl.1 (Nat.le_of_ble_eq_true rfl) ⟨Nat.zero_le _, Nat.zero_le _⟩ rfl d_MO_text_238) (fun H locs hS => ?_)
    refine lv_aload_n F.hx F.hb d_MO_text_241 rfl (lv_at hl 0 rfl) ?_
    refine r_get (v := .ref (b + 196)) (N := 68) (T := T1) (j := 6) F hS (show 191 < 231 by decide) (show shK 191 = 5 from rfl) (show shN 191 = 68 from rfl) rfl (Nat.le_of_ble_eq_true rfl) ing1 mw_1395 (fv_sg rfl rfl rfl) d_MO_text_242 ?_
    obtain ⟨q51, hq51, hT⟩ := q_obind hT
    refine r_backV F hS (r_runS (As := [.ref (b + 196)]) F hS (c_MO_half l F.2.2.1 q49 196 8 (show arrP 0 196 8 231 from ⟨rfl, rfl, by decide⟩) _ hq51) gs_MO_315 hd_MO_half ⟨Nat.le_of_ble_eq_true rfl, Nat.le_of_ble_eq_true rfl⟩ rfl hl.1 (Nat.le_of_ble_eq_true rfl) ⟨Nat.zero_le _, Nat.zero_le _⟩ rfl d_MO_text_245) (fun H locs hS => ?_)
    refine lv_aload_n F.hx F.hb d_MO_text_248 rfl (lv_at hl 0 rfl) ?_
    refine r_get (v := .ref (b + 197)) (N := 68) (T := T1) (j := 7) F hS (show 191 < 231 by decide) (show shK 191 = 5 from rfl) (show shN 191 = 68 from rfl) rfl (Nat.le_of_ble_eq_true rfl) ing1 mw_1396 (fv_sg rfl rfl rfl) d_MO_text_249 ?_
    obtain ⟨q53, hq53, hT⟩ := q_obind hT
    refine r_backV F hS (r_runS (As := [.ref (b + 197)]) F hS (c_MO_half l F.2.2.1 q51 197 96 (show arrP 0 197 96 231 from ⟨rfl, rfl, by decide⟩) _ hq53) gs_MO_315 hd_MO_half ⟨Nat.le_of_ble_eq_true rfl, Nat.le_of_ble_eq_true rfl⟩ rfl hl.1 (Nat.le_of_ble_eq_true rfl) ⟨Nat.zero_le _, Nat.zero_le _⟩ rfl d_MO_text_252) (fun H locs hS => ?_)
    refine r_iconst F.hx F.hb d_MO_text_255 ?_
    refine lv_istore_n (lv' := [(2, vI 0), (0, .ref (b + 191))]) F.hx F.hb d_MO_text_256 rfl hl (Nat.le_of_ble_eq_true rfl) rfl (fun ls hl => ?_)
    exact k_MO_text_L257 l hlo x1 hx1 F hlk hr FU q53 0 (inr_c rfl) _ _ _ hS (lv_sub hl [1, 0] rfl) hT
  · replace hT := (if_neg c44).symm.trans hT
    refine r_iconst F.hx F.hb d_MO_text_218 ?_
    cases hT
    exact r_iret F hlk hr rfl hS (inr_c rfl) d_MO_text_219
set_option maxHeartbeats 4000000 in
set_option maxRecDepth 100000 in
theorem k_MO_text_L173 (l : Launch) {p : Program} {e : Env} {s : State} {m : MethodId} {below : List Frame} {meth : Method} {c : Code} {b n : Nat} {C : CT} (hlo : 231 ≤ n) (x1 : Int) (hx1 : InR x1) (F : Cx b p m c b_MO_text 3 s ([.ref (b + 191), vI x1] : List Value).toArray "WardFallsModel" C n 231) (hlk : meth.locks = false) (hr : meth.sig.returnType = some .int) {res : Mem × Int} : ∀ (fu : Nat) (M : Mem)  (H : Heap) (locs : List Loc) (ls : Array Slot), St b C n M s H locs → lv_has ls 3 [(0, .ref (b + 191))] → t_MO_text_L173 x1 fu M = some res → W p l e (headSpec (wsM y_MO_text b_MO_text 3 (some .int)) (rmD 243)).room s m ([.ref (b + 191), vI x1] : List Value).toArray below meth c H locs 0 0 (MQ below (QI b C n res.1 res.2) ([.ref (b + 191), vI x1] : List Value).toArray s 0 0 (frb b)) (F0 m 173 ls []) := by
  intro fu
  induction fu with
  | zero => intro M  H locs ls hS hl hT; exact absurd hT (by simp [t_MO_text_L173])
  | succ fu ih =>
    intro M  H locs ls hS hl hT
    rw [t_MO_text_L173] at hT
    refine lv_aload_n F.hx F.hb d_MO_text_173 rfl (lv_at hl 0 rfl) ?_
    refine r_get (v := vI (M.1 191 24)) (N := 68) (T := T1) (j := 24) F hS (show 191 < 231 by decide) (show shK 191 = 5 from rfl) (show shN 191 = 68 from rfl) rfl (Nat.le_of_ble_eq_true rfl) ing1 mw_1413 (fv_int rfl) d_MO_text_174 ?_
    have i33 := hS.rng 191 24
    refine r_if_ne (tgt := 195) F.hx F.hb i33 d_MO_text_177 (by decide) (fun c34 => ?_) (fun c34 => ?_)
    · replace hT := (if_neg c34).symm.trans hT
      exact k_MO_text_L195 l hlo x1 hx1 F hlk hr M _ _ _ hS (lv_sub hl [0] rfl) hT
    · replace hT := (if_pos c34).symm.trans hT
      refine lv_aload_n F.hx F.hb d_MO_text_180 rfl (lv_at hl 0 rfl) ?_
      refine r_get (v := vI (M.1 191 22)) (N := 68) (T := T1) (j := 22) F hS (show 191 < 231 by decide) (show shK 191 = 5 from rfl) (show shN 191 = 68 from rfl) rfl (Nat.le_of_ble_eq_true rfl) ing1 mw_1411 (fv_int rfl) d_MO_text_181 ?_
      have i35 := hS.rng 191 22
      refine r_iconst F.hx F.hb d_MO_text_184 ?_
      refine r_icmp_eq (tgt := 195) F.hx F.hb i35 (inr_c rfl) d_MO_text_185 (by decide) (fun c36 => ?_) (fun c36 => ?_)
      · replace hT := (if_pos c36).symm.trans hT
        exact k_MO_text_L195 l hlo x1 hx1 F hlk hr M _ _ _ hS (lv_sub hl [0] rfl) hT
      · replace hT := (if_neg c36).symm.trans hT
        refine lv_aload_n F.hx F.hb d_MO_text_188 rfl (lv_at hl 0 rfl) ?_
        obtain ⟨q37, hq37, hT⟩ := q_obind hT
        refine r_backV F hS (r_runV (k := 191) (N := 68) (T := T1) (As := []) F hS (show 191 < 231 by decide) (show shK 191 = 5 from rfl) rfl (c_MO_line l F.2.2.1 M _ hq37) gs_MO_309 hd_MO_line ⟨Nat.le_of_ble_eq_true rfl, Nat.le_of_ble_eq_true rfl⟩ rfl hl.1 (Nat.le_of_ble_eq_true rfl) ⟨Nat.zero_le _, Nat.zero_le _⟩ rfl d_MO_text_189) (fun H locs hS => ?_)
        refine lv_goto (tgt := 173) F.hx F.hb d_MO_text_192 (by decide) ?_
        exact ih q37 _ _ _ hS (lv_sub hl [0] rfl) hT
set_option maxHeartbeats 4000000 in
set_option maxRecDepth 100000 in
theorem k_MO_text_L124 (l : Launch) {p : Program} {e : Env} {s : State} {m : MethodId} {below : List Frame} {meth : Method} {c : Code} {b n : Nat} {C : CT} (hlo : 231 ≤ n) (x1 : Int) (hx1 : InR x1) (F : Cx b p m c b_MO_text 3 s ([.ref (b + 191), vI x1] : List Value).toArray "WardFallsModel" C n 231) (hlk : meth.locks = false) (hr : meth.sig.returnType = some .int) {res : Mem × Int} : ∀ (fu : Nat) (M : Mem) (v1_ : Int) (hv1_ : InR v1_) (H : Heap) (locs : List Loc) (ls : Array Slot), St b C n M s H locs → lv_has ls 3 [(0, .ref (b + 191)), (2, vI v1_)] → t_MO_text_L124 x1 fu M v1_ = some res → W p l e (headSpec (wsM y_MO_text b_MO_text 3 (some .int)) (rmD 243)).room s m ([.ref (b + 191), vI x1] : List Value).toArray below meth c H locs 0 0 (MQ below (QI b C n res.1 res.2) ([.ref (b + 191), vI x1] : List Value).toArray s 0 0 (frb b)) (F0 m 124 ls []) := by
  intro fu
  induction fu with
  | zero => intro M v1_ hv1_ H locs ls hS hl hT; exact absurd hT (by simp [t_MO_text_L124])
  | succ fu ih =>
    intro M v1_ hv1_ H locs ls hS hl hT
    rw [t_MO_text_L124] at hT
    refine lv_iload_n F.hx F.hb d_MO_text_124 rfl (lv_at hl 1 rfl) ?_
    refine r_iconst F.hx F.hb d_MO_text_125 ?_
    refine r_icmp_ge (tgt := 149) F.hx F.hb hv1_ (inr_c rfl) d_MO_text_126 (by decide) (fun c22 => ?_) (fun c22 => ?_)
    · replace hT := (if_pos c22).symm.trans hT
      refine lv_aload_n F.hx F.hb d_MO_text_149 rfl (lv_at hl 0 rfl) ?_
      refine r_iconst F.hx F.hb d_MO_text_150 ?_
      refine r_putI (N := 68) (T := T1) (j := 17) F hS (show 191 < 231 by decide) (show shK 191 = 5 from rfl) (show shN 191 = 68 from rfl) rfl (Nat.le_of_ble_eq_true rfl) ing1 tyok1 nm1 rfl rfl rfl rfl rfl rfl mw_1406 (inr_c rfl) d_MO_text_151 (fun H locs hS => ?_)
      obtain ⟨M23, eM23⟩ : ∃ q, q = (setI M 191 17 0) := ⟨_, rfl⟩
      replace hS : St b C n M23 s H locs := by rw [eM23]; exact hS
      replace hT := qlet_eq hT eM23
      refine lv_aload_n F.hx F.hb d_MO_text_154 rfl (lv_at hl 0 rfl) ?_
      refine r_iconst F.hx F.hb d_MO_text_155 ?_
      refine r_putI (N := 68) (T := T1) (j := 18) F hS (show 191 < 231 by decide) (show shK 191 = 5 from rfl) (show shN 191 = 68 from rfl) rfl (Nat.le_of_ble_eq_true rfl) ing1 tyok1 nm1 rfl rfl rfl rfl rfl rfl mw_1407 (inr_c rfl) d_MO_text_156 (fun H locs hS => ?_)
      obtain ⟨M24, eM24⟩ : ∃ q, q = (setI M23 191 18 0) := ⟨_, rfl⟩
      replace hS : St b C n M24 s H locs := by rw [eM24]; exact hS
      replace hT := qlet_eq hT eM24
      refine lv_aload_n F.hx F.hb d_MO_text_159 rfl (lv_at hl 0 rfl) ?_
      refine r_iconst F.hx F.hb d_MO_text_160 ?_
      refine r_putI (N := 68) (T := T1) (j := 28) F hS (show 191 < 231 by decide) (show shK 191 = 5 from rfl) (show shN 191 = 68 from rfl) rfl (Nat.le_of_ble_eq_true rfl) ing1 tyok1 nm1 rfl rfl rfl rfl rfl rfl mw_1417 (inr_c rfl) d_MO_text_161 (fun H locs hS => ?_)
      obtain ⟨M25, eM25⟩ : ∃ q, q = (setI M24 191 28 0) := ⟨_, rfl⟩
      replace hS : St b C n M25 s H locs := by rw [eM25]; exact hS
      replace hT := qlet_eq hT eM25
      refine lv_aload_n F.hx F.hb d_MO_text_164 rfl (lv_at hl 0 rfl) ?_
      refine r_iconst F.hx F.hb d_MO_text_165 ?_
      refine r_putI (N := 68) (T := T1) (j := 29) F hS (show 191 < 231 by decide) (show shK 191 = 5 from rfl) (show shN 191 = 68 from rfl) rfl (Nat.le_of_ble_eq_true rfl) ing1 tyok1 nm1 rfl rfl rfl rfl rfl rfl mw_1418 (inr_c rfl) d_MO_text_166 (fun H locs hS => ?_)
      obtain ⟨M26, eM26⟩ : ∃ q, q = (setI M25 191 29 0) := ⟨_, rfl⟩
      replace hS : St b C n M26 s H locs := by rw [eM26]; exact hS
      replace hT := qlet_eq hT eM26
      refine lv_aload_n F.hx F.hb d_MO_text_169 rfl (lv_at hl 0 rfl) ?_
      obtain ⟨q27, hq27, hT⟩ := q_obind hT
      refine r_backV F hS (r_runV (k := 191) (N := 68) (T := T1) (As := []) F hS (show 191 < 231 by decide) (show shK 191 = 5 from rfl) rfl (c_MO_token l F.2.2.1 M26 _ hq27) gs_MO_205 hd_MO_token ⟨Nat.le_of_ble_eq_true rfl, Nat.le_of_ble_eq_true rfl⟩ rfl hl.1 (Nat.le_of_ble_eq_true rfl) ⟨Nat.zero_le _, Nat.zero_le _⟩ rfl d_MO_text_170) (fun H locs hS => ?_)
      exact k_MO_text_L173 l hlo x1 hx1 F hlk hr FU q27 _ _ _ hS (lv_sub hl [0] rfl) hT
    · replace hT := (if_neg c22).symm.trans hT
      refine lv_aload_n F.hx F.hb d_MO_text_129 rfl (lv_at hl 0 rfl) ?_
      refine r_get (v := .ref (b + 203)) (N := 68) (T := T1) (j := 13) F hS (show 191 < 231 by decide) (show shK 191 = 5 from rfl) (show shN 191 = 68 from rfl) rfl (Nat.le_of_ble_eq_true rfl) ing1 mw_1402 (fv_sg rfl rfl rfl) d_MO_text_130 ?_
      refine lv_iload_n F.hx F.hb d_MO_text_133 rfl (lv_at hl 1 rfl) ?_
      refine r_iconst F.hx F.hb d_MO_text_134 ?_
      obtain ⟨⟨g29a, g29b⟩, hT⟩ := q_guard hT
      refine r_iast F hS (show 203 < 231 by decide) (show shK 203 = 0 from rfl) (show shN 203 = 4 from rfl) hv1_ (inr_c rfl) g29a g29b d_MO_text_135 (fun H locs hS => ?_)
      obtain ⟨M30, eM30⟩ : ∃ q, q = (setI M 203 v1_ 0) := ⟨_, rfl⟩
      replace hS : St b C n M30 s H locs := by rw [eM30]; exact hS
      replace hT := qlet_eq hT eM30
      refine lv_aload_n F.hx F.hb d_MO_text_136 rfl (lv_at hl 0 rfl) ?_
      refine r_get (v := .ref (b + 204)) (N := 68) (T := T1) (j := 14) F hS (show 191 < 231 by decide) (show shK 191 = 5 from rfl) (show shN 191 = 68 from rfl) rfl (Nat.le_of_ble_eq_true rfl) ing1 mw_1403 (fv_sg rfl rfl rfl) d_MO_text_137 ?_
      refine lv_iload_n F.hx F.hb d_MO_text_140 rfl (lv_at hl 1 rfl) ?_
      refine r_iconst F.hx F.hb d_MO_text_141 ?_
      obtain ⟨⟨g31a, g31b⟩, hT⟩ := q_guard hT
      refine r_iast F hS (show 204 < 231 by decide) (show shK 204 = 0 from rfl) (show shN 204 = 4 from rfl) hv1_ (inr_c rfl) g31a g31b d_MO_text_142 (fun H locs hS => ?_)
      obtain ⟨M32, eM32⟩ : ∃ q, q = (setI M30 204 v1_ 0) := ⟨_, rfl⟩
      replace hS : St b C n M32 s H locs := by rw [eM32]; exact hS
      replace hT := qlet_eq hT eM32
      refine lv_iinc (v := Int32.ofInt (w32 (v1_ + 1))) (lv' := [(2, vI (w32 (v1_ + 1))), (0, .ref (b + 191))]) F.hx F.hb d_MO_text_143 hl (k := 1) rfl (q_of_add _ _) (Nat.le_of_ble_eq_true rfl) rfl (fun ls hl => ?_)
      refine lv_goto (tgt := 124) F.hx F.hb d_MO_text_146 (by decide) ?_
      exact ih M32 (w32 (v1_ + 1)) (inr_w32 _) _ _ _ hS (lv_sub hl [1, 0] rfl) hT
set_option maxHeartbeats 4000000 in
set_option maxRecDepth 100000 in
theorem k_MO_text_L80 (l : Launch) {p : Program} {e : Env} {s : State} {m : MethodId} {below : List Frame} {meth : Method} {c : Code} {b n : Nat} {C : CT} (hlo : 231 ≤ n) (x1 : Int) (hx1 : InR x1) (F : Cx b p m c b_MO_text 3 s ([.ref (b + 191), vI x1] : List Value).toArray "WardFallsModel" C n 231) (hlk : meth.locks = false) (hr : meth.sig.returnType = some .int) {res : Mem × Int} : ∀ (fu : Nat) (M : Mem) (v1_ : Int) (hv1_ : InR v1_) (H : Heap) (locs : List Loc) (ls : Array Slot), St b C n M s H locs → lv_has ls 3 [(0, .ref (b + 191)), (2, vI v1_)] → t_MO_text_L80 x1 fu M v1_ = some res → W p l e (headSpec (wsM y_MO_text b_MO_text 3 (some .int)) (rmD 243)).room s m ([.ref (b + 191), vI x1] : List Value).toArray below meth c H locs 0 0 (MQ below (QI b C n res.1 res.2) ([.ref (b + 191), vI x1] : List Value).toArray s 0 0 (frb b)) (F0 m 80 ls []) := by
  intro fu
  induction fu with
  | zero => intro M v1_ hv1_ H locs ls hS hl hT; exact absurd hT (by simp [t_MO_text_L80])
  | succ fu ih =>
    intro M v1_ hv1_ H locs ls hS hl hT
    rw [t_MO_text_L80] at hT
    refine lv_iload_n F.hx F.hb d_MO_text_80 rfl (lv_at hl 1 rfl) ?_
    refine r_bipush F.hx F.hb d_MO_text_81 rfl ?_
    refine r_icmp_ge (tgt := 122) F.hx F.hb hv1_ (inr_c rfl) d_MO_text_83 (by decide) (fun c13 => ?_) (fun c13 => ?_)
    · replace hT := (if_pos c13).symm.trans hT
      refine r_iconst F.hx F.hb d_MO_text_122 ?_
      refine lv_istore_n (lv' := [(2, vI 2), (0, .ref (b + 191))]) F.hx F.hb d_MO_text_123 rfl hl (Nat.le_of_ble_eq_true rfl) rfl (fun ls hl => ?_)
      exact k_MO_text_L124 l hlo x1 hx1 F hlk hr FU M 2 (inr_c rfl) _ _ _ hS (lv_sub hl [1, 0] rfl) hT
    · replace hT := (if_neg c13).symm.trans hT
      refine lv_aload_n F.hx F.hb d_MO_text_86 rfl (lv_at hl 0 rfl) ?_
      refine r_get (v := .ref (b + 197)) (N := 68) (T := T1) (j := 7) F hS (show 191 < 231 by decide) (show shK 191 = 5 from rfl) (show shN 191 = 68 from rfl) rfl (Nat.le_of_ble_eq_true rfl) ing1 mw_1396 (fv_sg rfl rfl rfl) d_MO_text_87 ?_
      refine r_bipush F.hx F.hb d_MO_text_90 rfl ?_
      refine lv_iload_n F.hx F.hb d_MO_text_92 rfl (lv_at hl 1 rfl) ?_
      refine r_iadd F.hx F.hb d_MO_text_93 ?_
      refine r_iconst F.hx F.hb d_MO_text_94 ?_
      obtain ⟨⟨g14a, g14b⟩, hT⟩ := q_guard hT
      refine r_iast F hS (show 197 < 231 by decide) (show shK 197 = 0 from rfl) (show shN 197 = 96 from rfl) (inr_w32 _) (inr_c rfl) g14a g14b d_MO_text_95 (fun H locs hS => ?_)
      obtain ⟨M15, eM15⟩ : ∃ q, q = (setI M 197 (w32 (48 + v1_)) 0) := ⟨_, rfl⟩
      replace hS : St b C n M15 s H locs := by rw [eM15]; exact hS
      replace hT := qlet_eq hT eM15
      refine lv_aload_n F.hx F.hb d_MO_text_96 rfl (lv_at hl 0 rfl) ?_
      refine r_get (v := .ref (b + 198)) (N := 68) (T := T1) (j := 8) F hS (show 191 < 231 by decide) (show shK 191 = 5 from rfl) (show shN 191 = 68 from rfl) rfl (Nat.le_of_ble_eq_true rfl) ing1 mw_1397 (fv_sg rfl rfl rfl) d_MO_text_97 ?_
      refine r_bipush F.hx F.hb d_MO_text_100 rfl ?_
      refine lv_iload_n F.hx F.hb d_MO_text_102 rfl (lv_at hl 1 rfl) ?_
      refine r_iadd F.hx F.hb d_MO_text_103 ?_
      refine r_iconst F.hx F.hb d_MO_text_104 ?_
      obtain ⟨⟨g16a, g16b⟩, hT⟩ := q_guard hT
      refine r_zast F hS (show 198 < 231 by decide) (show shK 198 = 1 from rfl) (show shN 198 = 96 from rfl) (inr_w32 _) (Or.inl rfl) g16a g16b d_MO_text_105 (fun H locs hS => ?_)
      obtain ⟨M17, eM17⟩ : ∃ q, q = (setI M15 198 (w32 (48 + v1_)) 0) := ⟨_, rfl⟩
      replace hS : St b C n M17 s H locs := by rw [eM17]; exact hS
      replace hT := qlet_eq hT eM17
      refine lv_aload_n F.hx F.hb d_MO_text_106 rfl (lv_at hl 0 rfl) ?_
      refine r_get (v := .ref (b + 199)) (N := 68) (T := T1) (j := 9) F hS (show 191 < 231 by decide) (show shK 191 = 5 from rfl) (show shN 191 = 68 from rfl) rfl (Nat.le_of_ble_eq_true rfl) ing1 mw_1398 (fv_sg rfl rfl rfl) d_MO_text_107 ?_
      refine r_bipush F.hx F.hb d_MO_text_110 rfl ?_
      refine lv_iload_n F.hx F.hb d_MO_text_112 rfl (lv_at hl 1 rfl) ?_
      refine r_iadd F.hx F.hb d_MO_text_113 ?_
      refine r_iconst F.hx F.hb d_MO_text_114 ?_
      obtain ⟨⟨g18a, g18b⟩, hT⟩ := q_guard hT
      refine r_zast F hS (show 199 < 231 by decide) (show shK 199 = 1 from rfl) (show shN 199 = 96 from rfl) (inr_w32 _) (Or.inl rfl) g18a g18b d_MO_text_115 (fun H locs hS => ?_)
      obtain ⟨M19, eM19⟩ : ∃ q, q = (setI M17 199 (w32 (48 + v1_)) 0) := ⟨_, rfl⟩
      replace hS : St b C n M19 s H locs := by rw [eM19]; exact hS
      replace hT := qlet_eq hT eM19
      refine lv_iinc (v := Int32.ofInt (w32 (v1_ + 1))) (lv' := [(2, vI (w32 (v1_ + 1))), (0, .ref (b + 191))]) F.hx F.hb d_MO_text_116 hl (k := 1) rfl (q_of_add _ _) (Nat.le_of_ble_eq_true rfl) rfl (fun ls hl => ?_)
      refine lv_goto (tgt := 80) F.hx F.hb d_MO_text_119 (by decide) ?_
      exact ih M19 (w32 (v1_ + 1)) (inr_w32 _) _ _ _ hS (lv_sub hl [1, 0] rfl) hT
set_option maxHeartbeats 4000000 in
set_option maxRecDepth 100000 in
theorem k_MO_text_L47 (l : Launch) {p : Program} {e : Env} {s : State} {m : MethodId} {below : List Frame} {meth : Method} {c : Code} {b n : Nat} {C : CT} (hlo : 231 ≤ n) (x1 : Int) (hx1 : InR x1) (F : Cx b p m c b_MO_text 3 s ([.ref (b + 191), vI x1] : List Value).toArray "WardFallsModel" C n 231) (hlk : meth.locks = false) (hr : meth.sig.returnType = some .int) {res : Mem × Int} : ∀ (fu : Nat) (M : Mem) (v1_ : Int) (hv1_ : InR v1_) (H : Heap) (locs : List Loc) (ls : Array Slot), St b C n M s H locs → lv_has ls 3 [(0, .ref (b + 191)), (2, vI v1_)] → t_MO_text_L47 x1 fu M v1_ = some res → W p l e (headSpec (wsM y_MO_text b_MO_text 3 (some .int)) (rmD 243)).room s m ([.ref (b + 191), vI x1] : List Value).toArray below meth c H locs 0 0 (MQ below (QI b C n res.1 res.2) ([.ref (b + 191), vI x1] : List Value).toArray s 0 0 (frb b)) (F0 m 47 ls []) := by
  intro fu
  induction fu with
  | zero => intro M v1_ hv1_ H locs ls hS hl hT; exact absurd hT (by simp [t_MO_text_L47])
  | succ fu ih =>
    intro M v1_ hv1_ H locs ls hS hl hT
    rw [t_MO_text_L47] at hT
    refine lv_iload_n F.hx F.hb d_MO_text_47 rfl (lv_at hl 1 rfl) ?_
    refine r_bipush F.hx F.hb d_MO_text_48 rfl ?_
    refine r_icmp_ge (tgt := 78) F.hx F.hb hv1_ (inr_c rfl) d_MO_text_50 (by decide) (fun c10 => ?_) (fun c10 => ?_)
    · replace hT := (if_pos c10).symm.trans hT
      refine r_iconst F.hx F.hb d_MO_text_78 ?_
      refine lv_istore_n (lv' := [(2, vI 0), (0, .ref (b + 191))]) F.hx F.hb d_MO_text_79 rfl hl (Nat.le_of_ble_eq_true rfl) rfl (fun ls hl => ?_)
      exact k_MO_text_L80 l hlo x1 hx1 F hlk hr FU M 0 (inr_c rfl) _ _ _ hS (lv_sub hl [1, 0] rfl) hT
    · replace hT := (if_neg c10).symm.trans hT
      refine lv_aload_n F.hx F.hb d_MO_text_53 rfl (lv_at hl 0 rfl) ?_
      refine lv_iload_n F.hx F.hb d_MO_text_54 rfl (lv_at hl 1 rfl) ?_
      refine lv_iload_n F.hx F.hb d_MO_text_55 rfl (lv_at hl 1 rfl) ?_
      refine r_if_eq (tgt := 64) F.hx F.hb hv1_ d_MO_text_56 (by decide) (fun c11 => ?_) (fun c11 => ?_)
      · replace hT := (if_pos c11).symm.trans hT
        exact k_MO_text_L64 l hlo x1 hx1 F hlk hr (fun a0_ a1_ => t_MO_text_L47 x1 fu a0_ a1_) ih M v1_ hv1_ v1_ hv1_ _ _ _ hS (lv_sub hl [0, 1] rfl) hT
      · replace hT := (if_neg c11).symm.trans hT
        refine lv_iload_n F.hx F.hb d_MO_text_59 rfl (lv_at hl 1 rfl) ?_
        refine r_iconst F.hx F.hb d_MO_text_60 ?_
        refine r_icmp_ne (tgt := 68) F.hx F.hb hv1_ (inr_c rfl) d_MO_text_61 (by decide) (fun c12 => ?_) (fun c12 => ?_)
        · replace hT := (if_neg c12).symm.trans hT
          refine r_iconst F.hx F.hb d_MO_text_68 ?_
          exact k_MO_text_L69 l hlo x1 hx1 F hlk hr (fun a0_ a1_ => t_MO_text_L47 x1 fu a0_ a1_) ih M v1_ hv1_ v1_ hv1_ 0 (inr_c rfl) _ _ _ hS (lv_sub hl [0, 1] rfl) hT
        · replace hT := (if_pos c12).symm.trans hT
          exact k_MO_text_L64 l hlo x1 hx1 F hlk hr (fun a0_ a1_ => t_MO_text_L47 x1 fu a0_ a1_) ih M v1_ hv1_ v1_ hv1_ _ _ _ hS (lv_sub hl [0, 1] rfl) hT
set_option maxHeartbeats 4000000 in
set_option maxRecDepth 100000 in
theorem c_MO_text (l : Launch) {b n : Nat} {C : CT} (hlo : 231 ≤ n) (M : Mem) (x1 : Int) (hx1 : InR x1) (res : Mem × Int) (hT : t_MO_text M x1 = some res) : CM l b C n 243 y_MO_text b_MO_text 3 (some .int) [.ref (b + 191), vI x1] M (QI b C n res.1 res.2) := by
  refine CM.of (lo := 231) (ow := "WardFallsModel") (by decide) rfl (Nat.le_of_ble_eq_true rfl) hlo (fun p e s m below meth c F hlk hr hS ls hl => ?_)
  have hl : lv_has ls 3 [(0, .ref (b + 191)), (1, vI x1)] := hl
  unfold t_MO_text at hT
  refine lv_aload_n F.hx F.hb d_MO_text_0 rfl (lv_at hl 0 rfl) ?_
  refine r_iconst F.hx F.hb d_MO_text_1 ?_
  refine r_putI (N := 68) (T := T1) (j := 0) F hS (show 191 < 231 by decide) (show shK 191 = 5 from rfl) (show shN 191 = 68 from rfl) rfl (Nat.le_of_ble_eq_true rfl) ing1 tyok1 nm1 rfl rfl rfl rfl rfl rfl mw_1389 (inr_c rfl) d_MO_text_2 (fun H locs hS => ?_)
  obtain ⟨M1, eM1⟩ : ∃ q, q = (setI M 191 0 0) := ⟨_, rfl⟩
  replace hS : St b C n M1 s H locs := by rw [eM1]; exact hS
  replace hT := qlet_eq hT eM1
  refine lv_iload_n F.hx F.hb d_MO_text_5 rfl (lv_at hl 1 rfl) ?_
  refine r_if_lt (tgt := 17) F.hx F.hb hx1 d_MO_text_6 (by decide) (fun c2 => ?_) (fun c2 => ?_)
  · replace hT := (if_pos c2).symm.trans hT
    refine r_bipush F.hx F.hb d_MO_text_17 rfl ?_
    cases hT
    exact r_iret F hlk hr rfl hS (inr_c rfl) d_MO_text_19
  · replace hT := (if_neg c2).symm.trans hT
    refine lv_iload_n F.hx F.hb d_MO_text_9 rfl (lv_at hl 1 rfl) ?_
    refine lv_aload_n F.hx F.hb d_MO_text_10 rfl (lv_at hl 0 rfl) ?_
    refine r_get (v := vI (M1.1 191 2)) (N := 68) (T := T1) (j := 2) F hS (show 191 < 231 by decide) (show shK 191 = 5 from rfl) (show shN 191 = 68 from rfl) rfl (Nat.le_of_ble_eq_true rfl) ing1 mw_1391 (fv_int rfl) d_MO_text_11 ?_
    have i3 := hS.rng 191 2
    refine r_icmp_le (tgt := 20) F.hx F.hb hx1 i3 d_MO_text_14 (by decide) (fun c4 => ?_) (fun c4 => ?_)
    · replace hT := (if_pos c4).symm.trans hT
      refine lv_aload_n F.hx F.hb d_MO_text_20 rfl (lv_at hl 0 rfl) ?_
      refine lv_iload_n F.hx F.hb d_MO_text_21 rfl (lv_at hl 1 rfl) ?_
      refine r_putI (N := 68) (T := T1) (j := 19) F hS (show 191 < 231 by decide) (show shK 191 = 5 from rfl) (show shN 191 = 68 from rfl) rfl (Nat.le_of_ble_eq_true rfl) ing1 tyok1 nm1 rfl rfl rfl rfl rfl rfl mw_1408 hx1 d_MO_text_22 (fun H locs hS => ?_)
      obtain ⟨M5, eM5⟩ : ∃ q, q = (setI M1 191 19 x1) := ⟨_, rfl⟩
      replace hS : St b C n M5 s H locs := by rw [eM5]; exact hS
      replace hT := qlet_eq hT eM5
      refine lv_aload_n F.hx F.hb d_MO_text_25 rfl (lv_at hl 0 rfl) ?_
      refine r_iconst F.hx F.hb d_MO_text_26 ?_
      refine r_putI (N := 68) (T := T1) (j := 2) F hS (show 191 < 231 by decide) (show shK 191 = 5 from rfl) (show shN 191 = 68 from rfl) rfl (Nat.le_of_ble_eq_true rfl) ing1 tyok1 nm1 rfl rfl rfl rfl rfl rfl mw_1391 (inr_c rfl) d_MO_text_27 (fun H locs hS => ?_)
      obtain ⟨M6, eM6⟩ : ∃ q, q = (setI M5 191 2 0) := ⟨_, rfl⟩
      replace hS : St b C n M6 s H locs := by rw [eM6]; exact hS
      replace hT := qlet_eq hT eM6
      refine lv_aload_n F.hx F.hb d_MO_text_30 rfl (lv_at hl 0 rfl) ?_
      refine r_iconst F.hx F.hb d_MO_text_31 ?_
      refine r_putI (N := 68) (T := T1) (j := 20) F hS (show 191 < 231 by decide) (show shK 191 = 5 from rfl) (show shN 191 = 68 from rfl) rfl (Nat.le_of_ble_eq_true rfl) ing1 tyok1 nm1 rfl rfl rfl rfl rfl rfl mw_1409 (inr_c rfl) d_MO_text_32 (fun H locs hS => ?_)
      obtain ⟨M7, eM7⟩ : ∃ q, q = (setI M6 191 20 0) := ⟨_, rfl⟩
      replace hS : St b C n M7 s H locs := by rw [eM7]; exact hS
      replace hT := qlet_eq hT eM7
      refine lv_aload_n F.hx F.hb d_MO_text_35 rfl (lv_at hl 0 rfl) ?_
      refine r_iconst F.hx F.hb d_MO_text_36 ?_
      refine r_putI (N := 68) (T := T1) (j := 24) F hS (show 191 < 231 by decide) (show shK 191 = 5 from rfl) (show shN 191 = 68 from rfl) rfl (Nat.le_of_ble_eq_true rfl) ing1 tyok1 nm1 rfl rfl rfl rfl rfl rfl mw_1413 (inr_c rfl) d_MO_text_37 (fun H locs hS => ?_)
      obtain ⟨M8, eM8⟩ : ∃ q, q = (setI M7 191 24 0) := ⟨_, rfl⟩
      replace hS : St b C n M8 s H locs := by rw [eM8]; exact hS
      replace hT := qlet_eq hT eM8
      refine lv_aload_n F.hx F.hb d_MO_text_40 rfl (lv_at hl 0 rfl) ?_
      refine r_iconst F.hx F.hb d_MO_text_41 ?_
      refine r_putI (N := 68) (T := T1) (j := 25) F hS (show 191 < 231 by decide) (show shK 191 = 5 from rfl) (show shN 191 = 68 from rfl) rfl (Nat.le_of_ble_eq_true rfl) ing1 tyok1 nm1 rfl rfl rfl rfl rfl rfl mw_1414 (inr_c rfl) d_MO_text_42 (fun H locs hS => ?_)
      obtain ⟨M9, eM9⟩ : ∃ q, q = (setI M8 191 25 (-1)) := ⟨_, rfl⟩
      replace hS : St b C n M9 s H locs := by rw [eM9]; exact hS
      replace hT := qlet_eq hT eM9
      refine r_iconst F.hx F.hb d_MO_text_45 ?_
      refine lv_istore_n (lv' := [(2, vI 0), (0, .ref (b + 191)), (1, vI x1)]) F.hx F.hb d_MO_text_46 rfl hl (Nat.le_of_ble_eq_true rfl) rfl (fun ls hl => ?_)
      exact k_MO_text_L47 l hlo x1 hx1 F hlk hr FU M9 0 (inr_c rfl) _ _ _ hS (lv_sub hl [1, 0] rfl) hT
    · replace hT := (if_neg c4).symm.trans hT
      refine r_bipush F.hx F.hb d_MO_text_17 rfl ?_
      cases hT
      exact r_iret F hlk hr rfl hS (inr_c rfl) d_MO_text_19
theorem d_MO_fault_0 : decode b_MO_fault 0 = .ok (.aload_n 0, 1) := dc_42 (by decide +kernel)
theorem d_MO_fault_1 : decode b_MO_fault 1 = .ok (.iconst 0, 1) := dc_3 (by decide +kernel)
theorem d_MO_fault_2 : decode b_MO_fault 2 = .ok (.putfield 145, 3) := dc_181 (by decide +kernel)
theorem d_MO_fault_5 : decode b_MO_fault 5 = .ok (.iload_n 1, 1) := dc_27 (by decide +kernel)
theorem d_MO_fault_6 : decode b_MO_fault 6 = .ok (.ifCond .ne 10, 3) := dc_154 (by decide +kernel)
theorem d_MO_fault_9 : decode b_MO_fault 9 = .ok (.aload_n 0, 1) := dc_42 (by decide +kernel)
theorem d_MO_fault_10 : decode b_MO_fault 10 = .ok (.getfield 312, 3) := dc_180 (by decide +kernel)
theorem d_MO_fault_13 : decode b_MO_fault 13 = .ok (.goto 16, 3) := dc_167 (by decide +kernel)
theorem d_MO_fault_16 : decode b_MO_fault 16 = .ok (.iload_n 1, 1) := dc_27 (by decide +kernel)
theorem d_MO_fault_17 : decode b_MO_fault 17 = .ok (.iconst 1, 1) := dc_4 (by decide +kernel)
theorem d_MO_fault_18 : decode b_MO_fault 18 = .ok (.if_icmp .ne 10, 3) := dc_160 (by decide +kernel)
theorem d_MO_fault_21 : decode b_MO_fault 21 = .ok (.aload_n 0, 1) := dc_42 (by decide +kernel)
theorem d_MO_fault_22 : decode b_MO_fault 22 = .ok (.getfield 56, 3) := dc_180 (by decide +kernel)
theorem d_MO_fault_25 : decode b_MO_fault 25 = .ok (.goto 4, 3) := dc_167 (by decide +kernel)
theorem d_MO_fault_28 : decode b_MO_fault 28 = .ok (.iconst (-1), 1) := dc_2 (by decide +kernel)
theorem d_MO_fault_29 : decode b_MO_fault 29 = .ok (.ireturn, 1) := dc_172 (by decide +kernel)
def t_MO_fault (M : Mem) (x1 : Int) : Mem × Int := (qlet (setI M 191 0 0) fun M1 => (if x1 = 0 then (M1, (M1.1 191 26)) else (if x1 = 1 then (M1, (M1.1 191 27)) else (M1, (-1)))))
set_option maxHeartbeats 4000000 in
set_option maxRecDepth 100000 in
theorem c_MO_fault (l : Launch) {b n : Nat} {C : CT} (hlo : 231 ≤ n) (M : Mem) (x1 : Int) (hx1 : InR x1) (res : Mem × Int) (hT : t_MO_fault M x1 = res) : CM l b C n 0 y_MO_fault b_MO_fault 2 (some .int) [.ref (b + 191), vI x1] M (QI b C n res.1 res.2) := by
  refine CM.of (lo := 231) (ow := "WardFallsModel") (by decide) rfl (Nat.le_of_ble_eq_true rfl) hlo (fun p e s m below meth c F hlk hr hS ls hl => ?_)
  have hl : lv_has ls 2 [(0, .ref (b + 191)), (1, vI x1)] := hl
  unfold t_MO_fault at hT
  refine lv_aload_n F.hx F.hb d_MO_fault_0 rfl (lv_at hl 0 rfl) ?_
  refine r_iconst F.hx F.hb d_MO_fault_1 ?_
  refine r_putI (N := 68) (T := T1) (j := 0) F hS (show 191 < 231 by decide) (show shK 191 = 5 from rfl) (show shN 191 = 68 from rfl) rfl (Nat.le_of_ble_eq_true rfl) ing1 tyok1 nm1 rfl rfl rfl rfl rfl rfl mw_1389 (inr_c rfl) d_MO_fault_2 (fun H locs hS => ?_)
  obtain ⟨M1, eM1⟩ : ∃ q, q = (setI M 191 0 0) := ⟨_, rfl⟩
  replace hS : St b C n M1 s H locs := by rw [eM1]; exact hS
  replace hT := qlet_eq hT eM1
  refine lv_iload_n F.hx F.hb d_MO_fault_5 rfl (lv_at hl 1 rfl) ?_
  refine r_if_ne (tgt := 16) F.hx F.hb hx1 d_MO_fault_6 (by decide) (fun c2 => ?_) (fun c2 => ?_)
  · replace hT := (if_neg c2).symm.trans hT
    refine lv_iload_n F.hx F.hb d_MO_fault_16 rfl (lv_at hl 1 rfl) ?_
    refine r_iconst F.hx F.hb d_MO_fault_17 ?_
    refine r_icmp_ne (tgt := 28) F.hx F.hb hx1 (inr_c rfl) d_MO_fault_18 (by decide) (fun c3 => ?_) (fun c3 => ?_)
    · replace hT := (if_neg c3).symm.trans hT
      refine r_iconst F.hx F.hb d_MO_fault_28 ?_
      subst hT
      exact r_iret F hlk hr rfl hS (inr_c rfl) d_MO_fault_29
    · replace hT := (if_pos c3).symm.trans hT
      refine lv_aload_n F.hx F.hb d_MO_fault_21 rfl (lv_at hl 0 rfl) ?_
      refine r_get (v := vI (M1.1 191 27)) (N := 68) (T := T1) (j := 27) F hS (show 191 < 231 by decide) (show shK 191 = 5 from rfl) (show shN 191 = 68 from rfl) rfl (Nat.le_of_ble_eq_true rfl) ing1 mw_1416 (fv_int rfl) d_MO_fault_22 ?_
      have i4 := hS.rng 191 27
      refine lv_goto (tgt := 29) F.hx F.hb d_MO_fault_25 (by decide) ?_
      subst hT
      exact r_iret F hlk hr rfl hS i4 d_MO_fault_29
  · replace hT := (if_pos c2).symm.trans hT
    refine lv_aload_n F.hx F.hb d_MO_fault_9 rfl (lv_at hl 0 rfl) ?_
    refine r_get (v := vI (M1.1 191 26)) (N := 68) (T := T1) (j := 26) F hS (show 191 < 231 by decide) (show shK 191 = 5 from rfl) (show shN 191 = 68 from rfl) rfl (Nat.le_of_ble_eq_true rfl) ing1 mw_1415 (fv_int rfl) d_MO_fault_10 ?_
    have i5 := hS.rng 191 26
    refine lv_goto (tgt := 29) F.hx F.hb d_MO_fault_13 (by decide) ?_
    subst hT
    exact r_iret F hlk hr rfl hS i5 d_MO_fault_29
theorem d_MO_named_0 : decode b_MO_named 0 = .ok (.aload_n 0, 1) := dc_42 (by decide +kernel)
theorem d_MO_named_1 : decode b_MO_named 1 = .ok (.iconst 0, 1) := dc_3 (by decide +kernel)
theorem d_MO_named_2 : decode b_MO_named 2 = .ok (.putfield 145, 3) := dc_181 (by decide +kernel)
theorem d_MO_named_5 : decode b_MO_named 5 = .ok (.iload_n 1, 1) := dc_27 (by decide +kernel)
theorem d_MO_named_6 : decode b_MO_named 6 = .ok (.ifCond .ne 21, 3) := dc_154 (by decide +kernel)
theorem d_MO_named_9 : decode b_MO_named 9 = .ok (.aload_n 0, 1) := dc_42 (by decide +kernel)
theorem d_MO_named_10 : decode b_MO_named 10 = .ok (.getfield 16, 3) := dc_180 (by decide +kernel)
theorem d_MO_named_13 : decode b_MO_named 13 = .ok (.iconst 0, 1) := dc_3 (by decide +kernel)
theorem d_MO_named_14 : decode b_MO_named 14 = .ok (.aload_n 0, 1) := dc_42 (by decide +kernel)
theorem d_MO_named_15 : decode b_MO_named 15 = .ok (.getfield 13, 3) := dc_180 (by decide +kernel)
theorem d_MO_named_18 : decode b_MO_named 18 = .ok (.iconst 2, 1) := dc_5 (by decide +kernel)
theorem d_MO_named_19 : decode b_MO_named 19 = .ok (.iaload, 1) := dc_46 (by decide +kernel)
theorem d_MO_named_20 : decode b_MO_named 20 = .ok (.iload_n 2, 1) := dc_28 (by decide +kernel)
theorem d_MO_named_21 : decode b_MO_named 21 = .ok (.invokestatic 218, 3) := dc_184 (by decide +kernel)
theorem d_MO_named_24 : decode b_MO_named 24 = .ok (.goto 28, 3) := dc_167 (by decide +kernel)
theorem d_MO_named_27 : decode b_MO_named 27 = .ok (.iload_n 1, 1) := dc_27 (by decide +kernel)
theorem d_MO_named_28 : decode b_MO_named 28 = .ok (.iconst 1, 1) := dc_4 (by decide +kernel)
theorem d_MO_named_29 : decode b_MO_named 29 = .ok (.if_icmp .ne 22, 3) := dc_160 (by decide +kernel)
theorem d_MO_named_32 : decode b_MO_named 32 = .ok (.aload_n 0, 1) := dc_42 (by decide +kernel)
theorem d_MO_named_33 : decode b_MO_named 33 = .ok (.getfield 35, 3) := dc_180 (by decide +kernel)
theorem d_MO_named_36 : decode b_MO_named 36 = .ok (.iconst 0, 1) := dc_3 (by decide +kernel)
theorem d_MO_named_37 : decode b_MO_named 37 = .ok (.aload_n 0, 1) := dc_42 (by decide +kernel)
theorem d_MO_named_38 : decode b_MO_named 38 = .ok (.getfield 13, 3) := dc_180 (by decide +kernel)
theorem d_MO_named_41 : decode b_MO_named 41 = .ok (.bipush 6, 2) := dc_16 (by decide +kernel)
theorem d_MO_named_43 : decode b_MO_named 43 = .ok (.iaload, 1) := dc_46 (by decide +kernel)
theorem d_MO_named_44 : decode b_MO_named 44 = .ok (.iload_n 2, 1) := dc_28 (by decide +kernel)
theorem d_MO_named_45 : decode b_MO_named 45 = .ok (.invokestatic 218, 3) := dc_184 (by decide +kernel)
theorem d_MO_named_48 : decode b_MO_named 48 = .ok (.goto 4, 3) := dc_167 (by decide +kernel)
theorem d_MO_named_51 : decode b_MO_named 51 = .ok (.iconst (-1), 1) := dc_2 (by decide +kernel)
theorem d_MO_named_52 : decode b_MO_named 52 = .ok (.ireturn, 1) := dc_172 (by decide +kernel)
def t_MO_named (M : Mem) (x1 : Int) (x2 : Int) : Option (Mem × Int) := (qlet (setI M 191 0 0) fun M1 => (if x1 = 0 then (obind (t_MO_found M1 194 8 0 (M1.1 193 2) x2) fun q8 => (some (M1, q8))) else (if x1 = 1 then (obind (t_MO_found M1 200 16 0 (M1.1 193 6) x2) fun q5 => (some (M1, q5))) else (some (M1, (-1))))))
set_option maxHeartbeats 4000000 in
set_option maxRecDepth 100000 in
theorem c_MO_named (l : Launch) {b n : Nat} {C : CT} (hlo : 231 ≤ n) (M : Mem) (x1 : Int) (x2 : Int) (hx1 : InR x1) (hx2 : InR x2) (res : Mem × Int) (hT : t_MO_named M x1 x2 = some res) : CM l b C n 1 y_MO_named b_MO_named 3 (some .int) [.ref (b + 191), vI x1, vI x2] M (QI b C n res.1 res.2) := by
  refine CM.of (lo := 231) (ow := "WardFallsModel") (by decide) rfl (Nat.le_of_ble_eq_true rfl) hlo (fun p e s m below meth c F hlk hr hS ls hl => ?_)
  have hl : lv_has ls 3 [(0, .ref (b + 191)), (1, vI x1), (2, vI x2)] := hl
  unfold t_MO_named at hT
  refine lv_aload_n F.hx F.hb d_MO_named_0 rfl (lv_at hl 0 rfl) ?_
  refine r_iconst F.hx F.hb d_MO_named_1 ?_
  refine r_putI (N := 68) (T := T1) (j := 0) F hS (show 191 < 231 by decide) (show shK 191 = 5 from rfl) (show shN 191 = 68 from rfl) rfl (Nat.le_of_ble_eq_true rfl) ing1 tyok1 nm1 rfl rfl rfl rfl rfl rfl mw_1389 (inr_c rfl) d_MO_named_2 (fun H locs hS => ?_)
  obtain ⟨M1, eM1⟩ : ∃ q, q = (setI M 191 0 0) := ⟨_, rfl⟩
  replace hS : St b C n M1 s H locs := by rw [eM1]; exact hS
  replace hT := qlet_eq hT eM1
  refine lv_iload_n F.hx F.hb d_MO_named_5 rfl (lv_at hl 1 rfl) ?_
  refine r_if_ne (tgt := 27) F.hx F.hb hx1 d_MO_named_6 (by decide) (fun c2 => ?_) (fun c2 => ?_)
  · replace hT := (if_neg c2).symm.trans hT
    refine lv_iload_n F.hx F.hb d_MO_named_27 rfl (lv_at hl 1 rfl) ?_
    refine r_iconst F.hx F.hb d_MO_named_28 ?_
    refine r_icmp_ne (tgt := 51) F.hx F.hb hx1 (inr_c rfl) d_MO_named_29 (by decide) (fun c3 => ?_) (fun c3 => ?_)
    · replace hT := (if_neg c3).symm.trans hT
      refine r_iconst F.hx F.hb d_MO_named_51 ?_
      cases hT
      exact r_iret F hlk hr rfl hS (inr_c rfl) d_MO_named_52
    · replace hT := (if_pos c3).symm.trans hT
      refine lv_aload_n F.hx F.hb d_MO_named_32 rfl (lv_at hl 0 rfl) ?_
      refine r_get (v := .ref (b + 200)) (N := 68) (T := T1) (j := 10) F hS (show 191 < 231 by decide) (show shK 191 = 5 from rfl) (show shN 191 = 68 from rfl) rfl (Nat.le_of_ble_eq_true rfl) ing1 mw_1399 (fv_sg rfl rfl rfl) d_MO_named_33 ?_
      refine r_iconst F.hx F.hb d_MO_named_36 ?_
      refine lv_aload_n F.hx F.hb d_MO_named_37 rfl (lv_at hl 0 rfl) ?_
      refine r_get (v := .ref (b + 193)) (N := 68) (T := T1) (j := 3) F hS (show 191 < 231 by decide) (show shK 191 = 5 from rfl) (show shN 191 = 68 from rfl) rfl (Nat.le_of_ble_eq_true rfl) ing1 mw_1392 (fv_sg rfl rfl rfl) d_MO_named_38 ?_
      refine r_bipush F.hx F.hb d_MO_named_41 rfl ?_
      refine r_iald F hS (show 193 < 231 by decide) (show shK 193 = 0 from rfl) (show shN 193 = 18 from rfl) (inr_c rfl) (by omega) (by omega) d_MO_named_43 ?_
      have i4 := hS.rng 193 6
      refine lv_iload_n F.hx F.hb d_MO_named_44 rfl (lv_at hl 2 rfl) ?_
      obtain ⟨q5, hq5, hT⟩ := q_obind hT
      refine r_backI F hS (r_runS (As := [.ref (b + 200), vI 0, vI (M1.1 193 6), vI x2]) F hS (c_MO_found l F.2.2.1 M1 200 16 0 (M1.1 193 6) x2 (show arrP 0 200 16 231 from ⟨rfl, rfl, by decide⟩) (inr_c rfl) i4 hx2 _ hq5) gs_MO_218 hd_MO_found ⟨Nat.le_of_ble_eq_true rfl, Nat.le_of_ble_eq_true rfl⟩ rfl hl.1 (Nat.le_of_ble_eq_true rfl) ⟨Nat.zero_le _, Nat.zero_le _⟩ rfl d_MO_named_45) (fun H locs hS h6 => ?_)
      refine lv_goto (tgt := 52) F.hx F.hb d_MO_named_48 (by decide) ?_
      cases hT
      exact r_iret F hlk hr rfl hS h6 d_MO_named_52
  · replace hT := (if_pos c2).symm.trans hT
    refine lv_aload_n F.hx F.hb d_MO_named_9 rfl (lv_at hl 0 rfl) ?_
    refine r_get (v := .ref (b + 194)) (N := 68) (T := T1) (j := 4) F hS (show 191 < 231 by decide) (show shK 191 = 5 from rfl) (show shN 191 = 68 from rfl) rfl (Nat.le_of_ble_eq_true rfl) ing1 mw_1393 (fv_sg rfl rfl rfl) d_MO_named_10 ?_
    refine r_iconst F.hx F.hb d_MO_named_13 ?_
    refine lv_aload_n F.hx F.hb d_MO_named_14 rfl (lv_at hl 0 rfl) ?_
    refine r_get (v := .ref (b + 193)) (N := 68) (T := T1) (j := 3) F hS (show 191 < 231 by decide) (show shK 191 = 5 from rfl) (show shN 191 = 68 from rfl) rfl (Nat.le_of_ble_eq_true rfl) ing1 mw_1392 (fv_sg rfl rfl rfl) d_MO_named_15 ?_
    refine r_iconst F.hx F.hb d_MO_named_18 ?_
    refine r_iald F hS (show 193 < 231 by decide) (show shK 193 = 0 from rfl) (show shN 193 = 18 from rfl) (inr_c rfl) (by omega) (by omega) d_MO_named_19 ?_
    have i7 := hS.rng 193 2
    refine lv_iload_n F.hx F.hb d_MO_named_20 rfl (lv_at hl 2 rfl) ?_
    obtain ⟨q8, hq8, hT⟩ := q_obind hT
    refine r_backI F hS (r_runS (As := [.ref (b + 194), vI 0, vI (M1.1 193 2), vI x2]) F hS (c_MO_found l F.2.2.1 M1 194 8 0 (M1.1 193 2) x2 (show arrP 0 194 8 231 from ⟨rfl, rfl, by decide⟩) (inr_c rfl) i7 hx2 _ hq8) gs_MO_218 hd_MO_found ⟨Nat.le_of_ble_eq_true rfl, Nat.le_of_ble_eq_true rfl⟩ rfl hl.1 (Nat.le_of_ble_eq_true rfl) ⟨Nat.zero_le _, Nat.zero_le _⟩ rfl d_MO_named_21) (fun H locs hS h9 => ?_)
    refine lv_goto (tgt := 52) F.hx F.hb d_MO_named_24 (by decide) ?_
    cases hT
    exact r_iret F hlk hr rfl hS h9 d_MO_named_52
theorem wn_MO_copies_0 : ∀ i, i < 96 → bA b_MO_copies (0 + i) = wB [42, 180, 0, 60, 27, 42, 180, 0, 60, 28, 46, 79, 42, 180, 0, 63, 27, 42, 180, 0, 63, 28, 46, 79, 42, 180, 0, 66, 27, 42, 180, 0, 66, 28, 46, 79, 42, 180, 0, 69, 27, 42, 180, 0, 69, 28, 47, 80, 42, 180, 0, 73, 27, 42, 180, 0, 73, 28, 47, 80, 3, 62, 29, 7, 162, 0, 29, 42, 180, 0, 76, 7, 27, 104, 29, 96, 42, 180, 0, 76, 7, 28, 104, 29, 96, 46, 79, 132, 3, 1, 167, 255, 228, 3, 62, 29] i := wB_of (by decide +kernel)
theorem d_MO_copies_0 : decode b_MO_copies 0 = .ok (.aload_n 0, 1) := dc_42 (q0_win (r := 0) wn_MO_copies_0 (by decide +kernel))
theorem d_MO_copies_1 : decode b_MO_copies 1 = .ok (.getfield 60, 3) := dc_180 (qU2_win (r := 1) wn_MO_copies_0 (by decide +kernel))
theorem d_MO_copies_4 : decode b_MO_copies 4 = .ok (.iload_n 1, 1) := dc_27 (q0_win (r := 4) wn_MO_copies_0 (by decide +kernel))
theorem d_MO_copies_5 : decode b_MO_copies 5 = .ok (.aload_n 0, 1) := dc_42 (q0_win (r := 5) wn_MO_copies_0 (by decide +kernel))
theorem d_MO_copies_6 : decode b_MO_copies 6 = .ok (.getfield 60, 3) := dc_180 (qU2_win (r := 6) wn_MO_copies_0 (by decide +kernel))
theorem d_MO_copies_9 : decode b_MO_copies 9 = .ok (.iload_n 2, 1) := dc_28 (q0_win (r := 9) wn_MO_copies_0 (by decide +kernel))
theorem d_MO_copies_10 : decode b_MO_copies 10 = .ok (.iaload, 1) := dc_46 (q0_win (r := 10) wn_MO_copies_0 (by decide +kernel))
theorem d_MO_copies_11 : decode b_MO_copies 11 = .ok (.iastore, 1) := dc_79 (q0_win (r := 11) wn_MO_copies_0 (by decide +kernel))
theorem d_MO_copies_12 : decode b_MO_copies 12 = .ok (.aload_n 0, 1) := dc_42 (q0_win (r := 12) wn_MO_copies_0 (by decide +kernel))
theorem d_MO_copies_13 : decode b_MO_copies 13 = .ok (.getfield 63, 3) := dc_180 (qU2_win (r := 13) wn_MO_copies_0 (by decide +kernel))
theorem d_MO_copies_16 : decode b_MO_copies 16 = .ok (.iload_n 1, 1) := dc_27 (q0_win (r := 16) wn_MO_copies_0 (by decide +kernel))
theorem d_MO_copies_17 : decode b_MO_copies 17 = .ok (.aload_n 0, 1) := dc_42 (q0_win (r := 17) wn_MO_copies_0 (by decide +kernel))
theorem d_MO_copies_18 : decode b_MO_copies 18 = .ok (.getfield 63, 3) := dc_180 (qU2_win (r := 18) wn_MO_copies_0 (by decide +kernel))
theorem d_MO_copies_21 : decode b_MO_copies 21 = .ok (.iload_n 2, 1) := dc_28 (q0_win (r := 21) wn_MO_copies_0 (by decide +kernel))
theorem d_MO_copies_22 : decode b_MO_copies 22 = .ok (.iaload, 1) := dc_46 (q0_win (r := 22) wn_MO_copies_0 (by decide +kernel))
theorem d_MO_copies_23 : decode b_MO_copies 23 = .ok (.iastore, 1) := dc_79 (q0_win (r := 23) wn_MO_copies_0 (by decide +kernel))
theorem d_MO_copies_24 : decode b_MO_copies 24 = .ok (.aload_n 0, 1) := dc_42 (q0_win (r := 24) wn_MO_copies_0 (by decide +kernel))
theorem d_MO_copies_25 : decode b_MO_copies 25 = .ok (.getfield 66, 3) := dc_180 (qU2_win (r := 25) wn_MO_copies_0 (by decide +kernel))
theorem d_MO_copies_28 : decode b_MO_copies 28 = .ok (.iload_n 1, 1) := dc_27 (q0_win (r := 28) wn_MO_copies_0 (by decide +kernel))
theorem d_MO_copies_29 : decode b_MO_copies 29 = .ok (.aload_n 0, 1) := dc_42 (q0_win (r := 29) wn_MO_copies_0 (by decide +kernel))
theorem d_MO_copies_30 : decode b_MO_copies 30 = .ok (.getfield 66, 3) := dc_180 (qU2_win (r := 30) wn_MO_copies_0 (by decide +kernel))
theorem d_MO_copies_33 : decode b_MO_copies 33 = .ok (.iload_n 2, 1) := dc_28 (q0_win (r := 33) wn_MO_copies_0 (by decide +kernel))
theorem d_MO_copies_34 : decode b_MO_copies 34 = .ok (.iaload, 1) := dc_46 (q0_win (r := 34) wn_MO_copies_0 (by decide +kernel))
theorem d_MO_copies_35 : decode b_MO_copies 35 = .ok (.iastore, 1) := dc_79 (q0_win (r := 35) wn_MO_copies_0 (by decide +kernel))
theorem d_MO_copies_36 : decode b_MO_copies 36 = .ok (.aload_n 0, 1) := dc_42 (q0_win (r := 36) wn_MO_copies_0 (by decide +kernel))
theorem d_MO_copies_37 : decode b_MO_copies 37 = .ok (.getfield 69, 3) := dc_180 (qU2_win (r := 37) wn_MO_copies_0 (by decide +kernel))
theorem d_MO_copies_40 : decode b_MO_copies 40 = .ok (.iload_n 1, 1) := dc_27 (q0_win (r := 40) wn_MO_copies_0 (by decide +kernel))
theorem d_MO_copies_41 : decode b_MO_copies 41 = .ok (.aload_n 0, 1) := dc_42 (q0_win (r := 41) wn_MO_copies_0 (by decide +kernel))
theorem d_MO_copies_42 : decode b_MO_copies 42 = .ok (.getfield 69, 3) := dc_180 (qU2_win (r := 42) wn_MO_copies_0 (by decide +kernel))
theorem d_MO_copies_45 : decode b_MO_copies 45 = .ok (.iload_n 2, 1) := dc_28 (q0_win (r := 45) wn_MO_copies_0 (by decide +kernel))
theorem d_MO_copies_46 : decode b_MO_copies 46 = .ok (.laload, 1) := dc_47 (q0_win (r := 46) wn_MO_copies_0 (by decide +kernel))
theorem d_MO_copies_47 : decode b_MO_copies 47 = .ok (.lastore, 1) := dc_80 (q0_win (r := 47) wn_MO_copies_0 (by decide +kernel))
theorem d_MO_copies_48 : decode b_MO_copies 48 = .ok (.aload_n 0, 1) := dc_42 (q0_win (r := 48) wn_MO_copies_0 (by decide +kernel))
theorem d_MO_copies_49 : decode b_MO_copies 49 = .ok (.getfield 73, 3) := dc_180 (qU2_win (r := 49) wn_MO_copies_0 (by decide +kernel))
theorem d_MO_copies_52 : decode b_MO_copies 52 = .ok (.iload_n 1, 1) := dc_27 (q0_win (r := 52) wn_MO_copies_0 (by decide +kernel))
theorem d_MO_copies_53 : decode b_MO_copies 53 = .ok (.aload_n 0, 1) := dc_42 (q0_win (r := 53) wn_MO_copies_0 (by decide +kernel))
theorem d_MO_copies_54 : decode b_MO_copies 54 = .ok (.getfield 73, 3) := dc_180 (qU2_win (r := 54) wn_MO_copies_0 (by decide +kernel))
theorem d_MO_copies_57 : decode b_MO_copies 57 = .ok (.iload_n 2, 1) := dc_28 (q0_win (r := 57) wn_MO_copies_0 (by decide +kernel))
theorem d_MO_copies_58 : decode b_MO_copies 58 = .ok (.laload, 1) := dc_47 (q0_win (r := 58) wn_MO_copies_0 (by decide +kernel))
theorem d_MO_copies_59 : decode b_MO_copies 59 = .ok (.lastore, 1) := dc_80 (q0_win (r := 59) wn_MO_copies_0 (by decide +kernel))
theorem d_MO_copies_60 : decode b_MO_copies 60 = .ok (.iconst 0, 1) := dc_3 (q0_win (r := 60) wn_MO_copies_0 (by decide +kernel))
theorem d_MO_copies_61 : decode b_MO_copies 61 = .ok (.istore_n 3, 1) := dc_62 (q0_win (r := 61) wn_MO_copies_0 (by decide +kernel))
theorem d_MO_copies_62 : decode b_MO_copies 62 = .ok (.iload_n 3, 1) := dc_29 (q0_win (r := 62) wn_MO_copies_0 (by decide +kernel))
theorem d_MO_copies_63 : decode b_MO_copies 63 = .ok (.iconst 4, 1) := dc_7 (q0_win (r := 63) wn_MO_copies_0 (by decide +kernel))
theorem d_MO_copies_64 : decode b_MO_copies 64 = .ok (.if_icmp .ge 29, 3) := dc_162 (qS2_win (r := 64) wn_MO_copies_0 (by decide +kernel))
theorem d_MO_copies_67 : decode b_MO_copies 67 = .ok (.aload_n 0, 1) := dc_42 (q0_win (r := 67) wn_MO_copies_0 (by decide +kernel))
theorem d_MO_copies_68 : decode b_MO_copies 68 = .ok (.getfield 76, 3) := dc_180 (qU2_win (r := 68) wn_MO_copies_0 (by decide +kernel))
theorem d_MO_copies_71 : decode b_MO_copies 71 = .ok (.iconst 4, 1) := dc_7 (q0_win (r := 71) wn_MO_copies_0 (by decide +kernel))
theorem d_MO_copies_72 : decode b_MO_copies 72 = .ok (.iload_n 1, 1) := dc_27 (q0_win (r := 72) wn_MO_copies_0 (by decide +kernel))
theorem d_MO_copies_73 : decode b_MO_copies 73 = .ok (.imul, 1) := dc_104 (q0_win (r := 73) wn_MO_copies_0 (by decide +kernel))
theorem d_MO_copies_74 : decode b_MO_copies 74 = .ok (.iload_n 3, 1) := dc_29 (q0_win (r := 74) wn_MO_copies_0 (by decide +kernel))
theorem d_MO_copies_75 : decode b_MO_copies 75 = .ok (.iadd, 1) := dc_96 (q0_win (r := 75) wn_MO_copies_0 (by decide +kernel))
theorem d_MO_copies_76 : decode b_MO_copies 76 = .ok (.aload_n 0, 1) := dc_42 (q0_win (r := 76) wn_MO_copies_0 (by decide +kernel))
theorem d_MO_copies_77 : decode b_MO_copies 77 = .ok (.getfield 76, 3) := dc_180 (qU2_win (r := 77) wn_MO_copies_0 (by decide +kernel))
theorem d_MO_copies_80 : decode b_MO_copies 80 = .ok (.iconst 4, 1) := dc_7 (q0_win (r := 80) wn_MO_copies_0 (by decide +kernel))
theorem d_MO_copies_81 : decode b_MO_copies 81 = .ok (.iload_n 2, 1) := dc_28 (q0_win (r := 81) wn_MO_copies_0 (by decide +kernel))
theorem d_MO_copies_82 : decode b_MO_copies 82 = .ok (.imul, 1) := dc_104 (q0_win (r := 82) wn_MO_copies_0 (by decide +kernel))
theorem d_MO_copies_83 : decode b_MO_copies 83 = .ok (.iload_n 3, 1) := dc_29 (q0_win (r := 83) wn_MO_copies_0 (by decide +kernel))
theorem d_MO_copies_84 : decode b_MO_copies 84 = .ok (.iadd, 1) := dc_96 (q0_win (r := 84) wn_MO_copies_0 (by decide +kernel))
theorem d_MO_copies_85 : decode b_MO_copies 85 = .ok (.iaload, 1) := dc_46 (q0_win (r := 85) wn_MO_copies_0 (by decide +kernel))
theorem d_MO_copies_86 : decode b_MO_copies 86 = .ok (.iastore, 1) := dc_79 (q0_win (r := 86) wn_MO_copies_0 (by decide +kernel))
theorem d_MO_copies_87 : decode b_MO_copies 87 = .ok (.iinc 3 1, 3) := dc_132 (qI_win (r := 87) wn_MO_copies_0 (by decide +kernel))
theorem d_MO_copies_90 : decode b_MO_copies 90 = .ok (.goto (-28), 3) := dc_167 (qS2_win (r := 90) wn_MO_copies_0 (by decide +kernel))
theorem d_MO_copies_93 : decode b_MO_copies 93 = .ok (.iconst 0, 1) := dc_3 (q0_win (r := 93) wn_MO_copies_0 (by decide +kernel))
theorem d_MO_copies_94 : decode b_MO_copies 94 = .ok (.istore_n 3, 1) := dc_62 (q0_win (r := 94) wn_MO_copies_0 (by decide +kernel))
theorem d_MO_copies_95 : decode b_MO_copies 95 = .ok (.iload_n 3, 1) := dc_29 (q0_win (r := 95) wn_MO_copies_0 (by decide +kernel))
theorem wn_MO_copies_96 : ∀ i, i < 78 → bA b_MO_copies (96 + i) = wB [16, 8, 162, 0, 75, 42, 180, 0, 79, 16, 8, 27, 104, 29, 96, 42, 180, 0, 79, 16, 8, 28, 104, 29, 96, 46, 79, 42, 180, 0, 82, 16, 8, 27, 104, 29, 96, 42, 180, 0, 82, 16, 8, 28, 104, 29, 96, 46, 79, 42, 180, 0, 85, 16, 8, 27, 104, 29, 96, 42, 180, 0, 85, 16, 8, 28, 104, 29, 96, 46, 79, 132, 3, 1, 167, 255, 181, 177] i := wB_of (by decide +kernel)
theorem d_MO_copies_96 : decode b_MO_copies 96 = .ok (.bipush 8, 2) := dc_16 (qS1_win (r := 0) wn_MO_copies_96 (by decide +kernel))
theorem d_MO_copies_98 : decode b_MO_copies 98 = .ok (.if_icmp .ge 75, 3) := dc_162 (qS2_win (r := 2) wn_MO_copies_96 (by decide +kernel))
theorem d_MO_copies_101 : decode b_MO_copies 101 = .ok (.aload_n 0, 1) := dc_42 (q0_win (r := 5) wn_MO_copies_96 (by decide +kernel))
theorem d_MO_copies_102 : decode b_MO_copies 102 = .ok (.getfield 79, 3) := dc_180 (qU2_win (r := 6) wn_MO_copies_96 (by decide +kernel))
theorem d_MO_copies_105 : decode b_MO_copies 105 = .ok (.bipush 8, 2) := dc_16 (qS1_win (r := 9) wn_MO_copies_96 (by decide +kernel))
theorem d_MO_copies_107 : decode b_MO_copies 107 = .ok (.iload_n 1, 1) := dc_27 (q0_win (r := 11) wn_MO_copies_96 (by decide +kernel))
theorem d_MO_copies_108 : decode b_MO_copies 108 = .ok (.imul, 1) := dc_104 (q0_win (r := 12) wn_MO_copies_96 (by decide +kernel))
theorem d_MO_copies_109 : decode b_MO_copies 109 = .ok (.iload_n 3, 1) := dc_29 (q0_win (r := 13) wn_MO_copies_96 (by decide +kernel))
theorem d_MO_copies_110 : decode b_MO_copies 110 = .ok (.iadd, 1) := dc_96 (q0_win (r := 14) wn_MO_copies_96 (by decide +kernel))
theorem d_MO_copies_111 : decode b_MO_copies 111 = .ok (.aload_n 0, 1) := dc_42 (q0_win (r := 15) wn_MO_copies_96 (by decide +kernel))
theorem d_MO_copies_112 : decode b_MO_copies 112 = .ok (.getfield 79, 3) := dc_180 (qU2_win (r := 16) wn_MO_copies_96 (by decide +kernel))
theorem d_MO_copies_115 : decode b_MO_copies 115 = .ok (.bipush 8, 2) := dc_16 (qS1_win (r := 19) wn_MO_copies_96 (by decide +kernel))
theorem d_MO_copies_117 : decode b_MO_copies 117 = .ok (.iload_n 2, 1) := dc_28 (q0_win (r := 21) wn_MO_copies_96 (by decide +kernel))
theorem d_MO_copies_118 : decode b_MO_copies 118 = .ok (.imul, 1) := dc_104 (q0_win (r := 22) wn_MO_copies_96 (by decide +kernel))
theorem d_MO_copies_119 : decode b_MO_copies 119 = .ok (.iload_n 3, 1) := dc_29 (q0_win (r := 23) wn_MO_copies_96 (by decide +kernel))
theorem d_MO_copies_120 : decode b_MO_copies 120 = .ok (.iadd, 1) := dc_96 (q0_win (r := 24) wn_MO_copies_96 (by decide +kernel))
theorem d_MO_copies_121 : decode b_MO_copies 121 = .ok (.iaload, 1) := dc_46 (q0_win (r := 25) wn_MO_copies_96 (by decide +kernel))
theorem d_MO_copies_122 : decode b_MO_copies 122 = .ok (.iastore, 1) := dc_79 (q0_win (r := 26) wn_MO_copies_96 (by decide +kernel))
theorem d_MO_copies_123 : decode b_MO_copies 123 = .ok (.aload_n 0, 1) := dc_42 (q0_win (r := 27) wn_MO_copies_96 (by decide +kernel))
theorem d_MO_copies_124 : decode b_MO_copies 124 = .ok (.getfield 82, 3) := dc_180 (qU2_win (r := 28) wn_MO_copies_96 (by decide +kernel))
theorem d_MO_copies_127 : decode b_MO_copies 127 = .ok (.bipush 8, 2) := dc_16 (qS1_win (r := 31) wn_MO_copies_96 (by decide +kernel))
theorem d_MO_copies_129 : decode b_MO_copies 129 = .ok (.iload_n 1, 1) := dc_27 (q0_win (r := 33) wn_MO_copies_96 (by decide +kernel))
theorem d_MO_copies_130 : decode b_MO_copies 130 = .ok (.imul, 1) := dc_104 (q0_win (r := 34) wn_MO_copies_96 (by decide +kernel))
theorem d_MO_copies_131 : decode b_MO_copies 131 = .ok (.iload_n 3, 1) := dc_29 (q0_win (r := 35) wn_MO_copies_96 (by decide +kernel))
theorem d_MO_copies_132 : decode b_MO_copies 132 = .ok (.iadd, 1) := dc_96 (q0_win (r := 36) wn_MO_copies_96 (by decide +kernel))
theorem d_MO_copies_133 : decode b_MO_copies 133 = .ok (.aload_n 0, 1) := dc_42 (q0_win (r := 37) wn_MO_copies_96 (by decide +kernel))
theorem d_MO_copies_134 : decode b_MO_copies 134 = .ok (.getfield 82, 3) := dc_180 (qU2_win (r := 38) wn_MO_copies_96 (by decide +kernel))
theorem d_MO_copies_137 : decode b_MO_copies 137 = .ok (.bipush 8, 2) := dc_16 (qS1_win (r := 41) wn_MO_copies_96 (by decide +kernel))
theorem d_MO_copies_139 : decode b_MO_copies 139 = .ok (.iload_n 2, 1) := dc_28 (q0_win (r := 43) wn_MO_copies_96 (by decide +kernel))
theorem d_MO_copies_140 : decode b_MO_copies 140 = .ok (.imul, 1) := dc_104 (q0_win (r := 44) wn_MO_copies_96 (by decide +kernel))
theorem d_MO_copies_141 : decode b_MO_copies 141 = .ok (.iload_n 3, 1) := dc_29 (q0_win (r := 45) wn_MO_copies_96 (by decide +kernel))
theorem d_MO_copies_142 : decode b_MO_copies 142 = .ok (.iadd, 1) := dc_96 (q0_win (r := 46) wn_MO_copies_96 (by decide +kernel))
theorem d_MO_copies_143 : decode b_MO_copies 143 = .ok (.iaload, 1) := dc_46 (q0_win (r := 47) wn_MO_copies_96 (by decide +kernel))
theorem d_MO_copies_144 : decode b_MO_copies 144 = .ok (.iastore, 1) := dc_79 (q0_win (r := 48) wn_MO_copies_96 (by decide +kernel))
theorem d_MO_copies_145 : decode b_MO_copies 145 = .ok (.aload_n 0, 1) := dc_42 (q0_win (r := 49) wn_MO_copies_96 (by decide +kernel))
theorem d_MO_copies_146 : decode b_MO_copies 146 = .ok (.getfield 85, 3) := dc_180 (qU2_win (r := 50) wn_MO_copies_96 (by decide +kernel))
theorem d_MO_copies_149 : decode b_MO_copies 149 = .ok (.bipush 8, 2) := dc_16 (qS1_win (r := 53) wn_MO_copies_96 (by decide +kernel))
theorem d_MO_copies_151 : decode b_MO_copies 151 = .ok (.iload_n 1, 1) := dc_27 (q0_win (r := 55) wn_MO_copies_96 (by decide +kernel))
theorem d_MO_copies_152 : decode b_MO_copies 152 = .ok (.imul, 1) := dc_104 (q0_win (r := 56) wn_MO_copies_96 (by decide +kernel))
theorem d_MO_copies_153 : decode b_MO_copies 153 = .ok (.iload_n 3, 1) := dc_29 (q0_win (r := 57) wn_MO_copies_96 (by decide +kernel))
theorem d_MO_copies_154 : decode b_MO_copies 154 = .ok (.iadd, 1) := dc_96 (q0_win (r := 58) wn_MO_copies_96 (by decide +kernel))
theorem d_MO_copies_155 : decode b_MO_copies 155 = .ok (.aload_n 0, 1) := dc_42 (q0_win (r := 59) wn_MO_copies_96 (by decide +kernel))
theorem d_MO_copies_156 : decode b_MO_copies 156 = .ok (.getfield 85, 3) := dc_180 (qU2_win (r := 60) wn_MO_copies_96 (by decide +kernel))
theorem d_MO_copies_159 : decode b_MO_copies 159 = .ok (.bipush 8, 2) := dc_16 (qS1_win (r := 63) wn_MO_copies_96 (by decide +kernel))
theorem d_MO_copies_161 : decode b_MO_copies 161 = .ok (.iload_n 2, 1) := dc_28 (q0_win (r := 65) wn_MO_copies_96 (by decide +kernel))
theorem d_MO_copies_162 : decode b_MO_copies 162 = .ok (.imul, 1) := dc_104 (q0_win (r := 66) wn_MO_copies_96 (by decide +kernel))
theorem d_MO_copies_163 : decode b_MO_copies 163 = .ok (.iload_n 3, 1) := dc_29 (q0_win (r := 67) wn_MO_copies_96 (by decide +kernel))
theorem d_MO_copies_164 : decode b_MO_copies 164 = .ok (.iadd, 1) := dc_96 (q0_win (r := 68) wn_MO_copies_96 (by decide +kernel))
theorem d_MO_copies_165 : decode b_MO_copies 165 = .ok (.iaload, 1) := dc_46 (q0_win (r := 69) wn_MO_copies_96 (by decide +kernel))
theorem d_MO_copies_166 : decode b_MO_copies 166 = .ok (.iastore, 1) := dc_79 (q0_win (r := 70) wn_MO_copies_96 (by decide +kernel))
theorem d_MO_copies_167 : decode b_MO_copies 167 = .ok (.iinc 3 1, 3) := dc_132 (qI_win (r := 71) wn_MO_copies_96 (by decide +kernel))
theorem d_MO_copies_170 : decode b_MO_copies 170 = .ok (.goto (-75), 3) := dc_167 (qS2_win (r := 74) wn_MO_copies_96 (by decide +kernel))
theorem d_MO_copies_173 : decode b_MO_copies 173 = .ok (.return_, 1) := dc_177 (q0_win (r := 77) wn_MO_copies_96 (by decide +kernel))
def t_MO_copies_L95 (x1 : Int) (x2 : Int)  : Nat → Mem → Int → Option (Mem)
  | 0, _, _ => none
  | fu + 1, M, v3_ => (if 8 ≤ v3_ then (some M) else (qguard (0 ≤ (w32 ((w32 (8 * x2)) + v3_)) ∧ (w32 ((w32 (8 * x2)) + v3_)) < 184) (qguard (0 ≤ (w32 ((w32 (8 * x1)) + v3_)) ∧ (w32 ((w32 (8 * x1)) + v3_)) < 184) (qlet (setI M 213 (w32 ((w32 (8 * x1)) + v3_)) (M.1 213 (w32 ((w32 (8 * x2)) + v3_)))) fun M28 => (qguard (0 ≤ (w32 ((w32 (8 * x2)) + v3_)) ∧ (w32 ((w32 (8 * x2)) + v3_)) < 184) (qguard (0 ≤ (w32 ((w32 (8 * x1)) + v3_)) ∧ (w32 ((w32 (8 * x1)) + v3_)) < 184) (qlet (setI M28 214 (w32 ((w32 (8 * x1)) + v3_)) (M28.1 214 (w32 ((w32 (8 * x2)) + v3_)))) fun M32 => (qguard (0 ≤ (w32 ((w32 (8 * x2)) + v3_)) ∧ (w32 ((w32 (8 * x2)) + v3_)) < 184) (qguard (0 ≤ (w32 ((w32 (8 * x1)) + v3_)) ∧ (w32 ((w32 (8 * x1)) + v3_)) < 184) (qlet (setI M32 215 (w32 ((w32 (8 * x1)) + v3_)) (M32.1 215 (w32 ((w32 (8 * x2)) + v3_)))) fun M36 => (t_MO_copies_L95 x1 x2 fu M36 (w32 (v3_ + 1)))))))))))))
def t_MO_copies_L62 (x1 : Int) (x2 : Int)  : Nat → Mem → Int → Option (Mem)
  | 0, _, _ => none
  | fu + 1, M, v3_ => (if 4 ≤ v3_ then (t_MO_copies_L95 x1 x2 FU M 0) else (qguard (0 ≤ (w32 ((w32 (4 * x2)) + v3_)) ∧ (w32 ((w32 (4 * x2)) + v3_)) < 92) (qguard (0 ≤ (w32 ((w32 (4 * x1)) + v3_)) ∧ (w32 ((w32 (4 * x1)) + v3_)) < 92) (qlet (setI M 212 (w32 ((w32 (4 * x1)) + v3_)) (M.1 212 (w32 ((w32 (4 * x2)) + v3_)))) fun M23 => (t_MO_copies_L62 x1 x2 fu M23 (w32 (v3_ + 1)))))))
def t_MO_copies (M : Mem) (x1 : Int) (x2 : Int) : Option (Mem) := (qguard (0 ≤ x2 ∧ x2 < 23) (qguard (0 ≤ x1 ∧ x1 < 23) (qlet (setI M 207 x1 (M.1 207 x2)) fun M4 => (qguard (0 ≤ x2 ∧ x2 < 23) (qguard (0 ≤ x1 ∧ x1 < 23) (qlet (setI M4 208 x1 (M4.1 208 x2)) fun M8 => (qguard (0 ≤ x2 ∧ x2 < 23) (qguard (0 ≤ x1 ∧ x1 < 23) (qlet (setI M8 209 x1 (M8.1 209 x2)) fun M12 => (qguard (0 ≤ x2 ∧ x2 < 23) (qguard (0 ≤ x1 ∧ x1 < 23) (qlet (setL M12 210 x1 (M12.2 210 x2)) fun M15 => (qguard (0 ≤ x2 ∧ x2 < 23) (qguard (0 ≤ x1 ∧ x1 < 23) (qlet (setL M15 211 x1 (M15.2 211 x2)) fun M18 => (t_MO_copies_L62 x1 x2 FU M18 0))))))))))))))))
set_option maxHeartbeats 4000000 in
set_option maxRecDepth 100000 in
theorem k_MO_copies_L95 (l : Launch) {p : Program} {e : Env} {s : State} {m : MethodId} {below : List Frame} {meth : Method} {c : Code} {b n : Nat} {C : CT} (hlo : 231 ≤ n) (x1 : Int) (x2 : Int) (hx1 : InR x1) (hx2 : InR x2) (F : Cx b p m c b_MO_copies 4 s ([.ref (b + 191), vI x1, vI x2] : List Value).toArray "WardFallsModel" C n 231) (hlk : meth.locks = false) (hr : meth.sig.returnType = none) {res : Mem} : ∀ (fu : Nat) (M : Mem) (v3_ : Int) (hv3_ : InR v3_) (H : Heap) (locs : List Loc) (ls : Array Slot), St b C n M s H locs → lv_has ls 4 [(0, .ref (b + 191)), (1, vI x1), (2, vI x2), (3, vI v3_)] → t_MO_copies_L95 x1 x2 fu M v3_ = some res → W p l e (headSpec (wsM y_MO_copies b_MO_copies 4 (none)) (rmD 0)).room s m ([.ref (b + 191), vI x1, vI x2] : List Value).toArray below meth c H locs 0 0 (MQ below (QV b C n res) ([.ref (b + 191), vI x1, vI x2] : List Value).toArray s 0 0 (frb b)) (F0 m 95 ls []) := by
  intro fu
  induction fu with
  | zero => intro M v3_ hv3_ H locs ls hS hl hT; exact absurd hT (by simp [t_MO_copies_L95])
  | succ fu ih =>
    intro M v3_ hv3_ H locs ls hS hl hT
    rw [t_MO_copies_L95] at hT
    refine lv_iload_n F.hx F.hb d_MO_copies_95 rfl (lv_at hl 3 rfl) ?_
    refine r_bipush F.hx F.hb d_MO_copies_96 rfl ?_
    refine r_icmp_ge (tgt := 173) F.hx F.hb hv3_ (inr_c rfl) d_MO_copies_98 (by decide) (fun c24 => ?_) (fun c24 => ?_)
    · replace hT := (if_pos c24).symm.trans hT
      cases hT
      exact r_vret F hlk hr hS d_MO_copies_173
    · replace hT := (if_neg c24).symm.trans hT
      refine lv_aload_n F.hx F.hb d_MO_copies_101 rfl (lv_at hl 0 rfl) ?_
      refine r_get (v := .ref (b + 213)) (N := 68) (T := T1) (j := 36) F hS (show 191 < 231 by decide) (show shK 191 = 5 from rfl) (show shN 191 = 68 from rfl) rfl (Nat.le_of_ble_eq_true rfl) ing1 mw_1425 (fv_sg rfl rfl rfl) d_MO_copies_102 ?_
      refine r_bipush F.hx F.hb d_MO_copies_105 rfl ?_
      refine lv_iload_n F.hx F.hb d_MO_copies_107 rfl (lv_at hl 1 rfl) ?_
      refine r_imul F.hx F.hb d_MO_copies_108 ?_
      refine lv_iload_n F.hx F.hb d_MO_copies_109 rfl (lv_at hl 3 rfl) ?_
      refine r_iadd F.hx F.hb d_MO_copies_110 ?_
      refine lv_aload_n F.hx F.hb d_MO_copies_111 rfl (lv_at hl 0 rfl) ?_
      refine r_get (v := .ref (b + 213)) (N := 68) (T := T1) (j := 36) F hS (show 191 < 231 by decide) (show shK 191 = 5 from rfl) (show shN 191 = 68 from rfl) rfl (Nat.le_of_ble_eq_true rfl) ing1 mw_1425 (fv_sg rfl rfl rfl) d_MO_copies_112 ?_
      refine r_bipush F.hx F.hb d_MO_copies_115 rfl ?_
      refine lv_iload_n F.hx F.hb d_MO_copies_117 rfl (lv_at hl 2 rfl) ?_
      refine r_imul F.hx F.hb d_MO_copies_118 ?_
      refine lv_iload_n F.hx F.hb d_MO_copies_119 rfl (lv_at hl 3 rfl) ?_
      refine r_iadd F.hx F.hb d_MO_copies_120 ?_
      obtain ⟨⟨g25a, g25b⟩, hT⟩ := q_guard hT
      refine r_iald F hS (show 213 < 231 by decide) (show shK 213 = 0 from rfl) (show shN 213 = 184 from rfl) (inr_w32 _) g25a g25b d_MO_copies_121 ?_
      have i26 := hS.rng 213 (w32 ((w32 (8 * x2)) + v3_))
      obtain ⟨⟨g27a, g27b⟩, hT⟩ := q_guard hT
      refine r_iast F hS (show 213 < 231 by decide) (show shK 213 = 0 from rfl) (show shN 213 = 184 from rfl) (inr_w32 _) i26 g27a g27b d_MO_copies_122 (fun H locs hS => ?_)
      obtain ⟨M28, eM28⟩ : ∃ q, q = (setI M 213 (w32 ((w32 (8 * x1)) + v3_)) (M.1 213 (w32 ((w32 (8 * x2)) + v3_)))) := ⟨_, rfl⟩
      replace hS : St b C n M28 s H locs := by rw [eM28]; exact hS
      replace hT := qlet_eq hT eM28
      refine lv_aload_n F.hx F.hb d_MO_copies_123 rfl (lv_at hl 0 rfl) ?_
      refine r_get (v := .ref (b + 214)) (N := 68) (T := T1) (j := 37) F hS (show 191 < 231 by decide) (show shK 191 = 5 from rfl) (show shN 191 = 68 from rfl) rfl (Nat.le_of_ble_eq_true rfl) ing1 mw_1426 (fv_sg rfl rfl rfl) d_MO_copies_124 ?_
      refine r_bipush F.hx F.hb d_MO_copies_127 rfl ?_
      refine lv_iload_n F.hx F.hb d_MO_copies_129 rfl (lv_at hl 1 rfl) ?_
      refine r_imul F.hx F.hb d_MO_copies_130 ?_
      refine lv_iload_n F.hx F.hb d_MO_copies_131 rfl (lv_at hl 3 rfl) ?_
      refine r_iadd F.hx F.hb d_MO_copies_132 ?_
      refine lv_aload_n F.hx F.hb d_MO_copies_133 rfl (lv_at hl 0 rfl) ?_
      refine r_get (v := .ref (b + 214)) (N := 68) (T := T1) (j := 37) F hS (show 191 < 231 by decide) (show shK 191 = 5 from rfl) (show shN 191 = 68 from rfl) rfl (Nat.le_of_ble_eq_true rfl) ing1 mw_1426 (fv_sg rfl rfl rfl) d_MO_copies_134 ?_
      refine r_bipush F.hx F.hb d_MO_copies_137 rfl ?_
      refine lv_iload_n F.hx F.hb d_MO_copies_139 rfl (lv_at hl 2 rfl) ?_
      refine r_imul F.hx F.hb d_MO_copies_140 ?_
      refine lv_iload_n F.hx F.hb d_MO_copies_141 rfl (lv_at hl 3 rfl) ?_
      refine r_iadd F.hx F.hb d_MO_copies_142 ?_
      obtain ⟨⟨g29a, g29b⟩, hT⟩ := q_guard hT
      refine r_iald F hS (show 214 < 231 by decide) (show shK 214 = 0 from rfl) (show shN 214 = 184 from rfl) (inr_w32 _) g29a g29b d_MO_copies_143 ?_
      have i30 := hS.rng 214 (w32 ((w32 (8 * x2)) + v3_))
      obtain ⟨⟨g31a, g31b⟩, hT⟩ := q_guard hT
      refine r_iast F hS (show 214 < 231 by decide) (show shK 214 = 0 from rfl) (show shN 214 = 184 from rfl) (inr_w32 _) i30 g31a g31b d_MO_copies_144 (fun H locs hS => ?_)
      obtain ⟨M32, eM32⟩ : ∃ q, q = (setI M28 214 (w32 ((w32 (8 * x1)) + v3_)) (M28.1 214 (w32 ((w32 (8 * x2)) + v3_)))) := ⟨_, rfl⟩
      replace hS : St b C n M32 s H locs := by rw [eM32]; exact hS
      replace hT := qlet_eq hT eM32
      refine lv_aload_n F.hx F.hb d_MO_copies_145 rfl (lv_at hl 0 rfl) ?_
      refine r_get (v := .ref (b + 215)) (N := 68) (T := T1) (j := 38) F hS (show 191 < 231 by decide) (show shK 191 = 5 from rfl) (show shN 191 = 68 from rfl) rfl (Nat.le_of_ble_eq_true rfl) ing1 mw_1427 (fv_sg rfl rfl rfl) d_MO_copies_146 ?_
      refine r_bipush F.hx F.hb d_MO_copies_149 rfl ?_
      refine lv_iload_n F.hx F.hb d_MO_copies_151 rfl (lv_at hl 1 rfl) ?_
      refine r_imul F.hx F.hb d_MO_copies_152 ?_
      refine lv_iload_n F.hx F.hb d_MO_copies_153 rfl (lv_at hl 3 rfl) ?_
      refine r_iadd F.hx F.hb d_MO_copies_154 ?_
      refine lv_aload_n F.hx F.hb d_MO_copies_155 rfl (lv_at hl 0 rfl) ?_
      refine r_get (v := .ref (b + 215)) (N := 68) (T := T1) (j := 38) F hS (show 191 < 231 by decide) (show shK 191 = 5 from rfl) (show shN 191 = 68 from rfl) rfl (Nat.le_of_ble_eq_true rfl) ing1 mw_1427 (fv_sg rfl rfl rfl) d_MO_copies_156 ?_
      refine r_bipush F.hx F.hb d_MO_copies_159 rfl ?_
      refine lv_iload_n F.hx F.hb d_MO_copies_161 rfl (lv_at hl 2 rfl) ?_
      refine r_imul F.hx F.hb d_MO_copies_162 ?_
      refine lv_iload_n F.hx F.hb d_MO_copies_163 rfl (lv_at hl 3 rfl) ?_
      refine r_iadd F.hx F.hb d_MO_copies_164 ?_
      obtain ⟨⟨g33a, g33b⟩, hT⟩ := q_guard hT
      refine r_iald F hS (show 215 < 231 by decide) (show shK 215 = 0 from rfl) (show shN 215 = 184 from rfl) (inr_w32 _) g33a g33b d_MO_copies_165 ?_
      have i34 := hS.rng 215 (w32 ((w32 (8 * x2)) + v3_))
      obtain ⟨⟨g35a, g35b⟩, hT⟩ := q_guard hT
      refine r_iast F hS (show 215 < 231 by decide) (show shK 215 = 0 from rfl) (show shN 215 = 184 from rfl) (inr_w32 _) i34 g35a g35b d_MO_copies_166 (fun H locs hS => ?_)
      obtain ⟨M36, eM36⟩ : ∃ q, q = (setI M32 215 (w32 ((w32 (8 * x1)) + v3_)) (M32.1 215 (w32 ((w32 (8 * x2)) + v3_)))) := ⟨_, rfl⟩
      replace hS : St b C n M36 s H locs := by rw [eM36]; exact hS
      replace hT := qlet_eq hT eM36
      refine lv_iinc (v := Int32.ofInt (w32 (v3_ + 1))) (lv' := [(3, vI (w32 (v3_ + 1))), (0, .ref (b + 191)), (1, vI x1), (2, vI x2)]) F.hx F.hb d_MO_copies_167 hl (k := 3) rfl (q_of_add _ _) (Nat.le_of_ble_eq_true rfl) rfl (fun ls hl => ?_)
      refine lv_goto (tgt := 95) F.hx F.hb d_MO_copies_170 (by decide) ?_
      exact ih M36 (w32 (v3_ + 1)) (inr_w32 _) _ _ _ hS (lv_sub hl [1, 2, 3, 0] rfl) hT
set_option maxHeartbeats 4000000 in
set_option maxRecDepth 100000 in
theorem k_MO_copies_L62 (l : Launch) {p : Program} {e : Env} {s : State} {m : MethodId} {below : List Frame} {meth : Method} {c : Code} {b n : Nat} {C : CT} (hlo : 231 ≤ n) (x1 : Int) (x2 : Int) (hx1 : InR x1) (hx2 : InR x2) (F : Cx b p m c b_MO_copies 4 s ([.ref (b + 191), vI x1, vI x2] : List Value).toArray "WardFallsModel" C n 231) (hlk : meth.locks = false) (hr : meth.sig.returnType = none) {res : Mem} : ∀ (fu : Nat) (M : Mem) (v3_ : Int) (hv3_ : InR v3_) (H : Heap) (locs : List Loc) (ls : Array Slot), St b C n M s H locs → lv_has ls 4 [(0, .ref (b + 191)), (1, vI x1), (2, vI x2), (3, vI v3_)] → t_MO_copies_L62 x1 x2 fu M v3_ = some res → W p l e (headSpec (wsM y_MO_copies b_MO_copies 4 (none)) (rmD 0)).room s m ([.ref (b + 191), vI x1, vI x2] : List Value).toArray below meth c H locs 0 0 (MQ below (QV b C n res) ([.ref (b + 191), vI x1, vI x2] : List Value).toArray s 0 0 (frb b)) (F0 m 62 ls []) := by
  intro fu
  induction fu with
  | zero => intro M v3_ hv3_ H locs ls hS hl hT; exact absurd hT (by simp [t_MO_copies_L62])
  | succ fu ih =>
    intro M v3_ hv3_ H locs ls hS hl hT
    rw [t_MO_copies_L62] at hT
    refine lv_iload_n F.hx F.hb d_MO_copies_62 rfl (lv_at hl 3 rfl) ?_
    refine r_iconst F.hx F.hb d_MO_copies_63 ?_
    refine r_icmp_ge (tgt := 93) F.hx F.hb hv3_ (inr_c rfl) d_MO_copies_64 (by decide) (fun c19 => ?_) (fun c19 => ?_)
    · replace hT := (if_pos c19).symm.trans hT
      refine r_iconst F.hx F.hb d_MO_copies_93 ?_
      refine lv_istore_n (lv' := [(3, vI 0), (0, .ref (b + 191)), (1, vI x1), (2, vI x2)]) F.hx F.hb d_MO_copies_94 rfl hl (Nat.le_of_ble_eq_true rfl) rfl (fun ls hl => ?_)
      exact k_MO_copies_L95 l hlo x1 x2 hx1 hx2 F hlk hr FU M 0 (inr_c rfl) _ _ _ hS (lv_sub hl [1, 2, 3, 0] rfl) hT
    · replace hT := (if_neg c19).symm.trans hT
      refine lv_aload_n F.hx F.hb d_MO_copies_67 rfl (lv_at hl 0 rfl) ?_
      refine r_get (v := .ref (b + 212)) (N := 68) (T := T1) (j := 35) F hS (show 191 < 231 by decide) (show shK 191 = 5 from rfl) (show shN 191 = 68 from rfl) rfl (Nat.le_of_ble_eq_true rfl) ing1 mw_1424 (fv_sg rfl rfl rfl) d_MO_copies_68 ?_
      refine r_iconst F.hx F.hb d_MO_copies_71 ?_
      refine lv_iload_n F.hx F.hb d_MO_copies_72 rfl (lv_at hl 1 rfl) ?_
      refine r_imul F.hx F.hb d_MO_copies_73 ?_
      refine lv_iload_n F.hx F.hb d_MO_copies_74 rfl (lv_at hl 3 rfl) ?_
      refine r_iadd F.hx F.hb d_MO_copies_75 ?_
      refine lv_aload_n F.hx F.hb d_MO_copies_76 rfl (lv_at hl 0 rfl) ?_
      refine r_get (v := .ref (b + 212)) (N := 68) (T := T1) (j := 35) F hS (show 191 < 231 by decide) (show shK 191 = 5 from rfl) (show shN 191 = 68 from rfl) rfl (Nat.le_of_ble_eq_true rfl) ing1 mw_1424 (fv_sg rfl rfl rfl) d_MO_copies_77 ?_
      refine r_iconst F.hx F.hb d_MO_copies_80 ?_
      refine lv_iload_n F.hx F.hb d_MO_copies_81 rfl (lv_at hl 2 rfl) ?_
      refine r_imul F.hx F.hb d_MO_copies_82 ?_
      refine lv_iload_n F.hx F.hb d_MO_copies_83 rfl (lv_at hl 3 rfl) ?_
      refine r_iadd F.hx F.hb d_MO_copies_84 ?_
      obtain ⟨⟨g20a, g20b⟩, hT⟩ := q_guard hT
      refine r_iald F hS (show 212 < 231 by decide) (show shK 212 = 0 from rfl) (show shN 212 = 92 from rfl) (inr_w32 _) g20a g20b d_MO_copies_85 ?_
      have i21 := hS.rng 212 (w32 ((w32 (4 * x2)) + v3_))
      obtain ⟨⟨g22a, g22b⟩, hT⟩ := q_guard hT
      refine r_iast F hS (show 212 < 231 by decide) (show shK 212 = 0 from rfl) (show shN 212 = 92 from rfl) (inr_w32 _) i21 g22a g22b d_MO_copies_86 (fun H locs hS => ?_)
      obtain ⟨M23, eM23⟩ : ∃ q, q = (setI M 212 (w32 ((w32 (4 * x1)) + v3_)) (M.1 212 (w32 ((w32 (4 * x2)) + v3_)))) := ⟨_, rfl⟩
      replace hS : St b C n M23 s H locs := by rw [eM23]; exact hS
      replace hT := qlet_eq hT eM23
      refine lv_iinc (v := Int32.ofInt (w32 (v3_ + 1))) (lv' := [(3, vI (w32 (v3_ + 1))), (0, .ref (b + 191)), (1, vI x1), (2, vI x2)]) F.hx F.hb d_MO_copies_87 hl (k := 3) rfl (q_of_add _ _) (Nat.le_of_ble_eq_true rfl) rfl (fun ls hl => ?_)
      refine lv_goto (tgt := 62) F.hx F.hb d_MO_copies_90 (by decide) ?_
      exact ih M23 (w32 (v3_ + 1)) (inr_w32 _) _ _ _ hS (lv_sub hl [1, 2, 3, 0] rfl) hT
set_option maxHeartbeats 4000000 in
set_option maxRecDepth 100000 in
theorem c_MO_copies (l : Launch) {b n : Nat} {C : CT} (hlo : 231 ≤ n) (M : Mem) (x1 : Int) (x2 : Int) (hx1 : InR x1) (hx2 : InR x2) (res : Mem) (hT : t_MO_copies M x1 x2 = some res) : CM l b C n 0 y_MO_copies b_MO_copies 4 (none) [.ref (b + 191), vI x1, vI x2] M (QV b C n res) := by
  refine CM.of (lo := 231) (ow := "WardFallsModel") (by decide) rfl (Nat.le_of_ble_eq_true rfl) hlo (fun p e s m below meth c F hlk hr hS ls hl => ?_)
  have hl : lv_has ls 4 [(0, .ref (b + 191)), (1, vI x1), (2, vI x2)] := hl
  unfold t_MO_copies at hT
  refine lv_aload_n F.hx F.hb d_MO_copies_0 rfl (lv_at hl 0 rfl) ?_
  refine r_get (v := .ref (b + 207)) (N := 68) (T := T1) (j := 30) F hS (show 191 < 231 by decide) (show shK 191 = 5 from rfl) (show shN 191 = 68 from rfl) rfl (Nat.le_of_ble_eq_true rfl) ing1 mw_1419 (fv_sg rfl rfl rfl) d_MO_copies_1 ?_
  refine lv_iload_n F.hx F.hb d_MO_copies_4 rfl (lv_at hl 1 rfl) ?_
  refine lv_aload_n F.hx F.hb d_MO_copies_5 rfl (lv_at hl 0 rfl) ?_
  refine r_get (v := .ref (b + 207)) (N := 68) (T := T1) (j := 30) F hS (show 191 < 231 by decide) (show shK 191 = 5 from rfl) (show shN 191 = 68 from rfl) rfl (Nat.le_of_ble_eq_true rfl) ing1 mw_1419 (fv_sg rfl rfl rfl) d_MO_copies_6 ?_
  refine lv_iload_n F.hx F.hb d_MO_copies_9 rfl (lv_at hl 2 rfl) ?_
  obtain ⟨⟨g1a, g1b⟩, hT⟩ := q_guard hT
  refine r_iald F hS (show 207 < 231 by decide) (show shK 207 = 0 from rfl) (show shN 207 = 23 from rfl) hx2 g1a g1b d_MO_copies_10 ?_
  have i2 := hS.rng 207 x2
  obtain ⟨⟨g3a, g3b⟩, hT⟩ := q_guard hT
  refine r_iast F hS (show 207 < 231 by decide) (show shK 207 = 0 from rfl) (show shN 207 = 23 from rfl) hx1 i2 g3a g3b d_MO_copies_11 (fun H locs hS => ?_)
  obtain ⟨M4, eM4⟩ : ∃ q, q = (setI M 207 x1 (M.1 207 x2)) := ⟨_, rfl⟩
  replace hS : St b C n M4 s H locs := by rw [eM4]; exact hS
  replace hT := qlet_eq hT eM4
  refine lv_aload_n F.hx F.hb d_MO_copies_12 rfl (lv_at hl 0 rfl) ?_
  refine r_get (v := .ref (b + 208)) (N := 68) (T := T1) (j := 31) F hS (show 191 < 231 by decide) (show shK 191 = 5 from rfl) (show shN 191 = 68 from rfl) rfl (Nat.le_of_ble_eq_true rfl) ing1 mw_1420 (fv_sg rfl rfl rfl) d_MO_copies_13 ?_
  refine lv_iload_n F.hx F.hb d_MO_copies_16 rfl (lv_at hl 1 rfl) ?_
  refine lv_aload_n F.hx F.hb d_MO_copies_17 rfl (lv_at hl 0 rfl) ?_
  refine r_get (v := .ref (b + 208)) (N := 68) (T := T1) (j := 31) F hS (show 191 < 231 by decide) (show shK 191 = 5 from rfl) (show shN 191 = 68 from rfl) rfl (Nat.le_of_ble_eq_true rfl) ing1 mw_1420 (fv_sg rfl rfl rfl) d_MO_copies_18 ?_
  refine lv_iload_n F.hx F.hb d_MO_copies_21 rfl (lv_at hl 2 rfl) ?_
  obtain ⟨⟨g5a, g5b⟩, hT⟩ := q_guard hT
  refine r_iald F hS (show 208 < 231 by decide) (show shK 208 = 0 from rfl) (show shN 208 = 23 from rfl) hx2 g5a g5b d_MO_copies_22 ?_
  have i6 := hS.rng 208 x2
  obtain ⟨⟨g7a, g7b⟩, hT⟩ := q_guard hT
  refine r_iast F hS (show 208 < 231 by decide) (show shK 208 = 0 from rfl) (show shN 208 = 23 from rfl) hx1 i6 g7a g7b d_MO_copies_23 (fun H locs hS => ?_)
  obtain ⟨M8, eM8⟩ : ∃ q, q = (setI M4 208 x1 (M4.1 208 x2)) := ⟨_, rfl⟩
  replace hS : St b C n M8 s H locs := by rw [eM8]; exact hS
  replace hT := qlet_eq hT eM8
  refine lv_aload_n F.hx F.hb d_MO_copies_24 rfl (lv_at hl 0 rfl) ?_
  refine r_get (v := .ref (b + 209)) (N := 68) (T := T1) (j := 32) F hS (show 191 < 231 by decide) (show shK 191 = 5 from rfl) (show shN 191 = 68 from rfl) rfl (Nat.le_of_ble_eq_true rfl) ing1 mw_1421 (fv_sg rfl rfl rfl) d_MO_copies_25 ?_
  refine lv_iload_n F.hx F.hb d_MO_copies_28 rfl (lv_at hl 1 rfl) ?_
  refine lv_aload_n F.hx F.hb d_MO_copies_29 rfl (lv_at hl 0 rfl) ?_
  refine r_get (v := .ref (b + 209)) (N := 68) (T := T1) (j := 32) F hS (show 191 < 231 by decide) (show shK 191 = 5 from rfl) (show shN 191 = 68 from rfl) rfl (Nat.le_of_ble_eq_true rfl) ing1 mw_1421 (fv_sg rfl rfl rfl) d_MO_copies_30 ?_
  refine lv_iload_n F.hx F.hb d_MO_copies_33 rfl (lv_at hl 2 rfl) ?_
  obtain ⟨⟨g9a, g9b⟩, hT⟩ := q_guard hT
  refine r_iald F hS (show 209 < 231 by decide) (show shK 209 = 0 from rfl) (show shN 209 = 23 from rfl) hx2 g9a g9b d_MO_copies_34 ?_
  have i10 := hS.rng 209 x2
  obtain ⟨⟨g11a, g11b⟩, hT⟩ := q_guard hT
  refine r_iast F hS (show 209 < 231 by decide) (show shK 209 = 0 from rfl) (show shN 209 = 23 from rfl) hx1 i10 g11a g11b d_MO_copies_35 (fun H locs hS => ?_)
  obtain ⟨M12, eM12⟩ : ∃ q, q = (setI M8 209 x1 (M8.1 209 x2)) := ⟨_, rfl⟩
  replace hS : St b C n M12 s H locs := by rw [eM12]; exact hS
  replace hT := qlet_eq hT eM12
  refine lv_aload_n F.hx F.hb d_MO_copies_36 rfl (lv_at hl 0 rfl) ?_
  refine r_get (v := .ref (b + 210)) (N := 68) (T := T1) (j := 33) F hS (show 191 < 231 by decide) (show shK 191 = 5 from rfl) (show shN 191 = 68 from rfl) rfl (Nat.le_of_ble_eq_true rfl) ing1 mw_1422 (fv_sg rfl rfl rfl) d_MO_copies_37 ?_
  refine lv_iload_n F.hx F.hb d_MO_copies_40 rfl (lv_at hl 1 rfl) ?_
  refine lv_aload_n F.hx F.hb d_MO_copies_41 rfl (lv_at hl 0 rfl) ?_
  refine r_get (v := .ref (b + 210)) (N := 68) (T := T1) (j := 33) F hS (show 191 < 231 by decide) (show shK 191 = 5 from rfl) (show shN 191 = 68 from rfl) rfl (Nat.le_of_ble_eq_true rfl) ing1 mw_1422 (fv_sg rfl rfl rfl) d_MO_copies_42 ?_
  refine lv_iload_n F.hx F.hb d_MO_copies_45 rfl (lv_at hl 2 rfl) ?_
  obtain ⟨⟨g13a, g13b⟩, hT⟩ := q_guard hT
  refine r_lald F hS (show 210 < 231 by decide) (show shK 210 = 2 from rfl) (show shN 210 = 23 from rfl) hx2 g13a g13b d_MO_copies_46 ?_
  obtain ⟨⟨g14a, g14b⟩, hT⟩ := q_guard hT
  refine r_last F hS (show 210 < 231 by decide) (show shK 210 = 2 from rfl) (show shN 210 = 23 from rfl) hx1 g14a g14b d_MO_copies_47 (fun H locs hS => ?_)
  obtain ⟨M15, eM15⟩ : ∃ q, q = (setL M12 210 x1 (M12.2 210 x2)) := ⟨_, rfl⟩
  replace hS : St b C n M15 s H locs := by rw [eM15]; exact hS
  replace hT := qlet_eq hT eM15
  refine lv_aload_n F.hx F.hb d_MO_copies_48 rfl (lv_at hl 0 rfl) ?_
  refine r_get (v := .ref (b + 211)) (N := 68) (T := T1) (j := 34) F hS (show 191 < 231 by decide) (show shK 191 = 5 from rfl) (show shN 191 = 68 from rfl) rfl (Nat.le_of_ble_eq_true rfl) ing1 mw_1423 (fv_sg rfl rfl rfl) d_MO_copies_49 ?_
  refine lv_iload_n F.hx F.hb d_MO_copies_52 rfl (lv_at hl 1 rfl) ?_
  refine lv_aload_n F.hx F.hb d_MO_copies_53 rfl (lv_at hl 0 rfl) ?_
  refine r_get (v := .ref (b + 211)) (N := 68) (T := T1) (j := 34) F hS (show 191 < 231 by decide) (show shK 191 = 5 from rfl) (show shN 191 = 68 from rfl) rfl (Nat.le_of_ble_eq_true rfl) ing1 mw_1423 (fv_sg rfl rfl rfl) d_MO_copies_54 ?_
  refine lv_iload_n F.hx F.hb d_MO_copies_57 rfl (lv_at hl 2 rfl) ?_
  obtain ⟨⟨g16a, g16b⟩, hT⟩ := q_guard hT
  refine r_lald F hS (show 211 < 231 by decide) (show shK 211 = 2 from rfl) (show shN 211 = 23 from rfl) hx2 g16a g16b d_MO_copies_58 ?_
  obtain ⟨⟨g17a, g17b⟩, hT⟩ := q_guard hT
  refine r_last F hS (show 211 < 231 by decide) (show shK 211 = 2 from rfl) (show shN 211 = 23 from rfl) hx1 g17a g17b d_MO_copies_59 (fun H locs hS => ?_)
  obtain ⟨M18, eM18⟩ : ∃ q, q = (setL M15 211 x1 (M15.2 211 x2)) := ⟨_, rfl⟩
  replace hS : St b C n M18 s H locs := by rw [eM18]; exact hS
  replace hT := qlet_eq hT eM18
  refine r_iconst F.hx F.hb d_MO_copies_60 ?_
  refine lv_istore_n (lv' := [(3, vI 0), (0, .ref (b + 191)), (1, vI x1), (2, vI x2)]) F.hx F.hb d_MO_copies_61 rfl hl (Nat.le_of_ble_eq_true rfl) rfl (fun ls hl => ?_)
  exact k_MO_copies_L62 l hlo x1 x2 hx1 hx2 F hlk hr FU M18 0 (inr_c rfl) _ _ _ hS (lv_sub hl [1, 2, 3, 0] rfl) hT
theorem d_MO_copiesLog_0 : decode b_MO_copiesLog 0 = .ok (.iconst 0, 1) := dc_3 (by decide +kernel)
theorem d_MO_copiesLog_1 : decode b_MO_copiesLog 1 = .ok (.istore_n 3, 1) := dc_62 (by decide +kernel)
theorem d_MO_copiesLog_2 : decode b_MO_copiesLog 2 = .ok (.iload_n 3, 1) := dc_29 (by decide +kernel)
theorem d_MO_copiesLog_3 : decode b_MO_copiesLog 3 = .ok (.bipush 100, 2) := dc_16 (by decide +kernel)
theorem d_MO_copiesLog_5 : decode b_MO_copiesLog 5 = .ok (.if_icmp .ge 75, 3) := dc_162 (by decide +kernel)
theorem d_MO_copiesLog_8 : decode b_MO_copiesLog 8 = .ok (.aload_n 0, 1) := dc_42 (by decide +kernel)
theorem d_MO_copiesLog_9 : decode b_MO_copiesLog 9 = .ok (.getfield 88, 3) := dc_180 (by decide +kernel)
theorem d_MO_copiesLog_12 : decode b_MO_copiesLog 12 = .ok (.bipush 100, 2) := dc_16 (by decide +kernel)
theorem d_MO_copiesLog_14 : decode b_MO_copiesLog 14 = .ok (.iload_n 1, 1) := dc_27 (by decide +kernel)
theorem d_MO_copiesLog_15 : decode b_MO_copiesLog 15 = .ok (.imul, 1) := dc_104 (by decide +kernel)
theorem d_MO_copiesLog_16 : decode b_MO_copiesLog 16 = .ok (.iload_n 3, 1) := dc_29 (by decide +kernel)
theorem d_MO_copiesLog_17 : decode b_MO_copiesLog 17 = .ok (.iadd, 1) := dc_96 (by decide +kernel)
theorem d_MO_copiesLog_18 : decode b_MO_copiesLog 18 = .ok (.aload_n 0, 1) := dc_42 (by decide +kernel)
theorem d_MO_copiesLog_19 : decode b_MO_copiesLog 19 = .ok (.getfield 88, 3) := dc_180 (by decide +kernel)
theorem d_MO_copiesLog_22 : decode b_MO_copiesLog 22 = .ok (.bipush 100, 2) := dc_16 (by decide +kernel)
theorem d_MO_copiesLog_24 : decode b_MO_copiesLog 24 = .ok (.iload_n 2, 1) := dc_28 (by decide +kernel)
theorem d_MO_copiesLog_25 : decode b_MO_copiesLog 25 = .ok (.imul, 1) := dc_104 (by decide +kernel)
theorem d_MO_copiesLog_26 : decode b_MO_copiesLog 26 = .ok (.iload_n 3, 1) := dc_29 (by decide +kernel)
theorem d_MO_copiesLog_27 : decode b_MO_copiesLog 27 = .ok (.iadd, 1) := dc_96 (by decide +kernel)
theorem d_MO_copiesLog_28 : decode b_MO_copiesLog 28 = .ok (.iaload, 1) := dc_46 (by decide +kernel)
theorem d_MO_copiesLog_29 : decode b_MO_copiesLog 29 = .ok (.iastore, 1) := dc_79 (by decide +kernel)
theorem d_MO_copiesLog_30 : decode b_MO_copiesLog 30 = .ok (.aload_n 0, 1) := dc_42 (by decide +kernel)
theorem d_MO_copiesLog_31 : decode b_MO_copiesLog 31 = .ok (.getfield 91, 3) := dc_180 (by decide +kernel)
theorem d_MO_copiesLog_34 : decode b_MO_copiesLog 34 = .ok (.bipush 100, 2) := dc_16 (by decide +kernel)
theorem d_MO_copiesLog_36 : decode b_MO_copiesLog 36 = .ok (.iload_n 1, 1) := dc_27 (by decide +kernel)
theorem d_MO_copiesLog_37 : decode b_MO_copiesLog 37 = .ok (.imul, 1) := dc_104 (by decide +kernel)
theorem d_MO_copiesLog_38 : decode b_MO_copiesLog 38 = .ok (.iload_n 3, 1) := dc_29 (by decide +kernel)
theorem d_MO_copiesLog_39 : decode b_MO_copiesLog 39 = .ok (.iadd, 1) := dc_96 (by decide +kernel)
theorem d_MO_copiesLog_40 : decode b_MO_copiesLog 40 = .ok (.aload_n 0, 1) := dc_42 (by decide +kernel)
theorem d_MO_copiesLog_41 : decode b_MO_copiesLog 41 = .ok (.getfield 91, 3) := dc_180 (by decide +kernel)
theorem d_MO_copiesLog_44 : decode b_MO_copiesLog 44 = .ok (.bipush 100, 2) := dc_16 (by decide +kernel)
theorem d_MO_copiesLog_46 : decode b_MO_copiesLog 46 = .ok (.iload_n 2, 1) := dc_28 (by decide +kernel)
theorem d_MO_copiesLog_47 : decode b_MO_copiesLog 47 = .ok (.imul, 1) := dc_104 (by decide +kernel)
theorem d_MO_copiesLog_48 : decode b_MO_copiesLog 48 = .ok (.iload_n 3, 1) := dc_29 (by decide +kernel)
theorem d_MO_copiesLog_49 : decode b_MO_copiesLog 49 = .ok (.iadd, 1) := dc_96 (by decide +kernel)
theorem d_MO_copiesLog_50 : decode b_MO_copiesLog 50 = .ok (.iaload, 1) := dc_46 (by decide +kernel)
theorem d_MO_copiesLog_51 : decode b_MO_copiesLog 51 = .ok (.iastore, 1) := dc_79 (by decide +kernel)
theorem d_MO_copiesLog_52 : decode b_MO_copiesLog 52 = .ok (.aload_n 0, 1) := dc_42 (by decide +kernel)
theorem d_MO_copiesLog_53 : decode b_MO_copiesLog 53 = .ok (.getfield 94, 3) := dc_180 (by decide +kernel)
theorem d_MO_copiesLog_56 : decode b_MO_copiesLog 56 = .ok (.bipush 100, 2) := dc_16 (by decide +kernel)
theorem d_MO_copiesLog_58 : decode b_MO_copiesLog 58 = .ok (.iload_n 1, 1) := dc_27 (by decide +kernel)
theorem d_MO_copiesLog_59 : decode b_MO_copiesLog 59 = .ok (.imul, 1) := dc_104 (by decide +kernel)
theorem d_MO_copiesLog_60 : decode b_MO_copiesLog 60 = .ok (.iload_n 3, 1) := dc_29 (by decide +kernel)
theorem d_MO_copiesLog_61 : decode b_MO_copiesLog 61 = .ok (.iadd, 1) := dc_96 (by decide +kernel)
theorem d_MO_copiesLog_62 : decode b_MO_copiesLog 62 = .ok (.aload_n 0, 1) := dc_42 (by decide +kernel)
theorem d_MO_copiesLog_63 : decode b_MO_copiesLog 63 = .ok (.getfield 94, 3) := dc_180 (by decide +kernel)
theorem d_MO_copiesLog_66 : decode b_MO_copiesLog 66 = .ok (.bipush 100, 2) := dc_16 (by decide +kernel)
theorem d_MO_copiesLog_68 : decode b_MO_copiesLog 68 = .ok (.iload_n 2, 1) := dc_28 (by decide +kernel)
theorem d_MO_copiesLog_69 : decode b_MO_copiesLog 69 = .ok (.imul, 1) := dc_104 (by decide +kernel)
theorem d_MO_copiesLog_70 : decode b_MO_copiesLog 70 = .ok (.iload_n 3, 1) := dc_29 (by decide +kernel)
theorem d_MO_copiesLog_71 : decode b_MO_copiesLog 71 = .ok (.iadd, 1) := dc_96 (by decide +kernel)
theorem d_MO_copiesLog_72 : decode b_MO_copiesLog 72 = .ok (.iaload, 1) := dc_46 (by decide +kernel)
theorem d_MO_copiesLog_73 : decode b_MO_copiesLog 73 = .ok (.iastore, 1) := dc_79 (by decide +kernel)
theorem d_MO_copiesLog_74 : decode b_MO_copiesLog 74 = .ok (.iinc 3 1, 3) := dc_132 (by decide +kernel)
theorem d_MO_copiesLog_77 : decode b_MO_copiesLog 77 = .ok (.goto (-75), 3) := dc_167 (by decide +kernel)
theorem d_MO_copiesLog_80 : decode b_MO_copiesLog 80 = .ok (.return_, 1) := dc_177 (by decide +kernel)
def t_MO_copiesLog_L2 (x1 : Int) (x2 : Int)  : Nat → Mem → Int → Option (Mem)
  | 0, _, _ => none
  | fu + 1, M, v3_ => (if 100 ≤ v3_ then (some M) else (qguard (0 ≤ (w32 ((w32 (100 * x2)) + v3_)) ∧ (w32 ((w32 (100 * x2)) + v3_)) < 300) (qguard (0 ≤ (w32 ((w32 (100 * x1)) + v3_)) ∧ (w32 ((w32 (100 * x1)) + v3_)) < 300) (qlet (setI M 216 (w32 ((w32 (100 * x1)) + v3_)) (M.1 216 (w32 ((w32 (100 * x2)) + v3_)))) fun M5 => (qguard (0 ≤ (w32 ((w32 (100 * x2)) + v3_)) ∧ (w32 ((w32 (100 * x2)) + v3_)) < 300) (qguard (0 ≤ (w32 ((w32 (100 * x1)) + v3_)) ∧ (w32 ((w32 (100 * x1)) + v3_)) < 300) (qlet (setI M5 217 (w32 ((w32 (100 * x1)) + v3_)) (M5.1 217 (w32 ((w32 (100 * x2)) + v3_)))) fun M9 => (qguard (0 ≤ (w32 ((w32 (100 * x2)) + v3_)) ∧ (w32 ((w32 (100 * x2)) + v3_)) < 300) (qguard (0 ≤ (w32 ((w32 (100 * x1)) + v3_)) ∧ (w32 ((w32 (100 * x1)) + v3_)) < 300) (qlet (setI M9 218 (w32 ((w32 (100 * x1)) + v3_)) (M9.1 218 (w32 ((w32 (100 * x2)) + v3_)))) fun M13 => (t_MO_copiesLog_L2 x1 x2 fu M13 (w32 (v3_ + 1)))))))))))))
def t_MO_copiesLog (M : Mem) (x1 : Int) (x2 : Int) : Option (Mem) := (t_MO_copiesLog_L2 x1 x2 FU M 0)
set_option maxHeartbeats 4000000 in
set_option maxRecDepth 100000 in
theorem k_MO_copiesLog_L2 (l : Launch) {p : Program} {e : Env} {s : State} {m : MethodId} {below : List Frame} {meth : Method} {c : Code} {b n : Nat} {C : CT} (hlo : 231 ≤ n) (x1 : Int) (x2 : Int) (hx1 : InR x1) (hx2 : InR x2) (F : Cx b p m c b_MO_copiesLog 4 s ([.ref (b + 191), vI x1, vI x2] : List Value).toArray "WardFallsModel" C n 231) (hlk : meth.locks = false) (hr : meth.sig.returnType = none) {res : Mem} : ∀ (fu : Nat) (M : Mem) (v3_ : Int) (hv3_ : InR v3_) (H : Heap) (locs : List Loc) (ls : Array Slot), St b C n M s H locs → lv_has ls 4 [(0, .ref (b + 191)), (1, vI x1), (2, vI x2), (3, vI v3_)] → t_MO_copiesLog_L2 x1 x2 fu M v3_ = some res → W p l e (headSpec (wsM y_MO_copiesLog b_MO_copiesLog 4 (none)) (rmD 0)).room s m ([.ref (b + 191), vI x1, vI x2] : List Value).toArray below meth c H locs 0 0 (MQ below (QV b C n res) ([.ref (b + 191), vI x1, vI x2] : List Value).toArray s 0 0 (frb b)) (F0 m 2 ls []) := by
  intro fu
  induction fu with
  | zero => intro M v3_ hv3_ H locs ls hS hl hT; exact absurd hT (by simp [t_MO_copiesLog_L2])
  | succ fu ih =>
    intro M v3_ hv3_ H locs ls hS hl hT
    rw [t_MO_copiesLog_L2] at hT
    refine lv_iload_n F.hx F.hb d_MO_copiesLog_2 rfl (lv_at hl 3 rfl) ?_
    refine r_bipush F.hx F.hb d_MO_copiesLog_3 rfl ?_
    refine r_icmp_ge (tgt := 80) F.hx F.hb hv3_ (inr_c rfl) d_MO_copiesLog_5 (by decide) (fun c1 => ?_) (fun c1 => ?_)
    · replace hT := (if_pos c1).symm.trans hT
      cases hT
      exact r_vret F hlk hr hS d_MO_copiesLog_80
    · replace hT := (if_neg c1).symm.trans hT
      refine lv_aload_n F.hx F.hb d_MO_copiesLog_8 rfl (lv_at hl 0 rfl) ?_
      refine r_get (v := .ref (b + 216)) (N := 68) (T := T1) (j := 39) F hS (show 191 < 231 by decide) (show shK 191 = 5 from rfl) (show shN 191 = 68 from rfl) rfl (Nat.le_of_ble_eq_true rfl) ing1 mw_1428 (fv_sg rfl rfl rfl) d_MO_copiesLog_9 ?_
      refine r_bipush F.hx F.hb d_MO_copiesLog_12 rfl ?_
      refine lv_iload_n F.hx F.hb d_MO_copiesLog_14 rfl (lv_at hl 1 rfl) ?_
      refine r_imul F.hx F.hb d_MO_copiesLog_15 ?_
      refine lv_iload_n F.hx F.hb d_MO_copiesLog_16 rfl (lv_at hl 3 rfl) ?_
      refine r_iadd F.hx F.hb d_MO_copiesLog_17 ?_
      refine lv_aload_n F.hx F.hb d_MO_copiesLog_18 rfl (lv_at hl 0 rfl) ?_
      refine r_get (v := .ref (b + 216)) (N := 68) (T := T1) (j := 39) F hS (show 191 < 231 by decide) (show shK 191 = 5 from rfl) (show shN 191 = 68 from rfl) rfl (Nat.le_of_ble_eq_true rfl) ing1 mw_1428 (fv_sg rfl rfl rfl) d_MO_copiesLog_19 ?_
      refine r_bipush F.hx F.hb d_MO_copiesLog_22 rfl ?_
      refine lv_iload_n F.hx F.hb d_MO_copiesLog_24 rfl (lv_at hl 2 rfl) ?_
      refine r_imul F.hx F.hb d_MO_copiesLog_25 ?_
      refine lv_iload_n F.hx F.hb d_MO_copiesLog_26 rfl (lv_at hl 3 rfl) ?_
      refine r_iadd F.hx F.hb d_MO_copiesLog_27 ?_
      obtain ⟨⟨g2a, g2b⟩, hT⟩ := q_guard hT
      refine r_iald F hS (show 216 < 231 by decide) (show shK 216 = 0 from rfl) (show shN 216 = 300 from rfl) (inr_w32 _) g2a g2b d_MO_copiesLog_28 ?_
      have i3 := hS.rng 216 (w32 ((w32 (100 * x2)) + v3_))
      obtain ⟨⟨g4a, g4b⟩, hT⟩ := q_guard hT
      refine r_iast F hS (show 216 < 231 by decide) (show shK 216 = 0 from rfl) (show shN 216 = 300 from rfl) (inr_w32 _) i3 g4a g4b d_MO_copiesLog_29 (fun H locs hS => ?_)
      obtain ⟨M5, eM5⟩ : ∃ q, q = (setI M 216 (w32 ((w32 (100 * x1)) + v3_)) (M.1 216 (w32 ((w32 (100 * x2)) + v3_)))) := ⟨_, rfl⟩
      replace hS : St b C n M5 s H locs := by rw [eM5]; exact hS
      replace hT := qlet_eq hT eM5
      refine lv_aload_n F.hx F.hb d_MO_copiesLog_30 rfl (lv_at hl 0 rfl) ?_
      refine r_get (v := .ref (b + 217)) (N := 68) (T := T1) (j := 40) F hS (show 191 < 231 by decide) (show shK 191 = 5 from rfl) (show shN 191 = 68 from rfl) rfl (Nat.le_of_ble_eq_true rfl) ing1 mw_1429 (fv_sg rfl rfl rfl) d_MO_copiesLog_31 ?_
      refine r_bipush F.hx F.hb d_MO_copiesLog_34 rfl ?_
      refine lv_iload_n F.hx F.hb d_MO_copiesLog_36 rfl (lv_at hl 1 rfl) ?_
      refine r_imul F.hx F.hb d_MO_copiesLog_37 ?_
      refine lv_iload_n F.hx F.hb d_MO_copiesLog_38 rfl (lv_at hl 3 rfl) ?_
      refine r_iadd F.hx F.hb d_MO_copiesLog_39 ?_
      refine lv_aload_n F.hx F.hb d_MO_copiesLog_40 rfl (lv_at hl 0 rfl) ?_
      refine r_get (v := .ref (b + 217)) (N := 68) (T := T1) (j := 40) F hS (show 191 < 231 by decide) (show shK 191 = 5 from rfl) (show shN 191 = 68 from rfl) rfl (Nat.le_of_ble_eq_true rfl) ing1 mw_1429 (fv_sg rfl rfl rfl) d_MO_copiesLog_41 ?_
      refine r_bipush F.hx F.hb d_MO_copiesLog_44 rfl ?_
      refine lv_iload_n F.hx F.hb d_MO_copiesLog_46 rfl (lv_at hl 2 rfl) ?_
      refine r_imul F.hx F.hb d_MO_copiesLog_47 ?_
      refine lv_iload_n F.hx F.hb d_MO_copiesLog_48 rfl (lv_at hl 3 rfl) ?_
      refine r_iadd F.hx F.hb d_MO_copiesLog_49 ?_
      obtain ⟨⟨g6a, g6b⟩, hT⟩ := q_guard hT
      refine r_iald F hS (show 217 < 231 by decide) (show shK 217 = 0 from rfl) (show shN 217 = 300 from rfl) (inr_w32 _) g6a g6b d_MO_copiesLog_50 ?_
      have i7 := hS.rng 217 (w32 ((w32 (100 * x2)) + v3_))
      obtain ⟨⟨g8a, g8b⟩, hT⟩ := q_guard hT
      refine r_iast F hS (show 217 < 231 by decide) (show shK 217 = 0 from rfl) (show shN 217 = 300 from rfl) (inr_w32 _) i7 g8a g8b d_MO_copiesLog_51 (fun H locs hS => ?_)
      obtain ⟨M9, eM9⟩ : ∃ q, q = (setI M5 217 (w32 ((w32 (100 * x1)) + v3_)) (M5.1 217 (w32 ((w32 (100 * x2)) + v3_)))) := ⟨_, rfl⟩
      replace hS : St b C n M9 s H locs := by rw [eM9]; exact hS
      replace hT := qlet_eq hT eM9
      refine lv_aload_n F.hx F.hb d_MO_copiesLog_52 rfl (lv_at hl 0 rfl) ?_
      refine r_get (v := .ref (b + 218)) (N := 68) (T := T1) (j := 41) F hS (show 191 < 231 by decide) (show shK 191 = 5 from rfl) (show shN 191 = 68 from rfl) rfl (Nat.le_of_ble_eq_true rfl) ing1 mw_1430 (fv_sg rfl rfl rfl) d_MO_copiesLog_53 ?_
      refine r_bipush F.hx F.hb d_MO_copiesLog_56 rfl ?_
      refine lv_iload_n F.hx F.hb d_MO_copiesLog_58 rfl (lv_at hl 1 rfl) ?_
      refine r_imul F.hx F.hb d_MO_copiesLog_59 ?_
      refine lv_iload_n F.hx F.hb d_MO_copiesLog_60 rfl (lv_at hl 3 rfl) ?_
      refine r_iadd F.hx F.hb d_MO_copiesLog_61 ?_
      refine lv_aload_n F.hx F.hb d_MO_copiesLog_62 rfl (lv_at hl 0 rfl) ?_
      refine r_get (v := .ref (b + 218)) (N := 68) (T := T1) (j := 41) F hS (show 191 < 231 by decide) (show shK 191 = 5 from rfl) (show shN 191 = 68 from rfl) rfl (Nat.le_of_ble_eq_true rfl) ing1 mw_1430 (fv_sg rfl rfl rfl) d_MO_copiesLog_63 ?_
      refine r_bipush F.hx F.hb d_MO_copiesLog_66 rfl ?_
      refine lv_iload_n F.hx F.hb d_MO_copiesLog_68 rfl (lv_at hl 2 rfl) ?_
      refine r_imul F.hx F.hb d_MO_copiesLog_69 ?_
      refine lv_iload_n F.hx F.hb d_MO_copiesLog_70 rfl (lv_at hl 3 rfl) ?_
      refine r_iadd F.hx F.hb d_MO_copiesLog_71 ?_
      obtain ⟨⟨g10a, g10b⟩, hT⟩ := q_guard hT
      refine r_iald F hS (show 218 < 231 by decide) (show shK 218 = 0 from rfl) (show shN 218 = 300 from rfl) (inr_w32 _) g10a g10b d_MO_copiesLog_72 ?_
      have i11 := hS.rng 218 (w32 ((w32 (100 * x2)) + v3_))
      obtain ⟨⟨g12a, g12b⟩, hT⟩ := q_guard hT
      refine r_iast F hS (show 218 < 231 by decide) (show shK 218 = 0 from rfl) (show shN 218 = 300 from rfl) (inr_w32 _) i11 g12a g12b d_MO_copiesLog_73 (fun H locs hS => ?_)
      obtain ⟨M13, eM13⟩ : ∃ q, q = (setI M9 218 (w32 ((w32 (100 * x1)) + v3_)) (M9.1 218 (w32 ((w32 (100 * x2)) + v3_)))) := ⟨_, rfl⟩
      replace hS : St b C n M13 s H locs := by rw [eM13]; exact hS
      replace hT := qlet_eq hT eM13
      refine lv_iinc (v := Int32.ofInt (w32 (v3_ + 1))) (lv' := [(3, vI (w32 (v3_ + 1))), (0, .ref (b + 191)), (1, vI x1), (2, vI x2)]) F.hx F.hb d_MO_copiesLog_74 hl (k := 3) rfl (q_of_add _ _) (Nat.le_of_ble_eq_true rfl) rfl (fun ls hl => ?_)
      refine lv_goto (tgt := 2) F.hx F.hb d_MO_copiesLog_77 (by decide) ?_
      exact ih M13 (w32 (v3_ + 1)) (inr_w32 _) _ _ _ hS (lv_sub hl [1, 2, 3, 0] rfl) hT
set_option maxHeartbeats 4000000 in
set_option maxRecDepth 100000 in
theorem c_MO_copiesLog (l : Launch) {b n : Nat} {C : CT} (hlo : 231 ≤ n) (M : Mem) (x1 : Int) (x2 : Int) (hx1 : InR x1) (hx2 : InR x2) (res : Mem) (hT : t_MO_copiesLog M x1 x2 = some res) : CM l b C n 0 y_MO_copiesLog b_MO_copiesLog 4 (none) [.ref (b + 191), vI x1, vI x2] M (QV b C n res) := by
  refine CM.of (lo := 231) (ow := "WardFallsModel") (by decide) rfl (Nat.le_of_ble_eq_true rfl) hlo (fun p e s m below meth c F hlk hr hS ls hl => ?_)
  have hl : lv_has ls 4 [(0, .ref (b + 191)), (1, vI x1), (2, vI x2)] := hl
  unfold t_MO_copiesLog at hT
  refine r_iconst F.hx F.hb d_MO_copiesLog_0 ?_
  refine lv_istore_n (lv' := [(3, vI 0), (0, .ref (b + 191)), (1, vI x1), (2, vI x2)]) F.hx F.hb d_MO_copiesLog_1 rfl hl (Nat.le_of_ble_eq_true rfl) rfl (fun ls hl => ?_)
  exact k_MO_copiesLog_L2 l hlo x1 x2 hx1 hx2 F hlk hr FU M 0 (inr_c rfl) _ _ _ hS (lv_sub hl [1, 2, 3, 0] rfl) hT
theorem d_MO_cells_0 : decode b_MO_cells 0 = .ok (.aload_n 0, 1) := dc_42 (by decide +kernel)
theorem d_MO_cells_1 : decode b_MO_cells 1 = .ok (.getfield 13, 3) := dc_180 (by decide +kernel)
theorem d_MO_cells_4 : decode b_MO_cells 4 = .ok (.iconst 0, 1) := dc_3 (by decide +kernel)
theorem d_MO_cells_5 : decode b_MO_cells 5 = .ok (.iaload, 1) := dc_46 (by decide +kernel)
theorem d_MO_cells_6 : decode b_MO_cells 6 = .ok (.aload_n 0, 1) := dc_42 (by decide +kernel)
theorem d_MO_cells_7 : decode b_MO_cells 7 = .ok (.getfield 13, 3) := dc_180 (by decide +kernel)
theorem d_MO_cells_10 : decode b_MO_cells 10 = .ok (.iconst 1, 1) := dc_4 (by decide +kernel)
theorem d_MO_cells_11 : decode b_MO_cells 11 = .ok (.iaload, 1) := dc_46 (by decide +kernel)
theorem d_MO_cells_12 : decode b_MO_cells 12 = .ok (.imul, 1) := dc_104 (by decide +kernel)
theorem d_MO_cells_13 : decode b_MO_cells 13 = .ok (.ireturn, 1) := dc_172 (by decide +kernel)
def t_MO_cells (M : Mem)  : Int := (w32 ((M.1 193 0) * (M.1 193 1)))
set_option maxHeartbeats 4000000 in
set_option maxRecDepth 100000 in
theorem c_MO_cells (l : Launch) {b n : Nat} {C : CT} (hlo : 231 ≤ n) (M : Mem)   (res : Int) (hT : t_MO_cells M  = res) : CM l b C n 0 y_MO_cells b_MO_cells 1 (some .int) [.ref (b + 191)] M (QI b C n M res) := by
  refine CM.of (lo := 231) (ow := "WardFallsModel") (by decide) rfl (Nat.le_of_ble_eq_true rfl) hlo (fun p e s m below meth c F hlk hr hS ls hl => ?_)
  have hl : lv_has ls 1 [(0, .ref (b + 191))] := hl
  unfold t_MO_cells at hT
  refine lv_aload_n F.hx F.hb d_MO_cells_0 rfl (lv_at hl 0 rfl) ?_
  refine r_get (v := .ref (b + 193)) (N := 68) (T := T1) (j := 3) F hS (show 191 < 231 by decide) (show shK 191 = 5 from rfl) (show shN 191 = 68 from rfl) rfl (Nat.le_of_ble_eq_true rfl) ing1 mw_1392 (fv_sg rfl rfl rfl) d_MO_cells_1 ?_
  refine r_iconst F.hx F.hb d_MO_cells_4 ?_
  refine r_iald F hS (show 193 < 231 by decide) (show shK 193 = 0 from rfl) (show shN 193 = 18 from rfl) (inr_c rfl) (by omega) (by omega) d_MO_cells_5 ?_
  have i1 := hS.rng 193 0
  refine lv_aload_n F.hx F.hb d_MO_cells_6 rfl (lv_at hl 0 rfl) ?_
  refine r_get (v := .ref (b + 193)) (N := 68) (T := T1) (j := 3) F hS (show 191 < 231 by decide) (show shK 191 = 5 from rfl) (show shN 191 = 68 from rfl) rfl (Nat.le_of_ble_eq_true rfl) ing1 mw_1392 (fv_sg rfl rfl rfl) d_MO_cells_7 ?_
  refine r_iconst F.hx F.hb d_MO_cells_10 ?_
  refine r_iald F hS (show 193 < 231 by decide) (show shK 193 = 0 from rfl) (show shN 193 = 18 from rfl) (inr_c rfl) (by omega) (by omega) d_MO_cells_11 ?_
  have i2 := hS.rng 193 1
  refine r_imul F.hx F.hb d_MO_cells_12 ?_
  subst hT
  exact r_iret F hlk hr rfl hS (inr_w32 _) d_MO_cells_13
theorem d_MO_isCell_0 : decode b_MO_isCell 0 = .ok (.iload_n 1, 1) := dc_27 (by decide +kernel)
theorem d_MO_isCell_1 : decode b_MO_isCell 1 = .ok (.ifCond .lt 15, 3) := dc_155 (by decide +kernel)
theorem d_MO_isCell_4 : decode b_MO_isCell 4 = .ok (.iload_n 1, 1) := dc_27 (by decide +kernel)
theorem d_MO_isCell_5 : decode b_MO_isCell 5 = .ok (.aload_n 0, 1) := dc_42 (by decide +kernel)
theorem d_MO_isCell_6 : decode b_MO_isCell 6 = .ok (.invokevirtual 329, 3) := dc_182 (by decide +kernel)
theorem d_MO_isCell_9 : decode b_MO_isCell 9 = .ok (.if_icmp .ge 7, 3) := dc_162 (by decide +kernel)
theorem d_MO_isCell_12 : decode b_MO_isCell 12 = .ok (.iconst 1, 1) := dc_4 (by decide +kernel)
theorem d_MO_isCell_13 : decode b_MO_isCell 13 = .ok (.goto 4, 3) := dc_167 (by decide +kernel)
theorem d_MO_isCell_16 : decode b_MO_isCell 16 = .ok (.iconst 0, 1) := dc_3 (by decide +kernel)
theorem d_MO_isCell_17 : decode b_MO_isCell 17 = .ok (.ireturn, 1) := dc_172 (by decide +kernel)
def t_MO_isCell (M : Mem) (x1 : Int) : Int := (if x1 < 0 then 0 else (qlet (t_MO_cells M) fun q2 => (if q2 ≤ x1 then 0 else 1)))
set_option maxHeartbeats 4000000 in
set_option maxRecDepth 100000 in
theorem c_MO_isCell (l : Launch) {b n : Nat} {C : CT} (hlo : 231 ≤ n) (M : Mem) (x1 : Int) (hx1 : InR x1) (res : Int) (hT : t_MO_isCell M x1 = res) : CM l b C n 1 y_MO_isCell b_MO_isCell 2 (some .boolean) [.ref (b + 191), vI x1] M (QZ b C n M res) := by
  refine CM.of (lo := 231) (ow := "WardFallsModel") (by decide) rfl (Nat.le_of_ble_eq_true rfl) hlo (fun p e s m below meth c F hlk hr hS ls hl => ?_)
  have hl : lv_has ls 2 [(0, .ref (b + 191)), (1, vI x1)] := hl
  unfold t_MO_isCell at hT
  refine lv_iload_n F.hx F.hb d_MO_isCell_0 rfl (lv_at hl 1 rfl) ?_
  refine r_if_lt (tgt := 16) F.hx F.hb hx1 d_MO_isCell_1 (by decide) (fun c1 => ?_) (fun c1 => ?_)
  · replace hT := (if_pos c1).symm.trans hT
    refine r_iconst F.hx F.hb d_MO_isCell_16 ?_
    subst hT
    exact r_zret F hlk hr hS (Or.inl rfl) d_MO_isCell_17
  · replace hT := (if_neg c1).symm.trans hT
    refine lv_iload_n F.hx F.hb d_MO_isCell_4 rfl (lv_at hl 1 rfl) ?_
    refine lv_aload_n F.hx F.hb d_MO_isCell_5 rfl (lv_at hl 0 rfl) ?_
    obtain ⟨q2, hq2⟩ : ∃ q, q = (t_MO_cells M) := ⟨_, rfl⟩
    replace hT := qlet_eq hT hq2
    refine r_backI F hS (r_runV (k := 191) (N := 68) (T := T1) (As := []) F hS (show 191 < 231 by decide) (show shK 191 = 5 from rfl) rfl (c_MO_cells l F.2.2.1 M _ hq2.symm) gs_MO_329 hd_MO_cells ⟨Nat.le_of_ble_eq_true rfl, Nat.le_of_ble_eq_true rfl⟩ rfl hl.1 (Nat.le_of_ble_eq_true rfl) ⟨Nat.zero_le _, Nat.zero_le _⟩ rfl d_MO_isCell_6) (fun H locs hS h3 => ?_)
    refine r_icmp_ge (tgt := 16) F.hx F.hb hx1 h3 d_MO_isCell_9 (by decide) (fun c4 => ?_) (fun c4 => ?_)
    · replace hT := (if_pos c4).symm.trans hT
      refine r_iconst F.hx F.hb d_MO_isCell_16 ?_
      subst hT
      exact r_zret F hlk hr hS (Or.inl rfl) d_MO_isCell_17
    · replace hT := (if_neg c4).symm.trans hT
      refine r_iconst F.hx F.hb d_MO_isCell_12 ?_
      refine lv_goto (tgt := 17) F.hx F.hb d_MO_isCell_13 (by decide) ?_
      subst hT
      exact r_zret F hlk hr hS (Or.inr rfl) d_MO_isCell_17
theorem d_MO_isOpen_0 : decode b_MO_isOpen 0 = .ok (.aload_n 0, 1) := dc_42 (by decide +kernel)
theorem d_MO_isOpen_1 : decode b_MO_isOpen 1 = .ok (.iload_n 1, 1) := dc_27 (by decide +kernel)
theorem d_MO_isOpen_2 : decode b_MO_isOpen 2 = .ok (.invokevirtual 332, 3) := dc_182 (by decide +kernel)
theorem d_MO_isOpen_5 : decode b_MO_isOpen 5 = .ok (.ifCond .eq 16, 3) := dc_153 (by decide +kernel)
theorem d_MO_isOpen_8 : decode b_MO_isOpen 8 = .ok (.aload_n 0, 1) := dc_42 (by decide +kernel)
theorem d_MO_isOpen_9 : decode b_MO_isOpen 9 = .ok (.getfield 28, 3) := dc_180 (by decide +kernel)
theorem d_MO_isOpen_12 : decode b_MO_isOpen 12 = .ok (.iload_n 1, 1) := dc_27 (by decide +kernel)
theorem d_MO_isOpen_13 : decode b_MO_isOpen 13 = .ok (.baload, 1) := dc_51 (by decide +kernel)
theorem d_MO_isOpen_14 : decode b_MO_isOpen 14 = .ok (.ifCond .ne 7, 3) := dc_154 (by decide +kernel)
theorem d_MO_isOpen_17 : decode b_MO_isOpen 17 = .ok (.iconst 1, 1) := dc_4 (by decide +kernel)
theorem d_MO_isOpen_18 : decode b_MO_isOpen 18 = .ok (.goto 4, 3) := dc_167 (by decide +kernel)
theorem d_MO_isOpen_21 : decode b_MO_isOpen 21 = .ok (.iconst 0, 1) := dc_3 (by decide +kernel)
theorem d_MO_isOpen_22 : decode b_MO_isOpen 22 = .ok (.ireturn, 1) := dc_172 (by decide +kernel)
def t_MO_isOpen (M : Mem) (x1 : Int) : Option (Int) := (qlet (t_MO_isCell M x1) fun q1 => (if q1 = 0 then (some 0) else (qguard (0 ≤ x1 ∧ x1 < 96) (if (M.1 198 x1) = 0 then (some 1) else (some 0)))))
set_option maxHeartbeats 4000000 in
set_option maxRecDepth 100000 in
theorem c_MO_isOpen (l : Launch) {b n : Nat} {C : CT} (hlo : 231 ≤ n) (M : Mem) (x1 : Int) (hx1 : InR x1) (res : Int) (hT : t_MO_isOpen M x1 = some res) : CM l b C n 2 y_MO_isOpen b_MO_isOpen 2 (some .boolean) [.ref (b + 191), vI x1] M (QZ b C n M res) := by
  refine CM.of (lo := 231) (ow := "WardFallsModel") (by decide) rfl (Nat.le_of_ble_eq_true rfl) hlo (fun p e s m below meth c F hlk hr hS ls hl => ?_)
  have hl : lv_has ls 2 [(0, .ref (b + 191)), (1, vI x1)] := hl
  unfold t_MO_isOpen at hT
  refine lv_aload_n F.hx F.hb d_MO_isOpen_0 rfl (lv_at hl 0 rfl) ?_
  refine lv_iload_n F.hx F.hb d_MO_isOpen_1 rfl (lv_at hl 1 rfl) ?_
  obtain ⟨q1, hq1⟩ : ∃ q, q = (t_MO_isCell M x1) := ⟨_, rfl⟩
  replace hT := qlet_eq hT hq1
  refine r_backZ F hS (r_runV (k := 191) (N := 68) (T := T1) (As := [vI x1]) F hS (show 191 < 231 by decide) (show shK 191 = 5 from rfl) rfl (c_MO_isCell l F.2.2.1 M x1 hx1 _ hq1.symm) gs_MO_332 hd_MO_isCell ⟨Nat.le_of_ble_eq_true rfl, Nat.le_of_ble_eq_true rfl⟩ rfl hl.1 (Nat.le_of_ble_eq_true rfl) ⟨Nat.zero_le _, Nat.zero_le _⟩ rfl d_MO_isOpen_2) (fun H locs hS h2 => ?_)
  refine r_if_eq (tgt := 21) F.hx F.hb (inr_z h2) d_MO_isOpen_5 (by decide) (fun c3 => ?_) (fun c3 => ?_)
  · replace hT := (if_pos c3).symm.trans hT
    refine r_iconst F.hx F.hb d_MO_isOpen_21 ?_
    cases hT
    exact r_zret F hlk hr hS (Or.inl rfl) d_MO_isOpen_22
  · replace hT := (if_neg c3).symm.trans hT
    refine lv_aload_n F.hx F.hb d_MO_isOpen_8 rfl (lv_at hl 0 rfl) ?_
    refine r_get (v := .ref (b + 198)) (N := 68) (T := T1) (j := 8) F hS (show 191 < 231 by decide) (show shK 191 = 5 from rfl) (show shN 191 = 68 from rfl) rfl (Nat.le_of_ble_eq_true rfl) ing1 mw_1397 (fv_sg rfl rfl rfl) d_MO_isOpen_9 ?_
    refine lv_iload_n F.hx F.hb d_MO_isOpen_12 rfl (lv_at hl 1 rfl) ?_
    obtain ⟨⟨g4a, g4b⟩, hT⟩ := q_guard hT
    have z5 := hS.bool (show shK 198 = 1 from rfl) x1
    refine r_zald F hS (show 198 < 231 by decide) (show shK 198 = 1 from rfl) (show shN 198 = 96 from rfl) hx1 g4a g4b d_MO_isOpen_13 ?_
    refine r_if_ne (tgt := 21) F.hx F.hb (inr_z z5) d_MO_isOpen_14 (by decide) (fun c6 => ?_) (fun c6 => ?_)
    · replace hT := (if_neg c6).symm.trans hT
      refine r_iconst F.hx F.hb d_MO_isOpen_21 ?_
      cases hT
      exact r_zret F hlk hr hS (Or.inl rfl) d_MO_isOpen_22
    · replace hT := (if_pos c6).symm.trans hT
      refine r_iconst F.hx F.hb d_MO_isOpen_17 ?_
      refine lv_goto (tgt := 22) F.hx F.hb d_MO_isOpen_18 (by decide) ?_
      cases hT
      exact r_zret F hlk hr hS (Or.inr rfl) d_MO_isOpen_22
theorem d_MO_isWard_0 : decode b_MO_isWard 0 = .ok (.iload_n 1, 1) := dc_27 (by decide +kernel)
theorem d_MO_isWard_1 : decode b_MO_isWard 1 = .ok (.ifCond .lt 17, 3) := dc_155 (by decide +kernel)
theorem d_MO_isWard_4 : decode b_MO_isWard 4 = .ok (.iload_n 1, 1) := dc_27 (by decide +kernel)
theorem d_MO_isWard_5 : decode b_MO_isWard 5 = .ok (.aload_n 0, 1) := dc_42 (by decide +kernel)
theorem d_MO_isWard_6 : decode b_MO_isWard 6 = .ok (.getfield 13, 3) := dc_180 (by decide +kernel)
theorem d_MO_isWard_9 : decode b_MO_isWard 9 = .ok (.iconst 2, 1) := dc_5 (by decide +kernel)
theorem d_MO_isWard_10 : decode b_MO_isWard 10 = .ok (.iaload, 1) := dc_46 (by decide +kernel)
theorem d_MO_isWard_11 : decode b_MO_isWard 11 = .ok (.if_icmp .ge 7, 3) := dc_162 (by decide +kernel)
theorem d_MO_isWard_14 : decode b_MO_isWard 14 = .ok (.iconst 1, 1) := dc_4 (by decide +kernel)
theorem d_MO_isWard_15 : decode b_MO_isWard 15 = .ok (.goto 4, 3) := dc_167 (by decide +kernel)
theorem d_MO_isWard_18 : decode b_MO_isWard 18 = .ok (.iconst 0, 1) := dc_3 (by decide +kernel)
theorem d_MO_isWard_19 : decode b_MO_isWard 19 = .ok (.ireturn, 1) := dc_172 (by decide +kernel)
def t_MO_isWard (M : Mem) (x1 : Int) : Int := (if x1 < 0 then 0 else (if (M.1 193 2) ≤ x1 then 0 else 1))
set_option maxHeartbeats 4000000 in
set_option maxRecDepth 100000 in
theorem c_MO_isWard (l : Launch) {b n : Nat} {C : CT} (hlo : 231 ≤ n) (M : Mem) (x1 : Int) (hx1 : InR x1) (res : Int) (hT : t_MO_isWard M x1 = res) : CM l b C n 0 y_MO_isWard b_MO_isWard 2 (some .boolean) [.ref (b + 191), vI x1] M (QZ b C n M res) := by
  refine CM.of (lo := 231) (ow := "WardFallsModel") (by decide) rfl (Nat.le_of_ble_eq_true rfl) hlo (fun p e s m below meth c F hlk hr hS ls hl => ?_)
  have hl : lv_has ls 2 [(0, .ref (b + 191)), (1, vI x1)] := hl
  unfold t_MO_isWard at hT
  refine lv_iload_n F.hx F.hb d_MO_isWard_0 rfl (lv_at hl 1 rfl) ?_
  refine r_if_lt (tgt := 18) F.hx F.hb hx1 d_MO_isWard_1 (by decide) (fun c1 => ?_) (fun c1 => ?_)
  · replace hT := (if_pos c1).symm.trans hT
    refine r_iconst F.hx F.hb d_MO_isWard_18 ?_
    subst hT
    exact r_zret F hlk hr hS (Or.inl rfl) d_MO_isWard_19
  · replace hT := (if_neg c1).symm.trans hT
    refine lv_iload_n F.hx F.hb d_MO_isWard_4 rfl (lv_at hl 1 rfl) ?_
    refine lv_aload_n F.hx F.hb d_MO_isWard_5 rfl (lv_at hl 0 rfl) ?_
    refine r_get (v := .ref (b + 193)) (N := 68) (T := T1) (j := 3) F hS (show 191 < 231 by decide) (show shK 191 = 5 from rfl) (show shN 191 = 68 from rfl) rfl (Nat.le_of_ble_eq_true rfl) ing1 mw_1392 (fv_sg rfl rfl rfl) d_MO_isWard_6 ?_
    refine r_iconst F.hx F.hb d_MO_isWard_9 ?_
    refine r_iald F hS (show 193 < 231 by decide) (show shK 193 = 0 from rfl) (show shN 193 = 18 from rfl) (inr_c rfl) (by omega) (by omega) d_MO_isWard_10 ?_
    have i2 := hS.rng 193 2
    refine r_icmp_ge (tgt := 18) F.hx F.hb hx1 i2 d_MO_isWard_11 (by decide) (fun c3 => ?_) (fun c3 => ?_)
    · replace hT := (if_pos c3).symm.trans hT
      refine r_iconst F.hx F.hb d_MO_isWard_18 ?_
      subst hT
      exact r_zret F hlk hr hS (Or.inl rfl) d_MO_isWard_19
    · replace hT := (if_neg c3).symm.trans hT
      refine r_iconst F.hx F.hb d_MO_isWard_14 ?_
      refine lv_goto (tgt := 19) F.hx F.hb d_MO_isWard_15 (by decide) ?_
      subst hT
      exact r_zret F hlk hr hS (Or.inr rfl) d_MO_isWard_19
theorem d_MO_isThing_0 : decode b_MO_isThing 0 = .ok (.iload_n 1, 1) := dc_27 (by decide +kernel)
theorem d_MO_isThing_1 : decode b_MO_isThing 1 = .ok (.ifCond .lt 18, 3) := dc_155 (by decide +kernel)
theorem d_MO_isThing_4 : decode b_MO_isThing 4 = .ok (.iload_n 1, 1) := dc_27 (by decide +kernel)
theorem d_MO_isThing_5 : decode b_MO_isThing 5 = .ok (.aload_n 0, 1) := dc_42 (by decide +kernel)
theorem d_MO_isThing_6 : decode b_MO_isThing 6 = .ok (.getfield 13, 3) := dc_180 (by decide +kernel)
theorem d_MO_isThing_9 : decode b_MO_isThing 9 = .ok (.bipush 6, 2) := dc_16 (by decide +kernel)
theorem d_MO_isThing_11 : decode b_MO_isThing 11 = .ok (.iaload, 1) := dc_46 (by decide +kernel)
theorem d_MO_isThing_12 : decode b_MO_isThing 12 = .ok (.if_icmp .ge 7, 3) := dc_162 (by decide +kernel)
theorem d_MO_isThing_15 : decode b_MO_isThing 15 = .ok (.iconst 1, 1) := dc_4 (by decide +kernel)
theorem d_MO_isThing_16 : decode b_MO_isThing 16 = .ok (.goto 4, 3) := dc_167 (by decide +kernel)
theorem d_MO_isThing_19 : decode b_MO_isThing 19 = .ok (.iconst 0, 1) := dc_3 (by decide +kernel)
theorem d_MO_isThing_20 : decode b_MO_isThing 20 = .ok (.ireturn, 1) := dc_172 (by decide +kernel)
def t_MO_isThing (M : Mem) (x1 : Int) : Int := (if x1 < 0 then 0 else (if (M.1 193 6) ≤ x1 then 0 else 1))
set_option maxHeartbeats 4000000 in
set_option maxRecDepth 100000 in
theorem c_MO_isThing (l : Launch) {b n : Nat} {C : CT} (hlo : 231 ≤ n) (M : Mem) (x1 : Int) (hx1 : InR x1) (res : Int) (hT : t_MO_isThing M x1 = res) : CM l b C n 0 y_MO_isThing b_MO_isThing 2 (some .boolean) [.ref (b + 191), vI x1] M (QZ b C n M res) := by
  refine CM.of (lo := 231) (ow := "WardFallsModel") (by decide) rfl (Nat.le_of_ble_eq_true rfl) hlo (fun p e s m below meth c F hlk hr hS ls hl => ?_)
  have hl : lv_has ls 2 [(0, .ref (b + 191)), (1, vI x1)] := hl
  unfold t_MO_isThing at hT
  refine lv_iload_n F.hx F.hb d_MO_isThing_0 rfl (lv_at hl 1 rfl) ?_
  refine r_if_lt (tgt := 19) F.hx F.hb hx1 d_MO_isThing_1 (by decide) (fun c1 => ?_) (fun c1 => ?_)
  · replace hT := (if_pos c1).symm.trans hT
    refine r_iconst F.hx F.hb d_MO_isThing_19 ?_
    subst hT
    exact r_zret F hlk hr hS (Or.inl rfl) d_MO_isThing_20
  · replace hT := (if_neg c1).symm.trans hT
    refine lv_iload_n F.hx F.hb d_MO_isThing_4 rfl (lv_at hl 1 rfl) ?_
    refine lv_aload_n F.hx F.hb d_MO_isThing_5 rfl (lv_at hl 0 rfl) ?_
    refine r_get (v := .ref (b + 193)) (N := 68) (T := T1) (j := 3) F hS (show 191 < 231 by decide) (show shK 191 = 5 from rfl) (show shN 191 = 68 from rfl) rfl (Nat.le_of_ble_eq_true rfl) ing1 mw_1392 (fv_sg rfl rfl rfl) d_MO_isThing_6 ?_
    refine r_bipush F.hx F.hb d_MO_isThing_9 rfl ?_
    refine r_iald F hS (show 193 < 231 by decide) (show shK 193 = 0 from rfl) (show shN 193 = 18 from rfl) (inr_c rfl) (by omega) (by omega) d_MO_isThing_11 ?_
    have i2 := hS.rng 193 6
    refine r_icmp_ge (tgt := 19) F.hx F.hb hx1 i2 d_MO_isThing_12 (by decide) (fun c3 => ?_) (fun c3 => ?_)
    · replace hT := (if_pos c3).symm.trans hT
      refine r_iconst F.hx F.hb d_MO_isThing_19 ?_
      subst hT
      exact r_zret F hlk hr hS (Or.inl rfl) d_MO_isThing_20
    · replace hT := (if_neg c3).symm.trans hT
      refine r_iconst F.hx F.hb d_MO_isThing_15 ?_
      refine lv_goto (tgt := 20) F.hx F.hb d_MO_isThing_16 (by decide) ?_
      subst hT
      exact r_zret F hlk hr hS (Or.inr rfl) d_MO_isThing_20
end
section
theorem d_MO_beside_0 : decode b_MO_beside 0 = .ok (.iload_n 2, 1) := dc_28 (by decide +kernel)
theorem d_MO_beside_1 : decode b_MO_beside 1 = .ok (.iconst 4, 1) := dc_7 (by decide +kernel)
theorem d_MO_beside_2 : decode b_MO_beside 2 = .ok (.if_icmp .ne 5, 3) := dc_160 (by decide +kernel)
theorem d_MO_beside_5 : decode b_MO_beside 5 = .ok (.iconst (-1), 1) := dc_2 (by decide +kernel)
theorem d_MO_beside_6 : decode b_MO_beside 6 = .ok (.ireturn, 1) := dc_172 (by decide +kernel)
theorem d_MO_beside_7 : decode b_MO_beside 7 = .ok (.iload_n 1, 1) := dc_27 (by decide +kernel)
theorem d_MO_beside_8 : decode b_MO_beside 8 = .ok (.aload_n 0, 1) := dc_42 (by decide +kernel)
theorem d_MO_beside_9 : decode b_MO_beside 9 = .ok (.getfield 13, 3) := dc_180 (by decide +kernel)
theorem d_MO_beside_12 : decode b_MO_beside 12 = .ok (.iconst 0, 1) := dc_3 (by decide +kernel)
theorem d_MO_beside_13 : decode b_MO_beside 13 = .ok (.iaload, 1) := dc_46 (by decide +kernel)
theorem d_MO_beside_14 : decode b_MO_beside 14 = .ok (.irem, 1) := dc_112 (by decide +kernel)
theorem d_MO_beside_15 : decode b_MO_beside 15 = .ok (.iload_n 2, 1) := dc_28 (by decide +kernel)
theorem d_MO_beside_16 : decode b_MO_beside 16 = .ok (.iconst 1, 1) := dc_4 (by decide +kernel)
theorem d_MO_beside_17 : decode b_MO_beside 17 = .ok (.if_icmp .ne 7, 3) := dc_160 (by decide +kernel)
theorem d_MO_beside_20 : decode b_MO_beside 20 = .ok (.iconst 1, 1) := dc_4 (by decide +kernel)
theorem d_MO_beside_21 : decode b_MO_beside 21 = .ok (.goto 13, 3) := dc_167 (by decide +kernel)
theorem d_MO_beside_24 : decode b_MO_beside 24 = .ok (.iload_n 2, 1) := dc_28 (by decide +kernel)
theorem d_MO_beside_25 : decode b_MO_beside 25 = .ok (.iconst 3, 1) := dc_6 (by decide +kernel)
theorem d_MO_beside_26 : decode b_MO_beside 26 = .ok (.if_icmp .ne 7, 3) := dc_160 (by decide +kernel)
theorem d_MO_beside_29 : decode b_MO_beside 29 = .ok (.iconst (-1), 1) := dc_2 (by decide +kernel)
theorem d_MO_beside_30 : decode b_MO_beside 30 = .ok (.goto 4, 3) := dc_167 (by decide +kernel)
theorem d_MO_beside_33 : decode b_MO_beside 33 = .ok (.iconst 0, 1) := dc_3 (by decide +kernel)
theorem d_MO_beside_34 : decode b_MO_beside 34 = .ok (.iadd, 1) := dc_96 (by decide +kernel)
theorem d_MO_beside_35 : decode b_MO_beside 35 = .ok (.istore_n 3, 1) := dc_62 (by decide +kernel)
theorem d_MO_beside_36 : decode b_MO_beside 36 = .ok (.iload_n 1, 1) := dc_27 (by decide +kernel)
theorem d_MO_beside_37 : decode b_MO_beside 37 = .ok (.aload_n 0, 1) := dc_42 (by decide +kernel)
theorem d_MO_beside_38 : decode b_MO_beside 38 = .ok (.getfield 13, 3) := dc_180 (by decide +kernel)
theorem d_MO_beside_41 : decode b_MO_beside 41 = .ok (.iconst 0, 1) := dc_3 (by decide +kernel)
theorem d_MO_beside_42 : decode b_MO_beside 42 = .ok (.iaload, 1) := dc_46 (by decide +kernel)
theorem d_MO_beside_43 : decode b_MO_beside 43 = .ok (.idiv, 1) := dc_108 (by decide +kernel)
theorem d_MO_beside_44 : decode b_MO_beside 44 = .ok (.iload_n 2, 1) := dc_28 (by decide +kernel)
theorem d_MO_beside_45 : decode b_MO_beside 45 = .ok (.iconst 2, 1) := dc_5 (by decide +kernel)
theorem d_MO_beside_46 : decode b_MO_beside 46 = .ok (.if_icmp .ne 7, 3) := dc_160 (by decide +kernel)
theorem d_MO_beside_49 : decode b_MO_beside 49 = .ok (.iconst 1, 1) := dc_4 (by decide +kernel)
theorem d_MO_beside_50 : decode b_MO_beside 50 = .ok (.goto 12, 3) := dc_167 (by decide +kernel)
theorem d_MO_beside_53 : decode b_MO_beside 53 = .ok (.iload_n 2, 1) := dc_28 (by decide +kernel)
theorem d_MO_beside_54 : decode b_MO_beside 54 = .ok (.ifCond .ne 7, 3) := dc_154 (by decide +kernel)
theorem d_MO_beside_57 : decode b_MO_beside 57 = .ok (.iconst (-1), 1) := dc_2 (by decide +kernel)
theorem d_MO_beside_58 : decode b_MO_beside 58 = .ok (.goto 4, 3) := dc_167 (by decide +kernel)
theorem d_MO_beside_61 : decode b_MO_beside 61 = .ok (.iconst 0, 1) := dc_3 (by decide +kernel)
theorem d_MO_beside_62 : decode b_MO_beside 62 = .ok (.iadd, 1) := dc_96 (by decide +kernel)
theorem d_MO_beside_63 : decode b_MO_beside 63 = .ok (.istore 4, 2) := dc_54 (by decide +kernel)
theorem d_MO_beside_65 : decode b_MO_beside 65 = .ok (.iload_n 3, 1) := dc_29 (by decide +kernel)
theorem d_MO_beside_66 : decode b_MO_beside 66 = .ok (.ifCond .lt 29, 3) := dc_155 (by decide +kernel)
theorem d_MO_beside_69 : decode b_MO_beside 69 = .ok (.iload 4, 2) := dc_21 (by decide +kernel)
theorem d_MO_beside_71 : decode b_MO_beside 71 = .ok (.ifCond .lt 24, 3) := dc_155 (by decide +kernel)
theorem d_MO_beside_74 : decode b_MO_beside 74 = .ok (.iload_n 3, 1) := dc_29 (by decide +kernel)
theorem d_MO_beside_75 : decode b_MO_beside 75 = .ok (.aload_n 0, 1) := dc_42 (by decide +kernel)
theorem d_MO_beside_76 : decode b_MO_beside 76 = .ok (.getfield 13, 3) := dc_180 (by decide +kernel)
theorem d_MO_beside_79 : decode b_MO_beside 79 = .ok (.iconst 0, 1) := dc_3 (by decide +kernel)
theorem d_MO_beside_80 : decode b_MO_beside 80 = .ok (.iaload, 1) := dc_46 (by decide +kernel)
theorem d_MO_beside_81 : decode b_MO_beside 81 = .ok (.if_icmp .ge 14, 3) := dc_162 (by decide +kernel)
theorem d_MO_beside_84 : decode b_MO_beside 84 = .ok (.iload 4, 2) := dc_21 (by decide +kernel)
theorem d_MO_beside_86 : decode b_MO_beside 86 = .ok (.aload_n 0, 1) := dc_42 (by decide +kernel)
theorem d_MO_beside_87 : decode b_MO_beside 87 = .ok (.getfield 13, 3) := dc_180 (by decide +kernel)
theorem d_MO_beside_90 : decode b_MO_beside 90 = .ok (.iconst 1, 1) := dc_4 (by decide +kernel)
theorem d_MO_beside_91 : decode b_MO_beside 91 = .ok (.iaload, 1) := dc_46 (by decide +kernel)
theorem d_MO_beside_92 : decode b_MO_beside 92 = .ok (.if_icmp .lt 7, 3) := dc_161 (by decide +kernel)
theorem d_MO_beside_95 : decode b_MO_beside 95 = .ok (.iconst (-1), 1) := dc_2 (by decide +kernel)
theorem d_MO_beside_96 : decode b_MO_beside 96 = .ok (.goto 14, 3) := dc_167 (by decide +kernel)
theorem d_MO_beside_99 : decode b_MO_beside 99 = .ok (.iload 4, 2) := dc_21 (by decide +kernel)
theorem d_MO_beside_101 : decode b_MO_beside 101 = .ok (.aload_n 0, 1) := dc_42 (by decide +kernel)
theorem d_MO_beside_102 : decode b_MO_beside 102 = .ok (.getfield 13, 3) := dc_180 (by decide +kernel)
theorem d_MO_beside_105 : decode b_MO_beside 105 = .ok (.iconst 0, 1) := dc_3 (by decide +kernel)
theorem d_MO_beside_106 : decode b_MO_beside 106 = .ok (.iaload, 1) := dc_46 (by decide +kernel)
theorem d_MO_beside_107 : decode b_MO_beside 107 = .ok (.imul, 1) := dc_104 (by decide +kernel)
theorem d_MO_beside_108 : decode b_MO_beside 108 = .ok (.iload_n 3, 1) := dc_29 (by decide +kernel)
theorem d_MO_beside_109 : decode b_MO_beside 109 = .ok (.iadd, 1) := dc_96 (by decide +kernel)
theorem d_MO_beside_110 : decode b_MO_beside 110 = .ok (.ireturn, 1) := dc_172 (by decide +kernel)
def t_MO_beside_L62 (x1 : Int) (x2 : Int)  (M : Mem) (v1_ : Int) (v2_ : Int) (v3_ : Int) : Option (Int) := (if v1_ < 0 then (some (-1)) else (if (w32 (v2_ + v3_)) < 0 then (some (-1)) else (if (M.1 193 0) ≤ v1_ then (some (-1)) else (if (w32 (v2_ + v3_)) < (M.1 193 1) then (some (w32 ((w32 ((w32 (v2_ + v3_)) * (M.1 193 0))) + v1_))) else (some (-1))))))
def t_MO_beside_L34 (x1 : Int) (x2 : Int)  (M : Mem) (v3_ : Int) (v4_ : Int) : Option (Int) := (if (M.1 193 0) = 0 then none else (if x2 = 2 then (t_MO_beside_L62 x1 x2 M (w32 (v3_ + v4_)) (q_div x1 (M.1 193 0)) 1) else (if x2 = 0 then (t_MO_beside_L62 x1 x2 M (w32 (v3_ + v4_)) (q_div x1 (M.1 193 0)) (-1)) else (t_MO_beside_L62 x1 x2 M (w32 (v3_ + v4_)) (q_div x1 (M.1 193 0)) 0))))
def t_MO_beside (M : Mem) (x1 : Int) (x2 : Int) : Option (Int) := (if x2 = 4 then (some (-1)) else (if (M.1 193 0) = 0 then none else (if x2 = 1 then (t_MO_beside_L34 x1 x2 M (q_rem x1 (M.1 193 0)) 1) else (if x2 = 3 then (t_MO_beside_L34 x1 x2 M (q_rem x1 (M.1 193 0)) (-1)) else (t_MO_beside_L34 x1 x2 M (q_rem x1 (M.1 193 0)) 0)))))
set_option maxHeartbeats 4000000 in
set_option maxRecDepth 100000 in
theorem k_MO_beside_L62 (l : Launch) {p : Program} {e : Env} {s : State} {m : MethodId} {below : List Frame} {meth : Method} {c : Code} {b n : Nat} {C : CT} (hlo : 231 ≤ n) (x1 : Int) (x2 : Int) (hx1 : InR x1) (hx2 : InR x2) (F : Cx b p m c b_MO_beside 5 s ([.ref (b + 191), vI x1, vI x2] : List Value).toArray "WardFallsModel" C n 231) (hlk : meth.locks = false) (hr : meth.sig.returnType = some .int) {res : Int} (M : Mem) (v1_ : Int) (hv1_ : InR v1_) (v2_ : Int) (hv2_ : InR v2_) (v3_ : Int) (hv3_ : InR v3_) (H : Heap) (locs : List Loc) (ls : Array Slot) (hS : St b C n M s H locs) (hl : lv_has ls 5 [(0, .ref (b + 191)), (3, vI v1_)]) (hT : t_MO_beside_L62 x1 x2 M v1_ v2_ v3_ = some res) : W p l e (headSpec (wsM y_MO_beside b_MO_beside 5 (some .int)) (rmD 0)).room s m ([.ref (b + 191), vI x1, vI x2] : List Value).toArray below meth c H locs 0 0 (MQ below (QI b C n M res) ([.ref (b + 191), vI x1, vI x2] : List Value).toArray s 0 0 (frb b)) (F0 m 62 ls [vI v3_, vI v2_]) := by
  unfold t_MO_beside_L62 at hT
  refine r_iadd F.hx F.hb d_MO_beside_62 ?_
  refine lv_istore (lv' := [(4, vI (w32 (v2_ + v3_))), (0, .ref (b + 191)), (3, vI v1_)]) F.hx F.hb d_MO_beside_63 hl (Nat.le_of_ble_eq_true rfl) rfl (fun ls hl => ?_)
  refine lv_iload_n F.hx F.hb d_MO_beside_65 rfl (lv_at hl 2 rfl) ?_
  refine r_if_lt (tgt := 95) F.hx F.hb hv1_ d_MO_beside_66 (by decide) (fun c10 => ?_) (fun c10 => ?_)
  · replace hT := (if_pos c10).symm.trans hT
    refine r_iconst F.hx F.hb d_MO_beside_95 ?_
    refine lv_goto (tgt := 110) F.hx F.hb d_MO_beside_96 (by decide) ?_
    cases hT
    exact r_iret F hlk hr rfl hS (inr_c rfl) d_MO_beside_110
  · replace hT := (if_neg c10).symm.trans hT
    refine lv_iload F.hx F.hb d_MO_beside_69 (lv_at hl 0 rfl) ?_
    refine r_if_lt (tgt := 95) F.hx F.hb (inr_w32 _) d_MO_beside_71 (by decide) (fun c11 => ?_) (fun c11 => ?_)
    · replace hT := (if_pos c11).symm.trans hT
      refine r_iconst F.hx F.hb d_MO_beside_95 ?_
      refine lv_goto (tgt := 110) F.hx F.hb d_MO_beside_96 (by decide) ?_
      cases hT
      exact r_iret F hlk hr rfl hS (inr_c rfl) d_MO_beside_110
    · replace hT := (if_neg c11).symm.trans hT
      refine lv_iload_n F.hx F.hb d_MO_beside_74 rfl (lv_at hl 2 rfl) ?_
      refine lv_aload_n F.hx F.hb d_MO_beside_75 rfl (lv_at hl 1 rfl) ?_
      refine r_get (v := .ref (b + 193)) (N := 68) (T := T1) (j := 3) F hS (show 191 < 231 by decide) (show shK 191 = 5 from rfl) (show shN 191 = 68 from rfl) rfl (Nat.le_of_ble_eq_true rfl) ing1 mw_1392 (fv_sg rfl rfl rfl) d_MO_beside_76 ?_
      refine r_iconst F.hx F.hb d_MO_beside_79 ?_
      refine r_iald F hS (show 193 < 231 by decide) (show shK 193 = 0 from rfl) (show shN 193 = 18 from rfl) (inr_c rfl) (by omega) (by omega) d_MO_beside_80 ?_
      have i12 := hS.rng 193 0
      refine r_icmp_ge (tgt := 95) F.hx F.hb hv1_ i12 d_MO_beside_81 (by decide) (fun c13 => ?_) (fun c13 => ?_)
      · replace hT := (if_pos c13).symm.trans hT
        refine r_iconst F.hx F.hb d_MO_beside_95 ?_
        refine lv_goto (tgt := 110) F.hx F.hb d_MO_beside_96 (by decide) ?_
        cases hT
        exact r_iret F hlk hr rfl hS (inr_c rfl) d_MO_beside_110
      · replace hT := (if_neg c13).symm.trans hT
        refine lv_iload F.hx F.hb d_MO_beside_84 (lv_at hl 0 rfl) ?_
        refine lv_aload_n F.hx F.hb d_MO_beside_86 rfl (lv_at hl 1 rfl) ?_
        refine r_get (v := .ref (b + 193)) (N := 68) (T := T1) (j := 3) F hS (show 191 < 231 by decide) (show shK 191 = 5 from rfl) (show shN 191 = 68 from rfl) rfl (Nat.le_of_ble_eq_true rfl) ing1 mw_1392 (fv_sg rfl rfl rfl) d_MO_beside_87 ?_
        refine r_iconst F.hx F.hb d_MO_beside_90 ?_
        refine r_iald F hS (show 193 < 231 by decide) (show shK 193 = 0 from rfl) (show shN 193 = 18 from rfl) (inr_c rfl) (by omega) (by omega) d_MO_beside_91 ?_
        have i14 := hS.rng 193 1
        refine r_icmp_lt (tgt := 99) F.hx F.hb (inr_w32 _) i14 d_MO_beside_92 (by decide) (fun c15 => ?_) (fun c15 => ?_)
        · replace hT := (if_pos c15).symm.trans hT
          refine lv_iload F.hx F.hb d_MO_beside_99 (lv_at hl 0 rfl) ?_
          refine lv_aload_n F.hx F.hb d_MO_beside_101 rfl (lv_at hl 1 rfl) ?_
          refine r_get (v := .ref (b + 193)) (N := 68) (T := T1) (j := 3) F hS (show 191 < 231 by decide) (show shK 191 = 5 from rfl) (show shN 191 = 68 from rfl) rfl (Nat.le_of_ble_eq_true rfl) ing1 mw_1392 (fv_sg rfl rfl rfl) d_MO_beside_102 ?_
          refine r_iconst F.hx F.hb d_MO_beside_105 ?_
          refine r_iald F hS (show 193 < 231 by decide) (show shK 193 = 0 from rfl) (show shN 193 = 18 from rfl) (inr_c rfl) (by omega) (by omega) d_MO_beside_106 ?_
          have i16 := hS.rng 193 0
          refine r_imul F.hx F.hb d_MO_beside_107 ?_
          refine lv_iload_n F.hx F.hb d_MO_beside_108 rfl (lv_at hl 2 rfl) ?_
          refine r_iadd F.hx F.hb d_MO_beside_109 ?_
          cases hT
          exact r_iret F hlk hr rfl hS (inr_w32 _) d_MO_beside_110
        · replace hT := (if_neg c15).symm.trans hT
          refine r_iconst F.hx F.hb d_MO_beside_95 ?_
          refine lv_goto (tgt := 110) F.hx F.hb d_MO_beside_96 (by decide) ?_
          cases hT
          exact r_iret F hlk hr rfl hS (inr_c rfl) d_MO_beside_110
set_option maxHeartbeats 4000000 in
set_option maxRecDepth 100000 in
theorem k_MO_beside_L34 (l : Launch) {p : Program} {e : Env} {s : State} {m : MethodId} {below : List Frame} {meth : Method} {c : Code} {b n : Nat} {C : CT} (hlo : 231 ≤ n) (x1 : Int) (x2 : Int) (hx1 : InR x1) (hx2 : InR x2) (F : Cx b p m c b_MO_beside 5 s ([.ref (b + 191), vI x1, vI x2] : List Value).toArray "WardFallsModel" C n 231) (hlk : meth.locks = false) (hr : meth.sig.returnType = some .int) {res : Int} (M : Mem) (v3_ : Int) (hv3_ : InR v3_) (v4_ : Int) (hv4_ : InR v4_) (H : Heap) (locs : List Loc) (ls : Array Slot) (hS : St b C n M s H locs) (hl : lv_has ls 5 [(0, .ref (b + 191)), (1, vI x1), (2, vI x2)]) (hT : t_MO_beside_L34 x1 x2 M v3_ v4_ = some res) : W p l e (headSpec (wsM y_MO_beside b_MO_beside 5 (some .int)) (rmD 0)).room s m ([.ref (b + 191), vI x1, vI x2] : List Value).toArray below meth c H locs 0 0 (MQ below (QI b C n M res) ([.ref (b + 191), vI x1, vI x2] : List Value).toArray s 0 0 (frb b)) (F0 m 34 ls [vI v4_, vI v3_]) := by
  unfold t_MO_beside_L34 at hT
  refine r_iadd F.hx F.hb d_MO_beside_34 ?_
  refine lv_istore_n (lv' := [(3, vI (w32 (v3_ + v4_))), (0, .ref (b + 191)), (1, vI x1), (2, vI x2)]) F.hx F.hb d_MO_beside_35 rfl hl (Nat.le_of_ble_eq_true rfl) rfl (fun ls hl => ?_)
  refine lv_iload_n F.hx F.hb d_MO_beside_36 rfl (lv_at hl 2 rfl) ?_
  refine lv_aload_n F.hx F.hb d_MO_beside_37 rfl (lv_at hl 1 rfl) ?_
  refine r_get (v := .ref (b + 193)) (N := 68) (T := T1) (j := 3) F hS (show 191 < 231 by decide) (show shK 191 = 5 from rfl) (show shN 191 = 68 from rfl) rfl (Nat.le_of_ble_eq_true rfl) ing1 mw_1392 (fv_sg rfl rfl rfl) d_MO_beside_38 ?_
  refine r_iconst F.hx F.hb d_MO_beside_41 ?_
  refine r_iald F hS (show 193 < 231 by decide) (show shK 193 = 0 from rfl) (show shN 193 = 18 from rfl) (inr_c rfl) (by omega) (by omega) d_MO_beside_42 ?_
  have i6 := hS.rng 193 0
  obtain ⟨c7, hT⟩ := q_guardn hT
  refine r_idiv F.hx F.hb i6 c7 d_MO_beside_43 ?_
  refine lv_iload_n F.hx F.hb d_MO_beside_44 rfl (lv_at hl 3 rfl) ?_
  refine r_iconst F.hx F.hb d_MO_beside_45 ?_
  refine r_icmp_ne (tgt := 53) F.hx F.hb hx2 (inr_c rfl) d_MO_beside_46 (by decide) (fun c8 => ?_) (fun c8 => ?_)
  · replace hT := (if_neg c8).symm.trans hT
    refine lv_iload_n F.hx F.hb d_MO_beside_53 rfl (lv_at hl 3 rfl) ?_
    refine r_if_ne (tgt := 61) F.hx F.hb hx2 d_MO_beside_54 (by decide) (fun c9 => ?_) (fun c9 => ?_)
    · replace hT := (if_neg c9).symm.trans hT
      refine r_iconst F.hx F.hb d_MO_beside_61 ?_
      exact k_MO_beside_L62 l hlo x1 x2 hx1 hx2 F hlk hr M (w32 (v3_ + v4_)) (inr_w32 _) (q_div x1 (M.1 193 0)) (q_inr_toInt _) 0 (inr_c rfl) _ _ _ hS (lv_sub hl [1, 0] rfl) hT
    · replace hT := (if_pos c9).symm.trans hT
      refine r_iconst F.hx F.hb d_MO_beside_57 ?_
      refine lv_goto (tgt := 62) F.hx F.hb d_MO_beside_58 (by decide) ?_
      exact k_MO_beside_L62 l hlo x1 x2 hx1 hx2 F hlk hr M (w32 (v3_ + v4_)) (inr_w32 _) (q_div x1 (M.1 193 0)) (q_inr_toInt _) (-1) (inr_c rfl) _ _ _ hS (lv_sub hl [1, 0] rfl) hT
  · replace hT := (if_pos c8).symm.trans hT
    refine r_iconst F.hx F.hb d_MO_beside_49 ?_
    refine lv_goto (tgt := 62) F.hx F.hb d_MO_beside_50 (by decide) ?_
    exact k_MO_beside_L62 l hlo x1 x2 hx1 hx2 F hlk hr M (w32 (v3_ + v4_)) (inr_w32 _) (q_div x1 (M.1 193 0)) (q_inr_toInt _) 1 (inr_c rfl) _ _ _ hS (lv_sub hl [1, 0] rfl) hT
set_option maxHeartbeats 4000000 in
set_option maxRecDepth 100000 in
theorem c_MO_beside (l : Launch) {b n : Nat} {C : CT} (hlo : 231 ≤ n) (M : Mem) (x1 : Int) (x2 : Int) (hx1 : InR x1) (hx2 : InR x2) (res : Int) (hT : t_MO_beside M x1 x2 = some res) : CM l b C n 0 y_MO_beside b_MO_beside 5 (some .int) [.ref (b + 191), vI x1, vI x2] M (QI b C n M res) := by
  refine CM.of (lo := 231) (ow := "WardFallsModel") (by decide) rfl (Nat.le_of_ble_eq_true rfl) hlo (fun p e s m below meth c F hlk hr hS ls hl => ?_)
  have hl : lv_has ls 5 [(0, .ref (b + 191)), (1, vI x1), (2, vI x2)] := hl
  unfold t_MO_beside at hT
  refine lv_iload_n F.hx F.hb d_MO_beside_0 rfl (lv_at hl 2 rfl) ?_
  refine r_iconst F.hx F.hb d_MO_beside_1 ?_
  refine r_icmp_ne (tgt := 7) F.hx F.hb hx2 (inr_c rfl) d_MO_beside_2 (by decide) (fun c1 => ?_) (fun c1 => ?_)
  · replace hT := (if_neg c1).symm.trans hT
    refine lv_iload_n F.hx F.hb d_MO_beside_7 rfl (lv_at hl 1 rfl) ?_
    refine lv_aload_n F.hx F.hb d_MO_beside_8 rfl (lv_at hl 0 rfl) ?_
    refine r_get (v := .ref (b + 193)) (N := 68) (T := T1) (j := 3) F hS (show 191 < 231 by decide) (show shK 191 = 5 from rfl) (show shN 191 = 68 from rfl) rfl (Nat.le_of_ble_eq_true rfl) ing1 mw_1392 (fv_sg rfl rfl rfl) d_MO_beside_9 ?_
    refine r_iconst F.hx F.hb d_MO_beside_12 ?_
    refine r_iald F hS (show 193 < 231 by decide) (show shK 193 = 0 from rfl) (show shN 193 = 18 from rfl) (inr_c rfl) (by omega) (by omega) d_MO_beside_13 ?_
    have i2 := hS.rng 193 0
    obtain ⟨c3, hT⟩ := q_guardn hT
    refine r_irem F.hx F.hb i2 c3 d_MO_beside_14 ?_
    refine lv_iload_n F.hx F.hb d_MO_beside_15 rfl (lv_at hl 2 rfl) ?_
    refine r_iconst F.hx F.hb d_MO_beside_16 ?_
    refine r_icmp_ne (tgt := 24) F.hx F.hb hx2 (inr_c rfl) d_MO_beside_17 (by decide) (fun c4 => ?_) (fun c4 => ?_)
    · replace hT := (if_neg c4).symm.trans hT
      refine lv_iload_n F.hx F.hb d_MO_beside_24 rfl (lv_at hl 2 rfl) ?_
      refine r_iconst F.hx F.hb d_MO_beside_25 ?_
      refine r_icmp_ne (tgt := 33) F.hx F.hb hx2 (inr_c rfl) d_MO_beside_26 (by decide) (fun c5 => ?_) (fun c5 => ?_)
      · replace hT := (if_neg c5).symm.trans hT
        refine r_iconst F.hx F.hb d_MO_beside_33 ?_
        exact k_MO_beside_L34 l hlo x1 x2 hx1 hx2 F hlk hr M (q_rem x1 (M.1 193 0)) (q_inr_toInt _) 0 (inr_c rfl) _ _ _ hS (lv_sub hl [0, 1, 2] rfl) hT
      · replace hT := (if_pos c5).symm.trans hT
        refine r_iconst F.hx F.hb d_MO_beside_29 ?_
        refine lv_goto (tgt := 34) F.hx F.hb d_MO_beside_30 (by decide) ?_
        exact k_MO_beside_L34 l hlo x1 x2 hx1 hx2 F hlk hr M (q_rem x1 (M.1 193 0)) (q_inr_toInt _) (-1) (inr_c rfl) _ _ _ hS (lv_sub hl [0, 1, 2] rfl) hT
    · replace hT := (if_pos c4).symm.trans hT
      refine r_iconst F.hx F.hb d_MO_beside_20 ?_
      refine lv_goto (tgt := 34) F.hx F.hb d_MO_beside_21 (by decide) ?_
      exact k_MO_beside_L34 l hlo x1 x2 hx1 hx2 F hlk hr M (q_rem x1 (M.1 193 0)) (q_inr_toInt _) 1 (inr_c rfl) _ _ _ hS (lv_sub hl [0, 1, 2] rfl) hT
  · replace hT := (if_pos c1).symm.trans hT
    refine r_iconst F.hx F.hb d_MO_beside_5 ?_
    cases hT
    exact r_iret F hlk hr rfl hS (inr_c rfl) d_MO_beside_6
theorem d_MO_downOf_0 : decode b_MO_downOf 0 = .ok (.aload_n 0, 1) := dc_42 (by decide +kernel)
theorem d_MO_downOf_1 : decode b_MO_downOf 1 = .ok (.getfield 25, 3) := dc_180 (by decide +kernel)
theorem d_MO_downOf_4 : decode b_MO_downOf 4 = .ok (.iload_n 2, 1) := dc_28 (by decide +kernel)
theorem d_MO_downOf_5 : decode b_MO_downOf 5 = .ok (.iaload, 1) := dc_46 (by decide +kernel)
theorem d_MO_downOf_6 : decode b_MO_downOf 6 = .ok (.iconst 1, 1) := dc_4 (by decide +kernel)
theorem d_MO_downOf_7 : decode b_MO_downOf 7 = .ok (.isub, 1) := dc_100 (by decide +kernel)
theorem d_MO_downOf_8 : decode b_MO_downOf 8 = .ok (.istore_n 3, 1) := dc_62 (by decide +kernel)
theorem d_MO_downOf_9 : decode b_MO_downOf 9 = .ok (.iload_n 3, 1) := dc_29 (by decide +kernel)
theorem d_MO_downOf_10 : decode b_MO_downOf 10 = .ok (.iconst (-1), 1) := dc_2 (by decide +kernel)
theorem d_MO_downOf_11 : decode b_MO_downOf 11 = .ok (.if_icmp .eq 19, 3) := dc_159 (by decide +kernel)
theorem d_MO_downOf_14 : decode b_MO_downOf 14 = .ok (.aload_n 0, 1) := dc_42 (by decide +kernel)
theorem d_MO_downOf_15 : decode b_MO_downOf 15 = .ok (.getfield 97, 3) := dc_180 (by decide +kernel)
theorem d_MO_downOf_18 : decode b_MO_downOf 18 = .ok (.iconst 3, 1) := dc_6 (by decide +kernel)
theorem d_MO_downOf_19 : decode b_MO_downOf 19 = .ok (.if_icmp .ne 15, 3) := dc_160 (by decide +kernel)
theorem d_MO_downOf_22 : decode b_MO_downOf 22 = .ok (.aload_n 0, 1) := dc_42 (by decide +kernel)
theorem d_MO_downOf_23 : decode b_MO_downOf 23 = .ok (.getfield 100, 3) := dc_180 (by decide +kernel)
theorem d_MO_downOf_26 : decode b_MO_downOf 26 = .ok (.iload_n 3, 1) := dc_29 (by decide +kernel)
theorem d_MO_downOf_27 : decode b_MO_downOf 27 = .ok (.if_icmp .ne 7, 3) := dc_160 (by decide +kernel)
theorem d_MO_downOf_30 : decode b_MO_downOf 30 = .ok (.iconst 4, 1) := dc_7 (by decide +kernel)
theorem d_MO_downOf_31 : decode b_MO_downOf 31 = .ok (.goto 13, 3) := dc_167 (by decide +kernel)
theorem d_MO_downOf_34 : decode b_MO_downOf 34 = .ok (.aload_n 0, 1) := dc_42 (by decide +kernel)
theorem d_MO_downOf_35 : decode b_MO_downOf 35 = .ok (.getfield 76, 3) := dc_180 (by decide +kernel)
theorem d_MO_downOf_38 : decode b_MO_downOf 38 = .ok (.iconst 4, 1) := dc_7 (by decide +kernel)
theorem d_MO_downOf_39 : decode b_MO_downOf 39 = .ok (.iload_n 1, 1) := dc_27 (by decide +kernel)
theorem d_MO_downOf_40 : decode b_MO_downOf 40 = .ok (.imul, 1) := dc_104 (by decide +kernel)
theorem d_MO_downOf_41 : decode b_MO_downOf 41 = .ok (.iload_n 3, 1) := dc_29 (by decide +kernel)
theorem d_MO_downOf_42 : decode b_MO_downOf 42 = .ok (.iadd, 1) := dc_96 (by decide +kernel)
theorem d_MO_downOf_43 : decode b_MO_downOf 43 = .ok (.iaload, 1) := dc_46 (by decide +kernel)
theorem d_MO_downOf_44 : decode b_MO_downOf 44 = .ok (.ireturn, 1) := dc_172 (by decide +kernel)
def t_MO_downOf_L34 (x1 : Int) (x2 : Int)  (M : Mem) (v2_ : Int) : Option (Int) := (qguard (0 ≤ (w32 ((w32 (4 * x1)) + v2_)) ∧ (w32 ((w32 (4 * x1)) + v2_)) < 92) (some (M.1 212 (w32 ((w32 (4 * x1)) + v2_)))))
def t_MO_downOf (M : Mem) (x1 : Int) (x2 : Int) : Option (Int) := (qguard (0 ≤ x2 ∧ x2 < 96) (if (w32 ((M.1 197 x2) - 1)) = (-1) then (some 4) else (if (M.1 191 44) = 3 then (if (M.1 191 45) = (w32 ((M.1 197 x2) - 1)) then (some 4) else (t_MO_downOf_L34 x1 x2 M (w32 ((M.1 197 x2) - 1)))) else (t_MO_downOf_L34 x1 x2 M (w32 ((M.1 197 x2) - 1))))))
set_option maxHeartbeats 4000000 in
set_option maxRecDepth 100000 in
theorem k_MO_downOf_L34 (l : Launch) {p : Program} {e : Env} {s : State} {m : MethodId} {below : List Frame} {meth : Method} {c : Code} {b n : Nat} {C : CT} (hlo : 231 ≤ n) (x1 : Int) (x2 : Int) (hx1 : InR x1) (hx2 : InR x2) (F : Cx b p m c b_MO_downOf 4 s ([.ref (b + 191), vI x1, vI x2] : List Value).toArray "WardFallsModel" C n 231) (hlk : meth.locks = false) (hr : meth.sig.returnType = some .int) {res : Int} (M : Mem) (v2_ : Int) (hv2_ : InR v2_) (H : Heap) (locs : List Loc) (ls : Array Slot) (hS : St b C n M s H locs) (hl : lv_has ls 4 [(0, .ref (b + 191)), (1, vI x1), (3, vI v2_)]) (hT : t_MO_downOf_L34 x1 x2 M v2_ = some res) : W p l e (headSpec (wsM y_MO_downOf b_MO_downOf 4 (some .int)) (rmD 0)).room s m ([.ref (b + 191), vI x1, vI x2] : List Value).toArray below meth c H locs 0 0 (MQ below (QI b C n M res) ([.ref (b + 191), vI x1, vI x2] : List Value).toArray s 0 0 (frb b)) (F0 m 34 ls []) := by
  unfold t_MO_downOf_L34 at hT
  refine lv_aload_n F.hx F.hb d_MO_downOf_34 rfl (lv_at hl 0 rfl) ?_
  refine r_get (v := .ref (b + 212)) (N := 68) (T := T1) (j := 35) F hS (show 191 < 231 by decide) (show shK 191 = 5 from rfl) (show shN 191 = 68 from rfl) rfl (Nat.le_of_ble_eq_true rfl) ing1 mw_1424 (fv_sg rfl rfl rfl) d_MO_downOf_35 ?_
  refine r_iconst F.hx F.hb d_MO_downOf_38 ?_
  refine lv_iload_n F.hx F.hb d_MO_downOf_39 rfl (lv_at hl 1 rfl) ?_
  refine r_imul F.hx F.hb d_MO_downOf_40 ?_
  refine lv_iload_n F.hx F.hb d_MO_downOf_41 rfl (lv_at hl 2 rfl) ?_
  refine r_iadd F.hx F.hb d_MO_downOf_42 ?_
  obtain ⟨⟨g8a, g8b⟩, hT⟩ := q_guard hT
  refine r_iald F hS (show 212 < 231 by decide) (show shK 212 = 0 from rfl) (show shN 212 = 92 from rfl) (inr_w32 _) g8a g8b d_MO_downOf_43 ?_
  have i9 := hS.rng 212 (w32 ((w32 (4 * x1)) + v2_))
  cases hT
  exact r_iret F hlk hr rfl hS i9 d_MO_downOf_44
set_option maxHeartbeats 4000000 in
set_option maxRecDepth 100000 in
theorem c_MO_downOf (l : Launch) {b n : Nat} {C : CT} (hlo : 231 ≤ n) (M : Mem) (x1 : Int) (x2 : Int) (hx1 : InR x1) (hx2 : InR x2) (res : Int) (hT : t_MO_downOf M x1 x2 = some res) : CM l b C n 0 y_MO_downOf b_MO_downOf 4 (some .int) [.ref (b + 191), vI x1, vI x2] M (QI b C n M res) := by
  refine CM.of (lo := 231) (ow := "WardFallsModel") (by decide) rfl (Nat.le_of_ble_eq_true rfl) hlo (fun p e s m below meth c F hlk hr hS ls hl => ?_)
  have hl : lv_has ls 4 [(0, .ref (b + 191)), (1, vI x1), (2, vI x2)] := hl
  unfold t_MO_downOf at hT
  refine lv_aload_n F.hx F.hb d_MO_downOf_0 rfl (lv_at hl 0 rfl) ?_
  refine r_get (v := .ref (b + 197)) (N := 68) (T := T1) (j := 7) F hS (show 191 < 231 by decide) (show shK 191 = 5 from rfl) (show shN 191 = 68 from rfl) rfl (Nat.le_of_ble_eq_true rfl) ing1 mw_1396 (fv_sg rfl rfl rfl) d_MO_downOf_1 ?_
  refine lv_iload_n F.hx F.hb d_MO_downOf_4 rfl (lv_at hl 2 rfl) ?_
  obtain ⟨⟨g1a, g1b⟩, hT⟩ := q_guard hT
  refine r_iald F hS (show 197 < 231 by decide) (show shK 197 = 0 from rfl) (show shN 197 = 96 from rfl) hx2 g1a g1b d_MO_downOf_5 ?_
  have i2 := hS.rng 197 x2
  refine r_iconst F.hx F.hb d_MO_downOf_6 ?_
  refine r_isub F.hx F.hb d_MO_downOf_7 ?_
  refine lv_istore_n (lv' := [(3, vI (w32 ((M.1 197 x2) - 1))), (0, .ref (b + 191)), (1, vI x1), (2, vI x2)]) F.hx F.hb d_MO_downOf_8 rfl hl (Nat.le_of_ble_eq_true rfl) rfl (fun ls hl => ?_)
  refine lv_iload_n F.hx F.hb d_MO_downOf_9 rfl (lv_at hl 0 rfl) ?_
  refine r_iconst F.hx F.hb d_MO_downOf_10 ?_
  refine r_icmp_eq (tgt := 30) F.hx F.hb (inr_w32 _) (inr_c rfl) d_MO_downOf_11 (by decide) (fun c3 => ?_) (fun c3 => ?_)
  · replace hT := (if_pos c3).symm.trans hT
    refine r_iconst F.hx F.hb d_MO_downOf_30 ?_
    refine lv_goto (tgt := 44) F.hx F.hb d_MO_downOf_31 (by decide) ?_
    cases hT
    exact r_iret F hlk hr rfl hS (inr_c rfl) d_MO_downOf_44
  · replace hT := (if_neg c3).symm.trans hT
    refine lv_aload_n F.hx F.hb d_MO_downOf_14 rfl (lv_at hl 1 rfl) ?_
    refine r_get (v := vI (M.1 191 44)) (N := 68) (T := T1) (j := 44) F hS (show 191 < 231 by decide) (show shK 191 = 5 from rfl) (show shN 191 = 68 from rfl) rfl (Nat.le_of_ble_eq_true rfl) ing1 mw_1433 (fv_int rfl) d_MO_downOf_15 ?_
    have i4 := hS.rng 191 44
    refine r_iconst F.hx F.hb d_MO_downOf_18 ?_
    refine r_icmp_ne (tgt := 34) F.hx F.hb i4 (inr_c rfl) d_MO_downOf_19 (by decide) (fun c5 => ?_) (fun c5 => ?_)
    · replace hT := (if_neg c5).symm.trans hT
      exact k_MO_downOf_L34 l hlo x1 x2 hx1 hx2 F hlk hr M (w32 ((M.1 197 x2) - 1)) (inr_w32 _) _ _ _ hS (lv_sub hl [1, 2, 0] rfl) hT
    · replace hT := (if_pos c5).symm.trans hT
      refine lv_aload_n F.hx F.hb d_MO_downOf_22 rfl (lv_at hl 1 rfl) ?_
      refine r_get (v := vI (M.1 191 45)) (N := 68) (T := T1) (j := 45) F hS (show 191 < 231 by decide) (show shK 191 = 5 from rfl) (show shN 191 = 68 from rfl) rfl (Nat.le_of_ble_eq_true rfl) ing1 mw_1434 (fv_int rfl) d_MO_downOf_23 ?_
      have i6 := hS.rng 191 45
      refine lv_iload_n F.hx F.hb d_MO_downOf_26 rfl (lv_at hl 0 rfl) ?_
      refine r_icmp_ne (tgt := 34) F.hx F.hb i6 (inr_w32 _) d_MO_downOf_27 (by decide) (fun c7 => ?_) (fun c7 => ?_)
      · replace hT := (if_neg c7).symm.trans hT
        exact k_MO_downOf_L34 l hlo x1 x2 hx1 hx2 F hlk hr M (w32 ((M.1 197 x2) - 1)) (inr_w32 _) _ _ _ hS (lv_sub hl [1, 2, 0] rfl) hT
      · replace hT := (if_pos c7).symm.trans hT
        refine r_iconst F.hx F.hb d_MO_downOf_30 ?_
        refine lv_goto (tgt := 44) F.hx F.hb d_MO_downOf_31 (by decide) ?_
        cases hT
        exact r_iret F hlk hr rfl hS (inr_c rfl) d_MO_downOf_44
theorem d_MO_nextOf_0 : decode b_MO_nextOf 0 = .ok (.aload_n 0, 1) := dc_42 (by decide +kernel)
theorem d_MO_nextOf_1 : decode b_MO_nextOf 1 = .ok (.getfield 97, 3) := dc_180 (by decide +kernel)
theorem d_MO_nextOf_4 : decode b_MO_nextOf 4 = .ok (.ifCond .eq 20, 3) := dc_153 (by decide +kernel)
theorem d_MO_nextOf_7 : decode b_MO_nextOf 7 = .ok (.aload_n 0, 1) := dc_42 (by decide +kernel)
theorem d_MO_nextOf_8 : decode b_MO_nextOf 8 = .ok (.getfield 69, 3) := dc_180 (by decide +kernel)
theorem d_MO_nextOf_11 : decode b_MO_nextOf 11 = .ok (.iload_n 1, 1) := dc_27 (by decide +kernel)
theorem d_MO_nextOf_12 : decode b_MO_nextOf 12 = .ok (.laload, 1) := dc_47 (by decide +kernel)
theorem d_MO_nextOf_13 : decode b_MO_nextOf 13 = .ok (.iload_n 2, 1) := dc_28 (by decide +kernel)
theorem d_MO_nextOf_14 : decode b_MO_nextOf 14 = .ok (.lshr, 1) := dc_123 (by decide +kernel)
theorem d_MO_nextOf_15 : decode b_MO_nextOf 15 = .ok (.lconst 1, 1) := dc_10 (by decide +kernel)
theorem d_MO_nextOf_16 : decode b_MO_nextOf 16 = .ok (.land, 1) := dc_127 (by decide +kernel)
theorem d_MO_nextOf_17 : decode b_MO_nextOf 17 = .ok (.lconst 1, 1) := dc_10 (by decide +kernel)
theorem d_MO_nextOf_18 : decode b_MO_nextOf 18 = .ok (.lcmp, 1) := dc_148 (by decide +kernel)
theorem d_MO_nextOf_19 : decode b_MO_nextOf 19 = .ok (.ifCond .ne 5, 3) := dc_154 (by decide +kernel)
theorem d_MO_nextOf_22 : decode b_MO_nextOf 22 = .ok (.iconst (-1), 1) := dc_2 (by decide +kernel)
theorem d_MO_nextOf_23 : decode b_MO_nextOf 23 = .ok (.ireturn, 1) := dc_172 (by decide +kernel)
theorem d_MO_nextOf_24 : decode b_MO_nextOf 24 = .ok (.aload_n 0, 1) := dc_42 (by decide +kernel)
theorem d_MO_nextOf_25 : decode b_MO_nextOf 25 = .ok (.iload_n 2, 1) := dc_28 (by decide +kernel)
theorem d_MO_nextOf_26 : decode b_MO_nextOf 26 = .ok (.aload_n 0, 1) := dc_42 (by decide +kernel)
theorem d_MO_nextOf_27 : decode b_MO_nextOf 27 = .ok (.iload_n 1, 1) := dc_27 (by decide +kernel)
theorem d_MO_nextOf_28 : decode b_MO_nextOf 28 = .ok (.iload_n 2, 1) := dc_28 (by decide +kernel)
theorem d_MO_nextOf_29 : decode b_MO_nextOf 29 = .ok (.invokevirtual 335, 3) := dc_182 (by decide +kernel)
theorem d_MO_nextOf_32 : decode b_MO_nextOf 32 = .ok (.invokevirtual 338, 3) := dc_182 (by decide +kernel)
theorem d_MO_nextOf_35 : decode b_MO_nextOf 35 = .ok (.istore_n 3, 1) := dc_62 (by decide +kernel)
theorem d_MO_nextOf_36 : decode b_MO_nextOf 36 = .ok (.iload_n 3, 1) := dc_29 (by decide +kernel)
theorem d_MO_nextOf_37 : decode b_MO_nextOf 37 = .ok (.iconst (-1), 1) := dc_2 (by decide +kernel)
theorem d_MO_nextOf_38 : decode b_MO_nextOf 38 = .ok (.if_icmp .eq 20, 3) := dc_159 (by decide +kernel)
theorem d_MO_nextOf_41 : decode b_MO_nextOf 41 = .ok (.aload_n 0, 1) := dc_42 (by decide +kernel)
theorem d_MO_nextOf_42 : decode b_MO_nextOf 42 = .ok (.getfield 97, 3) := dc_180 (by decide +kernel)
theorem d_MO_nextOf_45 : decode b_MO_nextOf 45 = .ok (.iconst 2, 1) := dc_5 (by decide +kernel)
theorem d_MO_nextOf_46 : decode b_MO_nextOf 46 = .ok (.if_icmp .eq 16, 3) := dc_159 (by decide +kernel)
theorem d_MO_nextOf_49 : decode b_MO_nextOf 49 = .ok (.aload_n 0, 1) := dc_42 (by decide +kernel)
theorem d_MO_nextOf_50 : decode b_MO_nextOf 50 = .ok (.getfield 28, 3) := dc_180 (by decide +kernel)
theorem d_MO_nextOf_53 : decode b_MO_nextOf 53 = .ok (.iload_n 3, 1) := dc_29 (by decide +kernel)
theorem d_MO_nextOf_54 : decode b_MO_nextOf 54 = .ok (.baload, 1) := dc_51 (by decide +kernel)
theorem d_MO_nextOf_55 : decode b_MO_nextOf 55 = .ok (.ifCond .eq 7, 3) := dc_153 (by decide +kernel)
theorem d_MO_nextOf_58 : decode b_MO_nextOf 58 = .ok (.iconst (-1), 1) := dc_2 (by decide +kernel)
theorem d_MO_nextOf_59 : decode b_MO_nextOf 59 = .ok (.goto 4, 3) := dc_167 (by decide +kernel)
theorem d_MO_nextOf_62 : decode b_MO_nextOf 62 = .ok (.iload_n 3, 1) := dc_29 (by decide +kernel)
theorem d_MO_nextOf_63 : decode b_MO_nextOf 63 = .ok (.ireturn, 1) := dc_172 (by decide +kernel)
def t_MO_nextOf_L24 (x1 : Int) (x2 : Int)  (M : Mem)  : Option (Int) := (obind (t_MO_downOf M x1 x2) fun q5 => (obind (t_MO_beside M x2 q5) fun q7 => (if q7 = (-1) then (some (-1)) else (if (M.1 191 44) = 2 then (some q7) else (qguard (0 ≤ q7 ∧ q7 < 96) (if (M.1 198 q7) = 0 then (some q7) else (some (-1))))))))
def t_MO_nextOf (M : Mem) (x1 : Int) (x2 : Int) : Option (Int) := (if (M.1 191 44) = 0 then (t_MO_nextOf_L24 x1 x2 M) else (qguard (0 ≤ x1 ∧ x1 < 23) (if ((q_lshr (M.2 210 x1) x2) &&& 1) = 1 then (some (-1)) else (t_MO_nextOf_L24 x1 x2 M))))
set_option maxHeartbeats 4000000 in
set_option maxRecDepth 100000 in
theorem k_MO_nextOf_L24 (l : Launch) {p : Program} {e : Env} {s : State} {m : MethodId} {below : List Frame} {meth : Method} {c : Code} {b n : Nat} {C : CT} (hlo : 231 ≤ n) (x1 : Int) (x2 : Int) (hx1 : InR x1) (hx2 : InR x2) (F : Cx b p m c b_MO_nextOf 4 s ([.ref (b + 191), vI x1, vI x2] : List Value).toArray "WardFallsModel" C n 231) (hlk : meth.locks = false) (hr : meth.sig.returnType = some .int) {res : Int} (M : Mem)  (H : Heap) (locs : List Loc) (ls : Array Slot) (hS : St b C n M s H locs) (hl : lv_has ls 4 [(0, .ref (b + 191)), (1, vI x1), (2, vI x2)]) (hT : t_MO_nextOf_L24 x1 x2 M = some res) : W p l e (headSpec (wsM y_MO_nextOf b_MO_nextOf 4 (some .int)) (rmD 1)).room s m ([.ref (b + 191), vI x1, vI x2] : List Value).toArray below meth c H locs 0 0 (MQ below (QI b C n M res) ([.ref (b + 191), vI x1, vI x2] : List Value).toArray s 0 0 (frb b)) (F0 m 24 ls []) := by
  unfold t_MO_nextOf_L24 at hT
  refine lv_aload_n F.hx F.hb d_MO_nextOf_24 rfl (lv_at hl 0 rfl) ?_
  refine lv_iload_n F.hx F.hb d_MO_nextOf_25 rfl (lv_at hl 2 rfl) ?_
  refine lv_aload_n F.hx F.hb d_MO_nextOf_26 rfl (lv_at hl 0 rfl) ?_
  refine lv_iload_n F.hx F.hb d_MO_nextOf_27 rfl (lv_at hl 1 rfl) ?_
  refine lv_iload_n F.hx F.hb d_MO_nextOf_28 rfl (lv_at hl 2 rfl) ?_
  obtain ⟨q5, hq5, hT⟩ := q_obind hT
  refine r_backI F hS (r_runV (k := 191) (N := 68) (T := T1) (As := [vI x1, vI x2]) F hS (show 191 < 231 by decide) (show shK 191 = 5 from rfl) rfl (c_MO_downOf l F.2.2.1 M x1 x2 hx1 hx2 _ hq5) gs_MO_335 hd_MO_downOf ⟨Nat.le_of_ble_eq_true rfl, Nat.le_of_ble_eq_true rfl⟩ rfl hl.1 (Nat.le_of_ble_eq_true rfl) ⟨Nat.zero_le _, Nat.zero_le _⟩ rfl d_MO_nextOf_29) (fun H locs hS h6 => ?_)
  obtain ⟨q7, hq7, hT⟩ := q_obind hT
  refine r_backI F hS (r_runV (k := 191) (N := 68) (T := T1) (As := [vI x2, vI q5]) F hS (show 191 < 231 by decide) (show shK 191 = 5 from rfl) rfl (c_MO_beside l F.2.2.1 M x2 q5 hx2 h6 _ hq7) gs_MO_338 hd_MO_beside ⟨Nat.le_of_ble_eq_true rfl, Nat.le_of_ble_eq_true rfl⟩ rfl hl.1 (Nat.le_of_ble_eq_true rfl) ⟨Nat.zero_le _, Nat.zero_le _⟩ rfl d_MO_nextOf_32) (fun H locs hS h8 => ?_)
  refine lv_istore_n (lv' := [(3, vI q7), (0, .ref (b + 191)), (1, vI x1), (2, vI x2)]) F.hx F.hb d_MO_nextOf_35 rfl hl (Nat.le_of_ble_eq_true rfl) rfl (fun ls hl => ?_)
  refine lv_iload_n F.hx F.hb d_MO_nextOf_36 rfl (lv_at hl 0 rfl) ?_
  refine r_iconst F.hx F.hb d_MO_nextOf_37 ?_
  refine r_icmp_eq (tgt := 58) F.hx F.hb h8 (inr_c rfl) d_MO_nextOf_38 (by decide) (fun c9 => ?_) (fun c9 => ?_)
  · replace hT := (if_pos c9).symm.trans hT
    refine r_iconst F.hx F.hb d_MO_nextOf_58 ?_
    refine lv_goto (tgt := 63) F.hx F.hb d_MO_nextOf_59 (by decide) ?_
    cases hT
    exact r_iret F hlk hr rfl hS (inr_c rfl) d_MO_nextOf_63
  · replace hT := (if_neg c9).symm.trans hT
    refine lv_aload_n F.hx F.hb d_MO_nextOf_41 rfl (lv_at hl 1 rfl) ?_
    refine r_get (v := vI (M.1 191 44)) (N := 68) (T := T1) (j := 44) F hS (show 191 < 231 by decide) (show shK 191 = 5 from rfl) (show shN 191 = 68 from rfl) rfl (Nat.le_of_ble_eq_true rfl) ing1 mw_1433 (fv_int rfl) d_MO_nextOf_42 ?_
    have i10 := hS.rng 191 44
    refine r_iconst F.hx F.hb d_MO_nextOf_45 ?_
    refine r_icmp_eq (tgt := 62) F.hx F.hb i10 (inr_c rfl) d_MO_nextOf_46 (by decide) (fun c11 => ?_) (fun c11 => ?_)
    · replace hT := (if_pos c11).symm.trans hT
      refine lv_iload_n F.hx F.hb d_MO_nextOf_62 rfl (lv_at hl 0 rfl) ?_
      cases hT
      exact r_iret F hlk hr rfl hS h8 d_MO_nextOf_63
    · replace hT := (if_neg c11).symm.trans hT
      refine lv_aload_n F.hx F.hb d_MO_nextOf_49 rfl (lv_at hl 1 rfl) ?_
      refine r_get (v := .ref (b + 198)) (N := 68) (T := T1) (j := 8) F hS (show 191 < 231 by decide) (show shK 191 = 5 from rfl) (show shN 191 = 68 from rfl) rfl (Nat.le_of_ble_eq_true rfl) ing1 mw_1397 (fv_sg rfl rfl rfl) d_MO_nextOf_50 ?_
      refine lv_iload_n F.hx F.hb d_MO_nextOf_53 rfl (lv_at hl 0 rfl) ?_
      obtain ⟨⟨g12a, g12b⟩, hT⟩ := q_guard hT
      have z13 := hS.bool (show shK 198 = 1 from rfl) q7
      refine r_zald F hS (show 198 < 231 by decide) (show shK 198 = 1 from rfl) (show shN 198 = 96 from rfl) h8 g12a g12b d_MO_nextOf_54 ?_
      refine r_if_eq (tgt := 62) F.hx F.hb (inr_z z13) d_MO_nextOf_55 (by decide) (fun c14 => ?_) (fun c14 => ?_)
      · replace hT := (if_pos c14).symm.trans hT
        refine lv_iload_n F.hx F.hb d_MO_nextOf_62 rfl (lv_at hl 0 rfl) ?_
        cases hT
        exact r_iret F hlk hr rfl hS h8 d_MO_nextOf_63
      · replace hT := (if_neg c14).symm.trans hT
        refine r_iconst F.hx F.hb d_MO_nextOf_58 ?_
        refine lv_goto (tgt := 63) F.hx F.hb d_MO_nextOf_59 (by decide) ?_
        cases hT
        exact r_iret F hlk hr rfl hS (inr_c rfl) d_MO_nextOf_63
set_option maxHeartbeats 4000000 in
set_option maxRecDepth 100000 in
theorem c_MO_nextOf (l : Launch) {b n : Nat} {C : CT} (hlo : 231 ≤ n) (M : Mem) (x1 : Int) (x2 : Int) (hx1 : InR x1) (hx2 : InR x2) (res : Int) (hT : t_MO_nextOf M x1 x2 = some res) : CM l b C n 1 y_MO_nextOf b_MO_nextOf 4 (some .int) [.ref (b + 191), vI x1, vI x2] M (QI b C n M res) := by
  refine CM.of (lo := 231) (ow := "WardFallsModel") (by decide) rfl (Nat.le_of_ble_eq_true rfl) hlo (fun p e s m below meth c F hlk hr hS ls hl => ?_)
  have hl : lv_has ls 4 [(0, .ref (b + 191)), (1, vI x1), (2, vI x2)] := hl
  unfold t_MO_nextOf at hT
  refine lv_aload_n F.hx F.hb d_MO_nextOf_0 rfl (lv_at hl 0 rfl) ?_
  refine r_get (v := vI (M.1 191 44)) (N := 68) (T := T1) (j := 44) F hS (show 191 < 231 by decide) (show shK 191 = 5 from rfl) (show shN 191 = 68 from rfl) rfl (Nat.le_of_ble_eq_true rfl) ing1 mw_1433 (fv_int rfl) d_MO_nextOf_1 ?_
  have i1 := hS.rng 191 44
  refine r_if_eq (tgt := 24) F.hx F.hb i1 d_MO_nextOf_4 (by decide) (fun c2 => ?_) (fun c2 => ?_)
  · replace hT := (if_pos c2).symm.trans hT
    exact k_MO_nextOf_L24 l hlo x1 x2 hx1 hx2 F hlk hr M _ _ _ hS (lv_sub hl [0, 1, 2] rfl) hT
  · replace hT := (if_neg c2).symm.trans hT
    refine lv_aload_n F.hx F.hb d_MO_nextOf_7 rfl (lv_at hl 0 rfl) ?_
    refine r_get (v := .ref (b + 210)) (N := 68) (T := T1) (j := 33) F hS (show 191 < 231 by decide) (show shK 191 = 5 from rfl) (show shN 191 = 68 from rfl) rfl (Nat.le_of_ble_eq_true rfl) ing1 mw_1422 (fv_sg rfl rfl rfl) d_MO_nextOf_8 ?_
    refine lv_iload_n F.hx F.hb d_MO_nextOf_11 rfl (lv_at hl 1 rfl) ?_
    obtain ⟨⟨g3a, g3b⟩, hT⟩ := q_guard hT
    refine r_lald F hS (show 210 < 231 by decide) (show shK 210 = 2 from rfl) (show shN 210 = 23 from rfl) hx1 g3a g3b d_MO_nextOf_12 ?_
    refine lv_iload_n F.hx F.hb d_MO_nextOf_13 rfl (lv_at hl 2 rfl) ?_
    refine r_lshr F.hx F.hb d_MO_nextOf_14 ?_
    refine lv_lconst (v := 1) F.hx F.hb d_MO_nextOf_15 rfl ?_
    refine lv_land F.hx F.hb d_MO_nextOf_16 ?_
    refine lv_lconst (v := 1) F.hx F.hb d_MO_nextOf_17 rfl ?_
    refine W.lcmp F.hx F.hb d_MO_nextOf_18 ?_
    refine r_lif_ne (tgt := 24) F.hx F.hb  d_MO_nextOf_19 (by decide) (fun c4 => ?_) (fun c4 => ?_)
    · replace hT := (if_neg c4).symm.trans hT
      exact k_MO_nextOf_L24 l hlo x1 x2 hx1 hx2 F hlk hr M _ _ _ hS (lv_sub hl [0, 1, 2] rfl) hT
    · replace hT := (if_pos c4).symm.trans hT
      refine r_iconst F.hx F.hb d_MO_nextOf_22 ?_
      cases hT
      exact r_iret F hlk hr rfl hS (inr_c rfl) d_MO_nextOf_23
theorem d_MO_isLine_0 : decode b_MO_isLine 0 = .ok (.aload_n 0, 1) := dc_42 (by decide +kernel)
theorem d_MO_isLine_1 : decode b_MO_isLine 1 = .ok (.getfield 25, 3) := dc_180 (by decide +kernel)
theorem d_MO_isLine_4 : decode b_MO_isLine 4 = .ok (.iload_n 1, 1) := dc_27 (by decide +kernel)
theorem d_MO_isLine_5 : decode b_MO_isLine 5 = .ok (.iaload, 1) := dc_46 (by decide +kernel)
theorem d_MO_isLine_6 : decode b_MO_isLine 6 = .ok (.aload_n 0, 1) := dc_42 (by decide +kernel)
theorem d_MO_isLine_7 : decode b_MO_isLine 7 = .ok (.getfield 25, 3) := dc_180 (by decide +kernel)
theorem d_MO_isLine_10 : decode b_MO_isLine 10 = .ok (.iload_n 2, 1) := dc_28 (by decide +kernel)
theorem d_MO_isLine_11 : decode b_MO_isLine 11 = .ok (.iaload, 1) := dc_46 (by decide +kernel)
theorem d_MO_isLine_12 : decode b_MO_isLine 12 = .ok (.if_icmp .eq 7, 3) := dc_159 (by decide +kernel)
theorem d_MO_isLine_15 : decode b_MO_isLine 15 = .ok (.iconst 1, 1) := dc_4 (by decide +kernel)
theorem d_MO_isLine_16 : decode b_MO_isLine 16 = .ok (.goto 4, 3) := dc_167 (by decide +kernel)
theorem d_MO_isLine_19 : decode b_MO_isLine 19 = .ok (.iconst 0, 1) := dc_3 (by decide +kernel)
theorem d_MO_isLine_20 : decode b_MO_isLine 20 = .ok (.ireturn, 1) := dc_172 (by decide +kernel)
def t_MO_isLine (M : Mem) (x1 : Int) (x2 : Int) : Option (Int) := (qguard (0 ≤ x1 ∧ x1 < 96) (qguard (0 ≤ x2 ∧ x2 < 96) (if (M.1 197 x1) = (M.1 197 x2) then (some 0) else (some 1))))
set_option maxHeartbeats 4000000 in
set_option maxRecDepth 100000 in
theorem c_MO_isLine (l : Launch) {b n : Nat} {C : CT} (hlo : 231 ≤ n) (M : Mem) (x1 : Int) (x2 : Int) (hx1 : InR x1) (hx2 : InR x2) (res : Int) (hT : t_MO_isLine M x1 x2 = some res) : CM l b C n 0 y_MO_isLine b_MO_isLine 3 (some .boolean) [.ref (b + 191), vI x1, vI x2] M (QZ b C n M res) := by
  refine CM.of (lo := 231) (ow := "WardFallsModel") (by decide) rfl (Nat.le_of_ble_eq_true rfl) hlo (fun p e s m below meth c F hlk hr hS ls hl => ?_)
  have hl : lv_has ls 3 [(0, .ref (b + 191)), (1, vI x1), (2, vI x2)] := hl
  unfold t_MO_isLine at hT
  refine lv_aload_n F.hx F.hb d_MO_isLine_0 rfl (lv_at hl 0 rfl) ?_
  refine r_get (v := .ref (b + 197)) (N := 68) (T := T1) (j := 7) F hS (show 191 < 231 by decide) (show shK 191 = 5 from rfl) (show shN 191 = 68 from rfl) rfl (Nat.le_of_ble_eq_true rfl) ing1 mw_1396 (fv_sg rfl rfl rfl) d_MO_isLine_1 ?_
  refine lv_iload_n F.hx F.hb d_MO_isLine_4 rfl (lv_at hl 1 rfl) ?_
  obtain ⟨⟨g1a, g1b⟩, hT⟩ := q_guard hT
  refine r_iald F hS (show 197 < 231 by decide) (show shK 197 = 0 from rfl) (show shN 197 = 96 from rfl) hx1 g1a g1b d_MO_isLine_5 ?_
  have i2 := hS.rng 197 x1
  refine lv_aload_n F.hx F.hb d_MO_isLine_6 rfl (lv_at hl 0 rfl) ?_
  refine r_get (v := .ref (b + 197)) (N := 68) (T := T1) (j := 7) F hS (show 191 < 231 by decide) (show shK 191 = 5 from rfl) (show shN 191 = 68 from rfl) rfl (Nat.le_of_ble_eq_true rfl) ing1 mw_1396 (fv_sg rfl rfl rfl) d_MO_isLine_7 ?_
  refine lv_iload_n F.hx F.hb d_MO_isLine_10 rfl (lv_at hl 2 rfl) ?_
  obtain ⟨⟨g3a, g3b⟩, hT⟩ := q_guard hT
  refine r_iald F hS (show 197 < 231 by decide) (show shK 197 = 0 from rfl) (show shN 197 = 96 from rfl) hx2 g3a g3b d_MO_isLine_11 ?_
  have i4 := hS.rng 197 x2
  refine r_icmp_eq (tgt := 19) F.hx F.hb i2 i4 d_MO_isLine_12 (by decide) (fun c5 => ?_) (fun c5 => ?_)
  · replace hT := (if_pos c5).symm.trans hT
    refine r_iconst F.hx F.hb d_MO_isLine_19 ?_
    cases hT
    exact r_zret F hlk hr hS (Or.inl rfl) d_MO_isLine_20
  · replace hT := (if_neg c5).symm.trans hT
    refine r_iconst F.hx F.hb d_MO_isLine_15 ?_
    refine lv_goto (tgt := 20) F.hx F.hb d_MO_isLine_16 (by decide) ?_
    cases hT
    exact r_zret F hlk hr hS (Or.inr rfl) d_MO_isLine_20
theorem d_MO_thingIn_0 : decode b_MO_thingIn 0 = .ok (.iconst 0, 1) := dc_3 (by decide +kernel)
theorem d_MO_thingIn_1 : decode b_MO_thingIn 1 = .ok (.istore_n 3, 1) := dc_62 (by decide +kernel)
theorem d_MO_thingIn_2 : decode b_MO_thingIn 2 = .ok (.iload_n 3, 1) := dc_29 (by decide +kernel)
theorem d_MO_thingIn_3 : decode b_MO_thingIn 3 = .ok (.aload_n 0, 1) := dc_42 (by decide +kernel)
theorem d_MO_thingIn_4 : decode b_MO_thingIn 4 = .ok (.getfield 13, 3) := dc_180 (by decide +kernel)
theorem d_MO_thingIn_7 : decode b_MO_thingIn 7 = .ok (.bipush 6, 2) := dc_16 (by decide +kernel)
theorem d_MO_thingIn_9 : decode b_MO_thingIn 9 = .ok (.iaload, 1) := dc_46 (by decide +kernel)
theorem d_MO_thingIn_10 : decode b_MO_thingIn 10 = .ok (.if_icmp .ge 42, 3) := dc_162 (by decide +kernel)
theorem d_MO_thingIn_13 : decode b_MO_thingIn 13 = .ok (.aload_n 0, 1) := dc_42 (by decide +kernel)
theorem d_MO_thingIn_14 : decode b_MO_thingIn 14 = .ok (.getfield 79, 3) := dc_180 (by decide +kernel)
theorem d_MO_thingIn_17 : decode b_MO_thingIn 17 = .ok (.bipush 8, 2) := dc_16 (by decide +kernel)
theorem d_MO_thingIn_19 : decode b_MO_thingIn 19 = .ok (.iload_n 1, 1) := dc_27 (by decide +kernel)
theorem d_MO_thingIn_20 : decode b_MO_thingIn 20 = .ok (.imul, 1) := dc_104 (by decide +kernel)
theorem d_MO_thingIn_21 : decode b_MO_thingIn 21 = .ok (.iload_n 3, 1) := dc_29 (by decide +kernel)
theorem d_MO_thingIn_22 : decode b_MO_thingIn 22 = .ok (.iadd, 1) := dc_96 (by decide +kernel)
theorem d_MO_thingIn_23 : decode b_MO_thingIn 23 = .ok (.iaload, 1) := dc_46 (by decide +kernel)
theorem d_MO_thingIn_24 : decode b_MO_thingIn 24 = .ok (.iload_n 2, 1) := dc_28 (by decide +kernel)
theorem d_MO_thingIn_25 : decode b_MO_thingIn 25 = .ok (.if_icmp .ne 21, 3) := dc_160 (by decide +kernel)
theorem d_MO_thingIn_28 : decode b_MO_thingIn 28 = .ok (.aload_n 0, 1) := dc_42 (by decide +kernel)
theorem d_MO_thingIn_29 : decode b_MO_thingIn 29 = .ok (.getfield 97, 3) := dc_180 (by decide +kernel)
theorem d_MO_thingIn_32 : decode b_MO_thingIn 32 = .ok (.iconst 4, 1) := dc_7 (by decide +kernel)
theorem d_MO_thingIn_33 : decode b_MO_thingIn 33 = .ok (.if_icmp .ne 11, 3) := dc_160 (by decide +kernel)
theorem d_MO_thingIn_36 : decode b_MO_thingIn 36 = .ok (.aload_n 0, 1) := dc_42 (by decide +kernel)
theorem d_MO_thingIn_37 : decode b_MO_thingIn 37 = .ok (.getfield 100, 3) := dc_180 (by decide +kernel)
theorem d_MO_thingIn_40 : decode b_MO_thingIn 40 = .ok (.iload_n 3, 1) := dc_29 (by decide +kernel)
theorem d_MO_thingIn_41 : decode b_MO_thingIn 41 = .ok (.if_icmp .eq 5, 3) := dc_159 (by decide +kernel)
theorem d_MO_thingIn_44 : decode b_MO_thingIn 44 = .ok (.iload_n 3, 1) := dc_29 (by decide +kernel)
theorem d_MO_thingIn_45 : decode b_MO_thingIn 45 = .ok (.ireturn, 1) := dc_172 (by decide +kernel)
theorem d_MO_thingIn_46 : decode b_MO_thingIn 46 = .ok (.iinc 3 1, 3) := dc_132 (by decide +kernel)
theorem d_MO_thingIn_49 : decode b_MO_thingIn 49 = .ok (.goto (-47), 3) := dc_167 (by decide +kernel)
theorem d_MO_thingIn_52 : decode b_MO_thingIn 52 = .ok (.iconst (-1), 1) := dc_2 (by decide +kernel)
theorem d_MO_thingIn_53 : decode b_MO_thingIn 53 = .ok (.ireturn, 1) := dc_172 (by decide +kernel)
def t_MO_thingIn_L46 (x1 : Int) (x2 : Int) (bk2 : Mem → Int → Option (Int)) (M : Mem) (v3_ : Int) : Option (Int) := (bk2 M (w32 (v3_ + 1)))
def t_MO_thingIn_L2 (x1 : Int) (x2 : Int)  : Nat → Mem → Int → Option (Int)
  | 0, _, _ => none
  | fu + 1, M, v3_ => (if (M.1 193 6) ≤ v3_ then (some (-1)) else (qguard (0 ≤ (w32 ((w32 (8 * x1)) + v3_)) ∧ (w32 ((w32 (8 * x1)) + v3_)) < 184) (if (M.1 213 (w32 ((w32 (8 * x1)) + v3_))) = x2 then (if (M.1 191 44) = 4 then (if (M.1 191 45) = v3_ then (t_MO_thingIn_L46 x1 x2 (fun a0_ a1_ => t_MO_thingIn_L2 x1 x2 fu a0_ a1_) M v3_) else (some v3_)) else (some v3_)) else (t_MO_thingIn_L46 x1 x2 (fun a0_ a1_ => t_MO_thingIn_L2 x1 x2 fu a0_ a1_) M v3_))))
def t_MO_thingIn (M : Mem) (x1 : Int) (x2 : Int) : Option (Int) := (t_MO_thingIn_L2 x1 x2 FU M 0)
set_option maxHeartbeats 4000000 in
set_option maxRecDepth 100000 in
theorem k_MO_thingIn_L46 (l : Launch) {p : Program} {e : Env} {s : State} {m : MethodId} {below : List Frame} {meth : Method} {c : Code} {b n : Nat} {C : CT} (hlo : 231 ≤ n) (x1 : Int) (x2 : Int) (hx1 : InR x1) (hx2 : InR x2) (F : Cx b p m c b_MO_thingIn 4 s ([.ref (b + 191), vI x1, vI x2] : List Value).toArray "WardFallsModel" C n 231) (hlk : meth.locks = false) (hr : meth.sig.returnType = some .int) {res : Int} (bk2 : Mem → Int → Option (Int)) (hbk2 : ∀ (M : Mem) (v3_ : Int) (hv3_ : InR v3_) (H : Heap) (locs : List Loc) (ls : Array Slot), St b C n M s H locs → lv_has ls 4 [(0, .ref (b + 191)), (1, vI x1), (2, vI x2), (3, vI v3_)] → bk2 M v3_ = some res → W p l e (headSpec (wsM y_MO_thingIn b_MO_thingIn 4 (some .int)) (rmD 0)).room s m ([.ref (b + 191), vI x1, vI x2] : List Value).toArray below meth c H locs 0 0 (MQ below (QI b C n M res) ([.ref (b + 191), vI x1, vI x2] : List Value).toArray s 0 0 (frb b)) (F0 m 2 ls [])) (M : Mem) (v3_ : Int) (hv3_ : InR v3_) (H : Heap) (locs : List Loc) (ls : Array Slot) (hS : St b C n M s H locs) (hl : lv_has ls 4 [(0, .ref (b + 191)), (1, vI x1), (2, vI x2), (3, vI v3_)]) (hT : t_MO_thingIn_L46 x1 x2 bk2 M v3_ = some res) : W p l e (headSpec (wsM y_MO_thingIn b_MO_thingIn 4 (some .int)) (rmD 0)).room s m ([.ref (b + 191), vI x1, vI x2] : List Value).toArray below meth c H locs 0 0 (MQ below (QI b C n M res) ([.ref (b + 191), vI x1, vI x2] : List Value).toArray s 0 0 (frb b)) (F0 m 46 ls []) := by
  unfold t_MO_thingIn_L46 at hT
  refine lv_iinc (v := Int32.ofInt (w32 (v3_ + 1))) (lv' := [(3, vI (w32 (v3_ + 1))), (0, .ref (b + 191)), (1, vI x1), (2, vI x2)]) F.hx F.hb d_MO_thingIn_46 hl (k := 3) rfl (q_of_add _ _) (Nat.le_of_ble_eq_true rfl) rfl (fun ls hl => ?_)
  refine lv_goto (tgt := 2) F.hx F.hb d_MO_thingIn_49 (by decide) ?_
  exact hbk2 M (w32 (v3_ + 1)) (inr_w32 _) _ _ _ hS (lv_sub hl [1, 2, 3, 0] rfl) hT
set_option maxHeartbeats 4000000 in
set_option maxRecDepth 100000 in
theorem k_MO_thingIn_L2 (l : Launch) {p : Program} {e : Env} {s : State} {m : MethodId} {below : List Frame} {meth : Method} {c : Code} {b n : Nat} {C : CT} (hlo : 231 ≤ n) (x1 : Int) (x2 : Int) (hx1 : InR x1) (hx2 : InR x2) (F : Cx b p m c b_MO_thingIn 4 s ([.ref (b + 191), vI x1, vI x2] : List Value).toArray "WardFallsModel" C n 231) (hlk : meth.locks = false) (hr : meth.sig.returnType = some .int) {res : Int} : ∀ (fu : Nat) (M : Mem) (v3_ : Int) (hv3_ : InR v3_) (H : Heap) (locs : List Loc) (ls : Array Slot), St b C n M s H locs → lv_has ls 4 [(0, .ref (b + 191)), (1, vI x1), (2, vI x2), (3, vI v3_)] → t_MO_thingIn_L2 x1 x2 fu M v3_ = some res → W p l e (headSpec (wsM y_MO_thingIn b_MO_thingIn 4 (some .int)) (rmD 0)).room s m ([.ref (b + 191), vI x1, vI x2] : List Value).toArray below meth c H locs 0 0 (MQ below (QI b C n M res) ([.ref (b + 191), vI x1, vI x2] : List Value).toArray s 0 0 (frb b)) (F0 m 2 ls []) := by
  intro fu
  induction fu with
  | zero => intro M v3_ hv3_ H locs ls hS hl hT; exact absurd hT (by simp [t_MO_thingIn_L2])
  | succ fu ih =>
    intro M v3_ hv3_ H locs ls hS hl hT
    rw [t_MO_thingIn_L2] at hT
    refine lv_iload_n F.hx F.hb d_MO_thingIn_2 rfl (lv_at hl 3 rfl) ?_
    refine lv_aload_n F.hx F.hb d_MO_thingIn_3 rfl (lv_at hl 0 rfl) ?_
    refine r_get (v := .ref (b + 193)) (N := 68) (T := T1) (j := 3) F hS (show 191 < 231 by decide) (show shK 191 = 5 from rfl) (show shN 191 = 68 from rfl) rfl (Nat.le_of_ble_eq_true rfl) ing1 mw_1392 (fv_sg rfl rfl rfl) d_MO_thingIn_4 ?_
    refine r_bipush F.hx F.hb d_MO_thingIn_7 rfl ?_
    refine r_iald F hS (show 193 < 231 by decide) (show shK 193 = 0 from rfl) (show shN 193 = 18 from rfl) (inr_c rfl) (by omega) (by omega) d_MO_thingIn_9 ?_
    have i1 := hS.rng 193 6
    refine r_icmp_ge (tgt := 52) F.hx F.hb hv3_ i1 d_MO_thingIn_10 (by decide) (fun c2 => ?_) (fun c2 => ?_)
    · replace hT := (if_pos c2).symm.trans hT
      refine r_iconst F.hx F.hb d_MO_thingIn_52 ?_
      cases hT
      exact r_iret F hlk hr rfl hS (inr_c rfl) d_MO_thingIn_53
    · replace hT := (if_neg c2).symm.trans hT
      refine lv_aload_n F.hx F.hb d_MO_thingIn_13 rfl (lv_at hl 0 rfl) ?_
      refine r_get (v := .ref (b + 213)) (N := 68) (T := T1) (j := 36) F hS (show 191 < 231 by decide) (show shK 191 = 5 from rfl) (show shN 191 = 68 from rfl) rfl (Nat.le_of_ble_eq_true rfl) ing1 mw_1425 (fv_sg rfl rfl rfl) d_MO_thingIn_14 ?_
      refine r_bipush F.hx F.hb d_MO_thingIn_17 rfl ?_
      refine lv_iload_n F.hx F.hb d_MO_thingIn_19 rfl (lv_at hl 1 rfl) ?_
      refine r_imul F.hx F.hb d_MO_thingIn_20 ?_
      refine lv_iload_n F.hx F.hb d_MO_thingIn_21 rfl (lv_at hl 3 rfl) ?_
      refine r_iadd F.hx F.hb d_MO_thingIn_22 ?_
      obtain ⟨⟨g3a, g3b⟩, hT⟩ := q_guard hT
      refine r_iald F hS (show 213 < 231 by decide) (show shK 213 = 0 from rfl) (show shN 213 = 184 from rfl) (inr_w32 _) g3a g3b d_MO_thingIn_23 ?_
      have i4 := hS.rng 213 (w32 ((w32 (8 * x1)) + v3_))
      refine lv_iload_n F.hx F.hb d_MO_thingIn_24 rfl (lv_at hl 2 rfl) ?_
      refine r_icmp_ne (tgt := 46) F.hx F.hb i4 hx2 d_MO_thingIn_25 (by decide) (fun c5 => ?_) (fun c5 => ?_)
      · replace hT := (if_neg c5).symm.trans hT
        exact k_MO_thingIn_L46 l hlo x1 x2 hx1 hx2 F hlk hr (fun a0_ a1_ => t_MO_thingIn_L2 x1 x2 fu a0_ a1_) ih M v3_ hv3_ _ _ _ hS (lv_sub hl [0, 1, 2, 3] rfl) hT
      · replace hT := (if_pos c5).symm.trans hT
        refine lv_aload_n F.hx F.hb d_MO_thingIn_28 rfl (lv_at hl 0 rfl) ?_
        refine r_get (v := vI (M.1 191 44)) (N := 68) (T := T1) (j := 44) F hS (show 191 < 231 by decide) (show shK 191 = 5 from rfl) (show shN 191 = 68 from rfl) rfl (Nat.le_of_ble_eq_true rfl) ing1 mw_1433 (fv_int rfl) d_MO_thingIn_29 ?_
        have i6 := hS.rng 191 44
        refine r_iconst F.hx F.hb d_MO_thingIn_32 ?_
        refine r_icmp_ne (tgt := 44) F.hx F.hb i6 (inr_c rfl) d_MO_thingIn_33 (by decide) (fun c7 => ?_) (fun c7 => ?_)
        · replace hT := (if_neg c7).symm.trans hT
          refine lv_iload_n F.hx F.hb d_MO_thingIn_44 rfl (lv_at hl 3 rfl) ?_
          cases hT
          exact r_iret F hlk hr rfl hS hv3_ d_MO_thingIn_45
        · replace hT := (if_pos c7).symm.trans hT
          refine lv_aload_n F.hx F.hb d_MO_thingIn_36 rfl (lv_at hl 0 rfl) ?_
          refine r_get (v := vI (M.1 191 45)) (N := 68) (T := T1) (j := 45) F hS (show 191 < 231 by decide) (show shK 191 = 5 from rfl) (show shN 191 = 68 from rfl) rfl (Nat.le_of_ble_eq_true rfl) ing1 mw_1434 (fv_int rfl) d_MO_thingIn_37 ?_
          have i8 := hS.rng 191 45
          refine lv_iload_n F.hx F.hb d_MO_thingIn_40 rfl (lv_at hl 3 rfl) ?_
          refine r_icmp_eq (tgt := 46) F.hx F.hb i8 hv3_ d_MO_thingIn_41 (by decide) (fun c9 => ?_) (fun c9 => ?_)
          · replace hT := (if_pos c9).symm.trans hT
            exact k_MO_thingIn_L46 l hlo x1 x2 hx1 hx2 F hlk hr (fun a0_ a1_ => t_MO_thingIn_L2 x1 x2 fu a0_ a1_) ih M v3_ hv3_ _ _ _ hS (lv_sub hl [0, 1, 2, 3] rfl) hT
          · replace hT := (if_neg c9).symm.trans hT
            refine lv_iload_n F.hx F.hb d_MO_thingIn_44 rfl (lv_at hl 3 rfl) ?_
            cases hT
            exact r_iret F hlk hr rfl hS hv3_ d_MO_thingIn_45
set_option maxHeartbeats 4000000 in
set_option maxRecDepth 100000 in
theorem c_MO_thingIn (l : Launch) {b n : Nat} {C : CT} (hlo : 231 ≤ n) (M : Mem) (x1 : Int) (x2 : Int) (hx1 : InR x1) (hx2 : InR x2) (res : Int) (hT : t_MO_thingIn M x1 x2 = some res) : CM l b C n 0 y_MO_thingIn b_MO_thingIn 4 (some .int) [.ref (b + 191), vI x1, vI x2] M (QI b C n M res) := by
  refine CM.of (lo := 231) (ow := "WardFallsModel") (by decide) rfl (Nat.le_of_ble_eq_true rfl) hlo (fun p e s m below meth c F hlk hr hS ls hl => ?_)
  have hl : lv_has ls 4 [(0, .ref (b + 191)), (1, vI x1), (2, vI x2)] := hl
  unfold t_MO_thingIn at hT
  refine r_iconst F.hx F.hb d_MO_thingIn_0 ?_
  refine lv_istore_n (lv' := [(3, vI 0), (0, .ref (b + 191)), (1, vI x1), (2, vI x2)]) F.hx F.hb d_MO_thingIn_1 rfl hl (Nat.le_of_ble_eq_true rfl) rfl (fun ls hl => ?_)
  exact k_MO_thingIn_L2 l hlo x1 x2 hx1 hx2 F hlk hr FU M 0 (inr_c rfl) _ _ _ hS (lv_sub hl [1, 2, 3, 0] rfl) hT
theorem wn_MO_goesFrom_0 : ∀ i, i < 94 → bA b_MO_goesFrom (0 + i) = wB [3, 62, 29, 16, 48, 162, 0, 16, 42, 180, 0, 103, 29, 2, 79, 132, 3, 1, 167, 255, 240, 28, 62, 3, 54, 4, 42, 3, 181, 1, 85, 42, 2, 181, 1, 88, 42, 3, 181, 1, 91, 42, 180, 0, 103, 29, 21, 4, 79, 42, 27, 29, 182, 1, 94, 54, 5, 21, 5, 2, 160, 0, 15, 42, 21, 4, 181, 1, 97, 42, 29, 181, 1, 100, 177, 42, 29, 21, 5, 182, 1, 103, 153, 0, 31, 42, 180, 1, 85, 154, 0, 14, 42, 42] i := wB_of (by decide +kernel)
theorem d_MO_goesFrom_0 : decode b_MO_goesFrom 0 = .ok (.iconst 0, 1) := dc_3 (q0_win (r := 0) wn_MO_goesFrom_0 (by decide +kernel))
theorem d_MO_goesFrom_1 : decode b_MO_goesFrom 1 = .ok (.istore_n 3, 1) := dc_62 (q0_win (r := 1) wn_MO_goesFrom_0 (by decide +kernel))
theorem d_MO_goesFrom_2 : decode b_MO_goesFrom 2 = .ok (.iload_n 3, 1) := dc_29 (q0_win (r := 2) wn_MO_goesFrom_0 (by decide +kernel))
theorem d_MO_goesFrom_3 : decode b_MO_goesFrom 3 = .ok (.bipush 48, 2) := dc_16 (qS1_win (r := 3) wn_MO_goesFrom_0 (by decide +kernel))
theorem d_MO_goesFrom_5 : decode b_MO_goesFrom 5 = .ok (.if_icmp .ge 16, 3) := dc_162 (qS2_win (r := 5) wn_MO_goesFrom_0 (by decide +kernel))
theorem d_MO_goesFrom_8 : decode b_MO_goesFrom 8 = .ok (.aload_n 0, 1) := dc_42 (q0_win (r := 8) wn_MO_goesFrom_0 (by decide +kernel))
theorem d_MO_goesFrom_9 : decode b_MO_goesFrom 9 = .ok (.getfield 103, 3) := dc_180 (qU2_win (r := 9) wn_MO_goesFrom_0 (by decide +kernel))
theorem d_MO_goesFrom_12 : decode b_MO_goesFrom 12 = .ok (.iload_n 3, 1) := dc_29 (q0_win (r := 12) wn_MO_goesFrom_0 (by decide +kernel))
theorem d_MO_goesFrom_13 : decode b_MO_goesFrom 13 = .ok (.iconst (-1), 1) := dc_2 (q0_win (r := 13) wn_MO_goesFrom_0 (by decide +kernel))
theorem d_MO_goesFrom_14 : decode b_MO_goesFrom 14 = .ok (.iastore, 1) := dc_79 (q0_win (r := 14) wn_MO_goesFrom_0 (by decide +kernel))
theorem d_MO_goesFrom_15 : decode b_MO_goesFrom 15 = .ok (.iinc 3 1, 3) := dc_132 (qI_win (r := 15) wn_MO_goesFrom_0 (by decide +kernel))
theorem d_MO_goesFrom_18 : decode b_MO_goesFrom 18 = .ok (.goto (-16), 3) := dc_167 (qS2_win (r := 18) wn_MO_goesFrom_0 (by decide +kernel))
theorem d_MO_goesFrom_21 : decode b_MO_goesFrom 21 = .ok (.iload_n 2, 1) := dc_28 (q0_win (r := 21) wn_MO_goesFrom_0 (by decide +kernel))
theorem d_MO_goesFrom_22 : decode b_MO_goesFrom 22 = .ok (.istore_n 3, 1) := dc_62 (q0_win (r := 22) wn_MO_goesFrom_0 (by decide +kernel))
theorem d_MO_goesFrom_23 : decode b_MO_goesFrom 23 = .ok (.iconst 0, 1) := dc_3 (q0_win (r := 23) wn_MO_goesFrom_0 (by decide +kernel))
theorem d_MO_goesFrom_24 : decode b_MO_goesFrom 24 = .ok (.istore 4, 2) := dc_54 (qU1_win (r := 24) wn_MO_goesFrom_0 (by decide +kernel))
theorem d_MO_goesFrom_26 : decode b_MO_goesFrom 26 = .ok (.aload_n 0, 1) := dc_42 (q0_win (r := 26) wn_MO_goesFrom_0 (by decide +kernel))
theorem d_MO_goesFrom_27 : decode b_MO_goesFrom 27 = .ok (.iconst 0, 1) := dc_3 (q0_win (r := 27) wn_MO_goesFrom_0 (by decide +kernel))
theorem d_MO_goesFrom_28 : decode b_MO_goesFrom 28 = .ok (.putfield 341, 3) := dc_181 (qU2_win (r := 28) wn_MO_goesFrom_0 (by decide +kernel))
theorem d_MO_goesFrom_31 : decode b_MO_goesFrom 31 = .ok (.aload_n 0, 1) := dc_42 (q0_win (r := 31) wn_MO_goesFrom_0 (by decide +kernel))
theorem d_MO_goesFrom_32 : decode b_MO_goesFrom 32 = .ok (.iconst (-1), 1) := dc_2 (q0_win (r := 32) wn_MO_goesFrom_0 (by decide +kernel))
theorem d_MO_goesFrom_33 : decode b_MO_goesFrom 33 = .ok (.putfield 344, 3) := dc_181 (qU2_win (r := 33) wn_MO_goesFrom_0 (by decide +kernel))
theorem d_MO_goesFrom_36 : decode b_MO_goesFrom 36 = .ok (.aload_n 0, 1) := dc_42 (q0_win (r := 36) wn_MO_goesFrom_0 (by decide +kernel))
theorem d_MO_goesFrom_37 : decode b_MO_goesFrom 37 = .ok (.iconst 0, 1) := dc_3 (q0_win (r := 37) wn_MO_goesFrom_0 (by decide +kernel))
theorem d_MO_goesFrom_38 : decode b_MO_goesFrom 38 = .ok (.putfield 347, 3) := dc_181 (qU2_win (r := 38) wn_MO_goesFrom_0 (by decide +kernel))
theorem d_MO_goesFrom_41 : decode b_MO_goesFrom 41 = .ok (.aload_n 0, 1) := dc_42 (q0_win (r := 41) wn_MO_goesFrom_0 (by decide +kernel))
theorem d_MO_goesFrom_42 : decode b_MO_goesFrom 42 = .ok (.getfield 103, 3) := dc_180 (qU2_win (r := 42) wn_MO_goesFrom_0 (by decide +kernel))
theorem d_MO_goesFrom_45 : decode b_MO_goesFrom 45 = .ok (.iload_n 3, 1) := dc_29 (q0_win (r := 45) wn_MO_goesFrom_0 (by decide +kernel))
theorem d_MO_goesFrom_46 : decode b_MO_goesFrom 46 = .ok (.iload 4, 2) := dc_21 (qU1_win (r := 46) wn_MO_goesFrom_0 (by decide +kernel))
theorem d_MO_goesFrom_48 : decode b_MO_goesFrom 48 = .ok (.iastore, 1) := dc_79 (q0_win (r := 48) wn_MO_goesFrom_0 (by decide +kernel))
theorem d_MO_goesFrom_49 : decode b_MO_goesFrom 49 = .ok (.aload_n 0, 1) := dc_42 (q0_win (r := 49) wn_MO_goesFrom_0 (by decide +kernel))
theorem d_MO_goesFrom_50 : decode b_MO_goesFrom 50 = .ok (.iload_n 1, 1) := dc_27 (q0_win (r := 50) wn_MO_goesFrom_0 (by decide +kernel))
theorem d_MO_goesFrom_51 : decode b_MO_goesFrom 51 = .ok (.iload_n 3, 1) := dc_29 (q0_win (r := 51) wn_MO_goesFrom_0 (by decide +kernel))
theorem d_MO_goesFrom_52 : decode b_MO_goesFrom 52 = .ok (.invokevirtual 350, 3) := dc_182 (qU2_win (r := 52) wn_MO_goesFrom_0 (by decide +kernel))
theorem d_MO_goesFrom_55 : decode b_MO_goesFrom 55 = .ok (.istore 5, 2) := dc_54 (qU1_win (r := 55) wn_MO_goesFrom_0 (by decide +kernel))
theorem d_MO_goesFrom_57 : decode b_MO_goesFrom 57 = .ok (.iload 5, 2) := dc_21 (qU1_win (r := 57) wn_MO_goesFrom_0 (by decide +kernel))
theorem d_MO_goesFrom_59 : decode b_MO_goesFrom 59 = .ok (.iconst (-1), 1) := dc_2 (q0_win (r := 59) wn_MO_goesFrom_0 (by decide +kernel))
theorem d_MO_goesFrom_60 : decode b_MO_goesFrom 60 = .ok (.if_icmp .ne 15, 3) := dc_160 (qS2_win (r := 60) wn_MO_goesFrom_0 (by decide +kernel))
theorem d_MO_goesFrom_63 : decode b_MO_goesFrom 63 = .ok (.aload_n 0, 1) := dc_42 (q0_win (r := 63) wn_MO_goesFrom_0 (by decide +kernel))
theorem d_MO_goesFrom_64 : decode b_MO_goesFrom 64 = .ok (.iload 4, 2) := dc_21 (qU1_win (r := 64) wn_MO_goesFrom_0 (by decide +kernel))
theorem d_MO_goesFrom_66 : decode b_MO_goesFrom 66 = .ok (.putfield 353, 3) := dc_181 (qU2_win (r := 66) wn_MO_goesFrom_0 (by decide +kernel))
theorem d_MO_goesFrom_69 : decode b_MO_goesFrom 69 = .ok (.aload_n 0, 1) := dc_42 (q0_win (r := 69) wn_MO_goesFrom_0 (by decide +kernel))
theorem d_MO_goesFrom_70 : decode b_MO_goesFrom 70 = .ok (.iload_n 3, 1) := dc_29 (q0_win (r := 70) wn_MO_goesFrom_0 (by decide +kernel))
theorem d_MO_goesFrom_71 : decode b_MO_goesFrom 71 = .ok (.putfield 356, 3) := dc_181 (qU2_win (r := 71) wn_MO_goesFrom_0 (by decide +kernel))
theorem d_MO_goesFrom_74 : decode b_MO_goesFrom 74 = .ok (.return_, 1) := dc_177 (q0_win (r := 74) wn_MO_goesFrom_0 (by decide +kernel))
theorem d_MO_goesFrom_75 : decode b_MO_goesFrom 75 = .ok (.aload_n 0, 1) := dc_42 (q0_win (r := 75) wn_MO_goesFrom_0 (by decide +kernel))
theorem d_MO_goesFrom_76 : decode b_MO_goesFrom 76 = .ok (.iload_n 3, 1) := dc_29 (q0_win (r := 76) wn_MO_goesFrom_0 (by decide +kernel))
theorem d_MO_goesFrom_77 : decode b_MO_goesFrom 77 = .ok (.iload 5, 2) := dc_21 (qU1_win (r := 77) wn_MO_goesFrom_0 (by decide +kernel))
theorem d_MO_goesFrom_79 : decode b_MO_goesFrom 79 = .ok (.invokevirtual 359, 3) := dc_182 (qU2_win (r := 79) wn_MO_goesFrom_0 (by decide +kernel))
theorem d_MO_goesFrom_82 : decode b_MO_goesFrom 82 = .ok (.ifCond .eq 31, 3) := dc_153 (qS2_win (r := 82) wn_MO_goesFrom_0 (by decide +kernel))
theorem d_MO_goesFrom_85 : decode b_MO_goesFrom 85 = .ok (.aload_n 0, 1) := dc_42 (q0_win (r := 85) wn_MO_goesFrom_0 (by decide +kernel))
theorem d_MO_goesFrom_86 : decode b_MO_goesFrom 86 = .ok (.getfield 341, 3) := dc_180 (qU2_win (r := 86) wn_MO_goesFrom_0 (by decide +kernel))
theorem d_MO_goesFrom_89 : decode b_MO_goesFrom 89 = .ok (.ifCond .ne 14, 3) := dc_154 (qS2_win (r := 89) wn_MO_goesFrom_0 (by decide +kernel))
theorem d_MO_goesFrom_92 : decode b_MO_goesFrom 92 = .ok (.aload_n 0, 1) := dc_42 (q0_win (r := 92) wn_MO_goesFrom_0 (by decide +kernel))
theorem d_MO_goesFrom_93 : decode b_MO_goesFrom 93 = .ok (.aload_n 0, 1) := dc_42 (q0_win (r := 93) wn_MO_goesFrom_0 (by decide +kernel))
theorem wn_MO_goesFrom_94 : ∀ i, i < 71 → bA b_MO_goesFrom (94 + i) = wB [180, 0, 25, 21, 5, 46, 181, 1, 88, 42, 89, 180, 1, 85, 4, 96, 181, 1, 85, 132, 4, 1, 42, 180, 0, 103, 21, 5, 46, 2, 159, 0, 35, 42, 42, 180, 0, 103, 21, 5, 46, 181, 1, 97, 42, 21, 4, 42, 180, 0, 103, 21, 5, 46, 100, 181, 1, 91, 42, 21, 5, 181, 1, 100, 177, 21, 5, 62, 167, 255, 135] i := wB_of (by decide +kernel)
theorem d_MO_goesFrom_94 : decode b_MO_goesFrom 94 = .ok (.getfield 25, 3) := dc_180 (qU2_win (r := 0) wn_MO_goesFrom_94 (by decide +kernel))
theorem d_MO_goesFrom_97 : decode b_MO_goesFrom 97 = .ok (.iload 5, 2) := dc_21 (qU1_win (r := 3) wn_MO_goesFrom_94 (by decide +kernel))
theorem d_MO_goesFrom_99 : decode b_MO_goesFrom 99 = .ok (.iaload, 1) := dc_46 (q0_win (r := 5) wn_MO_goesFrom_94 (by decide +kernel))
theorem d_MO_goesFrom_100 : decode b_MO_goesFrom 100 = .ok (.putfield 344, 3) := dc_181 (qU2_win (r := 6) wn_MO_goesFrom_94 (by decide +kernel))
theorem d_MO_goesFrom_103 : decode b_MO_goesFrom 103 = .ok (.aload_n 0, 1) := dc_42 (q0_win (r := 9) wn_MO_goesFrom_94 (by decide +kernel))
theorem d_MO_goesFrom_104 : decode b_MO_goesFrom 104 = .ok (.dup, 1) := dc_89 (q0_win (r := 10) wn_MO_goesFrom_94 (by decide +kernel))
theorem d_MO_goesFrom_105 : decode b_MO_goesFrom 105 = .ok (.getfield 341, 3) := dc_180 (qU2_win (r := 11) wn_MO_goesFrom_94 (by decide +kernel))
theorem d_MO_goesFrom_108 : decode b_MO_goesFrom 108 = .ok (.iconst 1, 1) := dc_4 (q0_win (r := 14) wn_MO_goesFrom_94 (by decide +kernel))
theorem d_MO_goesFrom_109 : decode b_MO_goesFrom 109 = .ok (.iadd, 1) := dc_96 (q0_win (r := 15) wn_MO_goesFrom_94 (by decide +kernel))
theorem d_MO_goesFrom_110 : decode b_MO_goesFrom 110 = .ok (.putfield 341, 3) := dc_181 (qU2_win (r := 16) wn_MO_goesFrom_94 (by decide +kernel))
theorem d_MO_goesFrom_113 : decode b_MO_goesFrom 113 = .ok (.iinc 4 1, 3) := dc_132 (qI_win (r := 19) wn_MO_goesFrom_94 (by decide +kernel))
theorem d_MO_goesFrom_116 : decode b_MO_goesFrom 116 = .ok (.aload_n 0, 1) := dc_42 (q0_win (r := 22) wn_MO_goesFrom_94 (by decide +kernel))
theorem d_MO_goesFrom_117 : decode b_MO_goesFrom 117 = .ok (.getfield 103, 3) := dc_180 (qU2_win (r := 23) wn_MO_goesFrom_94 (by decide +kernel))
theorem d_MO_goesFrom_120 : decode b_MO_goesFrom 120 = .ok (.iload 5, 2) := dc_21 (qU1_win (r := 26) wn_MO_goesFrom_94 (by decide +kernel))
theorem d_MO_goesFrom_122 : decode b_MO_goesFrom 122 = .ok (.iaload, 1) := dc_46 (q0_win (r := 28) wn_MO_goesFrom_94 (by decide +kernel))
theorem d_MO_goesFrom_123 : decode b_MO_goesFrom 123 = .ok (.iconst (-1), 1) := dc_2 (q0_win (r := 29) wn_MO_goesFrom_94 (by decide +kernel))
theorem d_MO_goesFrom_124 : decode b_MO_goesFrom 124 = .ok (.if_icmp .eq 35, 3) := dc_159 (qS2_win (r := 30) wn_MO_goesFrom_94 (by decide +kernel))
theorem d_MO_goesFrom_127 : decode b_MO_goesFrom 127 = .ok (.aload_n 0, 1) := dc_42 (q0_win (r := 33) wn_MO_goesFrom_94 (by decide +kernel))
theorem d_MO_goesFrom_128 : decode b_MO_goesFrom 128 = .ok (.aload_n 0, 1) := dc_42 (q0_win (r := 34) wn_MO_goesFrom_94 (by decide +kernel))
theorem d_MO_goesFrom_129 : decode b_MO_goesFrom 129 = .ok (.getfield 103, 3) := dc_180 (qU2_win (r := 35) wn_MO_goesFrom_94 (by decide +kernel))
theorem d_MO_goesFrom_132 : decode b_MO_goesFrom 132 = .ok (.iload 5, 2) := dc_21 (qU1_win (r := 38) wn_MO_goesFrom_94 (by decide +kernel))
theorem d_MO_goesFrom_134 : decode b_MO_goesFrom 134 = .ok (.iaload, 1) := dc_46 (q0_win (r := 40) wn_MO_goesFrom_94 (by decide +kernel))
theorem d_MO_goesFrom_135 : decode b_MO_goesFrom 135 = .ok (.putfield 353, 3) := dc_181 (qU2_win (r := 41) wn_MO_goesFrom_94 (by decide +kernel))
theorem d_MO_goesFrom_138 : decode b_MO_goesFrom 138 = .ok (.aload_n 0, 1) := dc_42 (q0_win (r := 44) wn_MO_goesFrom_94 (by decide +kernel))
theorem d_MO_goesFrom_139 : decode b_MO_goesFrom 139 = .ok (.iload 4, 2) := dc_21 (qU1_win (r := 45) wn_MO_goesFrom_94 (by decide +kernel))
theorem d_MO_goesFrom_141 : decode b_MO_goesFrom 141 = .ok (.aload_n 0, 1) := dc_42 (q0_win (r := 47) wn_MO_goesFrom_94 (by decide +kernel))
theorem d_MO_goesFrom_142 : decode b_MO_goesFrom 142 = .ok (.getfield 103, 3) := dc_180 (qU2_win (r := 48) wn_MO_goesFrom_94 (by decide +kernel))
theorem d_MO_goesFrom_145 : decode b_MO_goesFrom 145 = .ok (.iload 5, 2) := dc_21 (qU1_win (r := 51) wn_MO_goesFrom_94 (by decide +kernel))
theorem d_MO_goesFrom_147 : decode b_MO_goesFrom 147 = .ok (.iaload, 1) := dc_46 (q0_win (r := 53) wn_MO_goesFrom_94 (by decide +kernel))
theorem d_MO_goesFrom_148 : decode b_MO_goesFrom 148 = .ok (.isub, 1) := dc_100 (q0_win (r := 54) wn_MO_goesFrom_94 (by decide +kernel))
theorem d_MO_goesFrom_149 : decode b_MO_goesFrom 149 = .ok (.putfield 347, 3) := dc_181 (qU2_win (r := 55) wn_MO_goesFrom_94 (by decide +kernel))
theorem d_MO_goesFrom_152 : decode b_MO_goesFrom 152 = .ok (.aload_n 0, 1) := dc_42 (q0_win (r := 58) wn_MO_goesFrom_94 (by decide +kernel))
theorem d_MO_goesFrom_153 : decode b_MO_goesFrom 153 = .ok (.iload 5, 2) := dc_21 (qU1_win (r := 59) wn_MO_goesFrom_94 (by decide +kernel))
theorem d_MO_goesFrom_155 : decode b_MO_goesFrom 155 = .ok (.putfield 356, 3) := dc_181 (qU2_win (r := 61) wn_MO_goesFrom_94 (by decide +kernel))
theorem d_MO_goesFrom_158 : decode b_MO_goesFrom 158 = .ok (.return_, 1) := dc_177 (q0_win (r := 64) wn_MO_goesFrom_94 (by decide +kernel))
theorem d_MO_goesFrom_159 : decode b_MO_goesFrom 159 = .ok (.iload 5, 2) := dc_21 (qU1_win (r := 65) wn_MO_goesFrom_94 (by decide +kernel))
theorem d_MO_goesFrom_161 : decode b_MO_goesFrom 161 = .ok (.istore_n 3, 1) := dc_62 (q0_win (r := 67) wn_MO_goesFrom_94 (by decide +kernel))
theorem d_MO_goesFrom_162 : decode b_MO_goesFrom 162 = .ok (.goto (-121), 3) := dc_167 (qS2_win (r := 68) wn_MO_goesFrom_94 (by decide +kernel))
def t_MO_goesFrom_L113 (x1 : Int) (x2 : Int) (bk41 : Mem → Int → Int → Option (Mem)) (M : Mem) (v2_ : Int) (v3_ : Int) : Option (Mem) := (qguard (0 ≤ v3_ ∧ v3_ < 48) (if (M.1 219 v3_) = (-1) then (bk41 M v3_ (w32 (v2_ + 1))) else (qguard (0 ≤ v3_ ∧ v3_ < 48) (qlet (setI M 191 46 (M.1 219 v3_)) fun M27 => (qguard (0 ≤ v3_ ∧ v3_ < 48) (qlet (setI M27 191 48 (w32 ((w32 (v2_ + 1)) - (M27.1 219 v3_)))) fun M30 => (qlet (setI M30 191 47 v3_) fun M31 => (some M31))))))))
def t_MO_goesFrom_L103 (x1 : Int) (x2 : Int) (bk41 : Mem → Int → Int → Option (Mem)) (M : Mem) (v2_ : Int) (v3_ : Int) : Option (Mem) := (qlet (setI M 191 49 (w32 ((M.1 191 49) + 1))) fun M33 => (t_MO_goesFrom_L113 x1 x2 bk41 M33 v2_ v3_))
def t_MO_goesFrom_L41 (x1 : Int) (x2 : Int)  : Nat → Mem → Int → Int → Option (Mem)
  | 0, _, _, _ => none
  | fu + 1, M, v2_, v3_ => (qguard (0 ≤ v2_ ∧ v2_ < 48) (qlet (setI M 219 v2_ v3_) fun M8 => (obind (t_MO_nextOf M8 x1 v2_) fun q9 => (if q9 = (-1) then (qlet (setI M8 191 46 v3_) fun M20 => (qlet (setI M20 191 47 v2_) fun M21 => (some M21))) else (obind (t_MO_isLine M8 v2_ q9) fun q12 => (if q12 = 0 then (t_MO_goesFrom_L113 x1 x2 (fun a0_ a1_ a2_ => t_MO_goesFrom_L41 x1 x2 fu a0_ a1_ a2_) M8 v3_ q9) else (if (M8.1 191 49) = 0 then (qguard (0 ≤ q9 ∧ q9 < 96) (qlet (setI M8 191 50 (M8.1 197 q9)) fun M19 => (t_MO_goesFrom_L103 x1 x2 (fun a0_ a1_ a2_ => t_MO_goesFrom_L41 x1 x2 fu a0_ a1_ a2_) M19 v3_ q9))) else (t_MO_goesFrom_L103 x1 x2 (fun a0_ a1_ a2_ => t_MO_goesFrom_L41 x1 x2 fu a0_ a1_ a2_) M8 v3_ q9))))))))
def t_MO_goesFrom_L2 (x1 : Int) (x2 : Int)  : Nat → Mem → Int → Option (Mem)
  | 0, _, _ => none
  | fu + 1, M, v3_ => (if 48 ≤ v3_ then (qlet (setI M 191 49 0) fun M2 => (qlet (setI M2 191 50 (-1)) fun M3 => (qlet (setI M3 191 48 0) fun M4 => (t_MO_goesFrom_L41 x1 x2 FU M4 x2 0)))) else (qguard (0 ≤ v3_ ∧ v3_ < 48) (qlet (setI M 219 v3_ (-1)) fun M6 => (t_MO_goesFrom_L2 x1 x2 fu M6 (w32 (v3_ + 1))))))
def t_MO_goesFrom (M : Mem) (x1 : Int) (x2 : Int) : Option (Mem) := (t_MO_goesFrom_L2 x1 x2 FU M 0)
set_option maxHeartbeats 4000000 in
set_option maxRecDepth 100000 in
theorem k_MO_goesFrom_L113 (l : Launch) {p : Program} {e : Env} {s : State} {m : MethodId} {below : List Frame} {meth : Method} {c : Code} {b n : Nat} {C : CT} (hlo : 231 ≤ n) (x1 : Int) (x2 : Int) (hx1 : InR x1) (hx2 : InR x2) (F : Cx b p m c b_MO_goesFrom 6 s ([.ref (b + 191), vI x1, vI x2] : List Value).toArray "WardFallsModel" C n 231) (hlk : meth.locks = false) (hr : meth.sig.returnType = none) {res : Mem} (bk41 : Mem → Int → Int → Option (Mem)) (hbk41 : ∀ (M : Mem) (v2_ : Int) (hv2_ : InR v2_) (v3_ : Int) (hv3_ : InR v3_) (H : Heap) (locs : List Loc) (ls : Array Slot), St b C n M s H locs → lv_has ls 6 [(0, .ref (b + 191)), (1, vI x1), (3, vI v2_), (4, vI v3_)] → bk41 M v2_ v3_ = some res → W p l e (headSpec (wsM y_MO_goesFrom b_MO_goesFrom 6 (none)) (rmD 2)).room s m ([.ref (b + 191), vI x1, vI x2] : List Value).toArray below meth c H locs 0 0 (MQ below (QV b C n res) ([.ref (b + 191), vI x1, vI x2] : List Value).toArray s 0 0 (frb b)) (F0 m 41 ls [])) (M : Mem) (v2_ : Int) (hv2_ : InR v2_) (v3_ : Int) (hv3_ : InR v3_) (H : Heap) (locs : List Loc) (ls : Array Slot) (hS : St b C n M s H locs) (hl : lv_has ls 6 [(0, .ref (b + 191)), (1, vI x1), (4, vI v2_), (5, vI v3_)]) (hT : t_MO_goesFrom_L113 x1 x2 bk41 M v2_ v3_ = some res) : W p l e (headSpec (wsM y_MO_goesFrom b_MO_goesFrom 6 (none)) (rmD 2)).room s m ([.ref (b + 191), vI x1, vI x2] : List Value).toArray below meth c H locs 0 0 (MQ below (QV b C n res) ([.ref (b + 191), vI x1, vI x2] : List Value).toArray s 0 0 (frb b)) (F0 m 113 ls []) := by
  unfold t_MO_goesFrom_L113 at hT
  refine lv_iinc (v := Int32.ofInt (w32 (v2_ + 1))) (lv' := [(4, vI (w32 (v2_ + 1))), (0, .ref (b + 191)), (1, vI x1), (5, vI v3_)]) F.hx F.hb d_MO_goesFrom_113 hl (k := 2) rfl (q_of_add _ _) (Nat.le_of_ble_eq_true rfl) rfl (fun ls hl => ?_)
  refine lv_aload_n F.hx F.hb d_MO_goesFrom_116 rfl (lv_at hl 1 rfl) ?_
  refine r_get (v := .ref (b + 219)) (N := 68) (T := T1) (j := 51) F hS (show 191 < 231 by decide) (show shK 191 = 5 from rfl) (show shN 191 = 68 from rfl) rfl (Nat.le_of_ble_eq_true rfl) ing1 mw_1440 (fv_sg rfl rfl rfl) d_MO_goesFrom_117 ?_
  refine lv_iload F.hx F.hb d_MO_goesFrom_120 (lv_at hl 3 rfl) ?_
  obtain ⟨⟨g22a, g22b⟩, hT⟩ := q_guard hT
  refine r_iald F hS (show 219 < 231 by decide) (show shK 219 = 0 from rfl) (show shN 219 = 48 from rfl) hv3_ g22a g22b d_MO_goesFrom_122 ?_
  have i23 := hS.rng 219 v3_
  refine r_iconst F.hx F.hb d_MO_goesFrom_123 ?_
  refine r_icmp_eq (tgt := 159) F.hx F.hb i23 (inr_c rfl) d_MO_goesFrom_124 (by decide) (fun c24 => ?_) (fun c24 => ?_)
  · replace hT := (if_pos c24).symm.trans hT
    refine lv_iload F.hx F.hb d_MO_goesFrom_159 (lv_at hl 3 rfl) ?_
    refine lv_istore_n (lv' := [(3, vI v3_), (4, vI (w32 (v2_ + 1))), (0, .ref (b + 191)), (1, vI x1), (5, vI v3_)]) F.hx F.hb d_MO_goesFrom_161 rfl hl (Nat.le_of_ble_eq_true rfl) rfl (fun ls hl => ?_)
    refine lv_goto (tgt := 41) F.hx F.hb d_MO_goesFrom_162 (by decide) ?_
    exact hbk41 M v3_ hv3_ (w32 (v2_ + 1)) (inr_w32 _) _ _ _ hS (lv_sub hl [2, 3, 0, 1] rfl) hT
  · replace hT := (if_neg c24).symm.trans hT
    refine lv_aload_n F.hx F.hb d_MO_goesFrom_127 rfl (lv_at hl 1 rfl) ?_
    refine lv_aload_n F.hx F.hb d_MO_goesFrom_128 rfl (lv_at hl 1 rfl) ?_
    refine r_get (v := .ref (b + 219)) (N := 68) (T := T1) (j := 51) F hS (show 191 < 231 by decide) (show shK 191 = 5 from rfl) (show shN 191 = 68 from rfl) rfl (Nat.le_of_ble_eq_true rfl) ing1 mw_1440 (fv_sg rfl rfl rfl) d_MO_goesFrom_129 ?_
    refine lv_iload F.hx F.hb d_MO_goesFrom_132 (lv_at hl 3 rfl) ?_
    obtain ⟨⟨g25a, g25b⟩, hT⟩ := q_guard hT
    refine r_iald F hS (show 219 < 231 by decide) (show shK 219 = 0 from rfl) (show shN 219 = 48 from rfl) hv3_ g25a g25b d_MO_goesFrom_134 ?_
    have i26 := hS.rng 219 v3_
    refine r_putI (N := 68) (T := T1) (j := 46) F hS (show 191 < 231 by decide) (show shK 191 = 5 from rfl) (show shN 191 = 68 from rfl) rfl (Nat.le_of_ble_eq_true rfl) ing1 tyok1 nm1 rfl rfl rfl rfl rfl rfl mw_1435 i26 d_MO_goesFrom_135 (fun H locs hS => ?_)
    obtain ⟨M27, eM27⟩ : ∃ q, q = (setI M 191 46 (M.1 219 v3_)) := ⟨_, rfl⟩
    replace hS : St b C n M27 s H locs := by rw [eM27]; exact hS
    replace hT := qlet_eq hT eM27
    refine lv_aload_n F.hx F.hb d_MO_goesFrom_138 rfl (lv_at hl 1 rfl) ?_
    refine lv_iload F.hx F.hb d_MO_goesFrom_139 (lv_at hl 0 rfl) ?_
    refine lv_aload_n F.hx F.hb d_MO_goesFrom_141 rfl (lv_at hl 1 rfl) ?_
    refine r_get (v := .ref (b + 219)) (N := 68) (T := T1) (j := 51) F hS (show 191 < 231 by decide) (show shK 191 = 5 from rfl) (show shN 191 = 68 from rfl) rfl (Nat.le_of_ble_eq_true rfl) ing1 mw_1440 (fv_sg rfl rfl rfl) d_MO_goesFrom_142 ?_
    refine lv_iload F.hx F.hb d_MO_goesFrom_145 (lv_at hl 3 rfl) ?_
    obtain ⟨⟨g28a, g28b⟩, hT⟩ := q_guard hT
    refine r_iald F hS (show 219 < 231 by decide) (show shK 219 = 0 from rfl) (show shN 219 = 48 from rfl) hv3_ g28a g28b d_MO_goesFrom_147 ?_
    have i29 := hS.rng 219 v3_
    refine r_isub F.hx F.hb d_MO_goesFrom_148 ?_
    refine r_putI (N := 68) (T := T1) (j := 48) F hS (show 191 < 231 by decide) (show shK 191 = 5 from rfl) (show shN 191 = 68 from rfl) rfl (Nat.le_of_ble_eq_true rfl) ing1 tyok1 nm1 rfl rfl rfl rfl rfl rfl mw_1437 (inr_w32 _) d_MO_goesFrom_149 (fun H locs hS => ?_)
    obtain ⟨M30, eM30⟩ : ∃ q, q = (setI M27 191 48 (w32 ((w32 (v2_ + 1)) - (M27.1 219 v3_)))) := ⟨_, rfl⟩
    replace hS : St b C n M30 s H locs := by rw [eM30]; exact hS
    replace hT := qlet_eq hT eM30
    refine lv_aload_n F.hx F.hb d_MO_goesFrom_152 rfl (lv_at hl 1 rfl) ?_
    refine lv_iload F.hx F.hb d_MO_goesFrom_153 (lv_at hl 3 rfl) ?_
    refine r_putI (N := 68) (T := T1) (j := 47) F hS (show 191 < 231 by decide) (show shK 191 = 5 from rfl) (show shN 191 = 68 from rfl) rfl (Nat.le_of_ble_eq_true rfl) ing1 tyok1 nm1 rfl rfl rfl rfl rfl rfl mw_1436 hv3_ d_MO_goesFrom_155 (fun H locs hS => ?_)
    obtain ⟨M31, eM31⟩ : ∃ q, q = (setI M30 191 47 v3_) := ⟨_, rfl⟩
    replace hS : St b C n M31 s H locs := by rw [eM31]; exact hS
    replace hT := qlet_eq hT eM31
    cases hT
    exact r_vret F hlk hr hS d_MO_goesFrom_158
set_option maxHeartbeats 4000000 in
set_option maxRecDepth 100000 in
theorem k_MO_goesFrom_L103 (l : Launch) {p : Program} {e : Env} {s : State} {m : MethodId} {below : List Frame} {meth : Method} {c : Code} {b n : Nat} {C : CT} (hlo : 231 ≤ n) (x1 : Int) (x2 : Int) (hx1 : InR x1) (hx2 : InR x2) (F : Cx b p m c b_MO_goesFrom 6 s ([.ref (b + 191), vI x1, vI x2] : List Value).toArray "WardFallsModel" C n 231) (hlk : meth.locks = false) (hr : meth.sig.returnType = none) {res : Mem} (bk41 : Mem → Int → Int → Option (Mem)) (hbk41 : ∀ (M : Mem) (v2_ : Int) (hv2_ : InR v2_) (v3_ : Int) (hv3_ : InR v3_) (H : Heap) (locs : List Loc) (ls : Array Slot), St b C n M s H locs → lv_has ls 6 [(0, .ref (b + 191)), (1, vI x1), (3, vI v2_), (4, vI v3_)] → bk41 M v2_ v3_ = some res → W p l e (headSpec (wsM y_MO_goesFrom b_MO_goesFrom 6 (none)) (rmD 2)).room s m ([.ref (b + 191), vI x1, vI x2] : List Value).toArray below meth c H locs 0 0 (MQ below (QV b C n res) ([.ref (b + 191), vI x1, vI x2] : List Value).toArray s 0 0 (frb b)) (F0 m 41 ls [])) (M : Mem) (v2_ : Int) (hv2_ : InR v2_) (v3_ : Int) (hv3_ : InR v3_) (H : Heap) (locs : List Loc) (ls : Array Slot) (hS : St b C n M s H locs) (hl : lv_has ls 6 [(0, .ref (b + 191)), (1, vI x1), (4, vI v2_), (5, vI v3_)]) (hT : t_MO_goesFrom_L103 x1 x2 bk41 M v2_ v3_ = some res) : W p l e (headSpec (wsM y_MO_goesFrom b_MO_goesFrom 6 (none)) (rmD 2)).room s m ([.ref (b + 191), vI x1, vI x2] : List Value).toArray below meth c H locs 0 0 (MQ below (QV b C n res) ([.ref (b + 191), vI x1, vI x2] : List Value).toArray s 0 0 (frb b)) (F0 m 103 ls []) := by
  unfold t_MO_goesFrom_L103 at hT
  refine lv_aload_n F.hx F.hb d_MO_goesFrom_103 rfl (lv_at hl 0 rfl) ?_
  refine lv_dup F.hx F.hb d_MO_goesFrom_104 rfl ?_
  refine r_get (v := vI (M.1 191 49)) (N := 68) (T := T1) (j := 49) F hS (show 191 < 231 by decide) (show shK 191 = 5 from rfl) (show shN 191 = 68 from rfl) rfl (Nat.le_of_ble_eq_true rfl) ing1 mw_1438 (fv_int rfl) d_MO_goesFrom_105 ?_
  have i32 := hS.rng 191 49
  refine r_iconst F.hx F.hb d_MO_goesFrom_108 ?_
  refine r_iadd F.hx F.hb d_MO_goesFrom_109 ?_
  refine r_putI (N := 68) (T := T1) (j := 49) F hS (show 191 < 231 by decide) (show shK 191 = 5 from rfl) (show shN 191 = 68 from rfl) rfl (Nat.le_of_ble_eq_true rfl) ing1 tyok1 nm1 rfl rfl rfl rfl rfl rfl mw_1438 (inr_w32 _) d_MO_goesFrom_110 (fun H locs hS => ?_)
  obtain ⟨M33, eM33⟩ : ∃ q, q = (setI M 191 49 (w32 ((M.1 191 49) + 1))) := ⟨_, rfl⟩
  replace hS : St b C n M33 s H locs := by rw [eM33]; exact hS
  replace hT := qlet_eq hT eM33
  exact k_MO_goesFrom_L113 l hlo x1 x2 hx1 hx2 F hlk hr bk41 hbk41 M33 v2_ hv2_ v3_ hv3_ _ _ _ hS (lv_sub hl [0, 1, 2, 3] rfl) hT
set_option maxHeartbeats 4000000 in
set_option maxRecDepth 100000 in
theorem k_MO_goesFrom_L41 (l : Launch) {p : Program} {e : Env} {s : State} {m : MethodId} {below : List Frame} {meth : Method} {c : Code} {b n : Nat} {C : CT} (hlo : 231 ≤ n) (x1 : Int) (x2 : Int) (hx1 : InR x1) (hx2 : InR x2) (F : Cx b p m c b_MO_goesFrom 6 s ([.ref (b + 191), vI x1, vI x2] : List Value).toArray "WardFallsModel" C n 231) (hlk : meth.locks = false) (hr : meth.sig.returnType = none) {res : Mem} : ∀ (fu : Nat) (M : Mem) (v2_ : Int) (hv2_ : InR v2_) (v3_ : Int) (hv3_ : InR v3_) (H : Heap) (locs : List Loc) (ls : Array Slot), St b C n M s H locs → lv_has ls 6 [(0, .ref (b + 191)), (1, vI x1), (3, vI v2_), (4, vI v3_)] → t_MO_goesFrom_L41 x1 x2 fu M v2_ v3_ = some res → W p l e (headSpec (wsM y_MO_goesFrom b_MO_goesFrom 6 (none)) (rmD 2)).room s m ([.ref (b + 191), vI x1, vI x2] : List Value).toArray below meth c H locs 0 0 (MQ below (QV b C n res) ([.ref (b + 191), vI x1, vI x2] : List Value).toArray s 0 0 (frb b)) (F0 m 41 ls []) := by
  intro fu
  induction fu with
  | zero => intro M v2_ hv2_ v3_ hv3_ H locs ls hS hl hT; exact absurd hT (by simp [t_MO_goesFrom_L41])
  | succ fu ih =>
    intro M v2_ hv2_ v3_ hv3_ H locs ls hS hl hT
    rw [t_MO_goesFrom_L41] at hT
    refine lv_aload_n F.hx F.hb d_MO_goesFrom_41 rfl (lv_at hl 0 rfl) ?_
    refine r_get (v := .ref (b + 219)) (N := 68) (T := T1) (j := 51) F hS (show 191 < 231 by decide) (show shK 191 = 5 from rfl) (show shN 191 = 68 from rfl) rfl (Nat.le_of_ble_eq_true rfl) ing1 mw_1440 (fv_sg rfl rfl rfl) d_MO_goesFrom_42 ?_
    refine lv_iload_n F.hx F.hb d_MO_goesFrom_45 rfl (lv_at hl 2 rfl) ?_
    refine lv_iload F.hx F.hb d_MO_goesFrom_46 (lv_at hl 3 rfl) ?_
    obtain ⟨⟨g7a, g7b⟩, hT⟩ := q_guard hT
    refine r_iast F hS (show 219 < 231 by decide) (show shK 219 = 0 from rfl) (show shN 219 = 48 from rfl) hv2_ hv3_ g7a g7b d_MO_goesFrom_48 (fun H locs hS => ?_)
    obtain ⟨M8, eM8⟩ : ∃ q, q = (setI M 219 v2_ v3_) := ⟨_, rfl⟩
    replace hS : St b C n M8 s H locs := by rw [eM8]; exact hS
    replace hT := qlet_eq hT eM8
    refine lv_aload_n F.hx F.hb d_MO_goesFrom_49 rfl (lv_at hl 0 rfl) ?_
    refine lv_iload_n F.hx F.hb d_MO_goesFrom_50 rfl (lv_at hl 1 rfl) ?_
    refine lv_iload_n F.hx F.hb d_MO_goesFrom_51 rfl (lv_at hl 2 rfl) ?_
    obtain ⟨q9, hq9, hT⟩ := q_obind hT
    refine r_backI F hS (r_runV (k := 191) (N := 68) (T := T1) (As := [vI x1, vI v2_]) F hS (show 191 < 231 by decide) (show shK 191 = 5 from rfl) rfl (c_MO_nextOf l F.2.2.1 M8 x1 v2_ hx1 hv2_ _ hq9) gs_MO_350 hd_MO_nextOf ⟨Nat.le_of_ble_eq_true rfl, Nat.le_of_ble_eq_true rfl⟩ rfl hl.1 (Nat.le_of_ble_eq_true rfl) ⟨Nat.zero_le _, Nat.zero_le _⟩ rfl d_MO_goesFrom_52) (fun H locs hS h10 => ?_)
    refine lv_istore (lv' := [(5, vI q9), (0, .ref (b + 191)), (1, vI x1), (3, vI v2_), (4, vI v3_)]) F.hx F.hb d_MO_goesFrom_55 hl (Nat.le_of_ble_eq_true rfl) rfl (fun ls hl => ?_)
    refine lv_iload F.hx F.hb d_MO_goesFrom_57 (lv_at hl 0 rfl) ?_
    refine r_iconst F.hx F.hb d_MO_goesFrom_59 ?_
    refine r_icmp_ne (tgt := 75) F.hx F.hb h10 (inr_c rfl) d_MO_goesFrom_60 (by decide) (fun c11 => ?_) (fun c11 => ?_)
    · replace hT := (if_neg c11).symm.trans hT
      refine lv_aload_n F.hx F.hb d_MO_goesFrom_75 rfl (lv_at hl 1 rfl) ?_
      refine lv_iload_n F.hx F.hb d_MO_goesFrom_76 rfl (lv_at hl 3 rfl) ?_
      refine lv_iload F.hx F.hb d_MO_goesFrom_77 (lv_at hl 0 rfl) ?_
      obtain ⟨q12, hq12, hT⟩ := q_obind hT
      refine r_backZ F hS (r_runV (k := 191) (N := 68) (T := T1) (As := [vI v2_, vI q9]) F hS (show 191 < 231 by decide) (show shK 191 = 5 from rfl) rfl (c_MO_isLine l F.2.2.1 M8 v2_ q9 hv2_ h10 _ hq12) gs_MO_359 hd_MO_isLine ⟨Nat.le_of_ble_eq_true rfl, Nat.le_of_ble_eq_true rfl⟩ rfl hl.1 (Nat.le_of_ble_eq_true rfl) ⟨Nat.zero_le _, Nat.zero_le _⟩ rfl d_MO_goesFrom_79) (fun H locs hS h13 => ?_)
      refine r_if_eq (tgt := 113) F.hx F.hb (inr_z h13) d_MO_goesFrom_82 (by decide) (fun c14 => ?_) (fun c14 => ?_)
      · replace hT := (if_pos c14).symm.trans hT
        exact k_MO_goesFrom_L113 l hlo x1 x2 hx1 hx2 F hlk hr (fun a0_ a1_ a2_ => t_MO_goesFrom_L41 x1 x2 fu a0_ a1_ a2_) ih M8 v3_ hv3_ q9 h10 _ _ _ hS (lv_sub hl [1, 2, 4, 0] rfl) hT
      · replace hT := (if_neg c14).symm.trans hT
        refine lv_aload_n F.hx F.hb d_MO_goesFrom_85 rfl (lv_at hl 1 rfl) ?_
        refine r_get (v := vI (M8.1 191 49)) (N := 68) (T := T1) (j := 49) F hS (show 191 < 231 by decide) (show shK 191 = 5 from rfl) (show shN 191 = 68 from rfl) rfl (Nat.le_of_ble_eq_true rfl) ing1 mw_1438 (fv_int rfl) d_MO_goesFrom_86 ?_
        have i15 := hS.rng 191 49
        refine r_if_ne (tgt := 103) F.hx F.hb i15 d_MO_goesFrom_89 (by decide) (fun c16 => ?_) (fun c16 => ?_)
        · replace hT := (if_neg c16).symm.trans hT
          exact k_MO_goesFrom_L103 l hlo x1 x2 hx1 hx2 F hlk hr (fun a0_ a1_ a2_ => t_MO_goesFrom_L41 x1 x2 fu a0_ a1_ a2_) ih M8 v3_ hv3_ q9 h10 _ _ _ hS (lv_sub hl [1, 2, 4, 0] rfl) hT
        · replace hT := (if_pos c16).symm.trans hT
          refine lv_aload_n F.hx F.hb d_MO_goesFrom_92 rfl (lv_at hl 1 rfl) ?_
          refine lv_aload_n F.hx F.hb d_MO_goesFrom_93 rfl (lv_at hl 1 rfl) ?_
          refine r_get (v := .ref (b + 197)) (N := 68) (T := T1) (j := 7) F hS (show 191 < 231 by decide) (show shK 191 = 5 from rfl) (show shN 191 = 68 from rfl) rfl (Nat.le_of_ble_eq_true rfl) ing1 mw_1396 (fv_sg rfl rfl rfl) d_MO_goesFrom_94 ?_
          refine lv_iload F.hx F.hb d_MO_goesFrom_97 (lv_at hl 0 rfl) ?_
          obtain ⟨⟨g17a, g17b⟩, hT⟩ := q_guard hT
          refine r_iald F hS (show 197 < 231 by decide) (show shK 197 = 0 from rfl) (show shN 197 = 96 from rfl) h10 g17a g17b d_MO_goesFrom_99 ?_
          have i18 := hS.rng 197 q9
          refine r_putI (N := 68) (T := T1) (j := 50) F hS (show 191 < 231 by decide) (show shK 191 = 5 from rfl) (show shN 191 = 68 from rfl) rfl (Nat.le_of_ble_eq_true rfl) ing1 tyok1 nm1 rfl rfl rfl rfl rfl rfl mw_1439 i18 d_MO_goesFrom_100 (fun H locs hS => ?_)
          obtain ⟨M19, eM19⟩ : ∃ q, q = (setI M8 191 50 (M8.1 197 q9)) := ⟨_, rfl⟩
          replace hS : St b C n M19 s H locs := by rw [eM19]; exact hS
          replace hT := qlet_eq hT eM19
          exact k_MO_goesFrom_L103 l hlo x1 x2 hx1 hx2 F hlk hr (fun a0_ a1_ a2_ => t_MO_goesFrom_L41 x1 x2 fu a0_ a1_ a2_) ih M19 v3_ hv3_ q9 h10 _ _ _ hS (lv_sub hl [1, 2, 4, 0] rfl) hT
    · replace hT := (if_pos c11).symm.trans hT
      refine lv_aload_n F.hx F.hb d_MO_goesFrom_63 rfl (lv_at hl 1 rfl) ?_
      refine lv_iload F.hx F.hb d_MO_goesFrom_64 (lv_at hl 4 rfl) ?_
      refine r_putI (N := 68) (T := T1) (j := 46) F hS (show 191 < 231 by decide) (show shK 191 = 5 from rfl) (show shN 191 = 68 from rfl) rfl (Nat.le_of_ble_eq_true rfl) ing1 tyok1 nm1 rfl rfl rfl rfl rfl rfl mw_1435 hv3_ d_MO_goesFrom_66 (fun H locs hS => ?_)
      obtain ⟨M20, eM20⟩ : ∃ q, q = (setI M8 191 46 v3_) := ⟨_, rfl⟩
      replace hS : St b C n M20 s H locs := by rw [eM20]; exact hS
      replace hT := qlet_eq hT eM20
      refine lv_aload_n F.hx F.hb d_MO_goesFrom_69 rfl (lv_at hl 1 rfl) ?_
      refine lv_iload_n F.hx F.hb d_MO_goesFrom_70 rfl (lv_at hl 3 rfl) ?_
      refine r_putI (N := 68) (T := T1) (j := 47) F hS (show 191 < 231 by decide) (show shK 191 = 5 from rfl) (show shN 191 = 68 from rfl) rfl (Nat.le_of_ble_eq_true rfl) ing1 tyok1 nm1 rfl rfl rfl rfl rfl rfl mw_1436 hv2_ d_MO_goesFrom_71 (fun H locs hS => ?_)
      obtain ⟨M21, eM21⟩ : ∃ q, q = (setI M20 191 47 v2_) := ⟨_, rfl⟩
      replace hS : St b C n M21 s H locs := by rw [eM21]; exact hS
      replace hT := qlet_eq hT eM21
      cases hT
      exact r_vret F hlk hr hS d_MO_goesFrom_74
set_option maxHeartbeats 4000000 in
set_option maxRecDepth 100000 in
theorem k_MO_goesFrom_L2 (l : Launch) {p : Program} {e : Env} {s : State} {m : MethodId} {below : List Frame} {meth : Method} {c : Code} {b n : Nat} {C : CT} (hlo : 231 ≤ n) (x1 : Int) (x2 : Int) (hx1 : InR x1) (hx2 : InR x2) (F : Cx b p m c b_MO_goesFrom 6 s ([.ref (b + 191), vI x1, vI x2] : List Value).toArray "WardFallsModel" C n 231) (hlk : meth.locks = false) (hr : meth.sig.returnType = none) {res : Mem} : ∀ (fu : Nat) (M : Mem) (v3_ : Int) (hv3_ : InR v3_) (H : Heap) (locs : List Loc) (ls : Array Slot), St b C n M s H locs → lv_has ls 6 [(0, .ref (b + 191)), (1, vI x1), (2, vI x2), (3, vI v3_)] → t_MO_goesFrom_L2 x1 x2 fu M v3_ = some res → W p l e (headSpec (wsM y_MO_goesFrom b_MO_goesFrom 6 (none)) (rmD 2)).room s m ([.ref (b + 191), vI x1, vI x2] : List Value).toArray below meth c H locs 0 0 (MQ below (QV b C n res) ([.ref (b + 191), vI x1, vI x2] : List Value).toArray s 0 0 (frb b)) (F0 m 2 ls []) := by
  intro fu
  induction fu with
  | zero => intro M v3_ hv3_ H locs ls hS hl hT; exact absurd hT (by simp [t_MO_goesFrom_L2])
  | succ fu ih =>
    intro M v3_ hv3_ H locs ls hS hl hT
    rw [t_MO_goesFrom_L2] at hT
    refine lv_iload_n F.hx F.hb d_MO_goesFrom_2 rfl (lv_at hl 3 rfl) ?_
    refine r_bipush F.hx F.hb d_MO_goesFrom_3 rfl ?_
    refine r_icmp_ge (tgt := 21) F.hx F.hb hv3_ (inr_c rfl) d_MO_goesFrom_5 (by decide) (fun c1 => ?_) (fun c1 => ?_)
    · replace hT := (if_pos c1).symm.trans hT
      refine lv_iload_n F.hx F.hb d_MO_goesFrom_21 rfl (lv_at hl 2 rfl) ?_
      refine lv_istore_n (lv' := [(3, vI x2), (0, .ref (b + 191)), (1, vI x1), (2, vI x2)]) F.hx F.hb d_MO_goesFrom_22 rfl hl (Nat.le_of_ble_eq_true rfl) rfl (fun ls hl => ?_)
      refine r_iconst F.hx F.hb d_MO_goesFrom_23 ?_
      refine lv_istore (lv' := [(4, vI 0), (3, vI x2), (0, .ref (b + 191)), (1, vI x1), (2, vI x2)]) F.hx F.hb d_MO_goesFrom_24 hl (Nat.le_of_ble_eq_true rfl) rfl (fun ls hl => ?_)
      refine lv_aload_n F.hx F.hb d_MO_goesFrom_26 rfl (lv_at hl 2 rfl) ?_
      refine r_iconst F.hx F.hb d_MO_goesFrom_27 ?_
      refine r_putI (N := 68) (T := T1) (j := 49) F hS (show 191 < 231 by decide) (show shK 191 = 5 from rfl) (show shN 191 = 68 from rfl) rfl (Nat.le_of_ble_eq_true rfl) ing1 tyok1 nm1 rfl rfl rfl rfl rfl rfl mw_1438 (inr_c rfl) d_MO_goesFrom_28 (fun H locs hS => ?_)
      obtain ⟨M2, eM2⟩ : ∃ q, q = (setI M 191 49 0) := ⟨_, rfl⟩
      replace hS : St b C n M2 s H locs := by rw [eM2]; exact hS
      replace hT := qlet_eq hT eM2
      refine lv_aload_n F.hx F.hb d_MO_goesFrom_31 rfl (lv_at hl 2 rfl) ?_
      refine r_iconst F.hx F.hb d_MO_goesFrom_32 ?_
      refine r_putI (N := 68) (T := T1) (j := 50) F hS (show 191 < 231 by decide) (show shK 191 = 5 from rfl) (show shN 191 = 68 from rfl) rfl (Nat.le_of_ble_eq_true rfl) ing1 tyok1 nm1 rfl rfl rfl rfl rfl rfl mw_1439 (inr_c rfl) d_MO_goesFrom_33 (fun H locs hS => ?_)
      obtain ⟨M3, eM3⟩ : ∃ q, q = (setI M2 191 50 (-1)) := ⟨_, rfl⟩
      replace hS : St b C n M3 s H locs := by rw [eM3]; exact hS
      replace hT := qlet_eq hT eM3
      refine lv_aload_n F.hx F.hb d_MO_goesFrom_36 rfl (lv_at hl 2 rfl) ?_
      refine r_iconst F.hx F.hb d_MO_goesFrom_37 ?_
      refine r_putI (N := 68) (T := T1) (j := 48) F hS (show 191 < 231 by decide) (show shK 191 = 5 from rfl) (show shN 191 = 68 from rfl) rfl (Nat.le_of_ble_eq_true rfl) ing1 tyok1 nm1 rfl rfl rfl rfl rfl rfl mw_1437 (inr_c rfl) d_MO_goesFrom_38 (fun H locs hS => ?_)
      obtain ⟨M4, eM4⟩ : ∃ q, q = (setI M3 191 48 0) := ⟨_, rfl⟩
      replace hS : St b C n M4 s H locs := by rw [eM4]; exact hS
      replace hT := qlet_eq hT eM4
      exact k_MO_goesFrom_L41 l hlo x1 x2 hx1 hx2 F hlk hr FU M4 x2 hx2 0 (inr_c rfl) _ _ _ hS (lv_sub hl [2, 3, 1, 0] rfl) hT
    · replace hT := (if_neg c1).symm.trans hT
      refine lv_aload_n F.hx F.hb d_MO_goesFrom_8 rfl (lv_at hl 0 rfl) ?_
      refine r_get (v := .ref (b + 219)) (N := 68) (T := T1) (j := 51) F hS (show 191 < 231 by decide) (show shK 191 = 5 from rfl) (show shN 191 = 68 from rfl) rfl (Nat.le_of_ble_eq_true rfl) ing1 mw_1440 (fv_sg rfl rfl rfl) d_MO_goesFrom_9 ?_
      refine lv_iload_n F.hx F.hb d_MO_goesFrom_12 rfl (lv_at hl 3 rfl) ?_
      refine r_iconst F.hx F.hb d_MO_goesFrom_13 ?_
      obtain ⟨⟨g5a, g5b⟩, hT⟩ := q_guard hT
      refine r_iast F hS (show 219 < 231 by decide) (show shK 219 = 0 from rfl) (show shN 219 = 48 from rfl) hv3_ (inr_c rfl) g5a g5b d_MO_goesFrom_14 (fun H locs hS => ?_)
      obtain ⟨M6, eM6⟩ : ∃ q, q = (setI M 219 v3_ (-1)) := ⟨_, rfl⟩
      replace hS : St b C n M6 s H locs := by rw [eM6]; exact hS
      replace hT := qlet_eq hT eM6
      refine lv_iinc (v := Int32.ofInt (w32 (v3_ + 1))) (lv' := [(3, vI (w32 (v3_ + 1))), (0, .ref (b + 191)), (1, vI x1), (2, vI x2)]) F.hx F.hb d_MO_goesFrom_15 hl (k := 3) rfl (q_of_add _ _) (Nat.le_of_ble_eq_true rfl) rfl (fun ls hl => ?_)
      refine lv_goto (tgt := 2) F.hx F.hb d_MO_goesFrom_18 (by decide) ?_
      exact ih M6 (w32 (v3_ + 1)) (inr_w32 _) _ _ _ hS (lv_sub hl [1, 2, 3, 0] rfl) hT
set_option maxHeartbeats 4000000 in
set_option maxRecDepth 100000 in
theorem c_MO_goesFrom (l : Launch) {b n : Nat} {C : CT} (hlo : 231 ≤ n) (M : Mem) (x1 : Int) (x2 : Int) (hx1 : InR x1) (hx2 : InR x2) (res : Mem) (hT : t_MO_goesFrom M x1 x2 = some res) : CM l b C n 2 y_MO_goesFrom b_MO_goesFrom 6 (none) [.ref (b + 191), vI x1, vI x2] M (QV b C n res) := by
  refine CM.of (lo := 231) (ow := "WardFallsModel") (by decide) rfl (Nat.le_of_ble_eq_true rfl) hlo (fun p e s m below meth c F hlk hr hS ls hl => ?_)
  have hl : lv_has ls 6 [(0, .ref (b + 191)), (1, vI x1), (2, vI x2)] := hl
  unfold t_MO_goesFrom at hT
  refine r_iconst F.hx F.hb d_MO_goesFrom_0 ?_
  refine lv_istore_n (lv' := [(3, vI 0), (0, .ref (b + 191)), (1, vI x1), (2, vI x2)]) F.hx F.hb d_MO_goesFrom_1 rfl hl (Nat.le_of_ble_eq_true rfl) rfl (fun ls hl => ?_)
  exact k_MO_goesFrom_L2 l hlo x1 x2 hx1 hx2 F hlk hr FU M 0 (inr_c rfl) _ _ _ hS (lv_sub hl [1, 2, 3, 0] rfl) hT
theorem d_MO_stands_0 : decode b_MO_stands 0 = .ok (.aload_n 0, 1) := dc_42 (by decide +kernel)
theorem d_MO_stands_1 : decode b_MO_stands 1 = .ok (.getfield 28, 3) := dc_180 (by decide +kernel)
theorem d_MO_stands_4 : decode b_MO_stands 4 = .ok (.iload_n 1, 1) := dc_27 (by decide +kernel)
theorem d_MO_stands_5 : decode b_MO_stands 5 = .ok (.baload, 1) := dc_51 (by decide +kernel)
theorem d_MO_stands_6 : decode b_MO_stands 6 = .ok (.ifCond .eq 5, 3) := dc_153 (by decide +kernel)
theorem d_MO_stands_9 : decode b_MO_stands 9 = .ok (.iconst 0, 1) := dc_3 (by decide +kernel)
theorem d_MO_stands_10 : decode b_MO_stands 10 = .ok (.ireturn, 1) := dc_172 (by decide +kernel)
theorem d_MO_stands_11 : decode b_MO_stands 11 = .ok (.aload_n 0, 1) := dc_42 (by decide +kernel)
theorem d_MO_stands_12 : decode b_MO_stands 12 = .ok (.getfield 32, 3) := dc_180 (by decide +kernel)
theorem d_MO_stands_15 : decode b_MO_stands 15 = .ok (.iload_n 1, 1) := dc_27 (by decide +kernel)
theorem d_MO_stands_16 : decode b_MO_stands 16 = .ok (.baload, 1) := dc_51 (by decide +kernel)
theorem d_MO_stands_17 : decode b_MO_stands 17 = .ok (.ifCond .eq 5, 3) := dc_153 (by decide +kernel)
theorem d_MO_stands_20 : decode b_MO_stands 20 = .ok (.iconst 1, 1) := dc_4 (by decide +kernel)
theorem d_MO_stands_21 : decode b_MO_stands 21 = .ok (.ireturn, 1) := dc_172 (by decide +kernel)
theorem d_MO_stands_22 : decode b_MO_stands 22 = .ok (.aload_n 0, 1) := dc_42 (by decide +kernel)
theorem d_MO_stands_23 : decode b_MO_stands 23 = .ok (.iconst 0, 1) := dc_3 (by decide +kernel)
theorem d_MO_stands_24 : decode b_MO_stands 24 = .ok (.iload_n 1, 1) := dc_27 (by decide +kernel)
theorem d_MO_stands_25 : decode b_MO_stands 25 = .ok (.invokevirtual 335, 3) := dc_182 (by decide +kernel)
theorem d_MO_stands_28 : decode b_MO_stands 28 = .ok (.istore_n 2, 1) := dc_61 (by decide +kernel)
theorem d_MO_stands_29 : decode b_MO_stands 29 = .ok (.iload_n 2, 1) := dc_28 (by decide +kernel)
theorem d_MO_stands_30 : decode b_MO_stands 30 = .ok (.iconst 4, 1) := dc_7 (by decide +kernel)
theorem d_MO_stands_31 : decode b_MO_stands 31 = .ok (.if_icmp .ne 5, 3) := dc_160 (by decide +kernel)
theorem d_MO_stands_34 : decode b_MO_stands 34 = .ok (.iconst 0, 1) := dc_3 (by decide +kernel)
theorem d_MO_stands_35 : decode b_MO_stands 35 = .ok (.ireturn, 1) := dc_172 (by decide +kernel)
theorem d_MO_stands_36 : decode b_MO_stands 36 = .ok (.aload_n 0, 1) := dc_42 (by decide +kernel)
theorem d_MO_stands_37 : decode b_MO_stands 37 = .ok (.iload_n 1, 1) := dc_27 (by decide +kernel)
theorem d_MO_stands_38 : decode b_MO_stands 38 = .ok (.iload_n 2, 1) := dc_28 (by decide +kernel)
theorem d_MO_stands_39 : decode b_MO_stands 39 = .ok (.invokevirtual 338, 3) := dc_182 (by decide +kernel)
theorem d_MO_stands_42 : decode b_MO_stands 42 = .ok (.istore_n 3, 1) := dc_62 (by decide +kernel)
theorem d_MO_stands_43 : decode b_MO_stands 43 = .ok (.iload_n 3, 1) := dc_29 (by decide +kernel)
theorem d_MO_stands_44 : decode b_MO_stands 44 = .ok (.iconst (-1), 1) := dc_2 (by decide +kernel)
theorem d_MO_stands_45 : decode b_MO_stands 45 = .ok (.if_icmp .eq 12, 3) := dc_159 (by decide +kernel)
theorem d_MO_stands_48 : decode b_MO_stands 48 = .ok (.aload_n 0, 1) := dc_42 (by decide +kernel)
theorem d_MO_stands_49 : decode b_MO_stands 49 = .ok (.getfield 28, 3) := dc_180 (by decide +kernel)
theorem d_MO_stands_52 : decode b_MO_stands 52 = .ok (.iload_n 3, 1) := dc_29 (by decide +kernel)
theorem d_MO_stands_53 : decode b_MO_stands 53 = .ok (.baload, 1) := dc_51 (by decide +kernel)
theorem d_MO_stands_54 : decode b_MO_stands 54 = .ok (.ifCond .eq 7, 3) := dc_153 (by decide +kernel)
theorem d_MO_stands_57 : decode b_MO_stands 57 = .ok (.iconst 1, 1) := dc_4 (by decide +kernel)
theorem d_MO_stands_58 : decode b_MO_stands 58 = .ok (.goto 4, 3) := dc_167 (by decide +kernel)
theorem d_MO_stands_61 : decode b_MO_stands 61 = .ok (.iconst 0, 1) := dc_3 (by decide +kernel)
theorem d_MO_stands_62 : decode b_MO_stands 62 = .ok (.ireturn, 1) := dc_172 (by decide +kernel)
def t_MO_stands (M : Mem) (x1 : Int) : Option (Int) := (qguard (0 ≤ x1 ∧ x1 < 96) (if (M.1 198 x1) = 0 then (qguard (0 ≤ x1 ∧ x1 < 96) (if (M.1 199 x1) = 0 then (obind (t_MO_downOf M 0 x1) fun q7 => (if q7 = 4 then (some 0) else (obind (t_MO_beside M x1 q7) fun q10 => (if q10 = (-1) then (some 1) else (qguard (0 ≤ q10 ∧ q10 < 96) (if (M.1 198 q10) = 0 then (some 0) else (some 1))))))) else (some 1))) else (some 0)))
set_option maxHeartbeats 4000000 in
set_option maxRecDepth 100000 in
theorem c_MO_stands (l : Launch) {b n : Nat} {C : CT} (hlo : 231 ≤ n) (M : Mem) (x1 : Int) (hx1 : InR x1) (res : Int) (hT : t_MO_stands M x1 = some res) : CM l b C n 1 y_MO_stands b_MO_stands 4 (some .boolean) [.ref (b + 191), vI x1] M (QZ b C n M res) := by
  refine CM.of (lo := 231) (ow := "WardFallsModel") (by decide) rfl (Nat.le_of_ble_eq_true rfl) hlo (fun p e s m below meth c F hlk hr hS ls hl => ?_)
  have hl : lv_has ls 4 [(0, .ref (b + 191)), (1, vI x1)] := hl
  unfold t_MO_stands at hT
  refine lv_aload_n F.hx F.hb d_MO_stands_0 rfl (lv_at hl 0 rfl) ?_
  refine r_get (v := .ref (b + 198)) (N := 68) (T := T1) (j := 8) F hS (show 191 < 231 by decide) (show shK 191 = 5 from rfl) (show shN 191 = 68 from rfl) rfl (Nat.le_of_ble_eq_true rfl) ing1 mw_1397 (fv_sg rfl rfl rfl) d_MO_stands_1 ?_
  refine lv_iload_n F.hx F.hb d_MO_stands_4 rfl (lv_at hl 1 rfl) ?_
  obtain ⟨⟨g1a, g1b⟩, hT⟩ := q_guard hT
  have z2 := hS.bool (show shK 198 = 1 from rfl) x1
  refine r_zald F hS (show 198 < 231 by decide) (show shK 198 = 1 from rfl) (show shN 198 = 96 from rfl) hx1 g1a g1b d_MO_stands_5 ?_
  refine r_if_eq (tgt := 11) F.hx F.hb (inr_z z2) d_MO_stands_6 (by decide) (fun c3 => ?_) (fun c3 => ?_)
  · replace hT := (if_pos c3).symm.trans hT
    refine lv_aload_n F.hx F.hb d_MO_stands_11 rfl (lv_at hl 0 rfl) ?_
    refine r_get (v := .ref (b + 199)) (N := 68) (T := T1) (j := 9) F hS (show 191 < 231 by decide) (show shK 191 = 5 from rfl) (show shN 191 = 68 from rfl) rfl (Nat.le_of_ble_eq_true rfl) ing1 mw_1398 (fv_sg rfl rfl rfl) d_MO_stands_12 ?_
    refine lv_iload_n F.hx F.hb d_MO_stands_15 rfl (lv_at hl 1 rfl) ?_
    obtain ⟨⟨g4a, g4b⟩, hT⟩ := q_guard hT
    have z5 := hS.bool (show shK 199 = 1 from rfl) x1
    refine r_zald F hS (show 199 < 231 by decide) (show shK 199 = 1 from rfl) (show shN 199 = 96 from rfl) hx1 g4a g4b d_MO_stands_16 ?_
    refine r_if_eq (tgt := 22) F.hx F.hb (inr_z z5) d_MO_stands_17 (by decide) (fun c6 => ?_) (fun c6 => ?_)
    · replace hT := (if_pos c6).symm.trans hT
      refine lv_aload_n F.hx F.hb d_MO_stands_22 rfl (lv_at hl 0 rfl) ?_
      refine r_iconst F.hx F.hb d_MO_stands_23 ?_
      refine lv_iload_n F.hx F.hb d_MO_stands_24 rfl (lv_at hl 1 rfl) ?_
      obtain ⟨q7, hq7, hT⟩ := q_obind hT
      refine r_backI F hS (r_runV (k := 191) (N := 68) (T := T1) (As := [vI 0, vI x1]) F hS (show 191 < 231 by decide) (show shK 191 = 5 from rfl) rfl (c_MO_downOf l F.2.2.1 M 0 x1 (inr_c rfl) hx1 _ hq7) gs_MO_335 hd_MO_downOf ⟨Nat.le_of_ble_eq_true rfl, Nat.le_of_ble_eq_true rfl⟩ rfl hl.1 (Nat.le_of_ble_eq_true rfl) ⟨Nat.zero_le _, Nat.zero_le _⟩ rfl d_MO_stands_25) (fun H locs hS h8 => ?_)
      refine lv_istore_n (lv' := [(2, vI q7), (0, .ref (b + 191)), (1, vI x1)]) F.hx F.hb d_MO_stands_28 rfl hl (Nat.le_of_ble_eq_true rfl) rfl (fun ls hl => ?_)
      refine lv_iload_n F.hx F.hb d_MO_stands_29 rfl (lv_at hl 0 rfl) ?_
      refine r_iconst F.hx F.hb d_MO_stands_30 ?_
      refine r_icmp_ne (tgt := 36) F.hx F.hb h8 (inr_c rfl) d_MO_stands_31 (by decide) (fun c9 => ?_) (fun c9 => ?_)
      · replace hT := (if_neg c9).symm.trans hT
        refine lv_aload_n F.hx F.hb d_MO_stands_36 rfl (lv_at hl 1 rfl) ?_
        refine lv_iload_n F.hx F.hb d_MO_stands_37 rfl (lv_at hl 2 rfl) ?_
        refine lv_iload_n F.hx F.hb d_MO_stands_38 rfl (lv_at hl 0 rfl) ?_
        obtain ⟨q10, hq10, hT⟩ := q_obind hT
        refine r_backI F hS (r_runV (k := 191) (N := 68) (T := T1) (As := [vI x1, vI q7]) F hS (show 191 < 231 by decide) (show shK 191 = 5 from rfl) rfl (c_MO_beside l F.2.2.1 M x1 q7 hx1 h8 _ hq10) gs_MO_338 hd_MO_beside ⟨Nat.le_of_ble_eq_true rfl, Nat.le_of_ble_eq_true rfl⟩ rfl hl.1 (Nat.le_of_ble_eq_true rfl) ⟨Nat.zero_le _, Nat.zero_le _⟩ rfl d_MO_stands_39) (fun H locs hS h11 => ?_)
        refine lv_istore_n (lv' := [(3, vI q10), (2, vI q7), (0, .ref (b + 191)), (1, vI x1)]) F.hx F.hb d_MO_stands_42 rfl hl (Nat.le_of_ble_eq_true rfl) rfl (fun ls hl => ?_)
        refine lv_iload_n F.hx F.hb d_MO_stands_43 rfl (lv_at hl 0 rfl) ?_
        refine r_iconst F.hx F.hb d_MO_stands_44 ?_
        refine r_icmp_eq (tgt := 57) F.hx F.hb h11 (inr_c rfl) d_MO_stands_45 (by decide) (fun c12 => ?_) (fun c12 => ?_)
        · replace hT := (if_pos c12).symm.trans hT
          refine r_iconst F.hx F.hb d_MO_stands_57 ?_
          refine lv_goto (tgt := 62) F.hx F.hb d_MO_stands_58 (by decide) ?_
          cases hT
          exact r_zret F hlk hr hS (Or.inr rfl) d_MO_stands_62
        · replace hT := (if_neg c12).symm.trans hT
          refine lv_aload_n F.hx F.hb d_MO_stands_48 rfl (lv_at hl 2 rfl) ?_
          refine r_get (v := .ref (b + 198)) (N := 68) (T := T1) (j := 8) F hS (show 191 < 231 by decide) (show shK 191 = 5 from rfl) (show shN 191 = 68 from rfl) rfl (Nat.le_of_ble_eq_true rfl) ing1 mw_1397 (fv_sg rfl rfl rfl) d_MO_stands_49 ?_
          refine lv_iload_n F.hx F.hb d_MO_stands_52 rfl (lv_at hl 0 rfl) ?_
          obtain ⟨⟨g13a, g13b⟩, hT⟩ := q_guard hT
          have z14 := hS.bool (show shK 198 = 1 from rfl) q10
          refine r_zald F hS (show 198 < 231 by decide) (show shK 198 = 1 from rfl) (show shN 198 = 96 from rfl) h11 g13a g13b d_MO_stands_53 ?_
          refine r_if_eq (tgt := 61) F.hx F.hb (inr_z z14) d_MO_stands_54 (by decide) (fun c15 => ?_) (fun c15 => ?_)
          · replace hT := (if_pos c15).symm.trans hT
            refine r_iconst F.hx F.hb d_MO_stands_61 ?_
            cases hT
            exact r_zret F hlk hr hS (Or.inl rfl) d_MO_stands_62
          · replace hT := (if_neg c15).symm.trans hT
            refine r_iconst F.hx F.hb d_MO_stands_57 ?_
            refine lv_goto (tgt := 62) F.hx F.hb d_MO_stands_58 (by decide) ?_
            cases hT
            exact r_zret F hlk hr hS (Or.inr rfl) d_MO_stands_62
      · replace hT := (if_pos c9).symm.trans hT
        refine r_iconst F.hx F.hb d_MO_stands_34 ?_
        cases hT
        exact r_zret F hlk hr hS (Or.inl rfl) d_MO_stands_35
    · replace hT := (if_neg c6).symm.trans hT
      refine r_iconst F.hx F.hb d_MO_stands_20 ?_
      cases hT
      exact r_zret F hlk hr hS (Or.inr rfl) d_MO_stands_21
  · replace hT := (if_neg c3).symm.trans hT
    refine r_iconst F.hx F.hb d_MO_stands_9 ?_
    cases hT
    exact r_zret F hlk hr hS (Or.inl rfl) d_MO_stands_10
theorem wn_MO_cell_0 : ∀ i, i < 41 → bA b_MO_cell (0 + i) = wB [42, 42, 27, 182, 1, 76, 154, 0, 7, 4, 167, 0, 18, 28, 155, 0, 9, 28, 16, 7, 164, 0, 7, 5, 167, 0, 4, 3, 181, 0, 145, 42, 180, 0, 145, 153, 0, 5, 3, 172, 28] i := wB_of (by decide +kernel)
theorem d_MO_cell_0 : decode b_MO_cell 0 = .ok (.aload_n 0, 1) := dc_42 (q0_win (r := 0) wn_MO_cell_0 (by decide +kernel))
theorem d_MO_cell_1 : decode b_MO_cell 1 = .ok (.aload_n 0, 1) := dc_42 (q0_win (r := 1) wn_MO_cell_0 (by decide +kernel))
theorem d_MO_cell_2 : decode b_MO_cell 2 = .ok (.iload_n 1, 1) := dc_27 (q0_win (r := 2) wn_MO_cell_0 (by decide +kernel))
theorem d_MO_cell_3 : decode b_MO_cell 3 = .ok (.invokevirtual 332, 3) := dc_182 (qU2_win (r := 3) wn_MO_cell_0 (by decide +kernel))
theorem d_MO_cell_6 : decode b_MO_cell 6 = .ok (.ifCond .ne 7, 3) := dc_154 (qS2_win (r := 6) wn_MO_cell_0 (by decide +kernel))
theorem d_MO_cell_9 : decode b_MO_cell 9 = .ok (.iconst 1, 1) := dc_4 (q0_win (r := 9) wn_MO_cell_0 (by decide +kernel))
theorem d_MO_cell_10 : decode b_MO_cell 10 = .ok (.goto 18, 3) := dc_167 (qS2_win (r := 10) wn_MO_cell_0 (by decide +kernel))
theorem d_MO_cell_13 : decode b_MO_cell 13 = .ok (.iload_n 2, 1) := dc_28 (q0_win (r := 13) wn_MO_cell_0 (by decide +kernel))
theorem d_MO_cell_14 : decode b_MO_cell 14 = .ok (.ifCond .lt 9, 3) := dc_155 (qS2_win (r := 14) wn_MO_cell_0 (by decide +kernel))
theorem d_MO_cell_17 : decode b_MO_cell 17 = .ok (.iload_n 2, 1) := dc_28 (q0_win (r := 17) wn_MO_cell_0 (by decide +kernel))
theorem d_MO_cell_18 : decode b_MO_cell 18 = .ok (.bipush 7, 2) := dc_16 (qS1_win (r := 18) wn_MO_cell_0 (by decide +kernel))
theorem d_MO_cell_20 : decode b_MO_cell 20 = .ok (.if_icmp .le 7, 3) := dc_164 (qS2_win (r := 20) wn_MO_cell_0 (by decide +kernel))
theorem d_MO_cell_23 : decode b_MO_cell 23 = .ok (.iconst 2, 1) := dc_5 (q0_win (r := 23) wn_MO_cell_0 (by decide +kernel))
theorem d_MO_cell_24 : decode b_MO_cell 24 = .ok (.goto 4, 3) := dc_167 (qS2_win (r := 24) wn_MO_cell_0 (by decide +kernel))
theorem d_MO_cell_27 : decode b_MO_cell 27 = .ok (.iconst 0, 1) := dc_3 (q0_win (r := 27) wn_MO_cell_0 (by decide +kernel))
theorem d_MO_cell_28 : decode b_MO_cell 28 = .ok (.putfield 145, 3) := dc_181 (qU2_win (r := 28) wn_MO_cell_0 (by decide +kernel))
theorem d_MO_cell_31 : decode b_MO_cell 31 = .ok (.aload_n 0, 1) := dc_42 (q0_win (r := 31) wn_MO_cell_0 (by decide +kernel))
theorem d_MO_cell_32 : decode b_MO_cell 32 = .ok (.getfield 145, 3) := dc_180 (qU2_win (r := 32) wn_MO_cell_0 (by decide +kernel))
theorem d_MO_cell_35 : decode b_MO_cell 35 = .ok (.ifCond .eq 5, 3) := dc_153 (qS2_win (r := 35) wn_MO_cell_0 (by decide +kernel))
theorem d_MO_cell_38 : decode b_MO_cell 38 = .ok (.iconst 0, 1) := dc_3 (q0_win (r := 38) wn_MO_cell_0 (by decide +kernel))
theorem d_MO_cell_39 : decode b_MO_cell 39 = .ok (.ireturn, 1) := dc_172 (q0_win (r := 39) wn_MO_cell_0 (by decide +kernel))
theorem d_MO_cell_40 : decode b_MO_cell 40 = .ok (.iload_n 2, 1) := dc_28 (q0_win (r := 40) wn_MO_cell_0 (by decide +kernel))
theorem d_MO_cell_41 : decode b_MO_cell 41 = .ok (.tableswitch 133 0 6 #[43, 52, 67, 82, 94, 106, 113], 43) := by decide +kernel
theorem wn_MO_cell_84 : ∀ i, i < 95 → bA b_MO_cell (84 + i) = wB [42, 180, 0, 25, 27, 46, 4, 100, 172, 42, 180, 0, 28, 27, 51, 153, 0, 7, 4, 167, 0, 4, 3, 172, 42, 180, 0, 32, 27, 51, 153, 0, 7, 4, 167, 0, 4, 3, 172, 42, 180, 0, 69, 3, 47, 27, 123, 10, 127, 136, 172, 42, 180, 0, 73, 3, 47, 27, 123, 10, 127, 136, 172, 42, 3, 27, 182, 1, 107, 172, 42, 180, 0, 28, 27, 51, 153, 0, 7, 2, 167, 0, 9, 42, 3, 27, 182, 1, 94, 172, 42, 27, 182, 1, 110] i := wB_of (by decide +kernel)
theorem d_MO_cell_84 : decode b_MO_cell 84 = .ok (.aload_n 0, 1) := dc_42 (q0_win (r := 0) wn_MO_cell_84 (by decide +kernel))
theorem d_MO_cell_85 : decode b_MO_cell 85 = .ok (.getfield 25, 3) := dc_180 (qU2_win (r := 1) wn_MO_cell_84 (by decide +kernel))
theorem d_MO_cell_88 : decode b_MO_cell 88 = .ok (.iload_n 1, 1) := dc_27 (q0_win (r := 4) wn_MO_cell_84 (by decide +kernel))
theorem d_MO_cell_89 : decode b_MO_cell 89 = .ok (.iaload, 1) := dc_46 (q0_win (r := 5) wn_MO_cell_84 (by decide +kernel))
theorem d_MO_cell_90 : decode b_MO_cell 90 = .ok (.iconst 1, 1) := dc_4 (q0_win (r := 6) wn_MO_cell_84 (by decide +kernel))
theorem d_MO_cell_91 : decode b_MO_cell 91 = .ok (.isub, 1) := dc_100 (q0_win (r := 7) wn_MO_cell_84 (by decide +kernel))
theorem d_MO_cell_92 : decode b_MO_cell 92 = .ok (.ireturn, 1) := dc_172 (q0_win (r := 8) wn_MO_cell_84 (by decide +kernel))
theorem d_MO_cell_93 : decode b_MO_cell 93 = .ok (.aload_n 0, 1) := dc_42 (q0_win (r := 9) wn_MO_cell_84 (by decide +kernel))
theorem d_MO_cell_94 : decode b_MO_cell 94 = .ok (.getfield 28, 3) := dc_180 (qU2_win (r := 10) wn_MO_cell_84 (by decide +kernel))
theorem d_MO_cell_97 : decode b_MO_cell 97 = .ok (.iload_n 1, 1) := dc_27 (q0_win (r := 13) wn_MO_cell_84 (by decide +kernel))
theorem d_MO_cell_98 : decode b_MO_cell 98 = .ok (.baload, 1) := dc_51 (q0_win (r := 14) wn_MO_cell_84 (by decide +kernel))
theorem d_MO_cell_99 : decode b_MO_cell 99 = .ok (.ifCond .eq 7, 3) := dc_153 (qS2_win (r := 15) wn_MO_cell_84 (by decide +kernel))
theorem d_MO_cell_102 : decode b_MO_cell 102 = .ok (.iconst 1, 1) := dc_4 (q0_win (r := 18) wn_MO_cell_84 (by decide +kernel))
theorem d_MO_cell_103 : decode b_MO_cell 103 = .ok (.goto 4, 3) := dc_167 (qS2_win (r := 19) wn_MO_cell_84 (by decide +kernel))
theorem d_MO_cell_106 : decode b_MO_cell 106 = .ok (.iconst 0, 1) := dc_3 (q0_win (r := 22) wn_MO_cell_84 (by decide +kernel))
theorem d_MO_cell_107 : decode b_MO_cell 107 = .ok (.ireturn, 1) := dc_172 (q0_win (r := 23) wn_MO_cell_84 (by decide +kernel))
theorem d_MO_cell_108 : decode b_MO_cell 108 = .ok (.aload_n 0, 1) := dc_42 (q0_win (r := 24) wn_MO_cell_84 (by decide +kernel))
theorem d_MO_cell_109 : decode b_MO_cell 109 = .ok (.getfield 32, 3) := dc_180 (qU2_win (r := 25) wn_MO_cell_84 (by decide +kernel))
theorem d_MO_cell_112 : decode b_MO_cell 112 = .ok (.iload_n 1, 1) := dc_27 (q0_win (r := 28) wn_MO_cell_84 (by decide +kernel))
theorem d_MO_cell_113 : decode b_MO_cell 113 = .ok (.baload, 1) := dc_51 (q0_win (r := 29) wn_MO_cell_84 (by decide +kernel))
theorem d_MO_cell_114 : decode b_MO_cell 114 = .ok (.ifCond .eq 7, 3) := dc_153 (qS2_win (r := 30) wn_MO_cell_84 (by decide +kernel))
theorem d_MO_cell_117 : decode b_MO_cell 117 = .ok (.iconst 1, 1) := dc_4 (q0_win (r := 33) wn_MO_cell_84 (by decide +kernel))
theorem d_MO_cell_118 : decode b_MO_cell 118 = .ok (.goto 4, 3) := dc_167 (qS2_win (r := 34) wn_MO_cell_84 (by decide +kernel))
theorem d_MO_cell_121 : decode b_MO_cell 121 = .ok (.iconst 0, 1) := dc_3 (q0_win (r := 37) wn_MO_cell_84 (by decide +kernel))
theorem d_MO_cell_122 : decode b_MO_cell 122 = .ok (.ireturn, 1) := dc_172 (q0_win (r := 38) wn_MO_cell_84 (by decide +kernel))
theorem d_MO_cell_123 : decode b_MO_cell 123 = .ok (.aload_n 0, 1) := dc_42 (q0_win (r := 39) wn_MO_cell_84 (by decide +kernel))
theorem d_MO_cell_124 : decode b_MO_cell 124 = .ok (.getfield 69, 3) := dc_180 (qU2_win (r := 40) wn_MO_cell_84 (by decide +kernel))
theorem d_MO_cell_127 : decode b_MO_cell 127 = .ok (.iconst 0, 1) := dc_3 (q0_win (r := 43) wn_MO_cell_84 (by decide +kernel))
theorem d_MO_cell_128 : decode b_MO_cell 128 = .ok (.laload, 1) := dc_47 (q0_win (r := 44) wn_MO_cell_84 (by decide +kernel))
theorem d_MO_cell_129 : decode b_MO_cell 129 = .ok (.iload_n 1, 1) := dc_27 (q0_win (r := 45) wn_MO_cell_84 (by decide +kernel))
theorem d_MO_cell_130 : decode b_MO_cell 130 = .ok (.lshr, 1) := dc_123 (q0_win (r := 46) wn_MO_cell_84 (by decide +kernel))
theorem d_MO_cell_131 : decode b_MO_cell 131 = .ok (.lconst 1, 1) := dc_10 (q0_win (r := 47) wn_MO_cell_84 (by decide +kernel))
theorem d_MO_cell_132 : decode b_MO_cell 132 = .ok (.land, 1) := dc_127 (q0_win (r := 48) wn_MO_cell_84 (by decide +kernel))
theorem d_MO_cell_133 : decode b_MO_cell 133 = .ok (.l2i, 1) := dc_136 (q0_win (r := 49) wn_MO_cell_84 (by decide +kernel))
theorem d_MO_cell_134 : decode b_MO_cell 134 = .ok (.ireturn, 1) := dc_172 (q0_win (r := 50) wn_MO_cell_84 (by decide +kernel))
theorem d_MO_cell_135 : decode b_MO_cell 135 = .ok (.aload_n 0, 1) := dc_42 (q0_win (r := 51) wn_MO_cell_84 (by decide +kernel))
theorem d_MO_cell_136 : decode b_MO_cell 136 = .ok (.getfield 73, 3) := dc_180 (qU2_win (r := 52) wn_MO_cell_84 (by decide +kernel))
theorem d_MO_cell_139 : decode b_MO_cell 139 = .ok (.iconst 0, 1) := dc_3 (q0_win (r := 55) wn_MO_cell_84 (by decide +kernel))
theorem d_MO_cell_140 : decode b_MO_cell 140 = .ok (.laload, 1) := dc_47 (q0_win (r := 56) wn_MO_cell_84 (by decide +kernel))
theorem d_MO_cell_141 : decode b_MO_cell 141 = .ok (.iload_n 1, 1) := dc_27 (q0_win (r := 57) wn_MO_cell_84 (by decide +kernel))
theorem d_MO_cell_142 : decode b_MO_cell 142 = .ok (.lshr, 1) := dc_123 (q0_win (r := 58) wn_MO_cell_84 (by decide +kernel))
theorem d_MO_cell_143 : decode b_MO_cell 143 = .ok (.lconst 1, 1) := dc_10 (q0_win (r := 59) wn_MO_cell_84 (by decide +kernel))
theorem d_MO_cell_144 : decode b_MO_cell 144 = .ok (.land, 1) := dc_127 (q0_win (r := 60) wn_MO_cell_84 (by decide +kernel))
theorem d_MO_cell_145 : decode b_MO_cell 145 = .ok (.l2i, 1) := dc_136 (q0_win (r := 61) wn_MO_cell_84 (by decide +kernel))
theorem d_MO_cell_146 : decode b_MO_cell 146 = .ok (.ireturn, 1) := dc_172 (q0_win (r := 62) wn_MO_cell_84 (by decide +kernel))
theorem d_MO_cell_147 : decode b_MO_cell 147 = .ok (.aload_n 0, 1) := dc_42 (q0_win (r := 63) wn_MO_cell_84 (by decide +kernel))
theorem d_MO_cell_148 : decode b_MO_cell 148 = .ok (.iconst 0, 1) := dc_3 (q0_win (r := 64) wn_MO_cell_84 (by decide +kernel))
theorem d_MO_cell_149 : decode b_MO_cell 149 = .ok (.iload_n 1, 1) := dc_27 (q0_win (r := 65) wn_MO_cell_84 (by decide +kernel))
theorem d_MO_cell_150 : decode b_MO_cell 150 = .ok (.invokevirtual 363, 3) := dc_182 (qU2_win (r := 66) wn_MO_cell_84 (by decide +kernel))
theorem d_MO_cell_153 : decode b_MO_cell 153 = .ok (.ireturn, 1) := dc_172 (q0_win (r := 69) wn_MO_cell_84 (by decide +kernel))
theorem d_MO_cell_154 : decode b_MO_cell 154 = .ok (.aload_n 0, 1) := dc_42 (q0_win (r := 70) wn_MO_cell_84 (by decide +kernel))
theorem d_MO_cell_155 : decode b_MO_cell 155 = .ok (.getfield 28, 3) := dc_180 (qU2_win (r := 71) wn_MO_cell_84 (by decide +kernel))
theorem d_MO_cell_158 : decode b_MO_cell 158 = .ok (.iload_n 1, 1) := dc_27 (q0_win (r := 74) wn_MO_cell_84 (by decide +kernel))
theorem d_MO_cell_159 : decode b_MO_cell 159 = .ok (.baload, 1) := dc_51 (q0_win (r := 75) wn_MO_cell_84 (by decide +kernel))
theorem d_MO_cell_160 : decode b_MO_cell 160 = .ok (.ifCond .eq 7, 3) := dc_153 (qS2_win (r := 76) wn_MO_cell_84 (by decide +kernel))
theorem d_MO_cell_163 : decode b_MO_cell 163 = .ok (.iconst (-1), 1) := dc_2 (q0_win (r := 79) wn_MO_cell_84 (by decide +kernel))
theorem d_MO_cell_164 : decode b_MO_cell 164 = .ok (.goto 9, 3) := dc_167 (qS2_win (r := 80) wn_MO_cell_84 (by decide +kernel))
theorem d_MO_cell_167 : decode b_MO_cell 167 = .ok (.aload_n 0, 1) := dc_42 (q0_win (r := 83) wn_MO_cell_84 (by decide +kernel))
theorem d_MO_cell_168 : decode b_MO_cell 168 = .ok (.iconst 0, 1) := dc_3 (q0_win (r := 84) wn_MO_cell_84 (by decide +kernel))
theorem d_MO_cell_169 : decode b_MO_cell 169 = .ok (.iload_n 1, 1) := dc_27 (q0_win (r := 85) wn_MO_cell_84 (by decide +kernel))
theorem d_MO_cell_170 : decode b_MO_cell 170 = .ok (.invokevirtual 350, 3) := dc_182 (qU2_win (r := 86) wn_MO_cell_84 (by decide +kernel))
theorem d_MO_cell_173 : decode b_MO_cell 173 = .ok (.ireturn, 1) := dc_172 (q0_win (r := 89) wn_MO_cell_84 (by decide +kernel))
theorem d_MO_cell_174 : decode b_MO_cell 174 = .ok (.aload_n 0, 1) := dc_42 (q0_win (r := 90) wn_MO_cell_84 (by decide +kernel))
theorem d_MO_cell_175 : decode b_MO_cell 175 = .ok (.iload_n 1, 1) := dc_27 (q0_win (r := 91) wn_MO_cell_84 (by decide +kernel))
theorem d_MO_cell_176 : decode b_MO_cell 176 = .ok (.invokevirtual 366, 3) := dc_182 (qU2_win (r := 92) wn_MO_cell_84 (by decide +kernel))
theorem wn_MO_cell_179 : ∀ i, i < 9 → bA b_MO_cell (179 + i) = wB [153, 0, 7, 4, 167, 0, 4, 3, 172] i := wB_of (by decide +kernel)
theorem d_MO_cell_179 : decode b_MO_cell 179 = .ok (.ifCond .eq 7, 3) := dc_153 (qS2_win (r := 0) wn_MO_cell_179 (by decide +kernel))
theorem d_MO_cell_182 : decode b_MO_cell 182 = .ok (.iconst 1, 1) := dc_4 (q0_win (r := 3) wn_MO_cell_179 (by decide +kernel))
theorem d_MO_cell_183 : decode b_MO_cell 183 = .ok (.goto 4, 3) := dc_167 (qS2_win (r := 4) wn_MO_cell_179 (by decide +kernel))
theorem d_MO_cell_186 : decode b_MO_cell 186 = .ok (.iconst 0, 1) := dc_3 (q0_win (r := 7) wn_MO_cell_179 (by decide +kernel))
theorem d_MO_cell_187 : decode b_MO_cell 187 = .ok (.ireturn, 1) := dc_172 (q0_win (r := 8) wn_MO_cell_179 (by decide +kernel))
def t_MO_cell_L28 (x1 : Int) (x2 : Int)  (M : Mem) (v4_ : Int) : Option (Mem × Int) := (qlet (setI M 191 0 v4_) fun M6 => (if (M6.1 191 0) = 0 then (if x2 = 0 then (qguard (0 ≤ x1 ∧ x1 < 96) (some (M6, (w32 ((M6.1 197 x1) - 1))))) else (if x2 = 1 then (qguard (0 ≤ x1 ∧ x1 < 96) (if (M6.1 198 x1) = 0 then (some (M6, 0)) else (some (M6, 1)))) else (if x2 = 2 then (qguard (0 ≤ x1 ∧ x1 < 96) (if (M6.1 199 x1) = 0 then (some (M6, 0)) else (some (M6, 1)))) else (if x2 = 3 then (some (M6, (q_l2i ((q_lshr (M6.2 210 0) x1) &&& 1)))) else (if x2 = 4 then (some (M6, (q_l2i ((q_lshr (M6.2 211 0) x1) &&& 1)))) else (if x2 = 5 then (obind (t_MO_thingIn M6 0 x1) fun q23 => (some (M6, q23))) else (if x2 = 6 then (qguard (0 ≤ x1 ∧ x1 < 96) (if (M6.1 198 x1) = 0 then (obind (t_MO_nextOf M6 0 x1) fun q29 => (some (M6, q29))) else (some (M6, (-1))))) else (obind (t_MO_stands M6 x1) fun q31 => (if q31 = 0 then (some (M6, 0)) else (some (M6, 1))))))))))) else (some (M6, 0))))
def t_MO_cell_L23 (x1 : Int) (x2 : Int)  (M : Mem)  : Option (Mem × Int) := (t_MO_cell_L28 x1 x2 M 2)
def t_MO_cell (M : Mem) (x1 : Int) (x2 : Int) : Option (Mem × Int) := (qlet (t_MO_isCell M x1) fun q1 => (if q1 = 0 then (t_MO_cell_L28 x1 x2 M 1) else (if x2 < 0 then (t_MO_cell_L23 x1 x2 M) else (if x2 ≤ 7 then (t_MO_cell_L28 x1 x2 M 0) else (t_MO_cell_L23 x1 x2 M)))))
set_option maxHeartbeats 4000000 in
set_option maxRecDepth 100000 in
theorem k_MO_cell_L28 (l : Launch) {p : Program} {e : Env} {s : State} {m : MethodId} {below : List Frame} {meth : Method} {c : Code} {b n : Nat} {C : CT} (hlo : 231 ≤ n) (x1 : Int) (x2 : Int) (hx1 : InR x1) (hx2 : InR x2) (F : Cx b p m c b_MO_cell 3 s ([.ref (b + 191), vI x1, vI x2] : List Value).toArray "WardFallsModel" C n 231) (hlk : meth.locks = false) (hr : meth.sig.returnType = some .int) {res : Mem × Int} (M : Mem) (v4_ : Int) (hv4_ : InR v4_) (H : Heap) (locs : List Loc) (ls : Array Slot) (hS : St b C n M s H locs) (hl : lv_has ls 3 [(0, .ref (b + 191)), (1, vI x1), (2, vI x2)]) (hT : t_MO_cell_L28 x1 x2 M v4_ = some res) : W p l e (headSpec (wsM y_MO_cell b_MO_cell 3 (some .int)) (rmD 2)).room s m ([.ref (b + 191), vI x1, vI x2] : List Value).toArray below meth c H locs 0 0 (MQ below (QI b C n res.1 res.2) ([.ref (b + 191), vI x1, vI x2] : List Value).toArray s 0 0 (frb b)) (F0 m 28 ls [vI v4_, .ref (b + 191)]) := by
  unfold t_MO_cell_L28 at hT
  refine r_putI (N := 68) (T := T1) (j := 0) F hS (show 191 < 231 by decide) (show shK 191 = 5 from rfl) (show shN 191 = 68 from rfl) rfl (Nat.le_of_ble_eq_true rfl) ing1 tyok1 nm1 rfl rfl rfl rfl rfl rfl mw_1389 hv4_ d_MO_cell_28 (fun H locs hS => ?_)
  obtain ⟨M6, eM6⟩ : ∃ q, q = (setI M 191 0 v4_) := ⟨_, rfl⟩
  replace hS : St b C n M6 s H locs := by rw [eM6]; exact hS
  replace hT := qlet_eq hT eM6
  refine lv_aload_n F.hx F.hb d_MO_cell_31 rfl (lv_at hl 0 rfl) ?_
  refine r_get (v := vI (M6.1 191 0)) (N := 68) (T := T1) (j := 0) F hS (show 191 < 231 by decide) (show shK 191 = 5 from rfl) (show shN 191 = 68 from rfl) rfl (Nat.le_of_ble_eq_true rfl) ing1 mw_1389 (fv_int rfl) d_MO_cell_32 ?_
  have i7 := hS.rng 191 0
  refine r_if_eq (tgt := 40) F.hx F.hb i7 d_MO_cell_35 (by decide) (fun c8 => ?_) (fun c8 => ?_)
  · replace hT := (if_pos c8).symm.trans hT
    refine lv_iload_n F.hx F.hb d_MO_cell_40 rfl (lv_at hl 2 rfl) ?_
    rcases q_ite hT with ⟨c9, hT⟩ | ⟨c9, hT⟩
    · refine r_tableIn (i := 0) (tgt := 84) F.hx F.hb hx2 c9 d_MO_cell_41 (by decide) (by decide) rfl (by decide) ?_
      refine lv_aload_n F.hx F.hb d_MO_cell_84 rfl (lv_at hl 0 rfl) ?_
      refine r_get (v := .ref (b + 197)) (N := 68) (T := T1) (j := 7) F hS (show 191 < 231 by decide) (show shK 191 = 5 from rfl) (show shN 191 = 68 from rfl) rfl (Nat.le_of_ble_eq_true rfl) ing1 mw_1396 (fv_sg rfl rfl rfl) d_MO_cell_85 ?_
      refine lv_iload_n F.hx F.hb d_MO_cell_88 rfl (lv_at hl 1 rfl) ?_
      obtain ⟨⟨g10a, g10b⟩, hT⟩ := q_guard hT
      refine r_iald F hS (show 197 < 231 by decide) (show shK 197 = 0 from rfl) (show shN 197 = 96 from rfl) hx1 g10a g10b d_MO_cell_89 ?_
      have i11 := hS.rng 197 x1
      refine r_iconst F.hx F.hb d_MO_cell_90 ?_
      refine r_isub F.hx F.hb d_MO_cell_91 ?_
      cases hT
      exact r_iret F hlk hr rfl hS (inr_w32 _) d_MO_cell_92
    ·
      rcases q_ite hT with ⟨c12, hT⟩ | ⟨c12, hT⟩
      · refine r_tableIn (i := 1) (tgt := 93) F.hx F.hb hx2 c12 d_MO_cell_41 (by decide) (by decide) rfl (by decide) ?_
        refine lv_aload_n F.hx F.hb d_MO_cell_93 rfl (lv_at hl 0 rfl) ?_
        refine r_get (v := .ref (b + 198)) (N := 68) (T := T1) (j := 8) F hS (show 191 < 231 by decide) (show shK 191 = 5 from rfl) (show shN 191 = 68 from rfl) rfl (Nat.le_of_ble_eq_true rfl) ing1 mw_1397 (fv_sg rfl rfl rfl) d_MO_cell_94 ?_
        refine lv_iload_n F.hx F.hb d_MO_cell_97 rfl (lv_at hl 1 rfl) ?_
        obtain ⟨⟨g13a, g13b⟩, hT⟩ := q_guard hT
        have z14 := hS.bool (show shK 198 = 1 from rfl) x1
        refine r_zald F hS (show 198 < 231 by decide) (show shK 198 = 1 from rfl) (show shN 198 = 96 from rfl) hx1 g13a g13b d_MO_cell_98 ?_
        refine r_if_eq (tgt := 106) F.hx F.hb (inr_z z14) d_MO_cell_99 (by decide) (fun c15 => ?_) (fun c15 => ?_)
        · replace hT := (if_pos c15).symm.trans hT
          refine r_iconst F.hx F.hb d_MO_cell_106 ?_
          cases hT
          exact r_iret F hlk hr rfl hS (inr_c rfl) d_MO_cell_107
        · replace hT := (if_neg c15).symm.trans hT
          refine r_iconst F.hx F.hb d_MO_cell_102 ?_
          refine lv_goto (tgt := 107) F.hx F.hb d_MO_cell_103 (by decide) ?_
          cases hT
          exact r_iret F hlk hr rfl hS (inr_c rfl) d_MO_cell_107
      ·
        rcases q_ite hT with ⟨c16, hT⟩ | ⟨c16, hT⟩
        · refine r_tableIn (i := 2) (tgt := 108) F.hx F.hb hx2 c16 d_MO_cell_41 (by decide) (by decide) rfl (by decide) ?_
          refine lv_aload_n F.hx F.hb d_MO_cell_108 rfl (lv_at hl 0 rfl) ?_
          refine r_get (v := .ref (b + 199)) (N := 68) (T := T1) (j := 9) F hS (show 191 < 231 by decide) (show shK 191 = 5 from rfl) (show shN 191 = 68 from rfl) rfl (Nat.le_of_ble_eq_true rfl) ing1 mw_1398 (fv_sg rfl rfl rfl) d_MO_cell_109 ?_
          refine lv_iload_n F.hx F.hb d_MO_cell_112 rfl (lv_at hl 1 rfl) ?_
          obtain ⟨⟨g17a, g17b⟩, hT⟩ := q_guard hT
          have z18 := hS.bool (show shK 199 = 1 from rfl) x1
          refine r_zald F hS (show 199 < 231 by decide) (show shK 199 = 1 from rfl) (show shN 199 = 96 from rfl) hx1 g17a g17b d_MO_cell_113 ?_
          refine r_if_eq (tgt := 121) F.hx F.hb (inr_z z18) d_MO_cell_114 (by decide) (fun c19 => ?_) (fun c19 => ?_)
          · replace hT := (if_pos c19).symm.trans hT
            refine r_iconst F.hx F.hb d_MO_cell_121 ?_
            cases hT
            exact r_iret F hlk hr rfl hS (inr_c rfl) d_MO_cell_122
          · replace hT := (if_neg c19).symm.trans hT
            refine r_iconst F.hx F.hb d_MO_cell_117 ?_
            refine lv_goto (tgt := 122) F.hx F.hb d_MO_cell_118 (by decide) ?_
            cases hT
            exact r_iret F hlk hr rfl hS (inr_c rfl) d_MO_cell_122
        ·
          rcases q_ite hT with ⟨c20, hT⟩ | ⟨c20, hT⟩
          · refine r_tableIn (i := 3) (tgt := 123) F.hx F.hb hx2 c20 d_MO_cell_41 (by decide) (by decide) rfl (by decide) ?_
            refine lv_aload_n F.hx F.hb d_MO_cell_123 rfl (lv_at hl 0 rfl) ?_
            refine r_get (v := .ref (b + 210)) (N := 68) (T := T1) (j := 33) F hS (show 191 < 231 by decide) (show shK 191 = 5 from rfl) (show shN 191 = 68 from rfl) rfl (Nat.le_of_ble_eq_true rfl) ing1 mw_1422 (fv_sg rfl rfl rfl) d_MO_cell_124 ?_
            refine r_iconst F.hx F.hb d_MO_cell_127 ?_
            refine r_lald F hS (show 210 < 231 by decide) (show shK 210 = 2 from rfl) (show shN 210 = 23 from rfl) (inr_c rfl) (by omega) (by omega) d_MO_cell_128 ?_
            refine lv_iload_n F.hx F.hb d_MO_cell_129 rfl (lv_at hl 1 rfl) ?_
            refine r_lshr F.hx F.hb d_MO_cell_130 ?_
            refine lv_lconst (v := 1) F.hx F.hb d_MO_cell_131 rfl ?_
            refine lv_land F.hx F.hb d_MO_cell_132 ?_
            refine r_l2i F.hx F.hb d_MO_cell_133 ?_
            cases hT
            exact r_iret F hlk hr rfl hS (q_inr_toInt _) d_MO_cell_134
          ·
            rcases q_ite hT with ⟨c21, hT⟩ | ⟨c21, hT⟩
            · refine r_tableIn (i := 4) (tgt := 135) F.hx F.hb hx2 c21 d_MO_cell_41 (by decide) (by decide) rfl (by decide) ?_
              refine lv_aload_n F.hx F.hb d_MO_cell_135 rfl (lv_at hl 0 rfl) ?_
              refine r_get (v := .ref (b + 211)) (N := 68) (T := T1) (j := 34) F hS (show 191 < 231 by decide) (show shK 191 = 5 from rfl) (show shN 191 = 68 from rfl) rfl (Nat.le_of_ble_eq_true rfl) ing1 mw_1423 (fv_sg rfl rfl rfl) d_MO_cell_136 ?_
              refine r_iconst F.hx F.hb d_MO_cell_139 ?_
              refine r_lald F hS (show 211 < 231 by decide) (show shK 211 = 2 from rfl) (show shN 211 = 23 from rfl) (inr_c rfl) (by omega) (by omega) d_MO_cell_140 ?_
              refine lv_iload_n F.hx F.hb d_MO_cell_141 rfl (lv_at hl 1 rfl) ?_
              refine r_lshr F.hx F.hb d_MO_cell_142 ?_
              refine lv_lconst (v := 1) F.hx F.hb d_MO_cell_143 rfl ?_
              refine lv_land F.hx F.hb d_MO_cell_144 ?_
              refine r_l2i F.hx F.hb d_MO_cell_145 ?_
              cases hT
              exact r_iret F hlk hr rfl hS (q_inr_toInt _) d_MO_cell_146
            ·
              rcases q_ite hT with ⟨c22, hT⟩ | ⟨c22, hT⟩
              · refine r_tableIn (i := 5) (tgt := 147) F.hx F.hb hx2 c22 d_MO_cell_41 (by decide) (by decide) rfl (by decide) ?_
                refine lv_aload_n F.hx F.hb d_MO_cell_147 rfl (lv_at hl 0 rfl) ?_
                refine r_iconst F.hx F.hb d_MO_cell_148 ?_
                refine lv_iload_n F.hx F.hb d_MO_cell_149 rfl (lv_at hl 1 rfl) ?_
                obtain ⟨q23, hq23, hT⟩ := q_obind hT
                refine r_backI F hS (r_runV (k := 191) (N := 68) (T := T1) (As := [vI 0, vI x1]) F hS (show 191 < 231 by decide) (show shK 191 = 5 from rfl) rfl (c_MO_thingIn l F.2.2.1 M6 0 x1 (inr_c rfl) hx1 _ hq23) gs_MO_363 hd_MO_thingIn ⟨Nat.le_of_ble_eq_true rfl, Nat.le_of_ble_eq_true rfl⟩ rfl hl.1 (Nat.le_of_ble_eq_true rfl) ⟨Nat.zero_le _, Nat.zero_le _⟩ rfl d_MO_cell_150) (fun H locs hS h24 => ?_)
                cases hT
                exact r_iret F hlk hr rfl hS h24 d_MO_cell_153
              ·
                rcases q_ite hT with ⟨c25, hT⟩ | ⟨c25, hT⟩
                · refine r_tableIn (i := 6) (tgt := 154) F.hx F.hb hx2 c25 d_MO_cell_41 (by decide) (by decide) rfl (by decide) ?_
                  refine lv_aload_n F.hx F.hb d_MO_cell_154 rfl (lv_at hl 0 rfl) ?_
                  refine r_get (v := .ref (b + 198)) (N := 68) (T := T1) (j := 8) F hS (show 191 < 231 by decide) (show shK 191 = 5 from rfl) (show shN 191 = 68 from rfl) rfl (Nat.le_of_ble_eq_true rfl) ing1 mw_1397 (fv_sg rfl rfl rfl) d_MO_cell_155 ?_
                  refine lv_iload_n F.hx F.hb d_MO_cell_158 rfl (lv_at hl 1 rfl) ?_
                  obtain ⟨⟨g26a, g26b⟩, hT⟩ := q_guard hT
                  have z27 := hS.bool (show shK 198 = 1 from rfl) x1
                  refine r_zald F hS (show 198 < 231 by decide) (show shK 198 = 1 from rfl) (show shN 198 = 96 from rfl) hx1 g26a g26b d_MO_cell_159 ?_
                  refine r_if_eq (tgt := 167) F.hx F.hb (inr_z z27) d_MO_cell_160 (by decide) (fun c28 => ?_) (fun c28 => ?_)
                  · replace hT := (if_pos c28).symm.trans hT
                    refine lv_aload_n F.hx F.hb d_MO_cell_167 rfl (lv_at hl 0 rfl) ?_
                    refine r_iconst F.hx F.hb d_MO_cell_168 ?_
                    refine lv_iload_n F.hx F.hb d_MO_cell_169 rfl (lv_at hl 1 rfl) ?_
                    obtain ⟨q29, hq29, hT⟩ := q_obind hT
                    refine r_backI F hS (r_runV (k := 191) (N := 68) (T := T1) (As := [vI 0, vI x1]) F hS (show 191 < 231 by decide) (show shK 191 = 5 from rfl) rfl (c_MO_nextOf l F.2.2.1 M6 0 x1 (inr_c rfl) hx1 _ hq29) gs_MO_350 hd_MO_nextOf ⟨Nat.le_of_ble_eq_true rfl, Nat.le_of_ble_eq_true rfl⟩ rfl hl.1 (Nat.le_of_ble_eq_true rfl) ⟨Nat.zero_le _, Nat.zero_le _⟩ rfl d_MO_cell_170) (fun H locs hS h30 => ?_)
                    cases hT
                    exact r_iret F hlk hr rfl hS h30 d_MO_cell_173
                  · replace hT := (if_neg c28).symm.trans hT
                    refine r_iconst F.hx F.hb d_MO_cell_163 ?_
                    refine lv_goto (tgt := 173) F.hx F.hb d_MO_cell_164 (by decide) ?_
                    cases hT
                    exact r_iret F hlk hr rfl hS (inr_c rfl) d_MO_cell_173
                ·
                  refine r_tableOut (tgt := 174) F.hx F.hb hx2 (by omega) d_MO_cell_41 (by decide) ?_
                  refine lv_aload_n F.hx F.hb d_MO_cell_174 rfl (lv_at hl 0 rfl) ?_
                  refine lv_iload_n F.hx F.hb d_MO_cell_175 rfl (lv_at hl 1 rfl) ?_
                  obtain ⟨q31, hq31, hT⟩ := q_obind hT
                  refine r_backZ F hS (r_runV (k := 191) (N := 68) (T := T1) (As := [vI x1]) F hS (show 191 < 231 by decide) (show shK 191 = 5 from rfl) rfl (c_MO_stands l F.2.2.1 M6 x1 hx1 _ hq31) gs_MO_366 hd_MO_stands ⟨Nat.le_of_ble_eq_true rfl, Nat.le_of_ble_eq_true rfl⟩ rfl hl.1 (Nat.le_of_ble_eq_true rfl) ⟨Nat.zero_le _, Nat.zero_le _⟩ rfl d_MO_cell_176) (fun H locs hS h32 => ?_)
                  refine r_if_eq (tgt := 186) F.hx F.hb (inr_z h32) d_MO_cell_179 (by decide) (fun c33 => ?_) (fun c33 => ?_)
                  · replace hT := (if_pos c33).symm.trans hT
                    refine r_iconst F.hx F.hb d_MO_cell_186 ?_
                    cases hT
                    exact r_iret F hlk hr rfl hS (inr_c rfl) d_MO_cell_187
                  · replace hT := (if_neg c33).symm.trans hT
                    refine r_iconst F.hx F.hb d_MO_cell_182 ?_
                    refine lv_goto (tgt := 187) F.hx F.hb d_MO_cell_183 (by decide) ?_
                    cases hT
                    exact r_iret F hlk hr rfl hS (inr_c rfl) d_MO_cell_187
  · replace hT := (if_neg c8).symm.trans hT
    refine r_iconst F.hx F.hb d_MO_cell_38 ?_
    cases hT
    exact r_iret F hlk hr rfl hS (inr_c rfl) d_MO_cell_39
set_option maxHeartbeats 4000000 in
set_option maxRecDepth 100000 in
theorem k_MO_cell_L23 (l : Launch) {p : Program} {e : Env} {s : State} {m : MethodId} {below : List Frame} {meth : Method} {c : Code} {b n : Nat} {C : CT} (hlo : 231 ≤ n) (x1 : Int) (x2 : Int) (hx1 : InR x1) (hx2 : InR x2) (F : Cx b p m c b_MO_cell 3 s ([.ref (b + 191), vI x1, vI x2] : List Value).toArray "WardFallsModel" C n 231) (hlk : meth.locks = false) (hr : meth.sig.returnType = some .int) {res : Mem × Int} (M : Mem)  (H : Heap) (locs : List Loc) (ls : Array Slot) (hS : St b C n M s H locs) (hl : lv_has ls 3 [(0, .ref (b + 191)), (1, vI x1), (2, vI x2)]) (hT : t_MO_cell_L23 x1 x2 M = some res) : W p l e (headSpec (wsM y_MO_cell b_MO_cell 3 (some .int)) (rmD 2)).room s m ([.ref (b + 191), vI x1, vI x2] : List Value).toArray below meth c H locs 0 0 (MQ below (QI b C n res.1 res.2) ([.ref (b + 191), vI x1, vI x2] : List Value).toArray s 0 0 (frb b)) (F0 m 23 ls [.ref (b + 191)]) := by
  unfold t_MO_cell_L23 at hT
  refine r_iconst F.hx F.hb d_MO_cell_23 ?_
  refine lv_goto (tgt := 28) F.hx F.hb d_MO_cell_24 (by decide) ?_
  exact k_MO_cell_L28 l hlo x1 x2 hx1 hx2 F hlk hr M 2 (inr_c rfl) _ _ _ hS (lv_sub hl [0, 1, 2] rfl) hT
set_option maxHeartbeats 4000000 in
set_option maxRecDepth 100000 in
theorem c_MO_cell (l : Launch) {b n : Nat} {C : CT} (hlo : 231 ≤ n) (M : Mem) (x1 : Int) (x2 : Int) (hx1 : InR x1) (hx2 : InR x2) (res : Mem × Int) (hT : t_MO_cell M x1 x2 = some res) : CM l b C n 2 y_MO_cell b_MO_cell 3 (some .int) [.ref (b + 191), vI x1, vI x2] M (QI b C n res.1 res.2) := by
  refine CM.of (lo := 231) (ow := "WardFallsModel") (by decide) rfl (Nat.le_of_ble_eq_true rfl) hlo (fun p e s m below meth c F hlk hr hS ls hl => ?_)
  have hl : lv_has ls 3 [(0, .ref (b + 191)), (1, vI x1), (2, vI x2)] := hl
  unfold t_MO_cell at hT
  refine lv_aload_n F.hx F.hb d_MO_cell_0 rfl (lv_at hl 0 rfl) ?_
  refine lv_aload_n F.hx F.hb d_MO_cell_1 rfl (lv_at hl 0 rfl) ?_
  refine lv_iload_n F.hx F.hb d_MO_cell_2 rfl (lv_at hl 1 rfl) ?_
  obtain ⟨q1, hq1⟩ : ∃ q, q = (t_MO_isCell M x1) := ⟨_, rfl⟩
  replace hT := qlet_eq hT hq1
  refine r_backZ F hS (r_runV (k := 191) (N := 68) (T := T1) (As := [vI x1]) F hS (show 191 < 231 by decide) (show shK 191 = 5 from rfl) rfl (c_MO_isCell l F.2.2.1 M x1 hx1 _ hq1.symm) gs_MO_332 hd_MO_isCell ⟨Nat.le_of_ble_eq_true rfl, Nat.le_of_ble_eq_true rfl⟩ rfl hl.1 (Nat.le_of_ble_eq_true rfl) ⟨Nat.zero_le _, Nat.zero_le _⟩ rfl d_MO_cell_3) (fun H locs hS h2 => ?_)
  refine r_if_ne (tgt := 13) F.hx F.hb (inr_z h2) d_MO_cell_6 (by decide) (fun c3 => ?_) (fun c3 => ?_)
  · replace hT := (if_neg c3).symm.trans hT
    refine lv_iload_n F.hx F.hb d_MO_cell_13 rfl (lv_at hl 2 rfl) ?_
    refine r_if_lt (tgt := 23) F.hx F.hb hx2 d_MO_cell_14 (by decide) (fun c4 => ?_) (fun c4 => ?_)
    · replace hT := (if_pos c4).symm.trans hT
      exact k_MO_cell_L23 l hlo x1 x2 hx1 hx2 F hlk hr M _ _ _ hS (lv_sub hl [0, 1, 2] rfl) hT
    · replace hT := (if_neg c4).symm.trans hT
      refine lv_iload_n F.hx F.hb d_MO_cell_17 rfl (lv_at hl 2 rfl) ?_
      refine r_bipush F.hx F.hb d_MO_cell_18 rfl ?_
      refine r_icmp_le (tgt := 27) F.hx F.hb hx2 (inr_c rfl) d_MO_cell_20 (by decide) (fun c5 => ?_) (fun c5 => ?_)
      · replace hT := (if_pos c5).symm.trans hT
        refine r_iconst F.hx F.hb d_MO_cell_27 ?_
        exact k_MO_cell_L28 l hlo x1 x2 hx1 hx2 F hlk hr M 0 (inr_c rfl) _ _ _ hS (lv_sub hl [0, 1, 2] rfl) hT
      · replace hT := (if_neg c5).symm.trans hT
        exact k_MO_cell_L23 l hlo x1 x2 hx1 hx2 F hlk hr M _ _ _ hS (lv_sub hl [0, 1, 2] rfl) hT
  · replace hT := (if_pos c3).symm.trans hT
    refine r_iconst F.hx F.hb d_MO_cell_9 ?_
    refine lv_goto (tgt := 28) F.hx F.hb d_MO_cell_10 (by decide) ?_
    exact k_MO_cell_L28 l hlo x1 x2 hx1 hx2 F hlk hr M 1 (inr_c rfl) _ _ _ hS (lv_sub hl [0, 1, 2] rfl) hT
theorem d_MO_sizeOf_0 : decode b_MO_sizeOf 0 = .ok (.iconst 0, 1) := dc_3 (by decide +kernel)
theorem d_MO_sizeOf_1 : decode b_MO_sizeOf 1 = .ok (.istore_n 2, 1) := dc_61 (by decide +kernel)
theorem d_MO_sizeOf_2 : decode b_MO_sizeOf 2 = .ok (.iconst 0, 1) := dc_3 (by decide +kernel)
theorem d_MO_sizeOf_3 : decode b_MO_sizeOf 3 = .ok (.istore_n 3, 1) := dc_62 (by decide +kernel)
theorem d_MO_sizeOf_4 : decode b_MO_sizeOf 4 = .ok (.iload_n 3, 1) := dc_29 (by decide +kernel)
theorem d_MO_sizeOf_5 : decode b_MO_sizeOf 5 = .ok (.aload_n 0, 1) := dc_42 (by decide +kernel)
theorem d_MO_sizeOf_6 : decode b_MO_sizeOf 6 = .ok (.invokevirtual 329, 3) := dc_182 (by decide +kernel)
theorem d_MO_sizeOf_9 : decode b_MO_sizeOf 9 = .ok (.if_icmp .ge 29, 3) := dc_162 (by decide +kernel)
theorem d_MO_sizeOf_12 : decode b_MO_sizeOf 12 = .ok (.iload_n 2, 1) := dc_28 (by decide +kernel)
theorem d_MO_sizeOf_13 : decode b_MO_sizeOf 13 = .ok (.aload_n 0, 1) := dc_42 (by decide +kernel)
theorem d_MO_sizeOf_14 : decode b_MO_sizeOf 14 = .ok (.getfield 25, 3) := dc_180 (by decide +kernel)
theorem d_MO_sizeOf_17 : decode b_MO_sizeOf 17 = .ok (.iload_n 3, 1) := dc_29 (by decide +kernel)
theorem d_MO_sizeOf_18 : decode b_MO_sizeOf 18 = .ok (.iaload, 1) := dc_46 (by decide +kernel)
theorem d_MO_sizeOf_19 : decode b_MO_sizeOf 19 = .ok (.iload_n 1, 1) := dc_27 (by decide +kernel)
theorem d_MO_sizeOf_20 : decode b_MO_sizeOf 20 = .ok (.iconst 1, 1) := dc_4 (by decide +kernel)
theorem d_MO_sizeOf_21 : decode b_MO_sizeOf 21 = .ok (.iadd, 1) := dc_96 (by decide +kernel)
theorem d_MO_sizeOf_22 : decode b_MO_sizeOf 22 = .ok (.if_icmp .ne 7, 3) := dc_160 (by decide +kernel)
theorem d_MO_sizeOf_25 : decode b_MO_sizeOf 25 = .ok (.iconst 1, 1) := dc_4 (by decide +kernel)
theorem d_MO_sizeOf_26 : decode b_MO_sizeOf 26 = .ok (.goto 4, 3) := dc_167 (by decide +kernel)
theorem d_MO_sizeOf_29 : decode b_MO_sizeOf 29 = .ok (.iconst 0, 1) := dc_3 (by decide +kernel)
theorem d_MO_sizeOf_30 : decode b_MO_sizeOf 30 = .ok (.iadd, 1) := dc_96 (by decide +kernel)
theorem d_MO_sizeOf_31 : decode b_MO_sizeOf 31 = .ok (.istore_n 2, 1) := dc_61 (by decide +kernel)
theorem d_MO_sizeOf_32 : decode b_MO_sizeOf 32 = .ok (.iinc 3 1, 3) := dc_132 (by decide +kernel)
theorem d_MO_sizeOf_35 : decode b_MO_sizeOf 35 = .ok (.goto (-31), 3) := dc_167 (by decide +kernel)
theorem d_MO_sizeOf_38 : decode b_MO_sizeOf 38 = .ok (.iload_n 2, 1) := dc_28 (by decide +kernel)
theorem d_MO_sizeOf_39 : decode b_MO_sizeOf 39 = .ok (.ireturn, 1) := dc_172 (by decide +kernel)
def t_MO_sizeOf_L30 (x1 : Int) (bk4 : Mem → Int → Int → Option (Int)) (M : Mem) (v2_ : Int) (v3_ : Int) (v4_ : Int) : Option (Int) := (bk4 M (w32 (v3_ + v4_)) (w32 (v2_ + 1)))
def t_MO_sizeOf_L4 (x1 : Int)  : Nat → Mem → Int → Int → Option (Int)
  | 0, _, _, _ => none
  | fu + 1, M, v2_, v3_ => (qlet (t_MO_cells M) fun q1 => (if q1 ≤ v3_ then (some v2_) else (qguard (0 ≤ v3_ ∧ v3_ < 96) (if (M.1 197 v3_) = (w32 (x1 + 1)) then (t_MO_sizeOf_L30 x1 (fun a0_ a1_ a2_ => t_MO_sizeOf_L4 x1 fu a0_ a1_ a2_) M v3_ v2_ 1) else (t_MO_sizeOf_L30 x1 (fun a0_ a1_ a2_ => t_MO_sizeOf_L4 x1 fu a0_ a1_ a2_) M v3_ v2_ 0)))))
def t_MO_sizeOf (M : Mem) (x1 : Int) : Option (Int) := (t_MO_sizeOf_L4 x1 FU M 0 0)
set_option maxHeartbeats 4000000 in
set_option maxRecDepth 100000 in
theorem k_MO_sizeOf_L30 (l : Launch) {p : Program} {e : Env} {s : State} {m : MethodId} {below : List Frame} {meth : Method} {c : Code} {b n : Nat} {C : CT} (hlo : 231 ≤ n) (x1 : Int) (hx1 : InR x1) (F : Cx b p m c b_MO_sizeOf 4 s ([.ref (b + 191), vI x1] : List Value).toArray "WardFallsModel" C n 231) (hlk : meth.locks = false) (hr : meth.sig.returnType = some .int) {res : Int} (bk4 : Mem → Int → Int → Option (Int)) (hbk4 : ∀ (M : Mem) (v2_ : Int) (hv2_ : InR v2_) (v3_ : Int) (hv3_ : InR v3_) (H : Heap) (locs : List Loc) (ls : Array Slot), St b C n M s H locs → lv_has ls 4 [(0, .ref (b + 191)), (1, vI x1), (2, vI v2_), (3, vI v3_)] → bk4 M v2_ v3_ = some res → W p l e (headSpec (wsM y_MO_sizeOf b_MO_sizeOf 4 (some .int)) (rmD 1)).room s m ([.ref (b + 191), vI x1] : List Value).toArray below meth c H locs 0 0 (MQ below (QI b C n M res) ([.ref (b + 191), vI x1] : List Value).toArray s 0 0 (frb b)) (F0 m 4 ls [])) (M : Mem) (v2_ : Int) (hv2_ : InR v2_) (v3_ : Int) (hv3_ : InR v3_) (v4_ : Int) (hv4_ : v4_ = 0 ∨ v4_ = 1) (H : Heap) (locs : List Loc) (ls : Array Slot) (hS : St b C n M s H locs) (hl : lv_has ls 4 [(0, .ref (b + 191)), (1, vI x1), (3, vI v2_)]) (hT : t_MO_sizeOf_L30 x1 bk4 M v2_ v3_ v4_ = some res) : W p l e (headSpec (wsM y_MO_sizeOf b_MO_sizeOf 4 (some .int)) (rmD 1)).room s m ([.ref (b + 191), vI x1] : List Value).toArray below meth c H locs 0 0 (MQ below (QI b C n M res) ([.ref (b + 191), vI x1] : List Value).toArray s 0 0 (frb b)) (F0 m 30 ls [vI v4_, vI v3_]) := by
  unfold t_MO_sizeOf_L30 at hT
  refine r_iadd F.hx F.hb d_MO_sizeOf_30 ?_
  refine lv_istore_n (lv' := [(2, vI (w32 (v3_ + v4_))), (0, .ref (b + 191)), (1, vI x1), (3, vI v2_)]) F.hx F.hb d_MO_sizeOf_31 rfl hl (Nat.le_of_ble_eq_true rfl) rfl (fun ls hl => ?_)
  refine lv_iinc (v := Int32.ofInt (w32 (v2_ + 1))) (lv' := [(3, vI (w32 (v2_ + 1))), (2, vI (w32 (v3_ + v4_))), (0, .ref (b + 191)), (1, vI x1)]) F.hx F.hb d_MO_sizeOf_32 hl (k := 3) rfl (q_of_add _ _) (Nat.le_of_ble_eq_true rfl) rfl (fun ls hl => ?_)
  refine lv_goto (tgt := 4) F.hx F.hb d_MO_sizeOf_35 (by decide) ?_
  exact hbk4 M (w32 (v3_ + v4_)) (inr_w32 _) (w32 (v2_ + 1)) (inr_w32 _) _ _ _ hS (lv_sub hl [2, 3, 1, 0] rfl) hT
set_option maxHeartbeats 4000000 in
set_option maxRecDepth 100000 in
theorem k_MO_sizeOf_L4 (l : Launch) {p : Program} {e : Env} {s : State} {m : MethodId} {below : List Frame} {meth : Method} {c : Code} {b n : Nat} {C : CT} (hlo : 231 ≤ n) (x1 : Int) (hx1 : InR x1) (F : Cx b p m c b_MO_sizeOf 4 s ([.ref (b + 191), vI x1] : List Value).toArray "WardFallsModel" C n 231) (hlk : meth.locks = false) (hr : meth.sig.returnType = some .int) {res : Int} : ∀ (fu : Nat) (M : Mem) (v2_ : Int) (hv2_ : InR v2_) (v3_ : Int) (hv3_ : InR v3_) (H : Heap) (locs : List Loc) (ls : Array Slot), St b C n M s H locs → lv_has ls 4 [(0, .ref (b + 191)), (1, vI x1), (2, vI v2_), (3, vI v3_)] → t_MO_sizeOf_L4 x1 fu M v2_ v3_ = some res → W p l e (headSpec (wsM y_MO_sizeOf b_MO_sizeOf 4 (some .int)) (rmD 1)).room s m ([.ref (b + 191), vI x1] : List Value).toArray below meth c H locs 0 0 (MQ below (QI b C n M res) ([.ref (b + 191), vI x1] : List Value).toArray s 0 0 (frb b)) (F0 m 4 ls []) := by
  intro fu
  induction fu with
  | zero => intro M v2_ hv2_ v3_ hv3_ H locs ls hS hl hT; exact absurd hT (by simp [t_MO_sizeOf_L4])
  | succ fu ih =>
    intro M v2_ hv2_ v3_ hv3_ H locs ls hS hl hT
    rw [t_MO_sizeOf_L4] at hT
    refine lv_iload_n F.hx F.hb d_MO_sizeOf_4 rfl (lv_at hl 3 rfl) ?_
    refine lv_aload_n F.hx F.hb d_MO_sizeOf_5 rfl (lv_at hl 0 rfl) ?_
    obtain ⟨q1, hq1⟩ : ∃ q, q = (t_MO_cells M) := ⟨_, rfl⟩
    replace hT := qlet_eq hT hq1
    refine r_backI F hS (r_runV (k := 191) (N := 68) (T := T1) (As := []) F hS (show 191 < 231 by decide) (show shK 191 = 5 from rfl) rfl (c_MO_cells l F.2.2.1 M _ hq1.symm) gs_MO_329 hd_MO_cells ⟨Nat.le_of_ble_eq_true rfl, Nat.le_of_ble_eq_true rfl⟩ rfl hl.1 (Nat.le_of_ble_eq_true rfl) ⟨Nat.zero_le _, Nat.zero_le _⟩ rfl d_MO_sizeOf_6) (fun H locs hS h2 => ?_)
    refine r_icmp_ge (tgt := 38) F.hx F.hb hv3_ h2 d_MO_sizeOf_9 (by decide) (fun c3 => ?_) (fun c3 => ?_)
    · replace hT := (if_pos c3).symm.trans hT
      refine lv_iload_n F.hx F.hb d_MO_sizeOf_38 rfl (lv_at hl 2 rfl) ?_
      cases hT
      exact r_iret F hlk hr rfl hS hv2_ d_MO_sizeOf_39
    · replace hT := (if_neg c3).symm.trans hT
      refine lv_iload_n F.hx F.hb d_MO_sizeOf_12 rfl (lv_at hl 2 rfl) ?_
      refine lv_aload_n F.hx F.hb d_MO_sizeOf_13 rfl (lv_at hl 0 rfl) ?_
      refine r_get (v := .ref (b + 197)) (N := 68) (T := T1) (j := 7) F hS (show 191 < 231 by decide) (show shK 191 = 5 from rfl) (show shN 191 = 68 from rfl) rfl (Nat.le_of_ble_eq_true rfl) ing1 mw_1396 (fv_sg rfl rfl rfl) d_MO_sizeOf_14 ?_
      refine lv_iload_n F.hx F.hb d_MO_sizeOf_17 rfl (lv_at hl 3 rfl) ?_
      obtain ⟨⟨g4a, g4b⟩, hT⟩ := q_guard hT
      refine r_iald F hS (show 197 < 231 by decide) (show shK 197 = 0 from rfl) (show shN 197 = 96 from rfl) hv3_ g4a g4b d_MO_sizeOf_18 ?_
      have i5 := hS.rng 197 v3_
      refine lv_iload_n F.hx F.hb d_MO_sizeOf_19 rfl (lv_at hl 1 rfl) ?_
      refine r_iconst F.hx F.hb d_MO_sizeOf_20 ?_
      refine r_iadd F.hx F.hb d_MO_sizeOf_21 ?_
      refine r_icmp_ne (tgt := 29) F.hx F.hb i5 (inr_w32 _) d_MO_sizeOf_22 (by decide) (fun c6 => ?_) (fun c6 => ?_)
      · replace hT := (if_neg c6).symm.trans hT
        refine r_iconst F.hx F.hb d_MO_sizeOf_29 ?_
        exact k_MO_sizeOf_L30 l hlo x1 hx1 F hlk hr (fun a0_ a1_ a2_ => t_MO_sizeOf_L4 x1 fu a0_ a1_ a2_) ih M v3_ hv3_ v2_ hv2_ 0 (Or.inl rfl) _ _ _ hS (lv_sub hl [0, 1, 3] rfl) hT
      · replace hT := (if_pos c6).symm.trans hT
        refine r_iconst F.hx F.hb d_MO_sizeOf_25 ?_
        refine lv_goto (tgt := 30) F.hx F.hb d_MO_sizeOf_26 (by decide) ?_
        exact k_MO_sizeOf_L30 l hlo x1 hx1 F hlk hr (fun a0_ a1_ a2_ => t_MO_sizeOf_L4 x1 fu a0_ a1_ a2_) ih M v3_ hv3_ v2_ hv2_ 1 (Or.inr rfl) _ _ _ hS (lv_sub hl [0, 1, 3] rfl) hT
set_option maxHeartbeats 4000000 in
set_option maxRecDepth 100000 in
theorem c_MO_sizeOf (l : Launch) {b n : Nat} {C : CT} (hlo : 231 ≤ n) (M : Mem) (x1 : Int) (hx1 : InR x1) (res : Int) (hT : t_MO_sizeOf M x1 = some res) : CM l b C n 1 y_MO_sizeOf b_MO_sizeOf 4 (some .int) [.ref (b + 191), vI x1] M (QI b C n M res) := by
  refine CM.of (lo := 231) (ow := "WardFallsModel") (by decide) rfl (Nat.le_of_ble_eq_true rfl) hlo (fun p e s m below meth c F hlk hr hS ls hl => ?_)
  have hl : lv_has ls 4 [(0, .ref (b + 191)), (1, vI x1)] := hl
  unfold t_MO_sizeOf at hT
  refine r_iconst F.hx F.hb d_MO_sizeOf_0 ?_
  refine lv_istore_n (lv' := [(2, vI 0), (0, .ref (b + 191)), (1, vI x1)]) F.hx F.hb d_MO_sizeOf_1 rfl hl (Nat.le_of_ble_eq_true rfl) rfl (fun ls hl => ?_)
  refine r_iconst F.hx F.hb d_MO_sizeOf_2 ?_
  refine lv_istore_n (lv' := [(3, vI 0), (2, vI 0), (0, .ref (b + 191)), (1, vI x1)]) F.hx F.hb d_MO_sizeOf_3 rfl hl (Nat.le_of_ble_eq_true rfl) rfl (fun ls hl => ?_)
  exact k_MO_sizeOf_L4 l hlo x1 hx1 F hlk hr FU M 0 (inr_c rfl) 0 (inr_c rfl) _ _ _ hS (lv_sub hl [2, 3, 1, 0] rfl) hT
end
