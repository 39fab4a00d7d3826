section
theorem d_MO_fitsBy_0 : decode b_MO_fitsBy 0 = .ok (.iconst 0, 1) := dc_3 (by decide +kernel)
theorem d_MO_fitsBy_1 : decode b_MO_fitsBy 1 = .ok (.istore_n 2, 1) := dc_61 (by decide +kernel)
theorem d_MO_fitsBy_2 : decode b_MO_fitsBy 2 = .ok (.iload_n 2, 1) := dc_28 (by decide +kernel)
theorem d_MO_fitsBy_3 : decode b_MO_fitsBy 3 = .ok (.aload_n 0, 1) := dc_42 (by decide +kernel)
theorem d_MO_fitsBy_4 : decode b_MO_fitsBy 4 = .ok (.invokevirtual 501, 3) := dc_182 (by decide +kernel)
theorem d_MO_fitsBy_7 : decode b_MO_fitsBy 7 = .ok (.if_icmp .ge 83, 3) := dc_162 (by decide +kernel)
theorem d_MO_fitsBy_10 : decode b_MO_fitsBy 10 = .ok (.aload_n 0, 1) := dc_42 (by decide +kernel)
theorem d_MO_fitsBy_11 : decode b_MO_fitsBy 11 = .ok (.getfield 136, 3) := dc_180 (by decide +kernel)
theorem d_MO_fitsBy_14 : decode b_MO_fitsBy 14 = .ok (.iload_n 2, 1) := dc_28 (by decide +kernel)
theorem d_MO_fitsBy_15 : decode b_MO_fitsBy 15 = .ok (.baload, 1) := dc_51 (by decide +kernel)
theorem d_MO_fitsBy_16 : decode b_MO_fitsBy 16 = .ok (.ifCond .ne 68, 3) := dc_154 (by decide +kernel)
theorem d_MO_fitsBy_19 : decode b_MO_fitsBy 19 = .ok (.aload_n 0, 1) := dc_42 (by decide +kernel)
theorem d_MO_fitsBy_20 : decode b_MO_fitsBy 20 = .ok (.getfield 133, 3) := dc_180 (by decide +kernel)
theorem d_MO_fitsBy_23 : decode b_MO_fitsBy 23 = .ok (.iload_n 2, 1) := dc_28 (by decide +kernel)
theorem d_MO_fitsBy_24 : decode b_MO_fitsBy 24 = .ok (.baload, 1) := dc_51 (by decide +kernel)
theorem d_MO_fitsBy_25 : decode b_MO_fitsBy 25 = .ok (.ifCond .eq 6, 3) := dc_153 (by decide +kernel)
theorem d_MO_fitsBy_28 : decode b_MO_fitsBy 28 = .ok (.goto 56, 3) := dc_167 (by decide +kernel)
theorem d_MO_fitsBy_31 : decode b_MO_fitsBy 31 = .ok (.aload_n 0, 1) := dc_42 (by decide +kernel)
theorem d_MO_fitsBy_32 : decode b_MO_fitsBy 32 = .ok (.iload_n 1, 1) := dc_27 (by decide +kernel)
theorem d_MO_fitsBy_33 : decode b_MO_fitsBy 33 = .ok (.aload_n 0, 1) := dc_42 (by decide +kernel)
theorem d_MO_fitsBy_34 : decode b_MO_fitsBy 34 = .ok (.getfield 127, 3) := dc_180 (by decide +kernel)
theorem d_MO_fitsBy_37 : decode b_MO_fitsBy 37 = .ok (.iload_n 2, 1) := dc_28 (by decide +kernel)
theorem d_MO_fitsBy_38 : decode b_MO_fitsBy 38 = .ok (.iaload, 1) := dc_46 (by decide +kernel)
theorem d_MO_fitsBy_39 : decode b_MO_fitsBy 39 = .ok (.invokevirtual 414, 3) := dc_182 (by decide +kernel)
theorem d_MO_fitsBy_42 : decode b_MO_fitsBy 42 = .ok (.aload_n 0, 1) := dc_42 (by decide +kernel)
theorem d_MO_fitsBy_43 : decode b_MO_fitsBy 43 = .ok (.getfield 130, 3) := dc_180 (by decide +kernel)
theorem d_MO_fitsBy_46 : decode b_MO_fitsBy 46 = .ok (.iload_n 2, 1) := dc_28 (by decide +kernel)
theorem d_MO_fitsBy_47 : decode b_MO_fitsBy 47 = .ok (.iaload, 1) := dc_46 (by decide +kernel)
theorem d_MO_fitsBy_48 : decode b_MO_fitsBy 48 = .ok (.iconst (-1), 1) := dc_2 (by decide +kernel)
theorem d_MO_fitsBy_49 : decode b_MO_fitsBy 49 = .ok (.if_icmp .ne 13, 3) := dc_160 (by decide +kernel)
theorem d_MO_fitsBy_52 : decode b_MO_fitsBy 52 = .ok (.aload_n 0, 1) := dc_42 (by decide +kernel)
theorem d_MO_fitsBy_53 : decode b_MO_fitsBy 53 = .ok (.getfield 347, 3) := dc_180 (by decide +kernel)
theorem d_MO_fitsBy_56 : decode b_MO_fitsBy 56 = .ok (.ifCond .ne 28, 3) := dc_154 (by decide +kernel)
theorem d_MO_fitsBy_59 : decode b_MO_fitsBy 59 = .ok (.goto 23, 3) := dc_167 (by decide +kernel)
theorem d_MO_fitsBy_62 : decode b_MO_fitsBy 62 = .ok (.aload_n 0, 1) := dc_42 (by decide +kernel)
theorem d_MO_fitsBy_63 : decode b_MO_fitsBy 63 = .ok (.getfield 347, 3) := dc_180 (by decide +kernel)
theorem d_MO_fitsBy_66 : decode b_MO_fitsBy 66 = .ok (.ifCond .gt 16, 3) := dc_157 (by decide +kernel)
theorem d_MO_fitsBy_69 : decode b_MO_fitsBy 69 = .ok (.aload_n 0, 1) := dc_42 (by decide +kernel)
theorem d_MO_fitsBy_70 : decode b_MO_fitsBy 70 = .ok (.getfield 356, 3) := dc_180 (by decide +kernel)
theorem d_MO_fitsBy_73 : decode b_MO_fitsBy 73 = .ok (.aload_n 0, 1) := dc_42 (by decide +kernel)
theorem d_MO_fitsBy_74 : decode b_MO_fitsBy 74 = .ok (.getfield 130, 3) := dc_180 (by decide +kernel)
theorem d_MO_fitsBy_77 : decode b_MO_fitsBy 77 = .ok (.iload_n 2, 1) := dc_28 (by decide +kernel)
theorem d_MO_fitsBy_78 : decode b_MO_fitsBy 78 = .ok (.iaload, 1) := dc_46 (by decide +kernel)
theorem d_MO_fitsBy_79 : decode b_MO_fitsBy 79 = .ok (.if_icmp .eq 5, 3) := dc_159 (by decide +kernel)
theorem d_MO_fitsBy_82 : decode b_MO_fitsBy 82 = .ok (.iconst 0, 1) := dc_3 (by decide +kernel)
theorem d_MO_fitsBy_83 : decode b_MO_fitsBy 83 = .ok (.ireturn, 1) := dc_172 (by decide +kernel)
theorem d_MO_fitsBy_84 : decode b_MO_fitsBy 84 = .ok (.iinc 2 1, 3) := dc_132 (by decide +kernel)
theorem d_MO_fitsBy_87 : decode b_MO_fitsBy 87 = .ok (.goto (-85), 3) := dc_167 (by decide +kernel)
theorem d_MO_fitsBy_90 : decode b_MO_fitsBy 90 = .ok (.iconst 1, 1) := dc_4 (by decide +kernel)
theorem d_MO_fitsBy_91 : decode b_MO_fitsBy 91 = .ok (.ireturn, 1) := dc_172 (by decide +kernel)
def t_MO_fitsBy_L84 (x1 : Int) (bk2 : Mem → Int → Option (Mem × Int)) (M : Mem) (v2_ : Int) : Option (Mem × Int) := (bk2 M (w32 (v2_ + 1)))
def t_MO_fitsBy_L2 (x1 : Int)  : Nat → Mem → Int → Option (Mem × Int)
  | 0, _, _ => none
  | fu + 1, M, v2_ => (qlet (t_MO_knownMany M) fun q1 => (if q1 ≤ v2_ then (some (M, 1)) else (qguard (0 ≤ v2_ ∧ v2_ < 24) (if (M.1 229 v2_) = 0 then (qguard (0 ≤ v2_ ∧ v2_ < 24) (if (M.1 228 v2_) = 0 then (qguard (0 ≤ v2_ ∧ v2_ < 24) (obind (t_MO_goesFrom M x1 (M.1 226 v2_)) fun q12 => (qguard (0 ≤ v2_ ∧ v2_ < 24) (if (q12.1 227 v2_) = (-1) then (if (q12.1 191 48) = 0 then (some (q12, 0)) else (t_MO_fitsBy_L84 x1 (fun a0_ a1_ => t_MO_fitsBy_L2 x1 fu a0_ a1_) q12 v2_)) else (if 0 < (q12.1 191 48) then (some (q12, 0)) else (qguard (0 ≤ v2_ ∧ v2_ < 24) (if (q12.1 191 47) = (q12.1 227 v2_) then (t_MO_fitsBy_L84 x1 (fun a0_ a1_ => t_MO_fitsBy_L2 x1 fu a0_ a1_) q12 v2_) else (some (q12, 0))))))))) else (t_MO_fitsBy_L84 x1 (fun a0_ a1_ => t_MO_fitsBy_L2 x1 fu a0_ a1_) M v2_))) else (t_MO_fitsBy_L84 x1 (fun a0_ a1_ => t_MO_fitsBy_L2 x1 fu a0_ a1_) M v2_)))))
def t_MO_fitsBy (M : Mem) (x1 : Int) : Option (Mem × Int) := (t_MO_fitsBy_L2 x1 FU M 0)
set_option maxHeartbeats 4000000 in
set_option maxRecDepth 100000 in
theorem k_MO_fitsBy_L84 (l : Launch) {p : Program} {e : Env} {s : State} {m : MethodId} {below : List Frame} {meth : Method} {c : Code} {b n : Nat} {C : CT} (hlo : 231 ≤ n) (x1 : Int) (hx1 : InR x1) (F : Cx b p m c b_MO_fitsBy 3 s ([.ref (b + 191), vI x1] : List Value).toArray "WardFallsModel" C n 231) (hlk : meth.locks = false) (hr : meth.sig.returnType = some .boolean) {res : Mem × Int} (bk2 : Mem → Int → Option (Mem × Int)) (hbk2 : ∀ (M : Mem) (v2_ : Int) (hv2_ : InR v2_) (H : Heap) (locs : List Loc) (ls : Array Slot), St b C n M s H locs → lv_has ls 3 [(0, .ref (b + 191)), (1, vI x1), (2, vI v2_)] → bk2 M v2_ = some res → W p l e (headSpec (wsM y_MO_fitsBy b_MO_fitsBy 3 (some .boolean)) (rmD 3)).room s m ([.ref (b + 191), vI x1] : List Value).toArray below meth c H locs 0 0 (MQ below (QZ b C n res.1 res.2) ([.ref (b + 191), vI x1] : List Value).toArray s 0 0 (frb b)) (F0 m 2 ls [])) (M : Mem) (v2_ : Int) (hv2_ : InR v2_) (H : Heap) (locs : List Loc) (ls : Array Slot) (hS : St b C n M s H locs) (hl : lv_has ls 3 [(0, .ref (b + 191)), (1, vI x1), (2, vI v2_)]) (hT : t_MO_fitsBy_L84 x1 bk2 M v2_ = some res) : W p l e (headSpec (wsM y_MO_fitsBy b_MO_fitsBy 3 (some .boolean)) (rmD 3)).room s m ([.ref (b + 191), vI x1] : List Value).toArray below meth c H locs 0 0 (MQ below (QZ b C n res.1 res.2) ([.ref (b + 191), vI x1] : List Value).toArray s 0 0 (frb b)) (F0 m 84 ls []) := by
  unfold t_MO_fitsBy_L84 at hT
  refine lv_iinc (v := Int32.ofInt (w32 (v2_ + 1))) (lv' := [(2, vI (w32 (v2_ + 1))), (0, .ref (b + 191)), (1, vI x1)]) F.hx F.hb d_MO_fitsBy_84 hl (k := 2) rfl (q_of_add _ _) (Nat.le_of_ble_eq_true rfl) rfl (fun ls hl => ?_)
  refine lv_goto (tgt := 2) F.hx F.hb d_MO_fitsBy_87 (by decide) ?_
  exact hbk2 M (w32 (v2_ + 1)) (inr_w32 _) _ _ _ hS (lv_sub hl [1, 2, 0] rfl) hT
set_option maxHeartbeats 4000000 in
set_option maxRecDepth 100000 in
theorem k_MO_fitsBy_L2 (l : Launch) {p : Program} {e : Env} {s : State} {m : MethodId} {below : List Frame} {meth : Method} {c : Code} {b n : Nat} {C : CT} (hlo : 231 ≤ n) (x1 : Int) (hx1 : InR x1) (F : Cx b p m c b_MO_fitsBy 3 s ([.ref (b + 191), vI x1] : List Value).toArray "WardFallsModel" C n 231) (hlk : meth.locks = false) (hr : meth.sig.returnType = some .boolean) {res : Mem × Int} : ∀ (fu : Nat) (M : Mem) (v2_ : Int) (hv2_ : InR v2_) (H : Heap) (locs : List Loc) (ls : Array Slot), St b C n M s H locs → lv_has ls 3 [(0, .ref (b + 191)), (1, vI x1), (2, vI v2_)] → t_MO_fitsBy_L2 x1 fu M v2_ = some res → W p l e (headSpec (wsM y_MO_fitsBy b_MO_fitsBy 3 (some .boolean)) (rmD 3)).room s m ([.ref (b + 191), vI x1] : List Value).toArray below meth c H locs 0 0 (MQ below (QZ b C n res.1 res.2) ([.ref (b + 191), vI x1] : List Value).toArray s 0 0 (frb b)) (F0 m 2 ls []) := by
  intro fu
  induction fu with
  | zero => intro M v2_ hv2_ H locs ls hS hl hT; exact absurd hT (by simp [t_MO_fitsBy_L2])
  | succ fu ih =>
    intro M v2_ hv2_ H locs ls hS hl hT
    rw [t_MO_fitsBy_L2] at hT
    refine lv_iload_n F.hx F.hb d_MO_fitsBy_2 rfl (lv_at hl 2 rfl) ?_
    refine lv_aload_n F.hx F.hb d_MO_fitsBy_3 rfl (lv_at hl 0 rfl) ?_
    obtain ⟨q1, hq1⟩ : ∃ q, q = (t_MO_knownMany M) := ⟨_, rfl⟩
    replace hT := qlet_eq hT hq1
    refine r_backI F hS (r_runV (k := 191) (N := 68) (T := T1) (As := []) F hS (show 191 < 231 by decide) (show shK 191 = 5 from rfl) rfl (c_MO_knownMany l F.2.2.1 M _ hq1.symm) gs_MO_501 hd_MO_knownMany ⟨Nat.le_of_ble_eq_true rfl, Nat.le_of_ble_eq_true rfl⟩ rfl hl.1 (Nat.le_of_ble_eq_true rfl) ⟨Nat.zero_le _, Nat.zero_le _⟩ rfl d_MO_fitsBy_4) (fun H locs hS h2 => ?_)
    refine r_icmp_ge (tgt := 90) F.hx F.hb hv2_ h2 d_MO_fitsBy_7 (by decide) (fun c3 => ?_) (fun c3 => ?_)
    · replace hT := (if_pos c3).symm.trans hT
      refine r_iconst F.hx F.hb d_MO_fitsBy_90 ?_
      cases hT
      exact r_zret F hlk hr hS (Or.inr rfl) d_MO_fitsBy_91
    · replace hT := (if_neg c3).symm.trans hT
      refine lv_aload_n F.hx F.hb d_MO_fitsBy_10 rfl (lv_at hl 0 rfl) ?_
      refine r_get (v := .ref (b + 229)) (N := 68) (T := T1) (j := 65) F hS (show 191 < 231 by decide) (show shK 191 = 5 from rfl) (show shN 191 = 68 from rfl) rfl (Nat.le_of_ble_eq_true rfl) ing1 mw_1454 (fv_sg rfl rfl rfl) d_MO_fitsBy_11 ?_
      refine lv_iload_n F.hx F.hb d_MO_fitsBy_14 rfl (lv_at hl 2 rfl) ?_
      obtain ⟨⟨g4a, g4b⟩, hT⟩ := q_guard hT
      have z5 := hS.bool (show shK 229 = 1 from rfl) v2_
      refine r_zald F hS (show 229 < 231 by decide) (show shK 229 = 1 from rfl) (show shN 229 = 24 from rfl) hv2_ g4a g4b d_MO_fitsBy_15 ?_
      refine r_if_ne (tgt := 84) F.hx F.hb (inr_z z5) d_MO_fitsBy_16 (by decide) (fun c6 => ?_) (fun c6 => ?_)
      · replace hT := (if_neg c6).symm.trans hT
        exact k_MO_fitsBy_L84 l hlo x1 hx1 F hlk hr (fun a0_ a1_ => t_MO_fitsBy_L2 x1 fu a0_ a1_) ih M v2_ hv2_ _ _ _ hS (lv_sub hl [0, 1, 2] rfl) hT
      · replace hT := (if_pos c6).symm.trans hT
        refine lv_aload_n F.hx F.hb d_MO_fitsBy_19 rfl (lv_at hl 0 rfl) ?_
        refine r_get (v := .ref (b + 228)) (N := 68) (T := T1) (j := 64) F hS (show 191 < 231 by decide) (show shK 191 = 5 from rfl) (show shN 191 = 68 from rfl) rfl (Nat.le_of_ble_eq_true rfl) ing1 mw_1453 (fv_sg rfl rfl rfl) d_MO_fitsBy_20 ?_
        refine lv_iload_n F.hx F.hb d_MO_fitsBy_23 rfl (lv_at hl 2 rfl) ?_
        obtain ⟨⟨g7a, g7b⟩, hT⟩ := q_guard hT
        have z8 := hS.bool (show shK 228 = 1 from rfl) v2_
        refine r_zald F hS (show 228 < 231 by decide) (show shK 228 = 1 from rfl) (show shN 228 = 24 from rfl) hv2_ g7a g7b d_MO_fitsBy_24 ?_
        refine r_if_eq (tgt := 31) F.hx F.hb (inr_z z8) d_MO_fitsBy_25 (by decide) (fun c9 => ?_) (fun c9 => ?_)
        · replace hT := (if_pos c9).symm.trans hT
          refine lv_aload_n F.hx F.hb d_MO_fitsBy_31 rfl (lv_at hl 0 rfl) ?_
          refine lv_iload_n F.hx F.hb d_MO_fitsBy_32 rfl (lv_at hl 1 rfl) ?_
          refine lv_aload_n F.hx F.hb d_MO_fitsBy_33 rfl (lv_at hl 0 rfl) ?_
          refine r_get (v := .ref (b + 226)) (N := 68) (T := T1) (j := 62) F hS (show 191 < 231 by decide) (show shK 191 = 5 from rfl) (show shN 191 = 68 from rfl) rfl (Nat.le_of_ble_eq_true rfl) ing1 mw_1451 (fv_sg rfl rfl rfl) d_MO_fitsBy_34 ?_
          refine lv_iload_n F.hx F.hb d_MO_fitsBy_37 rfl (lv_at hl 2 rfl) ?_
          obtain ⟨⟨g10a, g10b⟩, hT⟩ := q_guard hT
          refine r_iald F hS (show 226 < 231 by decide) (show shK 226 = 0 from rfl) (show shN 226 = 24 from rfl) hv2_ g10a g10b d_MO_fitsBy_38 ?_
          have i11 := hS.rng 226 v2_
          obtain ⟨q12, hq12, hT⟩ := q_obind hT
          refine r_backV F hS (r_runV (k := 191) (N := 68) (T := T1) (As := [vI x1, vI (M.1 226 v2_)]) F hS (show 191 < 231 by decide) (show shK 191 = 5 from rfl) rfl (c_MO_goesFrom l F.2.2.1 M x1 (M.1 226 v2_) hx1 i11 _ hq12) gs_MO_414 hd_MO_goesFrom ⟨Nat.le_of_ble_eq_true rfl, Nat.le_of_ble_eq_true rfl⟩ rfl hl.1 (Nat.le_of_ble_eq_true rfl) ⟨Nat.zero_le _, Nat.zero_le _⟩ rfl d_MO_fitsBy_39) (fun H locs hS => ?_)
          refine lv_aload_n F.hx F.hb d_MO_fitsBy_42 rfl (lv_at hl 0 rfl) ?_
          refine r_get (v := .ref (b + 227)) (N := 68) (T := T1) (j := 63) F hS (show 191 < 231 by decide) (show shK 191 = 5 from rfl) (show shN 191 = 68 from rfl) rfl (Nat.le_of_ble_eq_true rfl) ing1 mw_1452 (fv_sg rfl rfl rfl) d_MO_fitsBy_43 ?_
          refine lv_iload_n F.hx F.hb d_MO_fitsBy_46 rfl (lv_at hl 2 rfl) ?_
          obtain ⟨⟨g14a, g14b⟩, hT⟩ := q_guard hT
          refine r_iald F hS (show 227 < 231 by decide) (show shK 227 = 0 from rfl) (show shN 227 = 24 from rfl) hv2_ g14a g14b d_MO_fitsBy_47 ?_
          have i15 := hS.rng 227 v2_
          refine r_iconst F.hx F.hb d_MO_fitsBy_48 ?_
          refine r_icmp_ne (tgt := 62) F.hx F.hb i15 (inr_c rfl) d_MO_fitsBy_49 (by decide) (fun c16 => ?_) (fun c16 => ?_)
          · replace hT := (if_neg c16).symm.trans hT
            refine lv_aload_n F.hx F.hb d_MO_fitsBy_62 rfl (lv_at hl 0 rfl) ?_
            refine r_get (v := vI (q12.1 191 48)) (N := 68) (T := T1) (j := 48) F hS (show 191 < 231 by decide) (show shK 191 = 5 from rfl) (show shN 191 = 68 from rfl) rfl (Nat.le_of_ble_eq_true rfl) ing1 mw_1437 (fv_int rfl) d_MO_fitsBy_63 ?_
            have i17 := hS.rng 191 48
            refine r_if_gt (tgt := 82) F.hx F.hb i17 d_MO_fitsBy_66 (by decide) (fun c18 => ?_) (fun c18 => ?_)
            · replace hT := (if_pos c18).symm.trans hT
              refine r_iconst F.hx F.hb d_MO_fitsBy_82 ?_
              cases hT
              exact r_zret F hlk hr hS (Or.inl rfl) d_MO_fitsBy_83
            · replace hT := (if_neg c18).symm.trans hT
              refine lv_aload_n F.hx F.hb d_MO_fitsBy_69 rfl (lv_at hl 0 rfl) ?_
              refine r_get (v := vI (q12.1 191 47)) (N := 68) (T := T1) (j := 47) F hS (show 191 < 231 by decide) (show shK 191 = 5 from rfl) (show shN 191 = 68 from rfl) rfl (Nat.le_of_ble_eq_true rfl) ing1 mw_1436 (fv_int rfl) d_MO_fitsBy_70 ?_
              have i19 := hS.rng 191 47
              refine lv_aload_n F.hx F.hb d_MO_fitsBy_73 rfl (lv_at hl 0 rfl) ?_
              refine r_get (v := .ref (b + 227)) (N := 68) (T := T1) (j := 63) F hS (show 191 < 231 by decide) (show shK 191 = 5 from rfl) (show shN 191 = 68 from rfl) rfl (Nat.le_of_ble_eq_true rfl) ing1 mw_1452 (fv_sg rfl rfl rfl) d_MO_fitsBy_74 ?_
              refine lv_iload_n F.hx F.hb d_MO_fitsBy_77 rfl (lv_at hl 2 rfl) ?_
              obtain ⟨⟨g20a, g20b⟩, hT⟩ := q_guard hT
              refine r_iald F hS (show 227 < 231 by decide) (show shK 227 = 0 from rfl) (show shN 227 = 24 from rfl) hv2_ g20a g20b d_MO_fitsBy_78 ?_
              have i21 := hS.rng 227 v2_
              refine r_icmp_eq (tgt := 84) F.hx F.hb i19 i21 d_MO_fitsBy_79 (by decide) (fun c22 => ?_) (fun c22 => ?_)
              · replace hT := (if_pos c22).symm.trans hT
                exact k_MO_fitsBy_L84 l hlo x1 hx1 F hlk hr (fun a0_ a1_ => t_MO_fitsBy_L2 x1 fu a0_ a1_) ih q12 v2_ hv2_ _ _ _ hS (lv_sub hl [0, 1, 2] rfl) hT
              · replace hT := (if_neg c22).symm.trans hT
                refine r_iconst F.hx F.hb d_MO_fitsBy_82 ?_
                cases hT
                exact r_zret F hlk hr hS (Or.inl rfl) d_MO_fitsBy_83
          · replace hT := (if_pos c16).symm.trans hT
            refine lv_aload_n F.hx F.hb d_MO_fitsBy_52 rfl (lv_at hl 0 rfl) ?_
            refine r_get (v := vI (q12.1 191 48)) (N := 68) (T := T1) (j := 48) F hS (show 191 < 231 by decide) (show shK 191 = 5 from rfl) (show shN 191 = 68 from rfl) rfl (Nat.le_of_ble_eq_true rfl) ing1 mw_1437 (fv_int rfl) d_MO_fitsBy_53 ?_
            have i23 := hS.rng 191 48
            refine r_if_ne (tgt := 84) F.hx F.hb i23 d_MO_fitsBy_56 (by decide) (fun c24 => ?_) (fun c24 => ?_)
            · replace hT := (if_neg c24).symm.trans hT
              exact k_MO_fitsBy_L84 l hlo x1 hx1 F hlk hr (fun a0_ a1_ => t_MO_fitsBy_L2 x1 fu a0_ a1_) ih q12 v2_ hv2_ _ _ _ hS (lv_sub hl [0, 1, 2] rfl) hT
            · replace hT := (if_pos c24).symm.trans hT
              refine lv_goto (tgt := 82) F.hx F.hb d_MO_fitsBy_59 (by decide) ?_
              refine r_iconst F.hx F.hb d_MO_fitsBy_82 ?_
              cases hT
              exact r_zret F hlk hr hS (Or.inl rfl) d_MO_fitsBy_83
        · replace hT := (if_neg c9).symm.trans hT
          refine lv_goto (tgt := 84) F.hx F.hb d_MO_fitsBy_28 (by decide) ?_
          exact k_MO_fitsBy_L84 l hlo x1 hx1 F hlk hr (fun a0_ a1_ => t_MO_fitsBy_L2 x1 fu a0_ a1_) ih M v2_ hv2_ _ _ _ hS (lv_sub hl [0, 1, 2] rfl) hT
set_option maxHeartbeats 4000000 in
set_option maxRecDepth 100000 in
theorem c_MO_fitsBy (l : Launch) {b n : Nat} {C : CT} (hlo : 231 ≤ n) (M : Mem) (x1 : Int) (hx1 : InR x1) (res : Mem × Int) (hT : t_MO_fitsBy M x1 = some res) : CM l b C n 3 y_MO_fitsBy b_MO_fitsBy 3 (some .boolean) [.ref (b + 191), vI x1] M (QZ b C n res.1 res.2) := by
  refine CM.of (lo := 231) (ow := "WardFallsModel") (by decide) rfl (Nat.le_of_ble_eq_true rfl) hlo (fun p e s m below meth c F hlk hr hS ls hl => ?_)
  have hl : lv_has ls 3 [(0, .ref (b + 191)), (1, vI x1)] := hl
  unfold t_MO_fitsBy at hT
  refine r_iconst F.hx F.hb d_MO_fitsBy_0 ?_
  refine lv_istore_n (lv' := [(2, vI 0), (0, .ref (b + 191)), (1, vI x1)]) F.hx F.hb d_MO_fitsBy_1 rfl hl (Nat.le_of_ble_eq_true rfl) rfl (fun ls hl => ?_)
  exact k_MO_fitsBy_L2 l hlo x1 hx1 F hlk hr FU M 0 (inr_c rfl) _ _ _ hS (lv_sub hl [1, 2, 0] rfl) hT
theorem wn_MO_layFits_0 : ∀ i, i < 96 → bA b_MO_layFits (0 + i) = wB [3, 60, 27, 42, 182, 1, 245, 162, 0, 16, 42, 180, 0, 136, 27, 3, 84, 132, 1, 1, 167, 255, 238, 42, 182, 1, 245, 4, 100, 60, 27, 155, 0, 39, 42, 180, 0, 136, 27, 51, 154, 0, 24, 42, 180, 0, 133, 27, 51, 153, 0, 15, 42, 180, 0, 136, 42, 180, 0, 127, 27, 46, 4, 84, 132, 1, 255, 167, 255, 219, 42, 4, 3, 182, 1, 181, 42, 3, 181, 1, 248, 4, 60, 3, 61, 28, 42, 180, 0, 13, 5, 46, 162, 0, 20, 42] i := wB_of (by decide +kernel)
theorem d_MO_layFits_0 : decode b_MO_layFits 0 = .ok (.iconst 0, 1) := dc_3 (q0_win (r := 0) wn_MO_layFits_0 (by decide +kernel))
theorem d_MO_layFits_1 : decode b_MO_layFits 1 = .ok (.istore_n 1, 1) := dc_60 (q0_win (r := 1) wn_MO_layFits_0 (by decide +kernel))
theorem d_MO_layFits_2 : decode b_MO_layFits 2 = .ok (.iload_n 1, 1) := dc_27 (q0_win (r := 2) wn_MO_layFits_0 (by decide +kernel))
theorem d_MO_layFits_3 : decode b_MO_layFits 3 = .ok (.aload_n 0, 1) := dc_42 (q0_win (r := 3) wn_MO_layFits_0 (by decide +kernel))
theorem d_MO_layFits_4 : decode b_MO_layFits 4 = .ok (.invokevirtual 501, 3) := dc_182 (qU2_win (r := 4) wn_MO_layFits_0 (by decide +kernel))
theorem d_MO_layFits_7 : decode b_MO_layFits 7 = .ok (.if_icmp .ge 16, 3) := dc_162 (qS2_win (r := 7) wn_MO_layFits_0 (by decide +kernel))
theorem d_MO_layFits_10 : decode b_MO_layFits 10 = .ok (.aload_n 0, 1) := dc_42 (q0_win (r := 10) wn_MO_layFits_0 (by decide +kernel))
theorem d_MO_layFits_11 : decode b_MO_layFits 11 = .ok (.getfield 136, 3) := dc_180 (qU2_win (r := 11) wn_MO_layFits_0 (by decide +kernel))
theorem d_MO_layFits_14 : decode b_MO_layFits 14 = .ok (.iload_n 1, 1) := dc_27 (q0_win (r := 14) wn_MO_layFits_0 (by decide +kernel))
theorem d_MO_layFits_15 : decode b_MO_layFits 15 = .ok (.iconst 0, 1) := dc_3 (q0_win (r := 15) wn_MO_layFits_0 (by decide +kernel))
theorem d_MO_layFits_16 : decode b_MO_layFits 16 = .ok (.bastore, 1) := dc_84 (q0_win (r := 16) wn_MO_layFits_0 (by decide +kernel))
theorem d_MO_layFits_17 : decode b_MO_layFits 17 = .ok (.iinc 1 1, 3) := dc_132 (qI_win (r := 17) wn_MO_layFits_0 (by decide +kernel))
theorem d_MO_layFits_20 : decode b_MO_layFits 20 = .ok (.goto (-18), 3) := dc_167 (qS2_win (r := 20) wn_MO_layFits_0 (by decide +kernel))
theorem d_MO_layFits_23 : decode b_MO_layFits 23 = .ok (.aload_n 0, 1) := dc_42 (q0_win (r := 23) wn_MO_layFits_0 (by decide +kernel))
theorem d_MO_layFits_24 : decode b_MO_layFits 24 = .ok (.invokevirtual 501, 3) := dc_182 (qU2_win (r := 24) wn_MO_layFits_0 (by decide +kernel))
theorem d_MO_layFits_27 : decode b_MO_layFits 27 = .ok (.iconst 1, 1) := dc_4 (q0_win (r := 27) wn_MO_layFits_0 (by decide +kernel))
theorem d_MO_layFits_28 : decode b_MO_layFits 28 = .ok (.isub, 1) := dc_100 (q0_win (r := 28) wn_MO_layFits_0 (by decide +kernel))
theorem d_MO_layFits_29 : decode b_MO_layFits 29 = .ok (.istore_n 1, 1) := dc_60 (q0_win (r := 29) wn_MO_layFits_0 (by decide +kernel))
theorem d_MO_layFits_30 : decode b_MO_layFits 30 = .ok (.iload_n 1, 1) := dc_27 (q0_win (r := 30) wn_MO_layFits_0 (by decide +kernel))
theorem d_MO_layFits_31 : decode b_MO_layFits 31 = .ok (.ifCond .lt 39, 3) := dc_155 (qS2_win (r := 31) wn_MO_layFits_0 (by decide +kernel))
theorem d_MO_layFits_34 : decode b_MO_layFits 34 = .ok (.aload_n 0, 1) := dc_42 (q0_win (r := 34) wn_MO_layFits_0 (by decide +kernel))
theorem d_MO_layFits_35 : decode b_MO_layFits 35 = .ok (.getfield 136, 3) := dc_180 (qU2_win (r := 35) wn_MO_layFits_0 (by decide +kernel))
theorem d_MO_layFits_38 : decode b_MO_layFits 38 = .ok (.iload_n 1, 1) := dc_27 (q0_win (r := 38) wn_MO_layFits_0 (by decide +kernel))
theorem d_MO_layFits_39 : decode b_MO_layFits 39 = .ok (.baload, 1) := dc_51 (q0_win (r := 39) wn_MO_layFits_0 (by decide +kernel))
theorem d_MO_layFits_40 : decode b_MO_layFits 40 = .ok (.ifCond .ne 24, 3) := dc_154 (qS2_win (r := 40) wn_MO_layFits_0 (by decide +kernel))
theorem d_MO_layFits_43 : decode b_MO_layFits 43 = .ok (.aload_n 0, 1) := dc_42 (q0_win (r := 43) wn_MO_layFits_0 (by decide +kernel))
theorem d_MO_layFits_44 : decode b_MO_layFits 44 = .ok (.getfield 133, 3) := dc_180 (qU2_win (r := 44) wn_MO_layFits_0 (by decide +kernel))
theorem d_MO_layFits_47 : decode b_MO_layFits 47 = .ok (.iload_n 1, 1) := dc_27 (q0_win (r := 47) wn_MO_layFits_0 (by decide +kernel))
theorem d_MO_layFits_48 : decode b_MO_layFits 48 = .ok (.baload, 1) := dc_51 (q0_win (r := 48) wn_MO_layFits_0 (by decide +kernel))
theorem d_MO_layFits_49 : decode b_MO_layFits 49 = .ok (.ifCond .eq 15, 3) := dc_153 (qS2_win (r := 49) wn_MO_layFits_0 (by decide +kernel))
theorem d_MO_layFits_52 : decode b_MO_layFits 52 = .ok (.aload_n 0, 1) := dc_42 (q0_win (r := 52) wn_MO_layFits_0 (by decide +kernel))
theorem d_MO_layFits_53 : decode b_MO_layFits 53 = .ok (.getfield 136, 3) := dc_180 (qU2_win (r := 53) wn_MO_layFits_0 (by decide +kernel))
theorem d_MO_layFits_56 : decode b_MO_layFits 56 = .ok (.aload_n 0, 1) := dc_42 (q0_win (r := 56) wn_MO_layFits_0 (by decide +kernel))
theorem d_MO_layFits_57 : decode b_MO_layFits 57 = .ok (.getfield 127, 3) := dc_180 (qU2_win (r := 57) wn_MO_layFits_0 (by decide +kernel))
theorem d_MO_layFits_60 : decode b_MO_layFits 60 = .ok (.iload_n 1, 1) := dc_27 (q0_win (r := 60) wn_MO_layFits_0 (by decide +kernel))
theorem d_MO_layFits_61 : decode b_MO_layFits 61 = .ok (.iaload, 1) := dc_46 (q0_win (r := 61) wn_MO_layFits_0 (by decide +kernel))
theorem d_MO_layFits_62 : decode b_MO_layFits 62 = .ok (.iconst 1, 1) := dc_4 (q0_win (r := 62) wn_MO_layFits_0 (by decide +kernel))
theorem d_MO_layFits_63 : decode b_MO_layFits 63 = .ok (.bastore, 1) := dc_84 (q0_win (r := 63) wn_MO_layFits_0 (by decide +kernel))
theorem d_MO_layFits_64 : decode b_MO_layFits 64 = .ok (.iinc 1 (-1), 3) := dc_132 (qI_win (r := 64) wn_MO_layFits_0 (by decide +kernel))
theorem d_MO_layFits_67 : decode b_MO_layFits 67 = .ok (.goto (-37), 3) := dc_167 (qS2_win (r := 67) wn_MO_layFits_0 (by decide +kernel))
theorem d_MO_layFits_70 : decode b_MO_layFits 70 = .ok (.aload_n 0, 1) := dc_42 (q0_win (r := 70) wn_MO_layFits_0 (by decide +kernel))
theorem d_MO_layFits_71 : decode b_MO_layFits 71 = .ok (.iconst 1, 1) := dc_4 (q0_win (r := 71) wn_MO_layFits_0 (by decide +kernel))
theorem d_MO_layFits_72 : decode b_MO_layFits 72 = .ok (.iconst 0, 1) := dc_3 (q0_win (r := 72) wn_MO_layFits_0 (by decide +kernel))
theorem d_MO_layFits_73 : decode b_MO_layFits 73 = .ok (.invokevirtual 437, 3) := dc_182 (qU2_win (r := 73) wn_MO_layFits_0 (by decide +kernel))
theorem d_MO_layFits_76 : decode b_MO_layFits 76 = .ok (.aload_n 0, 1) := dc_42 (q0_win (r := 76) wn_MO_layFits_0 (by decide +kernel))
theorem d_MO_layFits_77 : decode b_MO_layFits 77 = .ok (.iconst 0, 1) := dc_3 (q0_win (r := 77) wn_MO_layFits_0 (by decide +kernel))
theorem d_MO_layFits_78 : decode b_MO_layFits 78 = .ok (.putfield 504, 3) := dc_181 (qU2_win (r := 78) wn_MO_layFits_0 (by decide +kernel))
theorem d_MO_layFits_81 : decode b_MO_layFits 81 = .ok (.iconst 1, 1) := dc_4 (q0_win (r := 81) wn_MO_layFits_0 (by decide +kernel))
theorem d_MO_layFits_82 : decode b_MO_layFits 82 = .ok (.istore_n 1, 1) := dc_60 (q0_win (r := 82) wn_MO_layFits_0 (by decide +kernel))
theorem d_MO_layFits_83 : decode b_MO_layFits 83 = .ok (.iconst 0, 1) := dc_3 (q0_win (r := 83) wn_MO_layFits_0 (by decide +kernel))
theorem d_MO_layFits_84 : decode b_MO_layFits 84 = .ok (.istore_n 2, 1) := dc_61 (q0_win (r := 84) wn_MO_layFits_0 (by decide +kernel))
theorem d_MO_layFits_85 : decode b_MO_layFits 85 = .ok (.iload_n 2, 1) := dc_28 (q0_win (r := 85) wn_MO_layFits_0 (by decide +kernel))
theorem d_MO_layFits_86 : decode b_MO_layFits 86 = .ok (.aload_n 0, 1) := dc_42 (q0_win (r := 86) wn_MO_layFits_0 (by decide +kernel))
theorem d_MO_layFits_87 : decode b_MO_layFits 87 = .ok (.getfield 13, 3) := dc_180 (qU2_win (r := 87) wn_MO_layFits_0 (by decide +kernel))
theorem d_MO_layFits_90 : decode b_MO_layFits 90 = .ok (.iconst 2, 1) := dc_5 (q0_win (r := 90) wn_MO_layFits_0 (by decide +kernel))
theorem d_MO_layFits_91 : decode b_MO_layFits 91 = .ok (.iaload, 1) := dc_46 (q0_win (r := 91) wn_MO_layFits_0 (by decide +kernel))
theorem d_MO_layFits_92 : decode b_MO_layFits 92 = .ok (.if_icmp .ge 20, 3) := dc_162 (qS2_win (r := 92) wn_MO_layFits_0 (by decide +kernel))
theorem d_MO_layFits_95 : decode b_MO_layFits 95 = .ok (.aload_n 0, 1) := dc_42 (q0_win (r := 95) wn_MO_layFits_0 (by decide +kernel))
theorem wn_MO_layFits_96 : ∀ i, i < 96 → bA b_MO_layFits (96 + i) = wB [180, 0, 139, 28, 3, 79, 27, 8, 104, 60, 132, 2, 1, 167, 255, 232, 3, 61, 28, 27, 162, 0, 109, 28, 62, 3, 54, 4, 21, 4, 42, 180, 0, 13, 5, 46, 162, 0, 25, 42, 180, 0, 76, 7, 21, 4, 96, 29, 8, 112, 79, 29, 8, 108, 62, 132, 4, 1, 167, 255, 226, 42, 4, 182, 1, 251, 154, 0, 6, 167, 0, 54, 42, 89, 180, 1, 248, 4, 96, 181, 1, 248, 3, 54, 4, 21, 4, 42, 180, 0, 13, 5, 46, 162, 0, 30] i := wB_of (by decide +kernel)
theorem d_MO_layFits_96 : decode b_MO_layFits 96 = .ok (.getfield 139, 3) := dc_180 (qU2_win (r := 0) wn_MO_layFits_96 (by decide +kernel))
theorem d_MO_layFits_99 : decode b_MO_layFits 99 = .ok (.iload_n 2, 1) := dc_28 (q0_win (r := 3) wn_MO_layFits_96 (by decide +kernel))
theorem d_MO_layFits_100 : decode b_MO_layFits 100 = .ok (.iconst 0, 1) := dc_3 (q0_win (r := 4) wn_MO_layFits_96 (by decide +kernel))
theorem d_MO_layFits_101 : decode b_MO_layFits 101 = .ok (.iastore, 1) := dc_79 (q0_win (r := 5) wn_MO_layFits_96 (by decide +kernel))
theorem d_MO_layFits_102 : decode b_MO_layFits 102 = .ok (.iload_n 1, 1) := dc_27 (q0_win (r := 6) wn_MO_layFits_96 (by decide +kernel))
theorem d_MO_layFits_103 : decode b_MO_layFits 103 = .ok (.iconst 5, 1) := dc_8 (q0_win (r := 7) wn_MO_layFits_96 (by decide +kernel))
theorem d_MO_layFits_104 : decode b_MO_layFits 104 = .ok (.imul, 1) := dc_104 (q0_win (r := 8) wn_MO_layFits_96 (by decide +kernel))
theorem d_MO_layFits_105 : decode b_MO_layFits 105 = .ok (.istore_n 1, 1) := dc_60 (q0_win (r := 9) wn_MO_layFits_96 (by decide +kernel))
theorem d_MO_layFits_106 : decode b_MO_layFits 106 = .ok (.iinc 2 1, 3) := dc_132 (qI_win (r := 10) wn_MO_layFits_96 (by decide +kernel))
theorem d_MO_layFits_109 : decode b_MO_layFits 109 = .ok (.goto (-24), 3) := dc_167 (qS2_win (r := 13) wn_MO_layFits_96 (by decide +kernel))
theorem d_MO_layFits_112 : decode b_MO_layFits 112 = .ok (.iconst 0, 1) := dc_3 (q0_win (r := 16) wn_MO_layFits_96 (by decide +kernel))
theorem d_MO_layFits_113 : decode b_MO_layFits 113 = .ok (.istore_n 2, 1) := dc_61 (q0_win (r := 17) wn_MO_layFits_96 (by decide +kernel))
theorem d_MO_layFits_114 : decode b_MO_layFits 114 = .ok (.iload_n 2, 1) := dc_28 (q0_win (r := 18) wn_MO_layFits_96 (by decide +kernel))
theorem d_MO_layFits_115 : decode b_MO_layFits 115 = .ok (.iload_n 1, 1) := dc_27 (q0_win (r := 19) wn_MO_layFits_96 (by decide +kernel))
theorem d_MO_layFits_116 : decode b_MO_layFits 116 = .ok (.if_icmp .ge 109, 3) := dc_162 (qS2_win (r := 20) wn_MO_layFits_96 (by decide +kernel))
theorem d_MO_layFits_119 : decode b_MO_layFits 119 = .ok (.iload_n 2, 1) := dc_28 (q0_win (r := 23) wn_MO_layFits_96 (by decide +kernel))
theorem d_MO_layFits_120 : decode b_MO_layFits 120 = .ok (.istore_n 3, 1) := dc_62 (q0_win (r := 24) wn_MO_layFits_96 (by decide +kernel))
theorem d_MO_layFits_121 : decode b_MO_layFits 121 = .ok (.iconst 0, 1) := dc_3 (q0_win (r := 25) wn_MO_layFits_96 (by decide +kernel))
theorem d_MO_layFits_122 : decode b_MO_layFits 122 = .ok (.istore 4, 2) := dc_54 (qU1_win (r := 26) wn_MO_layFits_96 (by decide +kernel))
theorem d_MO_layFits_124 : decode b_MO_layFits 124 = .ok (.iload 4, 2) := dc_21 (qU1_win (r := 28) wn_MO_layFits_96 (by decide +kernel))
theorem d_MO_layFits_126 : decode b_MO_layFits 126 = .ok (.aload_n 0, 1) := dc_42 (q0_win (r := 30) wn_MO_layFits_96 (by decide +kernel))
theorem d_MO_layFits_127 : decode b_MO_layFits 127 = .ok (.getfield 13, 3) := dc_180 (qU2_win (r := 31) wn_MO_layFits_96 (by decide +kernel))
theorem d_MO_layFits_130 : decode b_MO_layFits 130 = .ok (.iconst 2, 1) := dc_5 (q0_win (r := 34) wn_MO_layFits_96 (by decide +kernel))
theorem d_MO_layFits_131 : decode b_MO_layFits 131 = .ok (.iaload, 1) := dc_46 (q0_win (r := 35) wn_MO_layFits_96 (by decide +kernel))
theorem d_MO_layFits_132 : decode b_MO_layFits 132 = .ok (.if_icmp .ge 25, 3) := dc_162 (qS2_win (r := 36) wn_MO_layFits_96 (by decide +kernel))
theorem d_MO_layFits_135 : decode b_MO_layFits 135 = .ok (.aload_n 0, 1) := dc_42 (q0_win (r := 39) wn_MO_layFits_96 (by decide +kernel))
theorem d_MO_layFits_136 : decode b_MO_layFits 136 = .ok (.getfield 76, 3) := dc_180 (qU2_win (r := 40) wn_MO_layFits_96 (by decide +kernel))
theorem d_MO_layFits_139 : decode b_MO_layFits 139 = .ok (.iconst 4, 1) := dc_7 (q0_win (r := 43) wn_MO_layFits_96 (by decide +kernel))
theorem d_MO_layFits_140 : decode b_MO_layFits 140 = .ok (.iload 4, 2) := dc_21 (qU1_win (r := 44) wn_MO_layFits_96 (by decide +kernel))
theorem d_MO_layFits_142 : decode b_MO_layFits 142 = .ok (.iadd, 1) := dc_96 (q0_win (r := 46) wn_MO_layFits_96 (by decide +kernel))
theorem d_MO_layFits_143 : decode b_MO_layFits 143 = .ok (.iload_n 3, 1) := dc_29 (q0_win (r := 47) wn_MO_layFits_96 (by decide +kernel))
theorem d_MO_layFits_144 : decode b_MO_layFits 144 = .ok (.iconst 5, 1) := dc_8 (q0_win (r := 48) wn_MO_layFits_96 (by decide +kernel))
theorem d_MO_layFits_145 : decode b_MO_layFits 145 = .ok (.irem, 1) := dc_112 (q0_win (r := 49) wn_MO_layFits_96 (by decide +kernel))
theorem d_MO_layFits_146 : decode b_MO_layFits 146 = .ok (.iastore, 1) := dc_79 (q0_win (r := 50) wn_MO_layFits_96 (by decide +kernel))
theorem d_MO_layFits_147 : decode b_MO_layFits 147 = .ok (.iload_n 3, 1) := dc_29 (q0_win (r := 51) wn_MO_layFits_96 (by decide +kernel))
theorem d_MO_layFits_148 : decode b_MO_layFits 148 = .ok (.iconst 5, 1) := dc_8 (q0_win (r := 52) wn_MO_layFits_96 (by decide +kernel))
theorem d_MO_layFits_149 : decode b_MO_layFits 149 = .ok (.idiv, 1) := dc_108 (q0_win (r := 53) wn_MO_layFits_96 (by decide +kernel))
theorem d_MO_layFits_150 : decode b_MO_layFits 150 = .ok (.istore_n 3, 1) := dc_62 (q0_win (r := 54) wn_MO_layFits_96 (by decide +kernel))
theorem d_MO_layFits_151 : decode b_MO_layFits 151 = .ok (.iinc 4 1, 3) := dc_132 (qI_win (r := 55) wn_MO_layFits_96 (by decide +kernel))
theorem d_MO_layFits_154 : decode b_MO_layFits 154 = .ok (.goto (-30), 3) := dc_167 (qS2_win (r := 58) wn_MO_layFits_96 (by decide +kernel))
theorem d_MO_layFits_157 : decode b_MO_layFits 157 = .ok (.aload_n 0, 1) := dc_42 (q0_win (r := 61) wn_MO_layFits_96 (by decide +kernel))
theorem d_MO_layFits_158 : decode b_MO_layFits 158 = .ok (.iconst 1, 1) := dc_4 (q0_win (r := 62) wn_MO_layFits_96 (by decide +kernel))
theorem d_MO_layFits_159 : decode b_MO_layFits 159 = .ok (.invokevirtual 507, 3) := dc_182 (qU2_win (r := 63) wn_MO_layFits_96 (by decide +kernel))
theorem d_MO_layFits_162 : decode b_MO_layFits 162 = .ok (.ifCond .ne 6, 3) := dc_154 (qS2_win (r := 66) wn_MO_layFits_96 (by decide +kernel))
theorem d_MO_layFits_165 : decode b_MO_layFits 165 = .ok (.goto 54, 3) := dc_167 (qS2_win (r := 69) wn_MO_layFits_96 (by decide +kernel))
theorem d_MO_layFits_168 : decode b_MO_layFits 168 = .ok (.aload_n 0, 1) := dc_42 (q0_win (r := 72) wn_MO_layFits_96 (by decide +kernel))
theorem d_MO_layFits_169 : decode b_MO_layFits 169 = .ok (.dup, 1) := dc_89 (q0_win (r := 73) wn_MO_layFits_96 (by decide +kernel))
theorem d_MO_layFits_170 : decode b_MO_layFits 170 = .ok (.getfield 504, 3) := dc_180 (qU2_win (r := 74) wn_MO_layFits_96 (by decide +kernel))
theorem d_MO_layFits_173 : decode b_MO_layFits 173 = .ok (.iconst 1, 1) := dc_4 (q0_win (r := 77) wn_MO_layFits_96 (by decide +kernel))
theorem d_MO_layFits_174 : decode b_MO_layFits 174 = .ok (.iadd, 1) := dc_96 (q0_win (r := 78) wn_MO_layFits_96 (by decide +kernel))
theorem d_MO_layFits_175 : decode b_MO_layFits 175 = .ok (.putfield 504, 3) := dc_181 (qU2_win (r := 79) wn_MO_layFits_96 (by decide +kernel))
theorem d_MO_layFits_178 : decode b_MO_layFits 178 = .ok (.iconst 0, 1) := dc_3 (q0_win (r := 82) wn_MO_layFits_96 (by decide +kernel))
theorem d_MO_layFits_179 : decode b_MO_layFits 179 = .ok (.istore 4, 2) := dc_54 (qU1_win (r := 83) wn_MO_layFits_96 (by decide +kernel))
theorem d_MO_layFits_181 : decode b_MO_layFits 181 = .ok (.iload 4, 2) := dc_21 (qU1_win (r := 85) wn_MO_layFits_96 (by decide +kernel))
theorem d_MO_layFits_183 : decode b_MO_layFits 183 = .ok (.aload_n 0, 1) := dc_42 (q0_win (r := 87) wn_MO_layFits_96 (by decide +kernel))
theorem d_MO_layFits_184 : decode b_MO_layFits 184 = .ok (.getfield 13, 3) := dc_180 (qU2_win (r := 88) wn_MO_layFits_96 (by decide +kernel))
theorem d_MO_layFits_187 : decode b_MO_layFits 187 = .ok (.iconst 2, 1) := dc_5 (q0_win (r := 91) wn_MO_layFits_96 (by decide +kernel))
theorem d_MO_layFits_188 : decode b_MO_layFits 188 = .ok (.iaload, 1) := dc_46 (q0_win (r := 92) wn_MO_layFits_96 (by decide +kernel))
theorem d_MO_layFits_189 : decode b_MO_layFits 189 = .ok (.if_icmp .ge 30, 3) := dc_162 (qS2_win (r := 93) wn_MO_layFits_96 (by decide +kernel))
theorem wn_MO_layFits_192 : ∀ i, i < 34 → bA b_MO_layFits (192 + i) = wB [42, 180, 0, 139, 21, 4, 92, 46, 4, 42, 180, 0, 76, 7, 21, 4, 96, 46, 120, 128, 79, 132, 4, 1, 167, 255, 221, 132, 2, 1, 167, 255, 148, 177] i := wB_of (by decide +kernel)
theorem d_MO_layFits_192 : decode b_MO_layFits 192 = .ok (.aload_n 0, 1) := dc_42 (q0_win (r := 0) wn_MO_layFits_192 (by decide +kernel))
theorem d_MO_layFits_193 : decode b_MO_layFits 193 = .ok (.getfield 139, 3) := dc_180 (qU2_win (r := 1) wn_MO_layFits_192 (by decide +kernel))
theorem d_MO_layFits_196 : decode b_MO_layFits 196 = .ok (.iload 4, 2) := dc_21 (qU1_win (r := 4) wn_MO_layFits_192 (by decide +kernel))
theorem d_MO_layFits_198 : decode b_MO_layFits 198 = .ok (.dup2, 1) := dc_92 (q0_win (r := 6) wn_MO_layFits_192 (by decide +kernel))
theorem d_MO_layFits_199 : decode b_MO_layFits 199 = .ok (.iaload, 1) := dc_46 (q0_win (r := 7) wn_MO_layFits_192 (by decide +kernel))
theorem d_MO_layFits_200 : decode b_MO_layFits 200 = .ok (.iconst 1, 1) := dc_4 (q0_win (r := 8) wn_MO_layFits_192 (by decide +kernel))
theorem d_MO_layFits_201 : decode b_MO_layFits 201 = .ok (.aload_n 0, 1) := dc_42 (q0_win (r := 9) wn_MO_layFits_192 (by decide +kernel))
theorem d_MO_layFits_202 : decode b_MO_layFits 202 = .ok (.getfield 76, 3) := dc_180 (qU2_win (r := 10) wn_MO_layFits_192 (by decide +kernel))
theorem d_MO_layFits_205 : decode b_MO_layFits 205 = .ok (.iconst 4, 1) := dc_7 (q0_win (r := 13) wn_MO_layFits_192 (by decide +kernel))
theorem d_MO_layFits_206 : decode b_MO_layFits 206 = .ok (.iload 4, 2) := dc_21 (qU1_win (r := 14) wn_MO_layFits_192 (by decide +kernel))
theorem d_MO_layFits_208 : decode b_MO_layFits 208 = .ok (.iadd, 1) := dc_96 (q0_win (r := 16) wn_MO_layFits_192 (by decide +kernel))
theorem d_MO_layFits_209 : decode b_MO_layFits 209 = .ok (.iaload, 1) := dc_46 (q0_win (r := 17) wn_MO_layFits_192 (by decide +kernel))
theorem d_MO_layFits_210 : decode b_MO_layFits 210 = .ok (.ishl, 1) := dc_120 (q0_win (r := 18) wn_MO_layFits_192 (by decide +kernel))
theorem d_MO_layFits_211 : decode b_MO_layFits 211 = .ok (.ior, 1) := dc_128 (q0_win (r := 19) wn_MO_layFits_192 (by decide +kernel))
theorem d_MO_layFits_212 : decode b_MO_layFits 212 = .ok (.iastore, 1) := dc_79 (q0_win (r := 20) wn_MO_layFits_192 (by decide +kernel))
theorem d_MO_layFits_213 : decode b_MO_layFits 213 = .ok (.iinc 4 1, 3) := dc_132 (qI_win (r := 21) wn_MO_layFits_192 (by decide +kernel))
theorem d_MO_layFits_216 : decode b_MO_layFits 216 = .ok (.goto (-35), 3) := dc_167 (qS2_win (r := 24) wn_MO_layFits_192 (by decide +kernel))
theorem d_MO_layFits_219 : decode b_MO_layFits 219 = .ok (.iinc 2 1, 3) := dc_132 (qI_win (r := 27) wn_MO_layFits_192 (by decide +kernel))
theorem d_MO_layFits_222 : decode b_MO_layFits 222 = .ok (.goto (-108), 3) := dc_167 (qS2_win (r := 30) wn_MO_layFits_192 (by decide +kernel))
theorem d_MO_layFits_225 : decode b_MO_layFits 225 = .ok (.return_, 1) := dc_177 (q0_win (r := 33) wn_MO_layFits_192 (by decide +kernel))
def t_MO_layFits_L64  (bk30 : Mem → Int → Option (Mem)) (M : Mem) (v1_ : Int) : Option (Mem) := (bk30 M (w32 (v1_ + (-1))))
def t_MO_layFits_L219  (bk114 : Mem → Int → Int → Option (Mem)) (M : Mem) (v1_ : Int) (v2_ : Int) : Option (Mem) := (bk114 M v1_ (w32 (v2_ + 1)))
def t_MO_layFits_L181  (bk114 : Mem → Int → Int → Option (Mem)) : Nat → Mem → Int → Int → Int → Option (Mem)
  | 0, _, _, _, _ => none
  | fu + 1, M, v1_, v2_, v3_ => (if (M.1 193 2) ≤ v3_ then (t_MO_layFits_L219 bk114 M v1_ v2_) else (qguard (0 ≤ v3_ ∧ v3_ < 4) (qguard (0 ≤ (w32 (4 + v3_)) ∧ (w32 (4 + v3_)) < 92) (qguard (0 ≤ v3_ ∧ v3_ < 4) (qlet (setI M 230 v3_ (q_or (M.1 230 v3_) (q_shl 1 (M.1 212 (w32 (4 + v3_)))))) fun M43 => (t_MO_layFits_L181 bk114 fu M43 v1_ v2_ (w32 (v3_ + 1))))))))
def t_MO_layFits_L124  (bk114 : Mem → Int → Int → Option (Mem)) : Nat → Mem → Int → Int → Int → Int → Option (Mem)
  | 0, _, _, _, _, _ => none
  | fu + 1, M, v1_, v2_, v3_, v4_ => (if (M.1 193 2) ≤ v4_ then (obind (t_MO_fitsBy M 1) fun q29 => (if (q29.2) = 0 then (t_MO_layFits_L219 bk114 (q29.1) v1_ v2_) else (qlet (setI (q29.1) 191 66 (w32 (((q29.1).1 191 66) + 1))) fun M33 => (t_MO_layFits_L181 bk114 FU M33 v1_ v2_ 0)))) else (qguard (0 ≤ (w32 (4 + v4_)) ∧ (w32 (4 + v4_)) < 92) (qlet (setI M 212 (w32 (4 + v4_)) (q_rem v3_ 5)) fun M35 => (t_MO_layFits_L124 bk114 fu M35 v1_ v2_ (q_div v3_ 5) (w32 (v4_ + 1))))))
def t_MO_layFits_L114   : Nat → Mem → Int → Int → Option (Mem)
  | 0, _, _, _ => none
  | fu + 1, M, v1_, v2_ => (if v1_ ≤ v2_ then (some M) else (t_MO_layFits_L124 (fun a0_ a1_ a2_ => t_MO_layFits_L114 fu a0_ a1_ a2_) FU M v1_ v2_ v2_ 0))
def t_MO_layFits_L85   : Nat → Mem → Int → Int → Option (Mem)
  | 0, _, _, _ => none
  | fu + 1, M, v1_, v2_ => (if (M.1 193 2) ≤ v2_ then (t_MO_layFits_L114 FU M v1_ 0) else (qguard (0 ≤ v2_ ∧ v2_ < 4) (qlet (setI M 230 v2_ 0) fun M25 => (t_MO_layFits_L85 fu M25 (w32 (v1_ * 5)) (w32 (v2_ + 1))))))
def t_MO_layFits_L30   : Nat → Mem → Int → Option (Mem)
  | 0, _, _ => none
  | fu + 1, M, v1_ => (if v1_ < 0 then (obind (t_MO_copies M 1 0) fun q9 => (qlet (setI q9 191 66 0) fun M11 => (t_MO_layFits_L85 FU M11 1 0))) else (qguard (0 ≤ v1_ ∧ v1_ < 24) (if (M.1 229 v1_) = 0 then (qguard (0 ≤ v1_ ∧ v1_ < 24) (if (M.1 228 v1_) = 0 then (t_MO_layFits_L64 (fun a0_ a1_ => t_MO_layFits_L30 fu a0_ a1_) M v1_) else (qguard (0 ≤ v1_ ∧ v1_ < 24) (qguard (0 ≤ (M.1 226 v1_) ∧ (M.1 226 v1_) < 24) (qlet (setI M 229 (M.1 226 v1_) 1) fun M21 => (t_MO_layFits_L64 (fun a0_ a1_ => t_MO_layFits_L30 fu a0_ a1_) M21 v1_)))))) else (t_MO_layFits_L64 (fun a0_ a1_ => t_MO_layFits_L30 fu a0_ a1_) M v1_))))
def t_MO_layFits_L2   : Nat → Mem → Int → Option (Mem)
  | 0, _, _ => none
  | fu + 1, M, v1_ => (qlet (t_MO_knownMany M) fun q1 => (if q1 ≤ v1_ then (qlet (t_MO_knownMany M) fun q4 => (t_MO_layFits_L30 FU M (w32 (q4 - 1)))) else (qguard (0 ≤ v1_ ∧ v1_ < 24) (qlet (setI M 229 v1_ 0) fun M7 => (t_MO_layFits_L2 fu M7 (w32 (v1_ + 1)))))))
def t_MO_layFits (M : Mem)  : Option (Mem) := (t_MO_layFits_L2 FU M 0)
set_option maxHeartbeats 4000000 in
set_option maxRecDepth 100000 in
theorem k_MO_layFits_L64 (l : Launch) {p : Program} {e : Env} {s : State} {m : MethodId} {below : List Frame} {meth : Method} {c : Code} {b n : Nat} {C : CT} (hlo : 231 ≤ n)   (F : Cx b p m c b_MO_layFits 5 s ([.ref (b + 191)] : List Value).toArray "WardFallsModel" C n 231) (hlk : meth.locks = false) (hr : meth.sig.returnType = none) {res : Mem} (bk30 : Mem → Int → Option (Mem)) (hbk30 : ∀ (M : Mem) (v1_ : Int) (hv1_ : InR v1_) (H : Heap) (locs : List Loc) (ls : Array Slot), St b C n M s H locs → lv_has ls 5 [(0, .ref (b + 191)), (1, vI v1_)] → bk30 M v1_ = some res → W p l e (headSpec (wsM y_MO_layFits b_MO_layFits 5 (none)) (rmD 4)).room s m ([.ref (b + 191)] : List Value).toArray below meth c H locs 0 0 (MQ below (QV b C n res) ([.ref (b + 191)] : List Value).toArray s 0 0 (frb b)) (F0 m 30 ls [])) (M : Mem) (v1_ : Int) (hv1_ : InR v1_) (H : Heap) (locs : List Loc) (ls : Array Slot) (hS : St b C n M s H locs) (hl : lv_has ls 5 [(0, .ref (b + 191)), (1, vI v1_)]) (hT : t_MO_layFits_L64 bk30 M v1_ = some res) : W p l e (headSpec (wsM y_MO_layFits b_MO_layFits 5 (none)) (rmD 4)).room s m ([.ref (b + 191)] : List Value).toArray below meth c H locs 0 0 (MQ below (QV b C n res) ([.ref (b + 191)] : List Value).toArray s 0 0 (frb b)) (F0 m 64 ls []) := by
  unfold t_MO_layFits_L64 at hT
  refine lv_iinc (v := Int32.ofInt (w32 (v1_ + (-1)))) (lv' := [(1, vI (w32 (v1_ + (-1)))), (0, .ref (b + 191))]) F.hx F.hb d_MO_layFits_64 hl (k := 1) rfl (q_of_add _ _) (Nat.le_of_ble_eq_true rfl) rfl (fun ls hl => ?_)
  refine lv_goto (tgt := 30) F.hx F.hb d_MO_layFits_67 (by decide) ?_
  exact hbk30 M (w32 (v1_ + (-1))) (inr_w32 _) _ _ _ hS (lv_sub hl [1, 0] rfl) hT
set_option maxHeartbeats 4000000 in
set_option maxRecDepth 100000 in
theorem k_MO_layFits_L219 (l : Launch) {p : Program} {e : Env} {s : State} {m : MethodId} {below : List Frame} {meth : Method} {c : Code} {b n : Nat} {C : CT} (hlo : 231 ≤ n)   (F : Cx b p m c b_MO_layFits 5 s ([.ref (b + 191)] : List Value).toArray "WardFallsModel" C n 231) (hlk : meth.locks = false) (hr : meth.sig.returnType = none) {res : Mem} (bk114 : Mem → Int → Int → Option (Mem)) (hbk114 : ∀ (M : Mem) (v1_ : Int) (hv1_ : InR v1_) (v2_ : Int) (hv2_ : InR v2_) (H : Heap) (locs : List Loc) (ls : Array Slot), St b C n M s H locs → lv_has ls 5 [(0, .ref (b + 191)), (1, vI v1_), (2, vI v2_)] → bk114 M v1_ v2_ = some res → W p l e (headSpec (wsM y_MO_layFits b_MO_layFits 5 (none)) (rmD 4)).room s m ([.ref (b + 191)] : List Value).toArray below meth c H locs 0 0 (MQ below (QV b C n res) ([.ref (b + 191)] : List Value).toArray s 0 0 (frb b)) (F0 m 114 ls [])) (M : Mem) (v1_ : Int) (hv1_ : InR v1_) (v2_ : Int) (hv2_ : InR v2_) (H : Heap) (locs : List Loc) (ls : Array Slot) (hS : St b C n M s H locs) (hl : lv_has ls 5 [(0, .ref (b + 191)), (1, vI v1_), (2, vI v2_)]) (hT : t_MO_layFits_L219 bk114 M v1_ v2_ = some res) : W p l e (headSpec (wsM y_MO_layFits b_MO_layFits 5 (none)) (rmD 4)).room s m ([.ref (b + 191)] : List Value).toArray below meth c H locs 0 0 (MQ below (QV b C n res) ([.ref (b + 191)] : List Value).toArray s 0 0 (frb b)) (F0 m 219 ls []) := by
  unfold t_MO_layFits_L219 at hT
  refine lv_iinc (v := Int32.ofInt (w32 (v2_ + 1))) (lv' := [(2, vI (w32 (v2_ + 1))), (0, .ref (b + 191)), (1, vI v1_)]) F.hx F.hb d_MO_layFits_219 hl (k := 2) rfl (q_of_add _ _) (Nat.le_of_ble_eq_true rfl) rfl (fun ls hl => ?_)
  refine lv_goto (tgt := 114) F.hx F.hb d_MO_layFits_222 (by decide) ?_
  exact hbk114 M v1_ hv1_ (w32 (v2_ + 1)) (inr_w32 _) _ _ _ hS (lv_sub hl [1, 2, 0] rfl) hT
set_option maxHeartbeats 4000000 in
set_option maxRecDepth 100000 in
theorem k_MO_layFits_L181 (l : Launch) {p : Program} {e : Env} {s : State} {m : MethodId} {below : List Frame} {meth : Method} {c : Code} {b n : Nat} {C : CT} (hlo : 231 ≤ n)   (F : Cx b p m c b_MO_layFits 5 s ([.ref (b + 191)] : List Value).toArray "WardFallsModel" C n 231) (hlk : meth.locks = false) (hr : meth.sig.returnType = none) {res : Mem} (bk114 : Mem → Int → Int → Option (Mem)) (hbk114 : ∀ (M : Mem) (v1_ : Int) (hv1_ : InR v1_) (v2_ : Int) (hv2_ : InR v2_) (H : Heap) (locs : List Loc) (ls : Array Slot), St b C n M s H locs → lv_has ls 5 [(0, .ref (b + 191)), (1, vI v1_), (2, vI v2_)] → bk114 M v1_ v2_ = some res → W p l e (headSpec (wsM y_MO_layFits b_MO_layFits 5 (none)) (rmD 4)).room s m ([.ref (b + 191)] : List Value).toArray below meth c H locs 0 0 (MQ below (QV b C n res) ([.ref (b + 191)] : List Value).toArray s 0 0 (frb b)) (F0 m 114 ls [])) : ∀ (fu : Nat) (M : Mem) (v1_ : Int) (hv1_ : InR v1_) (v2_ : Int) (hv2_ : InR v2_) (v3_ : Int) (hv3_ : InR v3_) (H : Heap) (locs : List Loc) (ls : Array Slot), St b C n M s H locs → lv_has ls 5 [(0, .ref (b + 191)), (1, vI v1_), (2, vI v2_), (4, vI v3_)] → t_MO_layFits_L181 bk114 fu M v1_ v2_ v3_ = some res → W p l e (headSpec (wsM y_MO_layFits b_MO_layFits 5 (none)) (rmD 4)).room s m ([.ref (b + 191)] : List Value).toArray below meth c H locs 0 0 (MQ below (QV b C n res) ([.ref (b + 191)] : List Value).toArray s 0 0 (frb b)) (F0 m 181 ls []) := by
  intro fu
  induction fu with
  | zero => intro M v1_ hv1_ v2_ hv2_ v3_ hv3_ H locs ls hS hl hT; exact absurd hT (by simp [t_MO_layFits_L181])
  | succ fu ih =>
    intro M v1_ hv1_ v2_ hv2_ v3_ hv3_ H locs ls hS hl hT
    rw [t_MO_layFits_L181] at hT
    refine lv_iload F.hx F.hb d_MO_layFits_181 (lv_at hl 3 rfl) ?_
    refine lv_aload_n F.hx F.hb d_MO_layFits_183 rfl (lv_at hl 0 rfl) ?_
    refine r_get (v := .ref (b + 193)) (N := 68) (T := T1) (j := 3) F hS (show 191 < 231 by decide) (show shK 191 = 5 from rfl) (show shN 191 = 68 from rfl) rfl (Nat.le_of_ble_eq_true rfl) ing1 mw_1392 (fv_sg rfl rfl rfl) d_MO_layFits_184 ?_
    refine r_iconst F.hx F.hb d_MO_layFits_187 ?_
    refine r_iald F hS (show 193 < 231 by decide) (show shK 193 = 0 from rfl) (show shN 193 = 18 from rfl) (inr_c rfl) (by omega) (by omega) d_MO_layFits_188 ?_
    have i36 := hS.rng 193 2
    refine r_icmp_ge (tgt := 219) F.hx F.hb hv3_ i36 d_MO_layFits_189 (by decide) (fun c37 => ?_) (fun c37 => ?_)
    · replace hT := (if_pos c37).symm.trans hT
      exact k_MO_layFits_L219 l hlo F hlk hr bk114 hbk114 M v1_ hv1_ v2_ hv2_ _ _ _ hS (lv_sub hl [0, 1, 2] rfl) hT
    · replace hT := (if_neg c37).symm.trans hT
      refine lv_aload_n F.hx F.hb d_MO_layFits_192 rfl (lv_at hl 0 rfl) ?_
      refine r_get (v := .ref (b + 230)) (N := 68) (T := T1) (j := 67) F hS (show 191 < 231 by decide) (show shK 191 = 5 from rfl) (show shN 191 = 68 from rfl) rfl (Nat.le_of_ble_eq_true rfl) ing1 mw_1456 (fv_sg rfl rfl rfl) d_MO_layFits_193 ?_
      refine lv_iload F.hx F.hb d_MO_layFits_196 (lv_at hl 3 rfl) ?_
      refine lv_dup2_11 F.hx F.hb d_MO_layFits_198 rfl rfl ?_
      obtain ⟨⟨g38a, g38b⟩, hT⟩ := q_guard hT
      refine r_iald F hS (show 230 < 231 by decide) (show shK 230 = 0 from rfl) (show shN 230 = 4 from rfl) hv3_ g38a g38b d_MO_layFits_199 ?_
      have i39 := hS.rng 230 v3_
      refine r_iconst F.hx F.hb d_MO_layFits_200 ?_
      refine lv_aload_n F.hx F.hb d_MO_layFits_201 rfl (lv_at hl 0 rfl) ?_
      refine r_get (v := .ref (b + 212)) (N := 68) (T := T1) (j := 35) F hS (show 191 < 231 by decide) (show shK 191 = 5 from rfl) (show shN 191 = 68 from rfl) rfl (Nat.le_of_ble_eq_true rfl) ing1 mw_1424 (fv_sg rfl rfl rfl) d_MO_layFits_202 ?_
      refine r_iconst F.hx F.hb d_MO_layFits_205 ?_
      refine lv_iload F.hx F.hb d_MO_layFits_206 (lv_at hl 3 rfl) ?_
      refine r_iadd F.hx F.hb d_MO_layFits_208 ?_
      obtain ⟨⟨g40a, g40b⟩, hT⟩ := q_guard hT
      refine r_iald F hS (show 212 < 231 by decide) (show shK 212 = 0 from rfl) (show shN 212 = 92 from rfl) (inr_w32 _) g40a g40b d_MO_layFits_209 ?_
      have i41 := hS.rng 212 (w32 (4 + v3_))
      refine r_ishl F.hx F.hb d_MO_layFits_210 ?_
      refine r_ior F.hx F.hb d_MO_layFits_211 ?_
      obtain ⟨⟨g42a, g42b⟩, hT⟩ := q_guard hT
      refine r_iast F hS (show 230 < 231 by decide) (show shK 230 = 0 from rfl) (show shN 230 = 4 from rfl) hv3_ (q_inr_toInt _) g42a g42b d_MO_layFits_212 (fun H locs hS => ?_)
      obtain ⟨M43, eM43⟩ : ∃ q, q = (setI M 230 v3_ (q_or (M.1 230 v3_) (q_shl 1 (M.1 212 (w32 (4 + v3_)))))) := ⟨_, rfl⟩
      replace hS : St b C n M43 s H locs := by rw [eM43]; exact hS
      replace hT := qlet_eq hT eM43
      refine lv_iinc (v := Int32.ofInt (w32 (v3_ + 1))) (lv' := [(4, vI (w32 (v3_ + 1))), (0, .ref (b + 191)), (1, vI v1_), (2, vI v2_)]) F.hx F.hb d_MO_layFits_213 hl (k := 3) rfl (q_of_add _ _) (Nat.le_of_ble_eq_true rfl) rfl (fun ls hl => ?_)
      refine lv_goto (tgt := 181) F.hx F.hb d_MO_layFits_216 (by decide) ?_
      exact ih M43 v1_ hv1_ v2_ hv2_ (w32 (v3_ + 1)) (inr_w32 _) _ _ _ hS (lv_sub hl [1, 2, 3, 0] rfl) hT
set_option maxHeartbeats 4000000 in
set_option maxRecDepth 100000 in
theorem k_MO_layFits_L124 (l : Launch) {p : Program} {e : Env} {s : State} {m : MethodId} {below : List Frame} {meth : Method} {c : Code} {b n : Nat} {C : CT} (hlo : 231 ≤ n)   (F : Cx b p m c b_MO_layFits 5 s ([.ref (b + 191)] : List Value).toArray "WardFallsModel" C n 231) (hlk : meth.locks = false) (hr : meth.sig.returnType = none) {res : Mem} (bk114 : Mem → Int → Int → Option (Mem)) (hbk114 : ∀ (M : Mem) (v1_ : Int) (hv1_ : InR v1_) (v2_ : Int) (hv2_ : InR v2_) (H : Heap) (locs : List Loc) (ls : Array Slot), St b C n M s H locs → lv_has ls 5 [(0, .ref (b + 191)), (1, vI v1_), (2, vI v2_)] → bk114 M v1_ v2_ = some res → W p l e (headSpec (wsM y_MO_layFits b_MO_layFits 5 (none)) (rmD 4)).room s m ([.ref (b + 191)] : List Value).toArray below meth c H locs 0 0 (MQ below (QV b C n res) ([.ref (b + 191)] : List Value).toArray s 0 0 (frb b)) (F0 m 114 ls [])) : ∀ (fu : Nat) (M : Mem) (v1_ : Int) (hv1_ : InR v1_) (v2_ : Int) (hv2_ : InR v2_) (v3_ : Int) (hv3_ : InR v3_) (v4_ : Int) (hv4_ : InR v4_) (H : Heap) (locs : List Loc) (ls : Array Slot), St b C n M s H locs → lv_has ls 5 [(0, .ref (b + 191)), (1, vI v1_), (2, vI v2_), (3, vI v3_), (4, vI v4_)] → t_MO_layFits_L124 bk114 fu M v1_ v2_ v3_ v4_ = some res → W p l e (headSpec (wsM y_MO_layFits b_MO_layFits 5 (none)) (rmD 4)).room s m ([.ref (b + 191)] : List Value).toArray below meth c H locs 0 0 (MQ below (QV b C n res) ([.ref (b + 191)] : List Value).toArray s 0 0 (frb b)) (F0 m 124 ls []) := by
  intro fu
  induction fu with
  | zero => intro M v1_ hv1_ v2_ hv2_ v3_ hv3_ v4_ hv4_ H locs ls hS hl hT; exact absurd hT (by simp [t_MO_layFits_L124])
  | succ fu ih =>
    intro M v1_ hv1_ v2_ hv2_ v3_ hv3_ v4_ hv4_ H locs ls hS hl hT
    rw [t_MO_layFits_L124] at hT
    refine lv_iload F.hx F.hb d_MO_layFits_124 (lv_at hl 4 rfl) ?_
    refine lv_aload_n F.hx F.hb d_MO_layFits_126 rfl (lv_at hl 0 rfl) ?_
    refine r_get (v := .ref (b + 193)) (N := 68) (T := T1) (j := 3) F hS (show 191 < 231 by decide) (show shK 191 = 5 from rfl) (show shN 191 = 68 from rfl) rfl (Nat.le_of_ble_eq_true rfl) ing1 mw_1392 (fv_sg rfl rfl rfl) d_MO_layFits_127 ?_
    refine r_iconst F.hx F.hb d_MO_layFits_130 ?_
    refine r_iald F hS (show 193 < 231 by decide) (show shK 193 = 0 from rfl) (show shN 193 = 18 from rfl) (inr_c rfl) (by omega) (by omega) d_MO_layFits_131 ?_
    have i27 := hS.rng 193 2
    refine r_icmp_ge (tgt := 157) F.hx F.hb hv4_ i27 d_MO_layFits_132 (by decide) (fun c28 => ?_) (fun c28 => ?_)
    · replace hT := (if_pos c28).symm.trans hT
      refine lv_aload_n F.hx F.hb d_MO_layFits_157 rfl (lv_at hl 0 rfl) ?_
      refine r_iconst F.hx F.hb d_MO_layFits_158 ?_
      obtain ⟨q29, hq29, hT⟩ := q_obind hT
      refine r_backZ F hS (r_runV (k := 191) (N := 68) (T := T1) (As := [vI 1]) F hS (show 191 < 231 by decide) (show shK 191 = 5 from rfl) rfl (c_MO_fitsBy l F.2.2.1 M 1 (inr_c rfl) _ hq29) gs_MO_507 hd_MO_fitsBy ⟨Nat.le_of_ble_eq_true rfl, Nat.le_of_ble_eq_true rfl⟩ rfl hl.1 (Nat.le_of_ble_eq_true rfl) ⟨Nat.zero_le _, Nat.zero_le _⟩ rfl d_MO_layFits_159) (fun H locs hS h30 => ?_)
      refine r_if_ne (tgt := 168) F.hx F.hb (inr_z h30) d_MO_layFits_162 (by decide) (fun c31 => ?_) (fun c31 => ?_)
      · replace hT := (if_neg c31).symm.trans hT
        refine lv_aload_n F.hx F.hb d_MO_layFits_168 rfl (lv_at hl 0 rfl) ?_
        refine lv_dup F.hx F.hb d_MO_layFits_169 rfl ?_
        refine r_get (v := vI ((q29.1).1 191 66)) (N := 68) (T := T1) (j := 66) F hS (show 191 < 231 by decide) (show shK 191 = 5 from rfl) (show shN 191 = 68 from rfl) rfl (Nat.le_of_ble_eq_true rfl) ing1 mw_1455 (fv_int rfl) d_MO_layFits_170 ?_
        have i32 := hS.rng 191 66
        refine r_iconst F.hx F.hb d_MO_layFits_173 ?_
        refine r_iadd F.hx F.hb d_MO_layFits_174 ?_
        refine r_putI (N := 68) (T := T1) (j := 66) F hS (show 191 < 231 by decide) (show shK 191 = 5 from rfl) (show shN 191 = 68 from rfl) rfl (Nat.le_of_ble_eq_true rfl) ing1 tyok1 nm1 rfl rfl rfl rfl rfl rfl mw_1455 (inr_w32 _) d_MO_layFits_175 (fun H locs hS => ?_)
        obtain ⟨M33, eM33⟩ : ∃ q, q = (setI (q29.1) 191 66 (w32 (((q29.1).1 191 66) + 1))) := ⟨_, rfl⟩
        replace hS : St b C n M33 s H locs := by rw [eM33]; exact hS
        replace hT := qlet_eq hT eM33
        refine r_iconst F.hx F.hb d_MO_layFits_178 ?_
        refine lv_istore (lv' := [(4, vI 0), (0, .ref (b + 191)), (1, vI v1_), (2, vI v2_), (3, vI v3_)]) F.hx F.hb d_MO_layFits_179 hl (Nat.le_of_ble_eq_true rfl) rfl (fun ls hl => ?_)
        exact k_MO_layFits_L181 l hlo F hlk hr bk114 hbk114 FU M33 v1_ hv1_ v2_ hv2_ 0 (inr_c rfl) _ _ _ hS (lv_sub hl [1, 2, 3, 0] rfl) hT
      · replace hT := (if_pos c31).symm.trans hT
        refine lv_goto (tgt := 219) F.hx F.hb d_MO_layFits_165 (by decide) ?_
        exact k_MO_layFits_L219 l hlo F hlk hr bk114 hbk114 (q29.1) v1_ hv1_ v2_ hv2_ _ _ _ hS (lv_sub hl [0, 1, 2] rfl) hT
    · replace hT := (if_neg c28).symm.trans hT
      refine lv_aload_n F.hx F.hb d_MO_layFits_135 rfl (lv_at hl 0 rfl) ?_
      refine r_get (v := .ref (b + 212)) (N := 68) (T := T1) (j := 35) F hS (show 191 < 231 by decide) (show shK 191 = 5 from rfl) (show shN 191 = 68 from rfl) rfl (Nat.le_of_ble_eq_true rfl) ing1 mw_1424 (fv_sg rfl rfl rfl) d_MO_layFits_136 ?_
      refine r_iconst F.hx F.hb d_MO_layFits_139 ?_
      refine lv_iload F.hx F.hb d_MO_layFits_140 (lv_at hl 4 rfl) ?_
      refine r_iadd F.hx F.hb d_MO_layFits_142 ?_
      refine lv_iload_n F.hx F.hb d_MO_layFits_143 rfl (lv_at hl 3 rfl) ?_
      refine r_iconst F.hx F.hb d_MO_layFits_144 ?_
      refine r_irem F.hx F.hb (inr_c rfl) (by decide) d_MO_layFits_145 ?_
      obtain ⟨⟨g34a, g34b⟩, hT⟩ := q_guard hT
      refine r_iast F hS (show 212 < 231 by decide) (show shK 212 = 0 from rfl) (show shN 212 = 92 from rfl) (inr_w32 _) (q_inr_toInt _) g34a g34b d_MO_layFits_146 (fun H locs hS => ?_)
      obtain ⟨M35, eM35⟩ : ∃ q, q = (setI M 212 (w32 (4 + v4_)) (q_rem v3_ 5)) := ⟨_, rfl⟩
      replace hS : St b C n M35 s H locs := by rw [eM35]; exact hS
      replace hT := qlet_eq hT eM35
      refine lv_iload_n F.hx F.hb d_MO_layFits_147 rfl (lv_at hl 3 rfl) ?_
      refine r_iconst F.hx F.hb d_MO_layFits_148 ?_
      refine r_idiv F.hx F.hb (inr_c rfl) (by decide) d_MO_layFits_149 ?_
      refine lv_istore_n (lv' := [(3, vI (q_div v3_ 5)), (0, .ref (b + 191)), (1, vI v1_), (2, vI v2_), (4, vI v4_)]) F.hx F.hb d_MO_layFits_150 rfl hl (Nat.le_of_ble_eq_true rfl) rfl (fun ls hl => ?_)
      refine lv_iinc (v := Int32.ofInt (w32 (v4_ + 1))) (lv' := [(4, vI (w32 (v4_ + 1))), (3, vI (q_div v3_ 5)), (0, .ref (b + 191)), (1, vI v1_), (2, vI v2_)]) F.hx F.hb d_MO_layFits_151 hl (k := 4) rfl (q_of_add _ _) (Nat.le_of_ble_eq_true rfl) rfl (fun ls hl => ?_)
      refine lv_goto (tgt := 124) F.hx F.hb d_MO_layFits_154 (by decide) ?_
      exact ih M35 v1_ hv1_ v2_ hv2_ (q_div v3_ 5) (q_inr_toInt _) (w32 (v4_ + 1)) (inr_w32 _) _ _ _ hS (lv_sub hl [2, 3, 4, 1, 0] rfl) hT
set_option maxHeartbeats 4000000 in
set_option maxRecDepth 100000 in
theorem k_MO_layFits_L114 (l : Launch) {p : Program} {e : Env} {s : State} {m : MethodId} {below : List Frame} {meth : Method} {c : Code} {b n : Nat} {C : CT} (hlo : 231 ≤ n)   (F : Cx b p m c b_MO_layFits 5 s ([.ref (b + 191)] : List Value).toArray "WardFallsModel" C n 231) (hlk : meth.locks = false) (hr : meth.sig.returnType = none) {res : Mem} : ∀ (fu : Nat) (M : Mem) (v1_ : Int) (hv1_ : InR v1_) (v2_ : Int) (hv2_ : InR v2_) (H : Heap) (locs : List Loc) (ls : Array Slot), St b C n M s H locs → lv_has ls 5 [(0, .ref (b + 191)), (1, vI v1_), (2, vI v2_)] → t_MO_layFits_L114 fu M v1_ v2_ = some res → W p l e (headSpec (wsM y_MO_layFits b_MO_layFits 5 (none)) (rmD 4)).room s m ([.ref (b + 191)] : List Value).toArray below meth c H locs 0 0 (MQ below (QV b C n res) ([.ref (b + 191)] : List Value).toArray s 0 0 (frb b)) (F0 m 114 ls []) := by
  intro fu
  induction fu with
  | zero => intro M v1_ hv1_ v2_ hv2_ H locs ls hS hl hT; exact absurd hT (by simp [t_MO_layFits_L114])
  | succ fu ih =>
    intro M v1_ hv1_ v2_ hv2_ H locs ls hS hl hT
    rw [t_MO_layFits_L114] at hT
    refine lv_iload_n F.hx F.hb d_MO_layFits_114 rfl (lv_at hl 2 rfl) ?_
    refine lv_iload_n F.hx F.hb d_MO_layFits_115 rfl (lv_at hl 1 rfl) ?_
    refine r_icmp_ge (tgt := 225) F.hx F.hb hv2_ hv1_ d_MO_layFits_116 (by decide) (fun c26 => ?_) (fun c26 => ?_)
    · replace hT := (if_pos c26).symm.trans hT
      cases hT
      exact r_vret F hlk hr hS d_MO_layFits_225
    · replace hT := (if_neg c26).symm.trans hT
      refine lv_iload_n F.hx F.hb d_MO_layFits_119 rfl (lv_at hl 2 rfl) ?_
      refine lv_istore_n (lv' := [(3, vI v2_), (0, .ref (b + 191)), (1, vI v1_), (2, vI v2_)]) F.hx F.hb d_MO_layFits_120 rfl hl (Nat.le_of_ble_eq_true rfl) rfl (fun ls hl => ?_)
      refine r_iconst F.hx F.hb d_MO_layFits_121 ?_
      refine lv_istore (lv' := [(4, vI 0), (3, vI v2_), (0, .ref (b + 191)), (1, vI v1_), (2, vI v2_)]) F.hx F.hb d_MO_layFits_122 hl (Nat.le_of_ble_eq_true rfl) rfl (fun ls hl => ?_)
      exact k_MO_layFits_L124 l hlo F hlk hr (fun a0_ a1_ a2_ => t_MO_layFits_L114 fu a0_ a1_ a2_) ih FU M v1_ hv1_ v2_ hv2_ v2_ hv2_ 0 (inr_c rfl) _ _ _ hS (lv_sub hl [2, 3, 4, 1, 0] rfl) hT
set_option maxHeartbeats 4000000 in
set_option maxRecDepth 100000 in
theorem k_MO_layFits_L85 (l : Launch) {p : Program} {e : Env} {s : State} {m : MethodId} {below : List Frame} {meth : Method} {c : Code} {b n : Nat} {C : CT} (hlo : 231 ≤ n)   (F : Cx b p m c b_MO_layFits 5 s ([.ref (b + 191)] : List Value).toArray "WardFallsModel" C n 231) (hlk : meth.locks = false) (hr : meth.sig.returnType = none) {res : Mem} : ∀ (fu : Nat) (M : Mem) (v1_ : Int) (hv1_ : InR v1_) (v2_ : Int) (hv2_ : InR v2_) (H : Heap) (locs : List Loc) (ls : Array Slot), St b C n M s H locs → lv_has ls 5 [(0, .ref (b + 191)), (1, vI v1_), (2, vI v2_)] → t_MO_layFits_L85 fu M v1_ v2_ = some res → W p l e (headSpec (wsM y_MO_layFits b_MO_layFits 5 (none)) (rmD 4)).room s m ([.ref (b + 191)] : List Value).toArray below meth c H locs 0 0 (MQ below (QV b C n res) ([.ref (b + 191)] : List Value).toArray s 0 0 (frb b)) (F0 m 85 ls []) := by
  intro fu
  induction fu with
  | zero => intro M v1_ hv1_ v2_ hv2_ H locs ls hS hl hT; exact absurd hT (by simp [t_MO_layFits_L85])
  | succ fu ih =>
    intro M v1_ hv1_ v2_ hv2_ H locs ls hS hl hT
    rw [t_MO_layFits_L85] at hT
    refine lv_iload_n F.hx F.hb d_MO_layFits_85 rfl (lv_at hl 2 rfl) ?_
    refine lv_aload_n F.hx F.hb d_MO_layFits_86 rfl (lv_at hl 0 rfl) ?_
    refine r_get (v := .ref (b + 193)) (N := 68) (T := T1) (j := 3) F hS (show 191 < 231 by decide) (show shK 191 = 5 from rfl) (show shN 191 = 68 from rfl) rfl (Nat.le_of_ble_eq_true rfl) ing1 mw_1392 (fv_sg rfl rfl rfl) d_MO_layFits_87 ?_
    refine r_iconst F.hx F.hb d_MO_layFits_90 ?_
    refine r_iald F hS (show 193 < 231 by decide) (show shK 193 = 0 from rfl) (show shN 193 = 18 from rfl) (inr_c rfl) (by omega) (by omega) d_MO_layFits_91 ?_
    have i22 := hS.rng 193 2
    refine r_icmp_ge (tgt := 112) F.hx F.hb hv2_ i22 d_MO_layFits_92 (by decide) (fun c23 => ?_) (fun c23 => ?_)
    · replace hT := (if_pos c23).symm.trans hT
      refine r_iconst F.hx F.hb d_MO_layFits_112 ?_
      refine lv_istore_n (lv' := [(2, vI 0), (0, .ref (b + 191)), (1, vI v1_)]) F.hx F.hb d_MO_layFits_113 rfl hl (Nat.le_of_ble_eq_true rfl) rfl (fun ls hl => ?_)
      exact k_MO_layFits_L114 l hlo F hlk hr FU M v1_ hv1_ 0 (inr_c rfl) _ _ _ hS (lv_sub hl [1, 2, 0] rfl) hT
    · replace hT := (if_neg c23).symm.trans hT
      refine lv_aload_n F.hx F.hb d_MO_layFits_95 rfl (lv_at hl 0 rfl) ?_
      refine r_get (v := .ref (b + 230)) (N := 68) (T := T1) (j := 67) F hS (show 191 < 231 by decide) (show shK 191 = 5 from rfl) (show shN 191 = 68 from rfl) rfl (Nat.le_of_ble_eq_true rfl) ing1 mw_1456 (fv_sg rfl rfl rfl) d_MO_layFits_96 ?_
      refine lv_iload_n F.hx F.hb d_MO_layFits_99 rfl (lv_at hl 2 rfl) ?_
      refine r_iconst F.hx F.hb d_MO_layFits_100 ?_
      obtain ⟨⟨g24a, g24b⟩, hT⟩ := q_guard hT
      refine r_iast F hS (show 230 < 231 by decide) (show shK 230 = 0 from rfl) (show shN 230 = 4 from rfl) hv2_ (inr_c rfl) g24a g24b d_MO_layFits_101 (fun H locs hS => ?_)
      obtain ⟨M25, eM25⟩ : ∃ q, q = (setI M 230 v2_ 0) := ⟨_, rfl⟩
      replace hS : St b C n M25 s H locs := by rw [eM25]; exact hS
      replace hT := qlet_eq hT eM25
      refine lv_iload_n F.hx F.hb d_MO_layFits_102 rfl (lv_at hl 1 rfl) ?_
      refine r_iconst F.hx F.hb d_MO_layFits_103 ?_
      refine r_imul F.hx F.hb d_MO_layFits_104 ?_
      refine lv_istore_n (lv' := [(1, vI (w32 (v1_ * 5))), (0, .ref (b + 191)), (2, vI v2_)]) F.hx F.hb d_MO_layFits_105 rfl hl (Nat.le_of_ble_eq_true rfl) rfl (fun ls hl => ?_)
      refine lv_iinc (v := Int32.ofInt (w32 (v2_ + 1))) (lv' := [(2, vI (w32 (v2_ + 1))), (1, vI (w32 (v1_ * 5))), (0, .ref (b + 191))]) F.hx F.hb d_MO_layFits_106 hl (k := 2) rfl (q_of_add _ _) (Nat.le_of_ble_eq_true rfl) rfl (fun ls hl => ?_)
      refine lv_goto (tgt := 85) F.hx F.hb d_MO_layFits_109 (by decide) ?_
      exact ih M25 (w32 (v1_ * 5)) (inr_w32 _) (w32 (v2_ + 1)) (inr_w32 _) _ _ _ hS (lv_sub hl [2, 1, 0] rfl) hT
set_option maxHeartbeats 4000000 in
set_option maxRecDepth 100000 in
theorem k_MO_layFits_L30 (l : Launch) {p : Program} {e : Env} {s : State} {m : MethodId} {below : List Frame} {meth : Method} {c : Code} {b n : Nat} {C : CT} (hlo : 231 ≤ n)   (F : Cx b p m c b_MO_layFits 5 s ([.ref (b + 191)] : List Value).toArray "WardFallsModel" C n 231) (hlk : meth.locks = false) (hr : meth.sig.returnType = none) {res : Mem} : ∀ (fu : Nat) (M : Mem) (v1_ : Int) (hv1_ : InR v1_) (H : Heap) (locs : List Loc) (ls : Array Slot), St b C n M s H locs → lv_has ls 5 [(0, .ref (b + 191)), (1, vI v1_)] → t_MO_layFits_L30 fu M v1_ = some res → W p l e (headSpec (wsM y_MO_layFits b_MO_layFits 5 (none)) (rmD 4)).room s m ([.ref (b + 191)] : List Value).toArray below meth c H locs 0 0 (MQ below (QV b C n res) ([.ref (b + 191)] : List Value).toArray s 0 0 (frb b)) (F0 m 30 ls []) := by
  intro fu
  induction fu with
  | zero => intro M v1_ hv1_ H locs ls hS hl hT; exact absurd hT (by simp [t_MO_layFits_L30])
  | succ fu ih =>
    intro M v1_ hv1_ H locs ls hS hl hT
    rw [t_MO_layFits_L30] at hT
    refine lv_iload_n F.hx F.hb d_MO_layFits_30 rfl (lv_at hl 1 rfl) ?_
    refine r_if_lt (tgt := 70) F.hx F.hb hv1_ d_MO_layFits_31 (by decide) (fun c8 => ?_) (fun c8 => ?_)
    · replace hT := (if_pos c8).symm.trans hT
      refine lv_aload_n F.hx F.hb d_MO_layFits_70 rfl (lv_at hl 0 rfl) ?_
      refine r_iconst F.hx F.hb d_MO_layFits_71 ?_
      refine r_iconst F.hx F.hb d_MO_layFits_72 ?_
      obtain ⟨q9, hq9, hT⟩ := q_obind hT
      refine r_backV F hS (r_runV (k := 191) (N := 68) (T := T1) (As := [vI 1, vI 0]) F hS (show 191 < 231 by decide) (show shK 191 = 5 from rfl) rfl (c_MO_copies l F.2.2.1 M 1 0 (inr_c rfl) (inr_c rfl) _ hq9) gs_MO_437 hd_MO_copies ⟨Nat.le_of_ble_eq_true rfl, Nat.le_of_ble_eq_true rfl⟩ rfl hl.1 (Nat.le_of_ble_eq_true rfl) ⟨Nat.zero_le _, Nat.zero_le _⟩ rfl d_MO_layFits_73) (fun H locs hS => ?_)
      refine lv_aload_n F.hx F.hb d_MO_layFits_76 rfl (lv_at hl 0 rfl) ?_
      refine r_iconst F.hx F.hb d_MO_layFits_77 ?_
      refine r_putI (N := 68) (T := T1) (j := 66) F hS (show 191 < 231 by decide) (show shK 191 = 5 from rfl) (show shN 191 = 68 from rfl) rfl (Nat.le_of_ble_eq_true rfl) ing1 tyok1 nm1 rfl rfl rfl rfl rfl rfl mw_1455 (inr_c rfl) d_MO_layFits_78 (fun H locs hS => ?_)
      obtain ⟨M11, eM11⟩ : ∃ q, q = (setI q9 191 66 0) := ⟨_, rfl⟩
      replace hS : St b C n M11 s H locs := by rw [eM11]; exact hS
      replace hT := qlet_eq hT eM11
      refine r_iconst F.hx F.hb d_MO_layFits_81 ?_
      refine lv_istore_n (lv' := [(1, vI 1), (0, .ref (b + 191))]) F.hx F.hb d_MO_layFits_82 rfl hl (Nat.le_of_ble_eq_true rfl) rfl (fun ls hl => ?_)
      refine r_iconst F.hx F.hb d_MO_layFits_83 ?_
      refine lv_istore_n (lv' := [(2, vI 0), (1, vI 1), (0, .ref (b + 191))]) F.hx F.hb d_MO_layFits_84 rfl hl (Nat.le_of_ble_eq_true rfl) rfl (fun ls hl => ?_)
      exact k_MO_layFits_L85 l hlo F hlk hr FU M11 1 (inr_c rfl) 0 (inr_c rfl) _ _ _ hS (lv_sub hl [2, 1, 0] rfl) hT
    · replace hT := (if_neg c8).symm.trans hT
      refine lv_aload_n F.hx F.hb d_MO_layFits_34 rfl (lv_at hl 0 rfl) ?_
      refine r_get (v := .ref (b + 229)) (N := 68) (T := T1) (j := 65) F hS (show 191 < 231 by decide) (show shK 191 = 5 from rfl) (show shN 191 = 68 from rfl) rfl (Nat.le_of_ble_eq_true rfl) ing1 mw_1454 (fv_sg rfl rfl rfl) d_MO_layFits_35 ?_
      refine lv_iload_n F.hx F.hb d_MO_layFits_38 rfl (lv_at hl 1 rfl) ?_
      obtain ⟨⟨g12a, g12b⟩, hT⟩ := q_guard hT
      have z13 := hS.bool (show shK 229 = 1 from rfl) v1_
      refine r_zald F hS (show 229 < 231 by decide) (show shK 229 = 1 from rfl) (show shN 229 = 24 from rfl) hv1_ g12a g12b d_MO_layFits_39 ?_
      refine r_if_ne (tgt := 64) F.hx F.hb (inr_z z13) d_MO_layFits_40 (by decide) (fun c14 => ?_) (fun c14 => ?_)
      · replace hT := (if_neg c14).symm.trans hT
        exact k_MO_layFits_L64 l hlo F hlk hr (fun a0_ a1_ => t_MO_layFits_L30 fu a0_ a1_) ih M v1_ hv1_ _ _ _ hS (lv_sub hl [0, 1] rfl) hT
      · replace hT := (if_pos c14).symm.trans hT
        refine lv_aload_n F.hx F.hb d_MO_layFits_43 rfl (lv_at hl 0 rfl) ?_
        refine r_get (v := .ref (b + 228)) (N := 68) (T := T1) (j := 64) F hS (show 191 < 231 by decide) (show shK 191 = 5 from rfl) (show shN 191 = 68 from rfl) rfl (Nat.le_of_ble_eq_true rfl) ing1 mw_1453 (fv_sg rfl rfl rfl) d_MO_layFits_44 ?_
        refine lv_iload_n F.hx F.hb d_MO_layFits_47 rfl (lv_at hl 1 rfl) ?_
        obtain ⟨⟨g15a, g15b⟩, hT⟩ := q_guard hT
        have z16 := hS.bool (show shK 228 = 1 from rfl) v1_
        refine r_zald F hS (show 228 < 231 by decide) (show shK 228 = 1 from rfl) (show shN 228 = 24 from rfl) hv1_ g15a g15b d_MO_layFits_48 ?_
        refine r_if_eq (tgt := 64) F.hx F.hb (inr_z z16) d_MO_layFits_49 (by decide) (fun c17 => ?_) (fun c17 => ?_)
        · replace hT := (if_pos c17).symm.trans hT
          exact k_MO_layFits_L64 l hlo F hlk hr (fun a0_ a1_ => t_MO_layFits_L30 fu a0_ a1_) ih M v1_ hv1_ _ _ _ hS (lv_sub hl [0, 1] rfl) hT
        · replace hT := (if_neg c17).symm.trans hT
          refine lv_aload_n F.hx F.hb d_MO_layFits_52 rfl (lv_at hl 0 rfl) ?_
          refine r_get (v := .ref (b + 229)) (N := 68) (T := T1) (j := 65) F hS (show 191 < 231 by decide) (show shK 191 = 5 from rfl) (show shN 191 = 68 from rfl) rfl (Nat.le_of_ble_eq_true rfl) ing1 mw_1454 (fv_sg rfl rfl rfl) d_MO_layFits_53 ?_
          refine lv_aload_n F.hx F.hb d_MO_layFits_56 rfl (lv_at hl 0 rfl) ?_
          refine r_get (v := .ref (b + 226)) (N := 68) (T := T1) (j := 62) F hS (show 191 < 231 by decide) (show shK 191 = 5 from rfl) (show shN 191 = 68 from rfl) rfl (Nat.le_of_ble_eq_true rfl) ing1 mw_1451 (fv_sg rfl rfl rfl) d_MO_layFits_57 ?_
          refine lv_iload_n F.hx F.hb d_MO_layFits_60 rfl (lv_at hl 1 rfl) ?_
          obtain ⟨⟨g18a, g18b⟩, hT⟩ := q_guard hT
          refine r_iald F hS (show 226 < 231 by decide) (show shK 226 = 0 from rfl) (show shN 226 = 24 from rfl) hv1_ g18a g18b d_MO_layFits_61 ?_
          have i19 := hS.rng 226 v1_
          refine r_iconst F.hx F.hb d_MO_layFits_62 ?_
          obtain ⟨⟨g20a, g20b⟩, hT⟩ := q_guard hT
          refine r_zast F hS (show 229 < 231 by decide) (show shK 229 = 1 from rfl) (show shN 229 = 24 from rfl) i19 (Or.inr rfl) g20a g20b d_MO_layFits_63 (fun H locs hS => ?_)
          obtain ⟨M21, eM21⟩ : ∃ q, q = (setI M 229 (M.1 226 v1_) 1) := ⟨_, rfl⟩
          replace hS : St b C n M21 s H locs := by rw [eM21]; exact hS
          replace hT := qlet_eq hT eM21
          exact k_MO_layFits_L64 l hlo F hlk hr (fun a0_ a1_ => t_MO_layFits_L30 fu a0_ a1_) ih M21 v1_ hv1_ _ _ _ hS (lv_sub hl [0, 1] rfl) hT
set_option maxHeartbeats 4000000 in
set_option maxRecDepth 100000 in
theorem k_MO_layFits_L2 (l : Launch) {p : Program} {e : Env} {s : State} {m : MethodId} {below : List Frame} {meth : Method} {c : Code} {b n : Nat} {C : CT} (hlo : 231 ≤ n)   (F : Cx b p m c b_MO_layFits 5 s ([.ref (b + 191)] : List Value).toArray "WardFallsModel" C n 231) (hlk : meth.locks = false) (hr : meth.sig.returnType = none) {res : Mem} : ∀ (fu : Nat) (M : Mem) (v1_ : Int) (hv1_ : InR v1_) (H : Heap) (locs : List Loc) (ls : Array Slot), St b C n M s H locs → lv_has ls 5 [(0, .ref (b + 191)), (1, vI v1_)] → t_MO_layFits_L2 fu M v1_ = some res → W p l e (headSpec (wsM y_MO_layFits b_MO_layFits 5 (none)) (rmD 4)).room s m ([.ref (b + 191)] : List Value).toArray below meth c H locs 0 0 (MQ below (QV b C n res) ([.ref (b + 191)] : List Value).toArray s 0 0 (frb b)) (F0 m 2 ls []) := by
  intro fu
  induction fu with
  | zero => intro M v1_ hv1_ H locs ls hS hl hT; exact absurd hT (by simp [t_MO_layFits_L2])
  | succ fu ih =>
    intro M v1_ hv1_ H locs ls hS hl hT
    rw [t_MO_layFits_L2] at hT
    refine lv_iload_n F.hx F.hb d_MO_layFits_2 rfl (lv_at hl 1 rfl) ?_
    refine lv_aload_n F.hx F.hb d_MO_layFits_3 rfl (lv_at hl 0 rfl) ?_
    obtain ⟨q1, hq1⟩ : ∃ q, q = (t_MO_knownMany M) := ⟨_, rfl⟩
    replace hT := qlet_eq hT hq1
    refine r_backI F hS (r_runV (k := 191) (N := 68) (T := T1) (As := []) F hS (show 191 < 231 by decide) (show shK 191 = 5 from rfl) rfl (c_MO_knownMany l F.2.2.1 M _ hq1.symm) gs_MO_501 hd_MO_knownMany ⟨Nat.le_of_ble_eq_true rfl, Nat.le_of_ble_eq_true rfl⟩ rfl hl.1 (Nat.le_of_ble_eq_true rfl) ⟨Nat.zero_le _, Nat.zero_le _⟩ rfl d_MO_layFits_4) (fun H locs hS h2 => ?_)
    refine r_icmp_ge (tgt := 23) F.hx F.hb hv1_ h2 d_MO_layFits_7 (by decide) (fun c3 => ?_) (fun c3 => ?_)
    · replace hT := (if_pos c3).symm.trans hT
      refine lv_aload_n F.hx F.hb d_MO_layFits_23 rfl (lv_at hl 0 rfl) ?_
      obtain ⟨q4, hq4⟩ : ∃ q, q = (t_MO_knownMany M) := ⟨_, rfl⟩
      replace hT := qlet_eq hT hq4
      refine r_backI F hS (r_runV (k := 191) (N := 68) (T := T1) (As := []) F hS (show 191 < 231 by decide) (show shK 191 = 5 from rfl) rfl (c_MO_knownMany l F.2.2.1 M _ hq4.symm) gs_MO_501 hd_MO_knownMany ⟨Nat.le_of_ble_eq_true rfl, Nat.le_of_ble_eq_true rfl⟩ rfl hl.1 (Nat.le_of_ble_eq_true rfl) ⟨Nat.zero_le _, Nat.zero_le _⟩ rfl d_MO_layFits_24) (fun H locs hS h5 => ?_)
      refine r_iconst F.hx F.hb d_MO_layFits_27 ?_
      refine r_isub F.hx F.hb d_MO_layFits_28 ?_
      refine lv_istore_n (lv' := [(1, vI (w32 (q4 - 1))), (0, .ref (b + 191))]) F.hx F.hb d_MO_layFits_29 rfl hl (Nat.le_of_ble_eq_true rfl) rfl (fun ls hl => ?_)
      exact k_MO_layFits_L30 l hlo F hlk hr FU M (w32 (q4 - 1)) (inr_w32 _) _ _ _ hS (lv_sub hl [1, 0] rfl) hT
    · replace hT := (if_neg c3).symm.trans hT
      refine lv_aload_n F.hx F.hb d_MO_layFits_10 rfl (lv_at hl 0 rfl) ?_
      refine r_get (v := .ref (b + 229)) (N := 68) (T := T1) (j := 65) F hS (show 191 < 231 by decide) (show shK 191 = 5 from rfl) (show shN 191 = 68 from rfl) rfl (Nat.le_of_ble_eq_true rfl) ing1 mw_1454 (fv_sg rfl rfl rfl) d_MO_layFits_11 ?_
      refine lv_iload_n F.hx F.hb d_MO_layFits_14 rfl (lv_at hl 1 rfl) ?_
      refine r_iconst F.hx F.hb d_MO_layFits_15 ?_
      obtain ⟨⟨g6a, g6b⟩, hT⟩ := q_guard hT
      refine r_zast F hS (show 229 < 231 by decide) (show shK 229 = 1 from rfl) (show shN 229 = 24 from rfl) hv1_ (Or.inl rfl) g6a g6b d_MO_layFits_16 (fun H locs hS => ?_)
      obtain ⟨M7, eM7⟩ : ∃ q, q = (setI M 229 v1_ 0) := ⟨_, rfl⟩
      replace hS : St b C n M7 s H locs := by rw [eM7]; exact hS
      replace hT := qlet_eq hT eM7
      refine lv_iinc (v := Int32.ofInt (w32 (v1_ + 1))) (lv' := [(1, vI (w32 (v1_ + 1))), (0, .ref (b + 191))]) F.hx F.hb d_MO_layFits_17 hl (k := 1) rfl (q_of_add _ _) (Nat.le_of_ble_eq_true rfl) rfl (fun ls hl => ?_)
      refine lv_goto (tgt := 2) F.hx F.hb d_MO_layFits_20 (by decide) ?_
      exact ih M7 (w32 (v1_ + 1)) (inr_w32 _) _ _ _ hS (lv_sub hl [1, 0] rfl) hT
set_option maxHeartbeats 4000000 in
set_option maxRecDepth 100000 in
theorem c_MO_layFits (l : Launch) {b n : Nat} {C : CT} (hlo : 231 ≤ n) (M : Mem)   (res : Mem) (hT : t_MO_layFits M  = some res) : CM l b C n 4 y_MO_layFits b_MO_layFits 5 (none) [.ref (b + 191)] M (QV b C n res) := by
  refine CM.of (lo := 231) (ow := "WardFallsModel") (by decide) rfl (Nat.le_of_ble_eq_true rfl) hlo (fun p e s m below meth c F hlk hr hS ls hl => ?_)
  have hl : lv_has ls 5 [(0, .ref (b + 191))] := hl
  unfold t_MO_layFits at hT
  refine r_iconst F.hx F.hb d_MO_layFits_0 ?_
  refine lv_istore_n (lv' := [(1, vI 0), (0, .ref (b + 191))]) F.hx F.hb d_MO_layFits_1 rfl hl (Nat.le_of_ble_eq_true rfl) rfl (fun ls hl => ?_)
  exact k_MO_layFits_L2 l hlo F hlk hr FU M 0 (inr_c rfl) _ _ _ hS (lv_sub hl [1, 0] rfl) hT
theorem d_MO_fits_0 : decode b_MO_fits 0 = .ok (.aload_n 0, 1) := dc_42 (by decide +kernel)
theorem d_MO_fits_1 : decode b_MO_fits 1 = .ok (.iconst 0, 1) := dc_3 (by decide +kernel)
theorem d_MO_fits_2 : decode b_MO_fits 2 = .ok (.putfield 145, 3) := dc_181 (by decide +kernel)
theorem d_MO_fits_5 : decode b_MO_fits 5 = .ok (.aload_n 0, 1) := dc_42 (by decide +kernel)
theorem d_MO_fits_6 : decode b_MO_fits 6 = .ok (.invokevirtual 510, 3) := dc_182 (by decide +kernel)
theorem d_MO_fits_9 : decode b_MO_fits 9 = .ok (.aload_n 0, 1) := dc_42 (by decide +kernel)
theorem d_MO_fits_10 : decode b_MO_fits 10 = .ok (.getfield 504, 3) := dc_180 (by decide +kernel)
theorem d_MO_fits_13 : decode b_MO_fits 13 = .ok (.ireturn, 1) := dc_172 (by decide +kernel)
def t_MO_fits (M : Mem)  : Option (Mem × Int) := (qlet (setI M 191 0 0) fun M1 => (obind (t_MO_layFits M1) fun q2 => (some (q2, (q2.1 191 66)))))
set_option maxHeartbeats 4000000 in
set_option maxRecDepth 100000 in
theorem c_MO_fits (l : Launch) {b n : Nat} {C : CT} (hlo : 231 ≤ n) (M : Mem)   (res : Mem × Int) (hT : t_MO_fits M  = some res) : CM l b C n 5 y_MO_fits b_MO_fits 1 (some .int) [.ref (b + 191)] M (QI b C n res.1 res.2) := by
  refine CM.of (lo := 231) (ow := "WardFallsModel") (by decide) rfl (Nat.le_of_ble_eq_true rfl) hlo (fun p e s m below meth c F hlk hr hS ls hl => ?_)
  have hl : lv_has ls 1 [(0, .ref (b + 191))] := hl
  unfold t_MO_fits at hT
  refine lv_aload_n F.hx F.hb d_MO_fits_0 rfl (lv_at hl 0 rfl) ?_
  refine r_iconst F.hx F.hb d_MO_fits_1 ?_
  refine r_putI (N := 68) (T := T1) (j := 0) F hS (show 191 < 231 by decide) (show shK 191 = 5 from rfl) (show shN 191 = 68 from rfl) rfl (Nat.le_of_ble_eq_true rfl) ing1 tyok1 nm1 rfl rfl rfl rfl rfl rfl mw_1389 (inr_c rfl) d_MO_fits_2 (fun H locs hS => ?_)
  obtain ⟨M1, eM1⟩ : ∃ q, q = (setI M 191 0 0) := ⟨_, rfl⟩
  replace hS : St b C n M1 s H locs := by rw [eM1]; exact hS
  replace hT := qlet_eq hT eM1
  refine lv_aload_n F.hx F.hb d_MO_fits_5 rfl (lv_at hl 0 rfl) ?_
  obtain ⟨q2, hq2, hT⟩ := q_obind hT
  refine r_backV F hS (r_runV (k := 191) (N := 68) (T := T1) (As := []) F hS (show 191 < 231 by decide) (show shK 191 = 5 from rfl) rfl (c_MO_layFits l F.2.2.1 M1 _ hq2) gs_MO_510 hd_MO_layFits ⟨Nat.le_of_ble_eq_true rfl, Nat.le_of_ble_eq_true rfl⟩ rfl hl.1 (Nat.le_of_ble_eq_true rfl) ⟨Nat.zero_le _, Nat.zero_le _⟩ rfl d_MO_fits_6) (fun H locs hS => ?_)
  refine lv_aload_n F.hx F.hb d_MO_fits_9 rfl (lv_at hl 0 rfl) ?_
  refine r_get (v := vI (q2.1 191 66)) (N := 68) (T := T1) (j := 66) F hS (show 191 < 231 by decide) (show shK 191 = 5 from rfl) (show shN 191 = 68 from rfl) rfl (Nat.le_of_ble_eq_true rfl) ing1 mw_1455 (fv_int rfl) d_MO_fits_10 ?_
  have i4 := hS.rng 191 66
  cases hT
  exact r_iret F hlk hr rfl hS i4 d_MO_fits_13
theorem d_MO_may_0 : decode b_MO_may 0 = .ok (.aload_n 0, 1) := dc_42 (by decide +kernel)
theorem d_MO_may_1 : decode b_MO_may 1 = .ok (.iconst 0, 1) := dc_3 (by decide +kernel)
theorem d_MO_may_2 : decode b_MO_may 2 = .ok (.putfield 145, 3) := dc_181 (by decide +kernel)
theorem d_MO_may_5 : decode b_MO_may 5 = .ok (.aload_n 0, 1) := dc_42 (by decide +kernel)
theorem d_MO_may_6 : decode b_MO_may 6 = .ok (.iload_n 1, 1) := dc_27 (by decide +kernel)
theorem d_MO_may_7 : decode b_MO_may 7 = .ok (.invokevirtual 369, 3) := dc_182 (by decide +kernel)
theorem d_MO_may_10 : decode b_MO_may 10 = .ok (.ifCond .ne 5, 3) := dc_154 (by decide +kernel)
theorem d_MO_may_13 : decode b_MO_may 13 = .ok (.iconst (-1), 1) := dc_2 (by decide +kernel)
theorem d_MO_may_14 : decode b_MO_may 14 = .ok (.ireturn, 1) := dc_172 (by decide +kernel)
theorem d_MO_may_15 : decode b_MO_may 15 = .ok (.aload_n 0, 1) := dc_42 (by decide +kernel)
theorem d_MO_may_16 : decode b_MO_may 16 = .ok (.invokevirtual 510, 3) := dc_182 (by decide +kernel)
theorem d_MO_may_19 : decode b_MO_may 19 = .ok (.aload_n 0, 1) := dc_42 (by decide +kernel)
theorem d_MO_may_20 : decode b_MO_may 20 = .ok (.getfield 139, 3) := dc_180 (by decide +kernel)
theorem d_MO_may_23 : decode b_MO_may 23 = .ok (.iload_n 1, 1) := dc_27 (by decide +kernel)
theorem d_MO_may_24 : decode b_MO_may 24 = .ok (.iaload, 1) := dc_46 (by decide +kernel)
theorem d_MO_may_25 : decode b_MO_may 25 = .ok (.ireturn, 1) := dc_172 (by decide +kernel)
def t_MO_may (M : Mem) (x1 : Int) : Option (Mem × Int) := (qlet (setI M 191 0 0) fun M1 => (qlet (t_MO_isWard M1 x1) fun q2 => (if q2 = 0 then (some (M1, (-1))) else (obind (t_MO_layFits M1) fun q5 => (qguard (0 ≤ x1 ∧ x1 < 4) (some (q5, (q5.1 230 x1))))))))
set_option maxHeartbeats 4000000 in
set_option maxRecDepth 100000 in
theorem c_MO_may (l : Launch) {b n : Nat} {C : CT} (hlo : 231 ≤ n) (M : Mem) (x1 : Int) (hx1 : InR x1) (res : Mem × Int) (hT : t_MO_may M x1 = some res) : CM l b C n 5 y_MO_may b_MO_may 2 (some .int) [.ref (b + 191), vI x1] M (QI b C n res.1 res.2) := by
  refine CM.of (lo := 231) (ow := "WardFallsModel") (by decide) rfl (Nat.le_of_ble_eq_true rfl) hlo (fun p e s m below meth c F hlk hr hS ls hl => ?_)
  have hl : lv_has ls 2 [(0, .ref (b + 191)), (1, vI x1)] := hl
  unfold t_MO_may at hT
  refine lv_aload_n F.hx F.hb d_MO_may_0 rfl (lv_at hl 0 rfl) ?_
  refine r_iconst F.hx F.hb d_MO_may_1 ?_
  refine r_putI (N := 68) (T := T1) (j := 0) F hS (show 191 < 231 by decide) (show shK 191 = 5 from rfl) (show shN 191 = 68 from rfl) rfl (Nat.le_of_ble_eq_true rfl) ing1 tyok1 nm1 rfl rfl rfl rfl rfl rfl mw_1389 (inr_c rfl) d_MO_may_2 (fun H locs hS => ?_)
  obtain ⟨M1, eM1⟩ : ∃ q, q = (setI M 191 0 0) := ⟨_, rfl⟩
  replace hS : St b C n M1 s H locs := by rw [eM1]; exact hS
  replace hT := qlet_eq hT eM1
  refine lv_aload_n F.hx F.hb d_MO_may_5 rfl (lv_at hl 0 rfl) ?_
  refine lv_iload_n F.hx F.hb d_MO_may_6 rfl (lv_at hl 1 rfl) ?_
  obtain ⟨q2, hq2⟩ : ∃ q, q = (t_MO_isWard M1 x1) := ⟨_, rfl⟩
  replace hT := qlet_eq hT hq2
  refine r_backZ F hS (r_runV (k := 191) (N := 68) (T := T1) (As := [vI x1]) F hS (show 191 < 231 by decide) (show shK 191 = 5 from rfl) rfl (c_MO_isWard l F.2.2.1 M1 x1 hx1 _ hq2.symm) gs_MO_369 hd_MO_isWard ⟨Nat.le_of_ble_eq_true rfl, Nat.le_of_ble_eq_true rfl⟩ rfl hl.1 (Nat.le_of_ble_eq_true rfl) ⟨Nat.zero_le _, Nat.zero_le _⟩ rfl d_MO_may_7) (fun H locs hS h3 => ?_)
  refine r_if_ne (tgt := 15) F.hx F.hb (inr_z h3) d_MO_may_10 (by decide) (fun c4 => ?_) (fun c4 => ?_)
  · replace hT := (if_neg c4).symm.trans hT
    refine lv_aload_n F.hx F.hb d_MO_may_15 rfl (lv_at hl 0 rfl) ?_
    obtain ⟨q5, hq5, hT⟩ := q_obind hT
    refine r_backV F hS (r_runV (k := 191) (N := 68) (T := T1) (As := []) F hS (show 191 < 231 by decide) (show shK 191 = 5 from rfl) rfl (c_MO_layFits l F.2.2.1 M1 _ hq5) gs_MO_510 hd_MO_layFits ⟨Nat.le_of_ble_eq_true rfl, Nat.le_of_ble_eq_true rfl⟩ rfl hl.1 (Nat.le_of_ble_eq_true rfl) ⟨Nat.zero_le _, Nat.zero_le _⟩ rfl d_MO_may_16) (fun H locs hS => ?_)
    refine lv_aload_n F.hx F.hb d_MO_may_19 rfl (lv_at hl 0 rfl) ?_
    refine r_get (v := .ref (b + 230)) (N := 68) (T := T1) (j := 67) F hS (show 191 < 231 by decide) (show shK 191 = 5 from rfl) (show shN 191 = 68 from rfl) rfl (Nat.le_of_ble_eq_true rfl) ing1 mw_1456 (fv_sg rfl rfl rfl) d_MO_may_20 ?_
    refine lv_iload_n F.hx F.hb d_MO_may_23 rfl (lv_at hl 1 rfl) ?_
    obtain ⟨⟨g7a, g7b⟩, hT⟩ := q_guard hT
    refine r_iald F hS (show 230 < 231 by decide) (show shK 230 = 0 from rfl) (show shN 230 = 4 from rfl) hx1 g7a g7b d_MO_may_24 ?_
    have i8 := hS.rng 230 x1
    cases hT
    exact r_iret F hlk hr rfl hS i8 d_MO_may_25
  · replace hT := (if_pos c4).symm.trans hT
    refine r_iconst F.hx F.hb d_MO_may_13 ?_
    cases hT
    exact r_iret F hlk hr rfl hS (inr_c rfl) d_MO_may_14
theorem d_MO_draw_0 : decode b_MO_draw 0 = .ok (.aload_n 0, 1) := dc_42 (by decide +kernel)
theorem d_MO_draw_1 : decode b_MO_draw 1 = .ok (.getfield 66, 3) := dc_180 (by decide +kernel)
theorem d_MO_draw_4 : decode b_MO_draw 4 = .ok (.iconst 0, 1) := dc_3 (by decide +kernel)
theorem d_MO_draw_5 : decode b_MO_draw 5 = .ok (.aload_n 0, 1) := dc_42 (by decide +kernel)
theorem d_MO_draw_6 : decode b_MO_draw 6 = .ok (.getfield 66, 3) := dc_180 (by decide +kernel)
theorem d_MO_draw_9 : decode b_MO_draw 9 = .ok (.iconst 0, 1) := dc_3 (by decide +kernel)
theorem d_MO_draw_10 : decode b_MO_draw 10 = .ok (.iaload, 1) := dc_46 (by decide +kernel)
theorem d_MO_draw_11 : decode b_MO_draw 11 = .ok (.ldc_w 513, 3) := dc_19 (by decide +kernel)
theorem d_MO_draw_14 : decode b_MO_draw 14 = .ok (.imul, 1) := dc_104 (by decide +kernel)
theorem d_MO_draw_15 : decode b_MO_draw 15 = .ok (.sipush 12345, 3) := dc_17 (by decide +kernel)
theorem d_MO_draw_18 : decode b_MO_draw 18 = .ok (.iadd, 1) := dc_96 (by decide +kernel)
theorem d_MO_draw_19 : decode b_MO_draw 19 = .ok (.ldc_w 516, 3) := dc_19 (by decide +kernel)
theorem d_MO_draw_22 : decode b_MO_draw 22 = .ok (.iand, 1) := dc_126 (by decide +kernel)
theorem d_MO_draw_23 : decode b_MO_draw 23 = .ok (.iastore, 1) := dc_79 (by decide +kernel)
theorem d_MO_draw_24 : decode b_MO_draw 24 = .ok (.aload_n 0, 1) := dc_42 (by decide +kernel)
theorem d_MO_draw_25 : decode b_MO_draw 25 = .ok (.getfield 66, 3) := dc_180 (by decide +kernel)
theorem d_MO_draw_28 : decode b_MO_draw 28 = .ok (.iconst 0, 1) := dc_3 (by decide +kernel)
theorem d_MO_draw_29 : decode b_MO_draw 29 = .ok (.iaload, 1) := dc_46 (by decide +kernel)
theorem d_MO_draw_30 : decode b_MO_draw 30 = .ok (.bipush 16, 2) := dc_16 (by decide +kernel)
theorem d_MO_draw_32 : decode b_MO_draw 32 = .ok (.ishr, 1) := dc_122 (by decide +kernel)
theorem d_MO_draw_33 : decode b_MO_draw 33 = .ok (.iload_n 1, 1) := dc_27 (by decide +kernel)
theorem d_MO_draw_34 : decode b_MO_draw 34 = .ok (.irem, 1) := dc_112 (by decide +kernel)
theorem d_MO_draw_35 : decode b_MO_draw 35 = .ok (.ireturn, 1) := dc_172 (by decide +kernel)
def t_MO_draw (M : Mem) (x1 : Int) : Option (Mem × Int) := (qlet (setI M 209 0 (q_and (w32 ((w32 ((M.1 209 0) * 1103515245)) + 12345)) 2147483647)) fun M2 => (if x1 = 0 then none else (some (M2, (q_rem (q_shr (M2.1 209 0) 16) x1)))))
set_option maxHeartbeats 4000000 in
set_option maxRecDepth 100000 in
theorem c_MO_draw (l : Launch) {b n : Nat} {C : CT} (hlo : 231 ≤ n) (M : Mem) (x1 : Int) (hx1 : InR x1) (res : Mem × Int) (hT : t_MO_draw M x1 = some res) : CM l b C n 0 y_MO_draw b_MO_draw 2 (some .int) [.ref (b + 191), vI x1] M (QI b C n res.1 res.2) := by
  refine CM.of (lo := 231) (ow := "WardFallsModel") (by decide) rfl (Nat.le_of_ble_eq_true rfl) hlo (fun p e s m below meth c F hlk hr hS ls hl => ?_)
  have hl : lv_has ls 2 [(0, .ref (b + 191)), (1, vI x1)] := hl
  unfold t_MO_draw at hT
  refine lv_aload_n F.hx F.hb d_MO_draw_0 rfl (lv_at hl 0 rfl) ?_
  refine r_get (v := .ref (b + 209)) (N := 68) (T := T1) (j := 32) F hS (show 191 < 231 by decide) (show shK 191 = 5 from rfl) (show shN 191 = 68 from rfl) rfl (Nat.le_of_ble_eq_true rfl) ing1 mw_1421 (fv_sg rfl rfl rfl) d_MO_draw_1 ?_
  refine r_iconst F.hx F.hb d_MO_draw_4 ?_
  refine lv_aload_n F.hx F.hb d_MO_draw_5 rfl (lv_at hl 0 rfl) ?_
  refine r_get (v := .ref (b + 209)) (N := 68) (T := T1) (j := 32) F hS (show 191 < 231 by decide) (show shK 191 = 5 from rfl) (show shN 191 = 68 from rfl) rfl (Nat.le_of_ble_eq_true rfl) ing1 mw_1421 (fv_sg rfl rfl rfl) d_MO_draw_6 ?_
  refine r_iconst F.hx F.hb d_MO_draw_9 ?_
  refine r_iald F hS (show 209 < 231 by decide) (show shK 209 = 0 from rfl) (show shN 209 = 23 from rfl) (inr_c rfl) (by omega) (by omega) d_MO_draw_10 ?_
  have i1 := hS.rng 209 0
  refine lv_ldcw (v := Int32.ofInt 1103515245) F.hx F.hb F.hown (F.hts mw_2067) d_MO_draw_11 ?_
  refine r_imul F.hx F.hb d_MO_draw_14 ?_
  refine r_sipush F.hx F.hb d_MO_draw_15 rfl ?_
  refine r_iadd F.hx F.hb d_MO_draw_18 ?_
  refine lv_ldcw (v := Int32.ofInt 2147483647) F.hx F.hb F.hown (F.hts mw_2068) d_MO_draw_19 ?_
  refine r_iand F.hx F.hb d_MO_draw_22 ?_
  refine r_iast F hS (show 209 < 231 by decide) (show shK 209 = 0 from rfl) (show shN 209 = 23 from rfl) (inr_c rfl) (q_inr_toInt _) (by omega) (by omega) d_MO_draw_23 (fun H locs hS => ?_)
  obtain ⟨M2, eM2⟩ : ∃ q, q = (setI M 209 0 (q_and (w32 ((w32 ((M.1 209 0) * 1103515245)) + 12345)) 2147483647)) := ⟨_, rfl⟩
  replace hS : St b C n M2 s H locs := by rw [eM2]; exact hS
  replace hT := qlet_eq hT eM2
  refine lv_aload_n F.hx F.hb d_MO_draw_24 rfl (lv_at hl 0 rfl) ?_
  refine r_get (v := .ref (b + 209)) (N := 68) (T := T1) (j := 32) F hS (show 191 < 231 by decide) (show shK 191 = 5 from rfl) (show shN 191 = 68 from rfl) rfl (Nat.le_of_ble_eq_true rfl) ing1 mw_1421 (fv_sg rfl rfl rfl) d_MO_draw_25 ?_
  refine r_iconst F.hx F.hb d_MO_draw_28 ?_
  refine r_iald F hS (show 209 < 231 by decide) (show shK 209 = 0 from rfl) (show shN 209 = 23 from rfl) (inr_c rfl) (by omega) (by omega) d_MO_draw_29 ?_
  have i3 := hS.rng 209 0
  refine r_bipush F.hx F.hb d_MO_draw_30 rfl ?_
  refine r_ishr F.hx F.hb d_MO_draw_32 ?_
  refine lv_iload_n F.hx F.hb d_MO_draw_33 rfl (lv_at hl 1 rfl) ?_
  obtain ⟨c4, hT⟩ := q_guardn hT
  refine r_irem F.hx F.hb hx1 c4 d_MO_draw_34 ?_
  cases hT
  exact r_iret F hlk hr rfl hS (q_inr_toInt _) d_MO_draw_35
theorem wn_MO_years_0 : ∀ i, i < 96 → bA b_MO_years (0 + i) = wB [42, 3, 181, 0, 145, 27, 155, 0, 22, 27, 16, 99, 163, 0, 16, 42, 180, 0, 60, 3, 46, 27, 96, 16, 99, 164, 0, 5, 2, 172, 27, 158, 0, 8, 42, 3, 181, 1, 70, 3, 61, 28, 27, 162, 0, 122, 42, 180, 0, 60, 3, 46, 62, 42, 180, 0, 88, 29, 16, 254, 79, 42, 180, 0, 91, 29, 16, 254, 79, 42, 180, 0, 94, 29, 16, 254, 79, 42, 180, 0, 13, 5, 46, 158, 0, 66, 42, 42, 180, 0, 13, 5, 46, 182, 2, 5] i := wB_of (by decide +kernel)
theorem d_MO_years_0 : decode b_MO_years 0 = .ok (.aload_n 0, 1) := dc_42 (q0_win (r := 0) wn_MO_years_0 (by decide +kernel))
theorem d_MO_years_1 : decode b_MO_years 1 = .ok (.iconst 0, 1) := dc_3 (q0_win (r := 1) wn_MO_years_0 (by decide +kernel))
theorem d_MO_years_2 : decode b_MO_years 2 = .ok (.putfield 145, 3) := dc_181 (qU2_win (r := 2) wn_MO_years_0 (by decide +kernel))
theorem d_MO_years_5 : decode b_MO_years 5 = .ok (.iload_n 1, 1) := dc_27 (q0_win (r := 5) wn_MO_years_0 (by decide +kernel))
theorem d_MO_years_6 : decode b_MO_years 6 = .ok (.ifCond .lt 22, 3) := dc_155 (qS2_win (r := 6) wn_MO_years_0 (by decide +kernel))
theorem d_MO_years_9 : decode b_MO_years 9 = .ok (.iload_n 1, 1) := dc_27 (q0_win (r := 9) wn_MO_years_0 (by decide +kernel))
theorem d_MO_years_10 : decode b_MO_years 10 = .ok (.bipush 99, 2) := dc_16 (qS1_win (r := 10) wn_MO_years_0 (by decide +kernel))
theorem d_MO_years_12 : decode b_MO_years 12 = .ok (.if_icmp .gt 16, 3) := dc_163 (qS2_win (r := 12) wn_MO_years_0 (by decide +kernel))
theorem d_MO_years_15 : decode b_MO_years 15 = .ok (.aload_n 0, 1) := dc_42 (q0_win (r := 15) wn_MO_years_0 (by decide +kernel))
theorem d_MO_years_16 : decode b_MO_years 16 = .ok (.getfield 60, 3) := dc_180 (qU2_win (r := 16) wn_MO_years_0 (by decide +kernel))
theorem d_MO_years_19 : decode b_MO_years 19 = .ok (.iconst 0, 1) := dc_3 (q0_win (r := 19) wn_MO_years_0 (by decide +kernel))
theorem d_MO_years_20 : decode b_MO_years 20 = .ok (.iaload, 1) := dc_46 (q0_win (r := 20) wn_MO_years_0 (by decide +kernel))
theorem d_MO_years_21 : decode b_MO_years 21 = .ok (.iload_n 1, 1) := dc_27 (q0_win (r := 21) wn_MO_years_0 (by decide +kernel))
theorem d_MO_years_22 : decode b_MO_years 22 = .ok (.iadd, 1) := dc_96 (q0_win (r := 22) wn_MO_years_0 (by decide +kernel))
theorem d_MO_years_23 : decode b_MO_years 23 = .ok (.bipush 99, 2) := dc_16 (qS1_win (r := 23) wn_MO_years_0 (by decide +kernel))
theorem d_MO_years_25 : decode b_MO_years 25 = .ok (.if_icmp .le 5, 3) := dc_164 (qS2_win (r := 25) wn_MO_years_0 (by decide +kernel))
theorem d_MO_years_28 : decode b_MO_years 28 = .ok (.iconst (-1), 1) := dc_2 (q0_win (r := 28) wn_MO_years_0 (by decide +kernel))
theorem d_MO_years_29 : decode b_MO_years 29 = .ok (.ireturn, 1) := dc_172 (q0_win (r := 29) wn_MO_years_0 (by decide +kernel))
theorem d_MO_years_30 : decode b_MO_years 30 = .ok (.iload_n 1, 1) := dc_27 (q0_win (r := 30) wn_MO_years_0 (by decide +kernel))
theorem d_MO_years_31 : decode b_MO_years 31 = .ok (.ifCond .le 8, 3) := dc_158 (qS2_win (r := 31) wn_MO_years_0 (by decide +kernel))
theorem d_MO_years_34 : decode b_MO_years 34 = .ok (.aload_n 0, 1) := dc_42 (q0_win (r := 34) wn_MO_years_0 (by decide +kernel))
theorem d_MO_years_35 : decode b_MO_years 35 = .ok (.iconst 0, 1) := dc_3 (q0_win (r := 35) wn_MO_years_0 (by decide +kernel))
theorem d_MO_years_36 : decode b_MO_years 36 = .ok (.putfield 326, 3) := dc_181 (qU2_win (r := 36) wn_MO_years_0 (by decide +kernel))
theorem d_MO_years_39 : decode b_MO_years 39 = .ok (.iconst 0, 1) := dc_3 (q0_win (r := 39) wn_MO_years_0 (by decide +kernel))
theorem d_MO_years_40 : decode b_MO_years 40 = .ok (.istore_n 2, 1) := dc_61 (q0_win (r := 40) wn_MO_years_0 (by decide +kernel))
theorem d_MO_years_41 : decode b_MO_years 41 = .ok (.iload_n 2, 1) := dc_28 (q0_win (r := 41) wn_MO_years_0 (by decide +kernel))
theorem d_MO_years_42 : decode b_MO_years 42 = .ok (.iload_n 1, 1) := dc_27 (q0_win (r := 42) wn_MO_years_0 (by decide +kernel))
theorem d_MO_years_43 : decode b_MO_years 43 = .ok (.if_icmp .ge 122, 3) := dc_162 (qS2_win (r := 43) wn_MO_years_0 (by decide +kernel))
theorem d_MO_years_46 : decode b_MO_years 46 = .ok (.aload_n 0, 1) := dc_42 (q0_win (r := 46) wn_MO_years_0 (by decide +kernel))
theorem d_MO_years_47 : decode b_MO_years 47 = .ok (.getfield 60, 3) := dc_180 (qU2_win (r := 47) wn_MO_years_0 (by decide +kernel))
theorem d_MO_years_50 : decode b_MO_years 50 = .ok (.iconst 0, 1) := dc_3 (q0_win (r := 50) wn_MO_years_0 (by decide +kernel))
theorem d_MO_years_51 : decode b_MO_years 51 = .ok (.iaload, 1) := dc_46 (q0_win (r := 51) wn_MO_years_0 (by decide +kernel))
theorem d_MO_years_52 : decode b_MO_years 52 = .ok (.istore_n 3, 1) := dc_62 (q0_win (r := 52) wn_MO_years_0 (by decide +kernel))
theorem d_MO_years_53 : decode b_MO_years 53 = .ok (.aload_n 0, 1) := dc_42 (q0_win (r := 53) wn_MO_years_0 (by decide +kernel))
theorem d_MO_years_54 : decode b_MO_years 54 = .ok (.getfield 88, 3) := dc_180 (qU2_win (r := 54) wn_MO_years_0 (by decide +kernel))
theorem d_MO_years_57 : decode b_MO_years 57 = .ok (.iload_n 3, 1) := dc_29 (q0_win (r := 57) wn_MO_years_0 (by decide +kernel))
theorem d_MO_years_58 : decode b_MO_years 58 = .ok (.bipush (-2), 2) := dc_16 (qS1_win (r := 58) wn_MO_years_0 (by decide +kernel))
theorem d_MO_years_60 : decode b_MO_years 60 = .ok (.iastore, 1) := dc_79 (q0_win (r := 60) wn_MO_years_0 (by decide +kernel))
theorem d_MO_years_61 : decode b_MO_years 61 = .ok (.aload_n 0, 1) := dc_42 (q0_win (r := 61) wn_MO_years_0 (by decide +kernel))
theorem d_MO_years_62 : decode b_MO_years 62 = .ok (.getfield 91, 3) := dc_180 (qU2_win (r := 62) wn_MO_years_0 (by decide +kernel))
theorem d_MO_years_65 : decode b_MO_years 65 = .ok (.iload_n 3, 1) := dc_29 (q0_win (r := 65) wn_MO_years_0 (by decide +kernel))
theorem d_MO_years_66 : decode b_MO_years 66 = .ok (.bipush (-2), 2) := dc_16 (qS1_win (r := 66) wn_MO_years_0 (by decide +kernel))
theorem d_MO_years_68 : decode b_MO_years 68 = .ok (.iastore, 1) := dc_79 (q0_win (r := 68) wn_MO_years_0 (by decide +kernel))
theorem d_MO_years_69 : decode b_MO_years 69 = .ok (.aload_n 0, 1) := dc_42 (q0_win (r := 69) wn_MO_years_0 (by decide +kernel))
theorem d_MO_years_70 : decode b_MO_years 70 = .ok (.getfield 94, 3) := dc_180 (qU2_win (r := 70) wn_MO_years_0 (by decide +kernel))
theorem d_MO_years_73 : decode b_MO_years 73 = .ok (.iload_n 3, 1) := dc_29 (q0_win (r := 73) wn_MO_years_0 (by decide +kernel))
theorem d_MO_years_74 : decode b_MO_years 74 = .ok (.bipush (-2), 2) := dc_16 (qS1_win (r := 74) wn_MO_years_0 (by decide +kernel))
theorem d_MO_years_76 : decode b_MO_years 76 = .ok (.iastore, 1) := dc_79 (q0_win (r := 76) wn_MO_years_0 (by decide +kernel))
theorem d_MO_years_77 : decode b_MO_years 77 = .ok (.aload_n 0, 1) := dc_42 (q0_win (r := 77) wn_MO_years_0 (by decide +kernel))
theorem d_MO_years_78 : decode b_MO_years 78 = .ok (.getfield 13, 3) := dc_180 (qU2_win (r := 78) wn_MO_years_0 (by decide +kernel))
theorem d_MO_years_81 : decode b_MO_years 81 = .ok (.iconst 2, 1) := dc_5 (q0_win (r := 81) wn_MO_years_0 (by decide +kernel))
theorem d_MO_years_82 : decode b_MO_years 82 = .ok (.iaload, 1) := dc_46 (q0_win (r := 82) wn_MO_years_0 (by decide +kernel))
theorem d_MO_years_83 : decode b_MO_years 83 = .ok (.ifCond .le 66, 3) := dc_158 (qS2_win (r := 83) wn_MO_years_0 (by decide +kernel))
theorem d_MO_years_86 : decode b_MO_years 86 = .ok (.aload_n 0, 1) := dc_42 (q0_win (r := 86) wn_MO_years_0 (by decide +kernel))
theorem d_MO_years_87 : decode b_MO_years 87 = .ok (.aload_n 0, 1) := dc_42 (q0_win (r := 87) wn_MO_years_0 (by decide +kernel))
theorem d_MO_years_88 : decode b_MO_years 88 = .ok (.getfield 13, 3) := dc_180 (qU2_win (r := 88) wn_MO_years_0 (by decide +kernel))
theorem d_MO_years_91 : decode b_MO_years 91 = .ok (.iconst 2, 1) := dc_5 (q0_win (r := 91) wn_MO_years_0 (by decide +kernel))
theorem d_MO_years_92 : decode b_MO_years 92 = .ok (.iaload, 1) := dc_46 (q0_win (r := 92) wn_MO_years_0 (by decide +kernel))
theorem d_MO_years_93 : decode b_MO_years 93 = .ok (.invokevirtual 517, 3) := dc_182 (qU2_win (r := 93) wn_MO_years_0 (by decide +kernel))
theorem wn_MO_years_96 : ∀ i, i < 76 → bA b_MO_years (96 + i) = wB [54, 4, 42, 180, 0, 88, 29, 21, 4, 79, 42, 180, 0, 94, 29, 42, 180, 0, 76, 21, 4, 46, 79, 42, 180, 0, 76, 21, 4, 42, 7, 182, 2, 5, 79, 42, 180, 0, 91, 29, 42, 180, 0, 76, 21, 4, 46, 79, 42, 3, 182, 1, 190, 42, 180, 0, 60, 3, 92, 46, 4, 96, 79, 132, 2, 1, 167, 255, 135, 42, 180, 0, 60, 3, 46, 172] i := wB_of (by decide +kernel)
theorem d_MO_years_96 : decode b_MO_years 96 = .ok (.istore 4, 2) := dc_54 (qU1_win (r := 0) wn_MO_years_96 (by decide +kernel))
theorem d_MO_years_98 : decode b_MO_years 98 = .ok (.aload_n 0, 1) := dc_42 (q0_win (r := 2) wn_MO_years_96 (by decide +kernel))
theorem d_MO_years_99 : decode b_MO_years 99 = .ok (.getfield 88, 3) := dc_180 (qU2_win (r := 3) wn_MO_years_96 (by decide +kernel))
theorem d_MO_years_102 : decode b_MO_years 102 = .ok (.iload_n 3, 1) := dc_29 (q0_win (r := 6) wn_MO_years_96 (by decide +kernel))
theorem d_MO_years_103 : decode b_MO_years 103 = .ok (.iload 4, 2) := dc_21 (qU1_win (r := 7) wn_MO_years_96 (by decide +kernel))
theorem d_MO_years_105 : decode b_MO_years 105 = .ok (.iastore, 1) := dc_79 (q0_win (r := 9) wn_MO_years_96 (by decide +kernel))
theorem d_MO_years_106 : decode b_MO_years 106 = .ok (.aload_n 0, 1) := dc_42 (q0_win (r := 10) wn_MO_years_96 (by decide +kernel))
theorem d_MO_years_107 : decode b_MO_years 107 = .ok (.getfield 94, 3) := dc_180 (qU2_win (r := 11) wn_MO_years_96 (by decide +kernel))
theorem d_MO_years_110 : decode b_MO_years 110 = .ok (.iload_n 3, 1) := dc_29 (q0_win (r := 14) wn_MO_years_96 (by decide +kernel))
theorem d_MO_years_111 : decode b_MO_years 111 = .ok (.aload_n 0, 1) := dc_42 (q0_win (r := 15) wn_MO_years_96 (by decide +kernel))
theorem d_MO_years_112 : decode b_MO_years 112 = .ok (.getfield 76, 3) := dc_180 (qU2_win (r := 16) wn_MO_years_96 (by decide +kernel))
theorem d_MO_years_115 : decode b_MO_years 115 = .ok (.iload 4, 2) := dc_21 (qU1_win (r := 19) wn_MO_years_96 (by decide +kernel))
theorem d_MO_years_117 : decode b_MO_years 117 = .ok (.iaload, 1) := dc_46 (q0_win (r := 21) wn_MO_years_96 (by decide +kernel))
theorem d_MO_years_118 : decode b_MO_years 118 = .ok (.iastore, 1) := dc_79 (q0_win (r := 22) wn_MO_years_96 (by decide +kernel))
theorem d_MO_years_119 : decode b_MO_years 119 = .ok (.aload_n 0, 1) := dc_42 (q0_win (r := 23) wn_MO_years_96 (by decide +kernel))
theorem d_MO_years_120 : decode b_MO_years 120 = .ok (.getfield 76, 3) := dc_180 (qU2_win (r := 24) wn_MO_years_96 (by decide +kernel))
theorem d_MO_years_123 : decode b_MO_years 123 = .ok (.iload 4, 2) := dc_21 (qU1_win (r := 27) wn_MO_years_96 (by decide +kernel))
theorem d_MO_years_125 : decode b_MO_years 125 = .ok (.aload_n 0, 1) := dc_42 (q0_win (r := 29) wn_MO_years_96 (by decide +kernel))
theorem d_MO_years_126 : decode b_MO_years 126 = .ok (.iconst 4, 1) := dc_7 (q0_win (r := 30) wn_MO_years_96 (by decide +kernel))
theorem d_MO_years_127 : decode b_MO_years 127 = .ok (.invokevirtual 517, 3) := dc_182 (qU2_win (r := 31) wn_MO_years_96 (by decide +kernel))
theorem d_MO_years_130 : decode b_MO_years 130 = .ok (.iastore, 1) := dc_79 (q0_win (r := 34) wn_MO_years_96 (by decide +kernel))
theorem d_MO_years_131 : decode b_MO_years 131 = .ok (.aload_n 0, 1) := dc_42 (q0_win (r := 35) wn_MO_years_96 (by decide +kernel))
theorem d_MO_years_132 : decode b_MO_years 132 = .ok (.getfield 91, 3) := dc_180 (qU2_win (r := 36) wn_MO_years_96 (by decide +kernel))
theorem d_MO_years_135 : decode b_MO_years 135 = .ok (.iload_n 3, 1) := dc_29 (q0_win (r := 39) wn_MO_years_96 (by decide +kernel))
theorem d_MO_years_136 : decode b_MO_years 136 = .ok (.aload_n 0, 1) := dc_42 (q0_win (r := 40) wn_MO_years_96 (by decide +kernel))
theorem d_MO_years_137 : decode b_MO_years 137 = .ok (.getfield 76, 3) := dc_180 (qU2_win (r := 41) wn_MO_years_96 (by decide +kernel))
theorem d_MO_years_140 : decode b_MO_years 140 = .ok (.iload 4, 2) := dc_21 (qU1_win (r := 44) wn_MO_years_96 (by decide +kernel))
theorem d_MO_years_142 : decode b_MO_years 142 = .ok (.iaload, 1) := dc_46 (q0_win (r := 46) wn_MO_years_96 (by decide +kernel))
theorem d_MO_years_143 : decode b_MO_years 143 = .ok (.iastore, 1) := dc_79 (q0_win (r := 47) wn_MO_years_96 (by decide +kernel))
theorem d_MO_years_144 : decode b_MO_years 144 = .ok (.aload_n 0, 1) := dc_42 (q0_win (r := 48) wn_MO_years_96 (by decide +kernel))
theorem d_MO_years_145 : decode b_MO_years 145 = .ok (.iconst 0, 1) := dc_3 (q0_win (r := 49) wn_MO_years_96 (by decide +kernel))
theorem d_MO_years_146 : decode b_MO_years 146 = .ok (.invokevirtual 446, 3) := dc_182 (qU2_win (r := 50) wn_MO_years_96 (by decide +kernel))
theorem d_MO_years_149 : decode b_MO_years 149 = .ok (.aload_n 0, 1) := dc_42 (q0_win (r := 53) wn_MO_years_96 (by decide +kernel))
theorem d_MO_years_150 : decode b_MO_years 150 = .ok (.getfield 60, 3) := dc_180 (qU2_win (r := 54) wn_MO_years_96 (by decide +kernel))
theorem d_MO_years_153 : decode b_MO_years 153 = .ok (.iconst 0, 1) := dc_3 (q0_win (r := 57) wn_MO_years_96 (by decide +kernel))
theorem d_MO_years_154 : decode b_MO_years 154 = .ok (.dup2, 1) := dc_92 (q0_win (r := 58) wn_MO_years_96 (by decide +kernel))
theorem d_MO_years_155 : decode b_MO_years 155 = .ok (.iaload, 1) := dc_46 (q0_win (r := 59) wn_MO_years_96 (by decide +kernel))
theorem d_MO_years_156 : decode b_MO_years 156 = .ok (.iconst 1, 1) := dc_4 (q0_win (r := 60) wn_MO_years_96 (by decide +kernel))
theorem d_MO_years_157 : decode b_MO_years 157 = .ok (.iadd, 1) := dc_96 (q0_win (r := 61) wn_MO_years_96 (by decide +kernel))
theorem d_MO_years_158 : decode b_MO_years 158 = .ok (.iastore, 1) := dc_79 (q0_win (r := 62) wn_MO_years_96 (by decide +kernel))
theorem d_MO_years_159 : decode b_MO_years 159 = .ok (.iinc 2 1, 3) := dc_132 (qI_win (r := 63) wn_MO_years_96 (by decide +kernel))
theorem d_MO_years_162 : decode b_MO_years 162 = .ok (.goto (-121), 3) := dc_167 (qS2_win (r := 66) wn_MO_years_96 (by decide +kernel))
theorem d_MO_years_165 : decode b_MO_years 165 = .ok (.aload_n 0, 1) := dc_42 (q0_win (r := 69) wn_MO_years_96 (by decide +kernel))
theorem d_MO_years_166 : decode b_MO_years 166 = .ok (.getfield 60, 3) := dc_180 (qU2_win (r := 70) wn_MO_years_96 (by decide +kernel))
theorem d_MO_years_169 : decode b_MO_years 169 = .ok (.iconst 0, 1) := dc_3 (q0_win (r := 73) wn_MO_years_96 (by decide +kernel))
theorem d_MO_years_170 : decode b_MO_years 170 = .ok (.iaload, 1) := dc_46 (q0_win (r := 74) wn_MO_years_96 (by decide +kernel))
theorem d_MO_years_171 : decode b_MO_years 171 = .ok (.ireturn, 1) := dc_172 (q0_win (r := 75) wn_MO_years_96 (by decide +kernel))
def t_MO_years_L149 (x1 : Int) (bk41 : Mem → Int → Option (Mem × Int)) (M : Mem) (v2_ : Int) : Option (Mem × Int) := (qlet (setI M 207 0 (w32 ((M.1 207 0) + 1))) fun M39 => (bk41 M39 (w32 (v2_ + 1))))
def t_MO_years_L41 (x1 : Int)  : Nat → Mem → Int → Option (Mem × Int)
  | 0, _, _ => none
  | fu + 1, M, v2_ => (if x1 ≤ v2_ then (some (M, (M.1 207 0))) else (qguard (0 ≤ (M.1 207 0) ∧ (M.1 207 0) < 300) (qlet (setI M 216 (M.1 207 0) (-2)) fun M12 => (qguard (0 ≤ (M.1 207 0) ∧ (M.1 207 0) < 300) (qlet (setI M12 217 (M.1 207 0) (-2)) fun M14 => (qguard (0 ≤ (M.1 207 0) ∧ (M.1 207 0) < 300) (qlet (setI M14 218 (M.1 207 0) (-2)) fun M16 => (if (M16.1 193 2) ≤ 0 then (t_MO_years_L149 x1 (fun a0_ a1_ => t_MO_years_L41 x1 fu a0_ a1_) M16 v2_) else (obind (t_MO_draw M16 (M16.1 193 2)) fun q20 => (qguard (0 ≤ (M.1 207 0) ∧ (M.1 207 0) < 300) (qlet (setI (q20.1) 216 (M.1 207 0) (q20.2)) fun M23 => (qguard (0 ≤ (q20.2) ∧ (q20.2) < 92) (qguard (0 ≤ (M.1 207 0) ∧ (M.1 207 0) < 300) (qlet (setI M23 218 (M.1 207 0) (M23.1 212 (q20.2))) fun M27 => (obind (t_MO_draw M27 4) fun q28 => (qguard (0 ≤ (q20.2) ∧ (q20.2) < 92) (qlet (setI (q28.1) 212 (q20.2) (q28.2)) fun M31 => (qguard (0 ≤ (q20.2) ∧ (q20.2) < 92) (qguard (0 ≤ (M.1 207 0) ∧ (M.1 207 0) < 300) (qlet (setI M31 217 (M.1 207 0) (M31.1 212 (q20.2))) fun M35 => (obind (t_MO_floods M35 0) fun q36 => (t_MO_years_L149 x1 (fun a0_ a1_ => t_MO_years_L41 x1 fu a0_ a1_) q36 v2_))))))))))))))))))))))
def t_MO_years_L39 (x1 : Int)  (M : Mem)  : Option (Mem × Int) := (t_MO_years_L41 x1 FU M 0)
def t_MO_years (M : Mem) (x1 : Int) : Option (Mem × Int) := (qlet (setI M 191 0 0) fun M1 => (if x1 < 0 then (some (M1, (-1))) else (if 99 < x1 then (some (M1, (-1))) else (if (w32 ((M1.1 207 0) + x1)) ≤ 99 then (if x1 ≤ 0 then (t_MO_years_L39 x1 M1) else (qlet (setI M1 191 43 0) fun M7 => (t_MO_years_L39 x1 M7))) else (some (M1, (-1)))))))
set_option maxHeartbeats 4000000 in
set_option maxRecDepth 100000 in
theorem k_MO_years_L149 (l : Launch) {p : Program} {e : Env} {s : State} {m : MethodId} {below : List Frame} {meth : Method} {c : Code} {b n : Nat} {C : CT} (hlo : 231 ≤ n) (x1 : Int) (hx1 : InR x1) (F : Cx b p m c b_MO_years 5 s ([.ref (b + 191), vI x1] : List Value).toArray "WardFallsModel" C n 231) (hlk : meth.locks = false) (hr : meth.sig.returnType = some .int) {res : Mem × Int} (bk41 : Mem → Int → Option (Mem × Int)) (hbk41 : ∀ (M : Mem) (v2_ : Int) (hv2_ : InR v2_) (H : Heap) (locs : List Loc) (ls : Array Slot), St b C n M s H locs → lv_has ls 5 [(0, .ref (b + 191)), (1, vI x1), (2, vI v2_)] → bk41 M v2_ = some res → W p l e (headSpec (wsM y_MO_years b_MO_years 5 (some .int)) (rmD 4)).room s m ([.ref (b + 191), vI x1] : List Value).toArray below meth c H locs 0 0 (MQ below (QI b C n res.1 res.2) ([.ref (b + 191), vI x1] : List Value).toArray s 0 0 (frb b)) (F0 m 41 ls [])) (M : Mem) (v2_ : Int) (hv2_ : InR v2_) (H : Heap) (locs : List Loc) (ls : Array Slot) (hS : St b C n M s H locs) (hl : lv_has ls 5 [(0, .ref (b + 191)), (1, vI x1), (2, vI v2_)]) (hT : t_MO_years_L149 x1 bk41 M v2_ = some res) : W p l e (headSpec (wsM y_MO_years b_MO_years 5 (some .int)) (rmD 4)).room s m ([.ref (b + 191), vI x1] : List Value).toArray below meth c H locs 0 0 (MQ below (QI b C n res.1 res.2) ([.ref (b + 191), vI x1] : List Value).toArray s 0 0 (frb b)) (F0 m 149 ls []) := by
  unfold t_MO_years_L149 at hT
  refine lv_aload_n F.hx F.hb d_MO_years_149 rfl (lv_at hl 0 rfl) ?_
  refine r_get (v := .ref (b + 207)) (N := 68) (T := T1) (j := 30) F hS (show 191 < 231 by decide) (show shK 191 = 5 from rfl) (show shN 191 = 68 from rfl) rfl (Nat.le_of_ble_eq_true rfl) ing1 mw_1419 (fv_sg rfl rfl rfl) d_MO_years_150 ?_
  refine r_iconst F.hx F.hb d_MO_years_153 ?_
  refine lv_dup2_11 F.hx F.hb d_MO_years_154 rfl rfl ?_
  refine r_iald F hS (show 207 < 231 by decide) (show shK 207 = 0 from rfl) (show shN 207 = 23 from rfl) (inr_c rfl) (by omega) (by omega) d_MO_years_155 ?_
  have i38 := hS.rng 207 0
  refine r_iconst F.hx F.hb d_MO_years_156 ?_
  refine r_iadd F.hx F.hb d_MO_years_157 ?_
  refine r_iast F hS (show 207 < 231 by decide) (show shK 207 = 0 from rfl) (show shN 207 = 23 from rfl) (inr_c rfl) (inr_w32 _) (by omega) (by omega) d_MO_years_158 (fun H locs hS => ?_)
  obtain ⟨M39, eM39⟩ : ∃ q, q = (setI M 207 0 (w32 ((M.1 207 0) + 1))) := ⟨_, rfl⟩
  replace hS : St b C n M39 s H locs := by rw [eM39]; exact hS
  replace hT := qlet_eq hT eM39
  refine lv_iinc (v := Int32.ofInt (w32 (v2_ + 1))) (lv' := [(2, vI (w32 (v2_ + 1))), (0, .ref (b + 191)), (1, vI x1)]) F.hx F.hb d_MO_years_159 hl (k := 2) rfl (q_of_add _ _) (Nat.le_of_ble_eq_true rfl) rfl (fun ls hl => ?_)
  refine lv_goto (tgt := 41) F.hx F.hb d_MO_years_162 (by decide) ?_
  exact hbk41 M39 (w32 (v2_ + 1)) (inr_w32 _) _ _ _ hS (lv_sub hl [1, 2, 0] rfl) hT
set_option maxHeartbeats 4000000 in
set_option maxRecDepth 100000 in
theorem k_MO_years_L41 (l : Launch) {p : Program} {e : Env} {s : State} {m : MethodId} {below : List Frame} {meth : Method} {c : Code} {b n : Nat} {C : CT} (hlo : 231 ≤ n) (x1 : Int) (hx1 : InR x1) (F : Cx b p m c b_MO_years 5 s ([.ref (b + 191), vI x1] : List Value).toArray "WardFallsModel" C n 231) (hlk : meth.locks = false) (hr : meth.sig.returnType = some .int) {res : Mem × Int} : ∀ (fu : Nat) (M : Mem) (v2_ : Int) (hv2_ : InR v2_) (H : Heap) (locs : List Loc) (ls : Array Slot), St b C n M s H locs → lv_has ls 5 [(0, .ref (b + 191)), (1, vI x1), (2, vI v2_)] → t_MO_years_L41 x1 fu M v2_ = some res → W p l e (headSpec (wsM y_MO_years b_MO_years 5 (some .int)) (rmD 4)).room s m ([.ref (b + 191), vI x1] : List Value).toArray below meth c H locs 0 0 (MQ below (QI b C n res.1 res.2) ([.ref (b + 191), vI x1] : List Value).toArray s 0 0 (frb b)) (F0 m 41 ls []) := by
  intro fu
  induction fu with
  | zero => intro M v2_ hv2_ H locs ls hS hl hT; exact absurd hT (by simp [t_MO_years_L41])
  | succ fu ih =>
    intro M v2_ hv2_ H locs ls hS hl hT
    rw [t_MO_years_L41] at hT
    refine lv_iload_n F.hx F.hb d_MO_years_41 rfl (lv_at hl 2 rfl) ?_
    refine lv_iload_n F.hx F.hb d_MO_years_42 rfl (lv_at hl 1 rfl) ?_
    refine r_icmp_ge (tgt := 165) F.hx F.hb hv2_ hx1 d_MO_years_43 (by decide) (fun c8 => ?_) (fun c8 => ?_)
    · replace hT := (if_pos c8).symm.trans hT
      refine lv_aload_n F.hx F.hb d_MO_years_165 rfl (lv_at hl 0 rfl) ?_
      refine r_get (v := .ref (b + 207)) (N := 68) (T := T1) (j := 30) F hS (show 191 < 231 by decide) (show shK 191 = 5 from rfl) (show shN 191 = 68 from rfl) rfl (Nat.le_of_ble_eq_true rfl) ing1 mw_1419 (fv_sg rfl rfl rfl) d_MO_years_166 ?_
      refine r_iconst F.hx F.hb d_MO_years_169 ?_
      refine r_iald F hS (show 207 < 231 by decide) (show shK 207 = 0 from rfl) (show shN 207 = 23 from rfl) (inr_c rfl) (by omega) (by omega) d_MO_years_170 ?_
      have i9 := hS.rng 207 0
      cases hT
      exact r_iret F hlk hr rfl hS i9 d_MO_years_171
    · replace hT := (if_neg c8).symm.trans hT
      refine lv_aload_n F.hx F.hb d_MO_years_46 rfl (lv_at hl 0 rfl) ?_
      refine r_get (v := .ref (b + 207)) (N := 68) (T := T1) (j := 30) F hS (show 191 < 231 by decide) (show shK 191 = 5 from rfl) (show shN 191 = 68 from rfl) rfl (Nat.le_of_ble_eq_true rfl) ing1 mw_1419 (fv_sg rfl rfl rfl) d_MO_years_47 ?_
      refine r_iconst F.hx F.hb d_MO_years_50 ?_
      refine r_iald F hS (show 207 < 231 by decide) (show shK 207 = 0 from rfl) (show shN 207 = 23 from rfl) (inr_c rfl) (by omega) (by omega) d_MO_years_51 ?_
      have i10 := hS.rng 207 0
      refine lv_istore_n (lv' := [(3, vI (M.1 207 0)), (0, .ref (b + 191)), (1, vI x1), (2, vI v2_)]) F.hx F.hb d_MO_years_52 rfl hl (Nat.le_of_ble_eq_true rfl) rfl (fun ls hl => ?_)
      refine lv_aload_n F.hx F.hb d_MO_years_53 rfl (lv_at hl 1 rfl) ?_
      refine r_get (v := .ref (b + 216)) (N := 68) (T := T1) (j := 39) F hS (show 191 < 231 by decide) (show shK 191 = 5 from rfl) (show shN 191 = 68 from rfl) rfl (Nat.le_of_ble_eq_true rfl) ing1 mw_1428 (fv_sg rfl rfl rfl) d_MO_years_54 ?_
      refine lv_iload_n F.hx F.hb d_MO_years_57 rfl (lv_at hl 0 rfl) ?_
      refine r_bipush F.hx F.hb d_MO_years_58 rfl ?_
      obtain ⟨⟨g11a, g11b⟩, hT⟩ := q_guard hT
      refine r_iast F hS (show 216 < 231 by decide) (show shK 216 = 0 from rfl) (show shN 216 = 300 from rfl) i10 (inr_c rfl) g11a g11b d_MO_years_60 (fun H locs hS => ?_)
      obtain ⟨M12, eM12⟩ : ∃ q, q = (setI M 216 (M.1 207 0) (-2)) := ⟨_, rfl⟩
      replace hS : St b C n M12 s H locs := by rw [eM12]; exact hS
      replace hT := qlet_eq hT eM12
      refine lv_aload_n F.hx F.hb d_MO_years_61 rfl (lv_at hl 1 rfl) ?_
      refine r_get (v := .ref (b + 217)) (N := 68) (T := T1) (j := 40) F hS (show 191 < 231 by decide) (show shK 191 = 5 from rfl) (show shN 191 = 68 from rfl) rfl (Nat.le_of_ble_eq_true rfl) ing1 mw_1429 (fv_sg rfl rfl rfl) d_MO_years_62 ?_
      refine lv_iload_n F.hx F.hb d_MO_years_65 rfl (lv_at hl 0 rfl) ?_
      refine r_bipush F.hx F.hb d_MO_years_66 rfl ?_
      obtain ⟨⟨g13a, g13b⟩, hT⟩ := q_guard hT
      refine r_iast F hS (show 217 < 231 by decide) (show shK 217 = 0 from rfl) (show shN 217 = 300 from rfl) i10 (inr_c rfl) g13a g13b d_MO_years_68 (fun H locs hS => ?_)
      obtain ⟨M14, eM14⟩ : ∃ q, q = (setI M12 217 (M.1 207 0) (-2)) := ⟨_, rfl⟩
      replace hS : St b C n M14 s H locs := by rw [eM14]; exact hS
      replace hT := qlet_eq hT eM14
      refine lv_aload_n F.hx F.hb d_MO_years_69 rfl (lv_at hl 1 rfl) ?_
      refine r_get (v := .ref (b + 218)) (N := 68) (T := T1) (j := 41) F hS (show 191 < 231 by decide) (show shK 191 = 5 from rfl) (show shN 191 = 68 from rfl) rfl (Nat.le_of_ble_eq_true rfl) ing1 mw_1430 (fv_sg rfl rfl rfl) d_MO_years_70 ?_
      refine lv_iload_n F.hx F.hb d_MO_years_73 rfl (lv_at hl 0 rfl) ?_
      refine r_bipush F.hx F.hb d_MO_years_74 rfl ?_
      obtain ⟨⟨g15a, g15b⟩, hT⟩ := q_guard hT
      refine r_iast F hS (show 218 < 231 by decide) (show shK 218 = 0 from rfl) (show shN 218 = 300 from rfl) i10 (inr_c rfl) g15a g15b d_MO_years_76 (fun H locs hS => ?_)
      obtain ⟨M16, eM16⟩ : ∃ q, q = (setI M14 218 (M.1 207 0) (-2)) := ⟨_, rfl⟩
      replace hS : St b C n M16 s H locs := by rw [eM16]; exact hS
      replace hT := qlet_eq hT eM16
      refine lv_aload_n F.hx F.hb d_MO_years_77 rfl (lv_at hl 1 rfl) ?_
      refine r_get (v := .ref (b + 193)) (N := 68) (T := T1) (j := 3) F hS (show 191 < 231 by decide) (show shK 191 = 5 from rfl) (show shN 191 = 68 from rfl) rfl (Nat.le_of_ble_eq_true rfl) ing1 mw_1392 (fv_sg rfl rfl rfl) d_MO_years_78 ?_
      refine r_iconst F.hx F.hb d_MO_years_81 ?_
      refine r_iald F hS (show 193 < 231 by decide) (show shK 193 = 0 from rfl) (show shN 193 = 18 from rfl) (inr_c rfl) (by omega) (by omega) d_MO_years_82 ?_
      have i17 := hS.rng 193 2
      refine r_if_le (tgt := 149) F.hx F.hb i17 d_MO_years_83 (by decide) (fun c18 => ?_) (fun c18 => ?_)
      · replace hT := (if_pos c18).symm.trans hT
        exact k_MO_years_L149 l hlo x1 hx1 F hlk hr (fun a0_ a1_ => t_MO_years_L41 x1 fu a0_ a1_) ih M16 v2_ hv2_ _ _ _ hS (lv_sub hl [1, 2, 3] rfl) hT
      · replace hT := (if_neg c18).symm.trans hT
        refine lv_aload_n F.hx F.hb d_MO_years_86 rfl (lv_at hl 1 rfl) ?_
        refine lv_aload_n F.hx F.hb d_MO_years_87 rfl (lv_at hl 1 rfl) ?_
        refine r_get (v := .ref (b + 193)) (N := 68) (T := T1) (j := 3) F hS (show 191 < 231 by decide) (show shK 191 = 5 from rfl) (show shN 191 = 68 from rfl) rfl (Nat.le_of_ble_eq_true rfl) ing1 mw_1392 (fv_sg rfl rfl rfl) d_MO_years_88 ?_
        refine r_iconst F.hx F.hb d_MO_years_91 ?_
        refine r_iald F hS (show 193 < 231 by decide) (show shK 193 = 0 from rfl) (show shN 193 = 18 from rfl) (inr_c rfl) (by omega) (by omega) d_MO_years_92 ?_
        have i19 := hS.rng 193 2
        obtain ⟨q20, hq20, hT⟩ := q_obind hT
        refine r_backI F hS (r_runV (k := 191) (N := 68) (T := T1) (As := [vI (M16.1 193 2)]) F hS (show 191 < 231 by decide) (show shK 191 = 5 from rfl) rfl (c_MO_draw l F.2.2.1 M16 (M16.1 193 2) i19 _ hq20) gs_MO_517 hd_MO_draw ⟨Nat.le_of_ble_eq_true rfl, Nat.le_of_ble_eq_true rfl⟩ rfl hl.1 (Nat.le_of_ble_eq_true rfl) ⟨Nat.zero_le _, Nat.zero_le _⟩ rfl d_MO_years_93) (fun H locs hS h21 => ?_)
        refine lv_istore (lv' := [(4, vI (q20.2)), (3, vI (M.1 207 0)), (0, .ref (b + 191)), (1, vI x1), (2, vI v2_)]) F.hx F.hb d_MO_years_96 hl (Nat.le_of_ble_eq_true rfl) rfl (fun ls hl => ?_)
        refine lv_aload_n F.hx F.hb d_MO_years_98 rfl (lv_at hl 2 rfl) ?_
        refine r_get (v := .ref (b + 216)) (N := 68) (T := T1) (j := 39) F hS (show 191 < 231 by decide) (show shK 191 = 5 from rfl) (show shN 191 = 68 from rfl) rfl (Nat.le_of_ble_eq_true rfl) ing1 mw_1428 (fv_sg rfl rfl rfl) d_MO_years_99 ?_
        refine lv_iload_n F.hx F.hb d_MO_years_102 rfl (lv_at hl 1 rfl) ?_
        refine lv_iload F.hx F.hb d_MO_years_103 (lv_at hl 0 rfl) ?_
        obtain ⟨⟨g22a, g22b⟩, hT⟩ := q_guard hT
        refine r_iast F hS (show 216 < 231 by decide) (show shK 216 = 0 from rfl) (show shN 216 = 300 from rfl) i10 h21 g22a g22b d_MO_years_105 (fun H locs hS => ?_)
        obtain ⟨M23, eM23⟩ : ∃ q, q = (setI (q20.1) 216 (M.1 207 0) (q20.2)) := ⟨_, rfl⟩
        replace hS : St b C n M23 s H locs := by rw [eM23]; exact hS
        replace hT := qlet_eq hT eM23
        refine lv_aload_n F.hx F.hb d_MO_years_106 rfl (lv_at hl 2 rfl) ?_
        refine r_get (v := .ref (b + 218)) (N := 68) (T := T1) (j := 41) F hS (show 191 < 231 by decide) (show shK 191 = 5 from rfl) (show shN 191 = 68 from rfl) rfl (Nat.le_of_ble_eq_true rfl) ing1 mw_1430 (fv_sg rfl rfl rfl) d_MO_years_107 ?_
        refine lv_iload_n F.hx F.hb d_MO_years_110 rfl (lv_at hl 1 rfl) ?_
        refine lv_aload_n F.hx F.hb d_MO_years_111 rfl (lv_at hl 2 rfl) ?_
        refine r_get (v := .ref (b + 212)) (N := 68) (T := T1) (j := 35) F hS (show 191 < 231 by decide) (show shK 191 = 5 from rfl) (show shN 191 = 68 from rfl) rfl (Nat.le_of_ble_eq_true rfl) ing1 mw_1424 (fv_sg rfl rfl rfl) d_MO_years_112 ?_
        refine lv_iload F.hx F.hb d_MO_years_115 (lv_at hl 0 rfl) ?_
        obtain ⟨⟨g24a, g24b⟩, hT⟩ := q_guard hT
        refine r_iald F hS (show 212 < 231 by decide) (show shK 212 = 0 from rfl) (show shN 212 = 92 from rfl) h21 g24a g24b d_MO_years_117 ?_
        have i25 := hS.rng 212 (q20.2)
        obtain ⟨⟨g26a, g26b⟩, hT⟩ := q_guard hT
        refine r_iast F hS (show 218 < 231 by decide) (show shK 218 = 0 from rfl) (show shN 218 = 300 from rfl) i10 i25 g26a g26b d_MO_years_118 (fun H locs hS => ?_)
        obtain ⟨M27, eM27⟩ : ∃ q, q = (setI M23 218 (M.1 207 0) (M23.1 212 (q20.2))) := ⟨_, rfl⟩
        replace hS : St b C n M27 s H locs := by rw [eM27]; exact hS
        replace hT := qlet_eq hT eM27
        refine lv_aload_n F.hx F.hb d_MO_years_119 rfl (lv_at hl 2 rfl) ?_
        refine r_get (v := .ref (b + 212)) (N := 68) (T := T1) (j := 35) F hS (show 191 < 231 by decide) (show shK 191 = 5 from rfl) (show shN 191 = 68 from rfl) rfl (Nat.le_of_ble_eq_true rfl) ing1 mw_1424 (fv_sg rfl rfl rfl) d_MO_years_120 ?_
        refine lv_iload F.hx F.hb d_MO_years_123 (lv_at hl 0 rfl) ?_
        refine lv_aload_n F.hx F.hb d_MO_years_125 rfl (lv_at hl 2 rfl) ?_
        refine r_iconst F.hx F.hb d_MO_years_126 ?_
        obtain ⟨q28, hq28, hT⟩ := q_obind hT
        refine r_backI F hS (r_runV (k := 191) (N := 68) (T := T1) (As := [vI 4]) F hS (show 191 < 231 by decide) (show shK 191 = 5 from rfl) rfl (c_MO_draw l F.2.2.1 M27 4 (inr_c rfl) _ hq28) gs_MO_517 hd_MO_draw ⟨Nat.le_of_ble_eq_true rfl, Nat.le_of_ble_eq_true rfl⟩ rfl hl.1 (Nat.le_of_ble_eq_true rfl) ⟨Nat.zero_le _, Nat.zero_le _⟩ rfl d_MO_years_127) (fun H locs hS h29 => ?_)
        obtain ⟨⟨g30a, g30b⟩, hT⟩ := q_guard hT
        refine r_iast F hS (show 212 < 231 by decide) (show shK 212 = 0 from rfl) (show shN 212 = 92 from rfl) h21 h29 g30a g30b d_MO_years_130 (fun H locs hS => ?_)
        obtain ⟨M31, eM31⟩ : ∃ q, q = (setI (q28.1) 212 (q20.2) (q28.2)) := ⟨_, rfl⟩
        replace hS : St b C n M31 s H locs := by rw [eM31]; exact hS
        replace hT := qlet_eq hT eM31
        refine lv_aload_n F.hx F.hb d_MO_years_131 rfl (lv_at hl 2 rfl) ?_
        refine r_get (v := .ref (b + 217)) (N := 68) (T := T1) (j := 40) F hS (show 191 < 231 by decide) (show shK 191 = 5 from rfl) (show shN 191 = 68 from rfl) rfl (Nat.le_of_ble_eq_true rfl) ing1 mw_1429 (fv_sg rfl rfl rfl) d_MO_years_132 ?_
        refine lv_iload_n F.hx F.hb d_MO_years_135 rfl (lv_at hl 1 rfl) ?_
        refine lv_aload_n F.hx F.hb d_MO_years_136 rfl (lv_at hl 2 rfl) ?_
        refine r_get (v := .ref (b + 212)) (N := 68) (T := T1) (j := 35) F hS (show 191 < 231 by decide) (show shK 191 = 5 from rfl) (show shN 191 = 68 from rfl) rfl (Nat.le_of_ble_eq_true rfl) ing1 mw_1424 (fv_sg rfl rfl rfl) d_MO_years_137 ?_
        refine lv_iload F.hx F.hb d_MO_years_140 (lv_at hl 0 rfl) ?_
        obtain ⟨⟨g32a, g32b⟩, hT⟩ := q_guard hT
        refine r_iald F hS (show 212 < 231 by decide) (show shK 212 = 0 from rfl) (show shN 212 = 92 from rfl) h21 g32a g32b d_MO_years_142 ?_
        have i33 := hS.rng 212 (q20.2)
        obtain ⟨⟨g34a, g34b⟩, hT⟩ := q_guard hT
        refine r_iast F hS (show 217 < 231 by decide) (show shK 217 = 0 from rfl) (show shN 217 = 300 from rfl) i10 i33 g34a g34b d_MO_years_143 (fun H locs hS => ?_)
        obtain ⟨M35, eM35⟩ : ∃ q, q = (setI M31 217 (M.1 207 0) (M31.1 212 (q20.2))) := ⟨_, rfl⟩
        replace hS : St b C n M35 s H locs := by rw [eM35]; exact hS
        replace hT := qlet_eq hT eM35
        refine lv_aload_n F.hx F.hb d_MO_years_144 rfl (lv_at hl 2 rfl) ?_
        refine r_iconst F.hx F.hb d_MO_years_145 ?_
        obtain ⟨q36, hq36, hT⟩ := q_obind hT
        refine r_backV F hS (r_runV (k := 191) (N := 68) (T := T1) (As := [vI 0]) F hS (show 191 < 231 by decide) (show shK 191 = 5 from rfl) rfl (c_MO_floods l F.2.2.1 M35 0 (inr_c rfl) _ hq36) gs_MO_446 hd_MO_floods ⟨Nat.le_of_ble_eq_true rfl, Nat.le_of_ble_eq_true rfl⟩ rfl hl.1 (Nat.le_of_ble_eq_true rfl) ⟨Nat.zero_le _, Nat.zero_le _⟩ rfl d_MO_years_146) (fun H locs hS => ?_)
        exact k_MO_years_L149 l hlo x1 hx1 F hlk hr (fun a0_ a1_ => t_MO_years_L41 x1 fu a0_ a1_) ih q36 v2_ hv2_ _ _ _ hS (lv_sub hl [2, 3, 4] rfl) hT
set_option maxHeartbeats 4000000 in
set_option maxRecDepth 100000 in
theorem k_MO_years_L39 (l : Launch) {p : Program} {e : Env} {s : State} {m : MethodId} {below : List Frame} {meth : Method} {c : Code} {b n : Nat} {C : CT} (hlo : 231 ≤ n) (x1 : Int) (hx1 : InR x1) (F : Cx b p m c b_MO_years 5 s ([.ref (b + 191), vI x1] : List Value).toArray "WardFallsModel" C n 231) (hlk : meth.locks = false) (hr : meth.sig.returnType = some .int) {res : Mem × Int} (M : Mem)  (H : Heap) (locs : List Loc) (ls : Array Slot) (hS : St b C n M s H locs) (hl : lv_has ls 5 [(0, .ref (b + 191)), (1, vI x1)]) (hT : t_MO_years_L39 x1 M = some res) : W p l e (headSpec (wsM y_MO_years b_MO_years 5 (some .int)) (rmD 4)).room s m ([.ref (b + 191), vI x1] : List Value).toArray below meth c H locs 0 0 (MQ below (QI b C n res.1 res.2) ([.ref (b + 191), vI x1] : List Value).toArray s 0 0 (frb b)) (F0 m 39 ls []) := by
  unfold t_MO_years_L39 at hT
  refine r_iconst F.hx F.hb d_MO_years_39 ?_
  refine lv_istore_n (lv' := [(2, vI 0), (0, .ref (b + 191)), (1, vI x1)]) F.hx F.hb d_MO_years_40 rfl hl (Nat.le_of_ble_eq_true rfl) rfl (fun ls hl => ?_)
  exact k_MO_years_L41 l hlo x1 hx1 F hlk hr FU M 0 (inr_c rfl) _ _ _ hS (lv_sub hl [1, 2, 0] rfl) hT
set_option maxHeartbeats 4000000 in
set_option maxRecDepth 100000 in
theorem c_MO_years (l : Launch) {b n : Nat} {C : CT} (hlo : 231 ≤ n) (M : Mem) (x1 : Int) (hx1 : InR x1) (res : Mem × Int) (hT : t_MO_years M x1 = some res) : CM l b C n 4 y_MO_years b_MO_years 5 (some .int) [.ref (b + 191), vI x1] M (QI b C n res.1 res.2) := by
  refine CM.of (lo := 231) (ow := "WardFallsModel") (by decide) rfl (Nat.le_of_ble_eq_true rfl) hlo (fun p e s m below meth c F hlk hr hS ls hl => ?_)
  have hl : lv_has ls 5 [(0, .ref (b + 191)), (1, vI x1)] := hl
  unfold t_MO_years at hT
  refine lv_aload_n F.hx F.hb d_MO_years_0 rfl (lv_at hl 0 rfl) ?_
  refine r_iconst F.hx F.hb d_MO_years_1 ?_
  refine r_putI (N := 68) (T := T1) (j := 0) F hS (show 191 < 231 by decide) (show shK 191 = 5 from rfl) (show shN 191 = 68 from rfl) rfl (Nat.le_of_ble_eq_true rfl) ing1 tyok1 nm1 rfl rfl rfl rfl rfl rfl mw_1389 (inr_c rfl) d_MO_years_2 (fun H locs hS => ?_)
  obtain ⟨M1, eM1⟩ : ∃ q, q = (setI M 191 0 0) := ⟨_, rfl⟩
  replace hS : St b C n M1 s H locs := by rw [eM1]; exact hS
  replace hT := qlet_eq hT eM1
  refine lv_iload_n F.hx F.hb d_MO_years_5 rfl (lv_at hl 1 rfl) ?_
  refine r_if_lt (tgt := 28) F.hx F.hb hx1 d_MO_years_6 (by decide) (fun c2 => ?_) (fun c2 => ?_)
  · replace hT := (if_pos c2).symm.trans hT
    refine r_iconst F.hx F.hb d_MO_years_28 ?_
    cases hT
    exact r_iret F hlk hr rfl hS (inr_c rfl) d_MO_years_29
  · replace hT := (if_neg c2).symm.trans hT
    refine lv_iload_n F.hx F.hb d_MO_years_9 rfl (lv_at hl 1 rfl) ?_
    refine r_bipush F.hx F.hb d_MO_years_10 rfl ?_
    refine r_icmp_gt (tgt := 28) F.hx F.hb hx1 (inr_c rfl) d_MO_years_12 (by decide) (fun c3 => ?_) (fun c3 => ?_)
    · replace hT := (if_pos c3).symm.trans hT
      refine r_iconst F.hx F.hb d_MO_years_28 ?_
      cases hT
      exact r_iret F hlk hr rfl hS (inr_c rfl) d_MO_years_29
    · replace hT := (if_neg c3).symm.trans hT
      refine lv_aload_n F.hx F.hb d_MO_years_15 rfl (lv_at hl 0 rfl) ?_
      refine r_get (v := .ref (b + 207)) (N := 68) (T := T1) (j := 30) F hS (show 191 < 231 by decide) (show shK 191 = 5 from rfl) (show shN 191 = 68 from rfl) rfl (Nat.le_of_ble_eq_true rfl) ing1 mw_1419 (fv_sg rfl rfl rfl) d_MO_years_16 ?_
      refine r_iconst F.hx F.hb d_MO_years_19 ?_
      refine r_iald F hS (show 207 < 231 by decide) (show shK 207 = 0 from rfl) (show shN 207 = 23 from rfl) (inr_c rfl) (by omega) (by omega) d_MO_years_20 ?_
      have i4 := hS.rng 207 0
      refine lv_iload_n F.hx F.hb d_MO_years_21 rfl (lv_at hl 1 rfl) ?_
      refine r_iadd F.hx F.hb d_MO_years_22 ?_
      refine r_bipush F.hx F.hb d_MO_years_23 rfl ?_
      refine r_icmp_le (tgt := 30) F.hx F.hb (inr_w32 _) (inr_c rfl) d_MO_years_25 (by decide) (fun c5 => ?_) (fun c5 => ?_)
      · replace hT := (if_pos c5).symm.trans hT
        refine lv_iload_n F.hx F.hb d_MO_years_30 rfl (lv_at hl 1 rfl) ?_
        refine r_if_le (tgt := 39) F.hx F.hb hx1 d_MO_years_31 (by decide) (fun c6 => ?_) (fun c6 => ?_)
        · replace hT := (if_pos c6).symm.trans hT
          exact k_MO_years_L39 l hlo x1 hx1 F hlk hr M1 _ _ _ hS (lv_sub hl [0, 1] rfl) hT
        · replace hT := (if_neg c6).symm.trans hT
          refine lv_aload_n F.hx F.hb d_MO_years_34 rfl (lv_at hl 0 rfl) ?_
          refine r_iconst F.hx F.hb d_MO_years_35 ?_
          refine r_putI (N := 68) (T := T1) (j := 43) F hS (show 191 < 231 by decide) (show shK 191 = 5 from rfl) (show shN 191 = 68 from rfl) rfl (Nat.le_of_ble_eq_true rfl) ing1 tyok1 nm1 rfl rfl rfl rfl rfl rfl mw_1432 (inr_c rfl) d_MO_years_36 (fun H locs hS => ?_)
          obtain ⟨M7, eM7⟩ : ∃ q, q = (setI M1 191 43 0) := ⟨_, rfl⟩
          replace hS : St b C n M7 s H locs := by rw [eM7]; exact hS
          replace hT := qlet_eq hT eM7
          exact k_MO_years_L39 l hlo x1 hx1 F hlk hr M7 _ _ _ hS (lv_sub hl [0, 1] rfl) hT
      · replace hT := (if_neg c5).symm.trans hT
        refine r_iconst F.hx F.hb d_MO_years_28 ?_
        cases hT
        exact r_iret F hlk hr rfl hS (inr_c rfl) d_MO_years_29
theorem d_MO_voted_0 : decode b_MO_voted 0 = .ok (.aload_n 0, 1) := dc_42 (by decide +kernel)
theorem d_MO_voted_1 : decode b_MO_voted 1 = .ok (.iconst 0, 1) := dc_3 (by decide +kernel)
theorem d_MO_voted_2 : decode b_MO_voted 2 = .ok (.putfield 145, 3) := dc_181 (by decide +kernel)
theorem d_MO_voted_5 : decode b_MO_voted 5 = .ok (.iload_n 1, 1) := dc_27 (by decide +kernel)
theorem d_MO_voted_6 : decode b_MO_voted 6 = .ok (.ifCond .lt 13, 3) := dc_155 (by decide +kernel)
theorem d_MO_voted_9 : decode b_MO_voted 9 = .ok (.iload_n 1, 1) := dc_27 (by decide +kernel)
theorem d_MO_voted_10 : decode b_MO_voted 10 = .ok (.aload_n 0, 1) := dc_42 (by decide +kernel)
theorem d_MO_voted_11 : decode b_MO_voted 11 = .ok (.getfield 60, 3) := dc_180 (by decide +kernel)
theorem d_MO_voted_14 : decode b_MO_voted 14 = .ok (.iconst 0, 1) := dc_3 (by decide +kernel)
theorem d_MO_voted_15 : decode b_MO_voted 15 = .ok (.iaload, 1) := dc_46 (by decide +kernel)
theorem d_MO_voted_16 : decode b_MO_voted 16 = .ok (.if_icmp .lt 5, 3) := dc_161 (by decide +kernel)
theorem d_MO_voted_19 : decode b_MO_voted 19 = .ok (.iconst (-1), 1) := dc_2 (by decide +kernel)
theorem d_MO_voted_20 : decode b_MO_voted 20 = .ok (.ireturn, 1) := dc_172 (by decide +kernel)
theorem d_MO_voted_21 : decode b_MO_voted 21 = .ok (.iload_n 2, 1) := dc_28 (by decide +kernel)
theorem d_MO_voted_22 : decode b_MO_voted 22 = .ok (.ifCond .ne 12, 3) := dc_154 (by decide +kernel)
theorem d_MO_voted_25 : decode b_MO_voted 25 = .ok (.aload_n 0, 1) := dc_42 (by decide +kernel)
theorem d_MO_voted_26 : decode b_MO_voted 26 = .ok (.getfield 88, 3) := dc_180 (by decide +kernel)
theorem d_MO_voted_29 : decode b_MO_voted 29 = .ok (.iload_n 1, 1) := dc_27 (by decide +kernel)
theorem d_MO_voted_30 : decode b_MO_voted 30 = .ok (.iaload, 1) := dc_46 (by decide +kernel)
theorem d_MO_voted_31 : decode b_MO_voted 31 = .ok (.goto 32, 3) := dc_167 (by decide +kernel)
theorem d_MO_voted_34 : decode b_MO_voted 34 = .ok (.iload_n 2, 1) := dc_28 (by decide +kernel)
theorem d_MO_voted_35 : decode b_MO_voted 35 = .ok (.iconst 1, 1) := dc_4 (by decide +kernel)
theorem d_MO_voted_36 : decode b_MO_voted 36 = .ok (.if_icmp .ne 12, 3) := dc_160 (by decide +kernel)
theorem d_MO_voted_39 : decode b_MO_voted 39 = .ok (.aload_n 0, 1) := dc_42 (by decide +kernel)
theorem d_MO_voted_40 : decode b_MO_voted 40 = .ok (.getfield 91, 3) := dc_180 (by decide +kernel)
theorem d_MO_voted_43 : decode b_MO_voted 43 = .ok (.iload_n 1, 1) := dc_27 (by decide +kernel)
theorem d_MO_voted_44 : decode b_MO_voted 44 = .ok (.iaload, 1) := dc_46 (by decide +kernel)
theorem d_MO_voted_45 : decode b_MO_voted 45 = .ok (.goto 18, 3) := dc_167 (by decide +kernel)
theorem d_MO_voted_48 : decode b_MO_voted 48 = .ok (.iload_n 2, 1) := dc_28 (by decide +kernel)
theorem d_MO_voted_49 : decode b_MO_voted 49 = .ok (.iconst 2, 1) := dc_5 (by decide +kernel)
theorem d_MO_voted_50 : decode b_MO_voted 50 = .ok (.if_icmp .ne 12, 3) := dc_160 (by decide +kernel)
theorem d_MO_voted_53 : decode b_MO_voted 53 = .ok (.aload_n 0, 1) := dc_42 (by decide +kernel)
theorem d_MO_voted_54 : decode b_MO_voted 54 = .ok (.getfield 94, 3) := dc_180 (by decide +kernel)
theorem d_MO_voted_57 : decode b_MO_voted 57 = .ok (.iload_n 1, 1) := dc_27 (by decide +kernel)
theorem d_MO_voted_58 : decode b_MO_voted 58 = .ok (.iaload, 1) := dc_46 (by decide +kernel)
theorem d_MO_voted_59 : decode b_MO_voted 59 = .ok (.goto 4, 3) := dc_167 (by decide +kernel)
theorem d_MO_voted_62 : decode b_MO_voted 62 = .ok (.iconst (-1), 1) := dc_2 (by decide +kernel)
theorem d_MO_voted_63 : decode b_MO_voted 63 = .ok (.ireturn, 1) := dc_172 (by decide +kernel)
def t_MO_voted (M : Mem) (x1 : Int) (x2 : Int) : Option (Mem × Int) := (qlet (setI M 191 0 0) fun M1 => (if x1 < 0 then (some (M1, (-1))) else (if x1 < (M1.1 207 0) then (if x2 = 0 then (qguard (0 ≤ x1 ∧ x1 < 300) (some (M1, (M1.1 216 x1)))) else (if x2 = 1 then (qguard (0 ≤ x1 ∧ x1 < 300) (some (M1, (M1.1 217 x1)))) else (if x2 = 2 then (qguard (0 ≤ x1 ∧ x1 < 300) (some (M1, (M1.1 218 x1)))) else (some (M1, (-1)))))) else (some (M1, (-1))))))
set_option maxHeartbeats 4000000 in
set_option maxRecDepth 100000 in
theorem c_MO_voted (l : Launch) {b n : Nat} {C : CT} (hlo : 231 ≤ n) (M : Mem) (x1 : Int) (x2 : Int) (hx1 : InR x1) (hx2 : InR x2) (res : Mem × Int) (hT : t_MO_voted M x1 x2 = some res) : CM l b C n 0 y_MO_voted b_MO_voted 3 (some .int) [.ref (b + 191), vI x1, vI x2] M (QI b C n res.1 res.2) := by
  refine CM.of (lo := 231) (ow := "WardFallsModel") (by decide) rfl (Nat.le_of_ble_eq_true rfl) hlo (fun p e s m below meth c F hlk hr hS ls hl => ?_)
  have hl : lv_has ls 3 [(0, .ref (b + 191)), (1, vI x1), (2, vI x2)] := hl
  unfold t_MO_voted at hT
  refine lv_aload_n F.hx F.hb d_MO_voted_0 rfl (lv_at hl 0 rfl) ?_
  refine r_iconst F.hx F.hb d_MO_voted_1 ?_
  refine r_putI (N := 68) (T := T1) (j := 0) F hS (show 191 < 231 by decide) (show shK 191 = 5 from rfl) (show shN 191 = 68 from rfl) rfl (Nat.le_of_ble_eq_true rfl) ing1 tyok1 nm1 rfl rfl rfl rfl rfl rfl mw_1389 (inr_c rfl) d_MO_voted_2 (fun H locs hS => ?_)
  obtain ⟨M1, eM1⟩ : ∃ q, q = (setI M 191 0 0) := ⟨_, rfl⟩
  replace hS : St b C n M1 s H locs := by rw [eM1]; exact hS
  replace hT := qlet_eq hT eM1
  refine lv_iload_n F.hx F.hb d_MO_voted_5 rfl (lv_at hl 1 rfl) ?_
  refine r_if_lt (tgt := 19) F.hx F.hb hx1 d_MO_voted_6 (by decide) (fun c2 => ?_) (fun c2 => ?_)
  · replace hT := (if_pos c2).symm.trans hT
    refine r_iconst F.hx F.hb d_MO_voted_19 ?_
    cases hT
    exact r_iret F hlk hr rfl hS (inr_c rfl) d_MO_voted_20
  · replace hT := (if_neg c2).symm.trans hT
    refine lv_iload_n F.hx F.hb d_MO_voted_9 rfl (lv_at hl 1 rfl) ?_
    refine lv_aload_n F.hx F.hb d_MO_voted_10 rfl (lv_at hl 0 rfl) ?_
    refine r_get (v := .ref (b + 207)) (N := 68) (T := T1) (j := 30) F hS (show 191 < 231 by decide) (show shK 191 = 5 from rfl) (show shN 191 = 68 from rfl) rfl (Nat.le_of_ble_eq_true rfl) ing1 mw_1419 (fv_sg rfl rfl rfl) d_MO_voted_11 ?_
    refine r_iconst F.hx F.hb d_MO_voted_14 ?_
    refine r_iald F hS (show 207 < 231 by decide) (show shK 207 = 0 from rfl) (show shN 207 = 23 from rfl) (inr_c rfl) (by omega) (by omega) d_MO_voted_15 ?_
    have i3 := hS.rng 207 0
    refine r_icmp_lt (tgt := 21) F.hx F.hb hx1 i3 d_MO_voted_16 (by decide) (fun c4 => ?_) (fun c4 => ?_)
    · replace hT := (if_pos c4).symm.trans hT
      refine lv_iload_n F.hx F.hb d_MO_voted_21 rfl (lv_at hl 2 rfl) ?_
      refine r_if_ne (tgt := 34) F.hx F.hb hx2 d_MO_voted_22 (by decide) (fun c5 => ?_) (fun c5 => ?_)
      · replace hT := (if_neg c5).symm.trans hT
        refine lv_iload_n F.hx F.hb d_MO_voted_34 rfl (lv_at hl 2 rfl) ?_
        refine r_iconst F.hx F.hb d_MO_voted_35 ?_
        refine r_icmp_ne (tgt := 48) F.hx F.hb hx2 (inr_c rfl) d_MO_voted_36 (by decide) (fun c6 => ?_) (fun c6 => ?_)
        · replace hT := (if_neg c6).symm.trans hT
          refine lv_iload_n F.hx F.hb d_MO_voted_48 rfl (lv_at hl 2 rfl) ?_
          refine r_iconst F.hx F.hb d_MO_voted_49 ?_
          refine r_icmp_ne (tgt := 62) F.hx F.hb hx2 (inr_c rfl) d_MO_voted_50 (by decide) (fun c7 => ?_) (fun c7 => ?_)
          · replace hT := (if_neg c7).symm.trans hT
            refine r_iconst F.hx F.hb d_MO_voted_62 ?_
            cases hT
            exact r_iret F hlk hr rfl hS (inr_c rfl) d_MO_voted_63
          · replace hT := (if_pos c7).symm.trans hT
            refine lv_aload_n F.hx F.hb d_MO_voted_53 rfl (lv_at hl 0 rfl) ?_
            refine r_get (v := .ref (b + 218)) (N := 68) (T := T1) (j := 41) F hS (show 191 < 231 by decide) (show shK 191 = 5 from rfl) (show shN 191 = 68 from rfl) rfl (Nat.le_of_ble_eq_true rfl) ing1 mw_1430 (fv_sg rfl rfl rfl) d_MO_voted_54 ?_
            refine lv_iload_n F.hx F.hb d_MO_voted_57 rfl (lv_at hl 1 rfl) ?_
            obtain ⟨⟨g8a, g8b⟩, hT⟩ := q_guard hT
            refine r_iald F hS (show 218 < 231 by decide) (show shK 218 = 0 from rfl) (show shN 218 = 300 from rfl) hx1 g8a g8b d_MO_voted_58 ?_
            have i9 := hS.rng 218 x1
            refine lv_goto (tgt := 63) F.hx F.hb d_MO_voted_59 (by decide) ?_
            cases hT
            exact r_iret F hlk hr rfl hS i9 d_MO_voted_63
        · replace hT := (if_pos c6).symm.trans hT
          refine lv_aload_n F.hx F.hb d_MO_voted_39 rfl (lv_at hl 0 rfl) ?_
          refine r_get (v := .ref (b + 217)) (N := 68) (T := T1) (j := 40) F hS (show 191 < 231 by decide) (show shK 191 = 5 from rfl) (show shN 191 = 68 from rfl) rfl (Nat.le_of_ble_eq_true rfl) ing1 mw_1429 (fv_sg rfl rfl rfl) d_MO_voted_40 ?_
          refine lv_iload_n F.hx F.hb d_MO_voted_43 rfl (lv_at hl 1 rfl) ?_
          obtain ⟨⟨g10a, g10b⟩, hT⟩ := q_guard hT
          refine r_iald F hS (show 217 < 231 by decide) (show shK 217 = 0 from rfl) (show shN 217 = 300 from rfl) hx1 g10a g10b d_MO_voted_44 ?_
          have i11 := hS.rng 217 x1
          refine lv_goto (tgt := 63) F.hx F.hb d_MO_voted_45 (by decide) ?_
          cases hT
          exact r_iret F hlk hr rfl hS i11 d_MO_voted_63
      · replace hT := (if_pos c5).symm.trans hT
        refine lv_aload_n F.hx F.hb d_MO_voted_25 rfl (lv_at hl 0 rfl) ?_
        refine r_get (v := .ref (b + 216)) (N := 68) (T := T1) (j := 39) F hS (show 191 < 231 by decide) (show shK 191 = 5 from rfl) (show shN 191 = 68 from rfl) rfl (Nat.le_of_ble_eq_true rfl) ing1 mw_1428 (fv_sg rfl rfl rfl) d_MO_voted_26 ?_
        refine lv_iload_n F.hx F.hb d_MO_voted_29 rfl (lv_at hl 1 rfl) ?_
        obtain ⟨⟨g12a, g12b⟩, hT⟩ := q_guard hT
        refine r_iald F hS (show 216 < 231 by decide) (show shK 216 = 0 from rfl) (show shN 216 = 300 from rfl) hx1 g12a g12b d_MO_voted_30 ?_
        have i13 := hS.rng 216 x1
        refine lv_goto (tgt := 63) F.hx F.hb d_MO_voted_31 (by decide) ?_
        cases hT
        exact r_iret F hlk hr rfl hS i13 d_MO_voted_63
    · replace hT := (if_neg c4).symm.trans hT
      refine r_iconst F.hx F.hb d_MO_voted_19 ?_
      cases hT
      exact r_iret F hlk hr rfl hS (inr_c rfl) d_MO_voted_20
theorem d_MO_tried_0 : decode b_MO_tried 0 = .ok (.aload_n 0, 1) := dc_42 (by decide +kernel)
theorem d_MO_tried_1 : decode b_MO_tried 1 = .ok (.iconst 0, 1) := dc_3 (by decide +kernel)
theorem d_MO_tried_2 : decode b_MO_tried 2 = .ok (.putfield 145, 3) := dc_181 (by decide +kernel)
theorem d_MO_tried_5 : decode b_MO_tried 5 = .ok (.iload_n 1, 1) := dc_27 (by decide +kernel)
theorem d_MO_tried_6 : decode b_MO_tried 6 = .ok (.iconst 3, 1) := dc_6 (by decide +kernel)
theorem d_MO_tried_7 : decode b_MO_tried 7 = .ok (.if_icmp .ne 11, 3) := dc_160 (by decide +kernel)
theorem d_MO_tried_10 : decode b_MO_tried 10 = .ok (.aload_n 0, 1) := dc_42 (by decide +kernel)
theorem d_MO_tried_11 : decode b_MO_tried 11 = .ok (.iload_n 2, 1) := dc_28 (by decide +kernel)
theorem d_MO_tried_12 : decode b_MO_tried 12 = .ok (.invokevirtual 369, 3) := dc_182 (by decide +kernel)
theorem d_MO_tried_15 : decode b_MO_tried 15 = .ok (.goto 34, 3) := dc_167 (by decide +kernel)
theorem d_MO_tried_18 : decode b_MO_tried 18 = .ok (.iload_n 1, 1) := dc_27 (by decide +kernel)
theorem d_MO_tried_19 : decode b_MO_tried 19 = .ok (.iconst 4, 1) := dc_7 (by decide +kernel)
theorem d_MO_tried_20 : decode b_MO_tried 20 = .ok (.if_icmp .ne 11, 3) := dc_160 (by decide +kernel)
theorem d_MO_tried_23 : decode b_MO_tried 23 = .ok (.aload_n 0, 1) := dc_42 (by decide +kernel)
theorem d_MO_tried_24 : decode b_MO_tried 24 = .ok (.iload_n 2, 1) := dc_28 (by decide +kernel)
theorem d_MO_tried_25 : decode b_MO_tried 25 = .ok (.invokevirtual 378, 3) := dc_182 (by decide +kernel)
theorem d_MO_tried_28 : decode b_MO_tried 28 = .ok (.goto 21, 3) := dc_167 (by decide +kernel)
theorem d_MO_tried_31 : decode b_MO_tried 31 = .ok (.iload_n 1, 1) := dc_27 (by decide +kernel)
theorem d_MO_tried_32 : decode b_MO_tried 32 = .ok (.ifCond .lt 16, 3) := dc_155 (by decide +kernel)
theorem d_MO_tried_35 : decode b_MO_tried 35 = .ok (.iload_n 1, 1) := dc_27 (by decide +kernel)
theorem d_MO_tried_36 : decode b_MO_tried 36 = .ok (.iconst 2, 1) := dc_5 (by decide +kernel)
theorem d_MO_tried_37 : decode b_MO_tried 37 = .ok (.if_icmp .gt 11, 3) := dc_163 (by decide +kernel)
theorem d_MO_tried_40 : decode b_MO_tried 40 = .ok (.iload_n 2, 1) := dc_28 (by decide +kernel)
theorem d_MO_tried_41 : decode b_MO_tried 41 = .ok (.ifCond .ne 7, 3) := dc_154 (by decide +kernel)
theorem d_MO_tried_44 : decode b_MO_tried 44 = .ok (.iconst 1, 1) := dc_4 (by decide +kernel)
theorem d_MO_tried_45 : decode b_MO_tried 45 = .ok (.goto 4, 3) := dc_167 (by decide +kernel)
theorem d_MO_tried_48 : decode b_MO_tried 48 = .ok (.iconst 0, 1) := dc_3 (by decide +kernel)
theorem d_MO_tried_49 : decode b_MO_tried 49 = .ok (.istore 4, 2) := dc_54 (by decide +kernel)
theorem d_MO_tried_51 : decode b_MO_tried 51 = .ok (.iload 4, 2) := dc_21 (by decide +kernel)
theorem d_MO_tried_53 : decode b_MO_tried 53 = .ok (.ifCond .eq 14, 3) := dc_153 (by decide +kernel)
theorem d_MO_tried_56 : decode b_MO_tried 56 = .ok (.iload_n 3, 1) := dc_29 (by decide +kernel)
theorem d_MO_tried_57 : decode b_MO_tried 57 = .ok (.ifCond .lt 10, 3) := dc_155 (by decide +kernel)
theorem d_MO_tried_60 : decode b_MO_tried 60 = .ok (.iload_n 3, 1) := dc_29 (by decide +kernel)
theorem d_MO_tried_61 : decode b_MO_tried 61 = .ok (.sipush 200, 3) := dc_17 (by decide +kernel)
theorem d_MO_tried_64 : decode b_MO_tried 64 = .ok (.if_icmp .le 5, 3) := dc_164 (by decide +kernel)
theorem d_MO_tried_67 : decode b_MO_tried 67 = .ok (.iconst (-1), 1) := dc_2 (by decide +kernel)
theorem d_MO_tried_68 : decode b_MO_tried 68 = .ok (.ireturn, 1) := dc_172 (by decide +kernel)
theorem d_MO_tried_69 : decode b_MO_tried 69 = .ok (.aload_n 0, 1) := dc_42 (by decide +kernel)
theorem d_MO_tried_70 : decode b_MO_tried 70 = .ok (.iconst 1, 1) := dc_4 (by decide +kernel)
theorem d_MO_tried_71 : decode b_MO_tried 71 = .ok (.iconst 0, 1) := dc_3 (by decide +kernel)
theorem d_MO_tried_72 : decode b_MO_tried 72 = .ok (.invokevirtual 437, 3) := dc_182 (by decide +kernel)
theorem d_MO_tried_75 : decode b_MO_tried 75 = .ok (.aload_n 0, 1) := dc_42 (by decide +kernel)
theorem d_MO_tried_76 : decode b_MO_tried 76 = .ok (.iload_n 1, 1) := dc_27 (by decide +kernel)
theorem d_MO_tried_77 : decode b_MO_tried 77 = .ok (.putfield 97, 3) := dc_181 (by decide +kernel)
theorem d_MO_tried_80 : decode b_MO_tried 80 = .ok (.aload_n 0, 1) := dc_42 (by decide +kernel)
theorem d_MO_tried_81 : decode b_MO_tried 81 = .ok (.iload_n 2, 1) := dc_28 (by decide +kernel)
theorem d_MO_tried_82 : decode b_MO_tried 82 = .ok (.putfield 100, 3) := dc_181 (by decide +kernel)
theorem d_MO_tried_85 : decode b_MO_tried 85 = .ok (.iconst 0, 1) := dc_3 (by decide +kernel)
theorem d_MO_tried_86 : decode b_MO_tried 86 = .ok (.istore 5, 2) := dc_54 (by decide +kernel)
theorem d_MO_tried_88 : decode b_MO_tried 88 = .ok (.iconst 0, 1) := dc_3 (by decide +kernel)
theorem d_MO_tried_89 : decode b_MO_tried 89 = .ok (.istore 6, 2) := dc_54 (by decide +kernel)
theorem d_MO_tried_91 : decode b_MO_tried 91 = .ok (.iload 6, 2) := dc_21 (by decide +kernel)
theorem d_MO_tried_93 : decode b_MO_tried 93 = .ok (.iload_n 3, 1) := dc_29 (by decide +kernel)
theorem d_MO_tried_94 : decode b_MO_tried 94 = .ok (.if_icmp .ge 19, 3) := dc_162 (by decide +kernel)
theorem d_MO_tried_97 : decode b_MO_tried 97 = .ok (.iload 5, 2) := dc_21 (by decide +kernel)
theorem d_MO_tried_99 : decode b_MO_tried 99 = .ok (.aload_n 0, 1) := dc_42 (by decide +kernel)
theorem d_MO_tried_100 : decode b_MO_tried 100 = .ok (.iconst 1, 1) := dc_4 (by decide +kernel)
theorem d_MO_tried_101 : decode b_MO_tried 101 = .ok (.invokevirtual 434, 3) := dc_182 (by decide +kernel)
theorem d_MO_tried_104 : decode b_MO_tried 104 = .ok (.iadd, 1) := dc_96 (by decide +kernel)
theorem d_MO_tried_105 : decode b_MO_tried 105 = .ok (.istore 5, 2) := dc_54 (by decide +kernel)
theorem d_MO_tried_107 : decode b_MO_tried 107 = .ok (.iinc 6 1, 3) := dc_132 (by decide +kernel)
theorem d_MO_tried_110 : decode b_MO_tried 110 = .ok (.goto (-19), 3) := dc_167 (by decide +kernel)
theorem d_MO_tried_113 : decode b_MO_tried 113 = .ok (.aload_n 0, 1) := dc_42 (by decide +kernel)
theorem d_MO_tried_114 : decode b_MO_tried 114 = .ok (.iconst (-1), 1) := dc_2 (by decide +kernel)
theorem d_MO_tried_115 : decode b_MO_tried 115 = .ok (.putfield 97, 3) := dc_181 (by decide +kernel)
theorem d_MO_tried_118 : decode b_MO_tried 118 = .ok (.aload_n 0, 1) := dc_42 (by decide +kernel)
theorem d_MO_tried_119 : decode b_MO_tried 119 = .ok (.iconst (-1), 1) := dc_2 (by decide +kernel)
theorem d_MO_tried_120 : decode b_MO_tried 120 = .ok (.putfield 100, 3) := dc_181 (by decide +kernel)
theorem d_MO_tried_123 : decode b_MO_tried 123 = .ok (.iload 5, 2) := dc_21 (by decide +kernel)
theorem d_MO_tried_125 : decode b_MO_tried 125 = .ok (.ireturn, 1) := dc_172 (by decide +kernel)
def t_MO_tried_L91 (x1 : Int) (x2 : Int) (x3 : Int)  : Nat → Mem → Int → Int → Option (Mem × Int)
  | 0, _, _, _ => none
  | fu + 1, M, v2_, v3_ => (if x3 ≤ v3_ then (qlet (setI M 191 44 (-1)) fun M19 => (qlet (setI M19 191 45 (-1)) fun M20 => (some (M20, v2_)))) else (obind (t_MO_beat M 1) fun q21 => (t_MO_tried_L91 x1 x2 x3 fu (q21.1) (w32 (v2_ + (q21.2))) (w32 (v3_ + 1)))))
def t_MO_tried_L49 (x1 : Int) (x2 : Int) (x3 : Int)  (M : Mem) (v4_ : Int) : Option (Mem × Int) := (if v4_ = 0 then (some (M, (-1))) else (if x3 < 0 then (some (M, (-1))) else (if x3 ≤ 200 then (obind (t_MO_copies M 1 0) fun q14 => (qlet (setI q14 191 44 x1) fun M16 => (qlet (setI M16 191 45 x2) fun M17 => (t_MO_tried_L91 x1 x2 x3 FU M17 0 0)))) else (some (M, (-1))))))
def t_MO_tried_L48 (x1 : Int) (x2 : Int) (x3 : Int)  (M : Mem)  : Option (Mem × Int) := (t_MO_tried_L49 x1 x2 x3 M 0)
def t_MO_tried (M : Mem) (x1 : Int) (x2 : Int) (x3 : Int) : Option (Mem × Int) := (qlet (setI M 191 0 0) fun M1 => (if x1 = 3 then (qlet (t_MO_isWard M1 x2) fun q9 => (t_MO_tried_L49 x1 x2 x3 M1 q9)) else (if x1 = 4 then (qlet (t_MO_isThing M1 x2) fun q7 => (t_MO_tried_L49 x1 x2 x3 M1 q7)) else (if x1 < 0 then (t_MO_tried_L48 x1 x2 x3 M1) else (if 2 < x1 then (t_MO_tried_L48 x1 x2 x3 M1) else (if x2 = 0 then (t_MO_tried_L49 x1 x2 x3 M1 1) else (t_MO_tried_L48 x1 x2 x3 M1)))))))
set_option maxHeartbeats 4000000 in
set_option maxRecDepth 100000 in
theorem k_MO_tried_L91 (l : Launch) {p : Program} {e : Env} {s : State} {m : MethodId} {below : List Frame} {meth : Method} {c : Code} {b n : Nat} {C : CT} (hlo : 231 ≤ n) (x1 : Int) (x2 : Int) (x3 : Int) (hx1 : InR x1) (hx2 : InR x2) (hx3 : InR x3) (F : Cx b p m c b_MO_tried 7 s ([.ref (b + 191), vI x1, vI x2, vI x3] : List Value).toArray "WardFallsModel" C n 231) (hlk : meth.locks = false) (hr : meth.sig.returnType = some .int) {res : Mem × Int} : ∀ (fu : Nat) (M : Mem) (v2_ : Int) (hv2_ : InR v2_) (v3_ : Int) (hv3_ : InR v3_) (H : Heap) (locs : List Loc) (ls : Array Slot), St b C n M s H locs → lv_has ls 7 [(0, .ref (b + 191)), (3, vI x3), (5, vI v2_), (6, vI v3_)] → t_MO_tried_L91 x1 x2 x3 fu M v2_ v3_ = some res → W p l e (headSpec (wsM y_MO_tried b_MO_tried 7 (some .int)) (rmD 3)).room s m ([.ref (b + 191), vI x1, vI x2, vI x3] : List Value).toArray below meth c H locs 0 0 (MQ below (QI b C n res.1 res.2) ([.ref (b + 191), vI x1, vI x2, vI x3] : List Value).toArray s 0 0 (frb b)) (F0 m 91 ls []) := by
  intro fu
  induction fu with
  | zero => intro M v2_ hv2_ v3_ hv3_ H locs ls hS hl hT; exact absurd hT (by simp [t_MO_tried_L91])
  | succ fu ih =>
    intro M v2_ hv2_ v3_ hv3_ H locs ls hS hl hT
    rw [t_MO_tried_L91] at hT
    refine lv_iload F.hx F.hb d_MO_tried_91 (lv_at hl 3 rfl) ?_
    refine lv_iload_n F.hx F.hb d_MO_tried_93 rfl (lv_at hl 1 rfl) ?_
    refine r_icmp_ge (tgt := 113) F.hx F.hb hv3_ hx3 d_MO_tried_94 (by decide) (fun c18 => ?_) (fun c18 => ?_)
    · replace hT := (if_pos c18).symm.trans hT
      refine lv_aload_n F.hx F.hb d_MO_tried_113 rfl (lv_at hl 0 rfl) ?_
      refine r_iconst F.hx F.hb d_MO_tried_114 ?_
      refine r_putI (N := 68) (T := T1) (j := 44) F hS (show 191 < 231 by decide) (show shK 191 = 5 from rfl) (show shN 191 = 68 from rfl) rfl (Nat.le_of_ble_eq_true rfl) ing1 tyok1 nm1 rfl rfl rfl rfl rfl rfl mw_1433 (inr_c rfl) d_MO_tried_115 (fun H locs hS => ?_)
      obtain ⟨M19, eM19⟩ : ∃ q, q = (setI M 191 44 (-1)) := ⟨_, rfl⟩
      replace hS : St b C n M19 s H locs := by rw [eM19]; exact hS
      replace hT := qlet_eq hT eM19
      refine lv_aload_n F.hx F.hb d_MO_tried_118 rfl (lv_at hl 0 rfl) ?_
      refine r_iconst F.hx F.hb d_MO_tried_119 ?_
      refine r_putI (N := 68) (T := T1) (j := 45) F hS (show 191 < 231 by decide) (show shK 191 = 5 from rfl) (show shN 191 = 68 from rfl) rfl (Nat.le_of_ble_eq_true rfl) ing1 tyok1 nm1 rfl rfl rfl rfl rfl rfl mw_1434 (inr_c rfl) d_MO_tried_120 (fun H locs hS => ?_)
      obtain ⟨M20, eM20⟩ : ∃ q, q = (setI M19 191 45 (-1)) := ⟨_, rfl⟩
      replace hS : St b C n M20 s H locs := by rw [eM20]; exact hS
      replace hT := qlet_eq hT eM20
      refine lv_iload F.hx F.hb d_MO_tried_123 (lv_at hl 2 rfl) ?_
      cases hT
      exact r_iret F hlk hr rfl hS hv2_ d_MO_tried_125
    · replace hT := (if_neg c18).symm.trans hT
      refine lv_iload F.hx F.hb d_MO_tried_97 (lv_at hl 2 rfl) ?_
      refine lv_aload_n F.hx F.hb d_MO_tried_99 rfl (lv_at hl 0 rfl) ?_
      refine r_iconst F.hx F.hb d_MO_tried_100 ?_
      obtain ⟨q21, hq21, hT⟩ := q_obind hT
      refine r_backI F hS (r_runV (k := 191) (N := 68) (T := T1) (As := [vI 1]) F hS (show 191 < 231 by decide) (show shK 191 = 5 from rfl) rfl (c_MO_beat l F.2.2.1 M 1 (inr_c rfl) _ hq21) gs_MO_434 hd_MO_beat ⟨Nat.le_of_ble_eq_true rfl, Nat.le_of_ble_eq_true rfl⟩ rfl hl.1 (Nat.le_of_ble_eq_true rfl) ⟨Nat.zero_le _, Nat.zero_le _⟩ rfl d_MO_tried_101) (fun H locs hS h22 => ?_)
      refine r_iadd F.hx F.hb d_MO_tried_104 ?_
      refine lv_istore (lv' := [(5, vI (w32 (v2_ + (q21.2)))), (0, .ref (b + 191)), (3, vI x3), (6, vI v3_)]) F.hx F.hb d_MO_tried_105 hl (Nat.le_of_ble_eq_true rfl) rfl (fun ls hl => ?_)
      refine lv_iinc (v := Int32.ofInt (w32 (v3_ + 1))) (lv' := [(6, vI (w32 (v3_ + 1))), (5, vI (w32 (v2_ + (q21.2)))), (0, .ref (b + 191)), (3, vI x3)]) F.hx F.hb d_MO_tried_107 hl (k := 3) rfl (q_of_add _ _) (Nat.le_of_ble_eq_true rfl) rfl (fun ls hl => ?_)
      refine lv_goto (tgt := 91) F.hx F.hb d_MO_tried_110 (by decide) ?_
      exact ih (q21.1) (w32 (v2_ + (q21.2))) (inr_w32 _) (w32 (v3_ + 1)) (inr_w32 _) _ _ _ hS (lv_sub hl [2, 3, 1, 0] rfl) hT
set_option maxHeartbeats 4000000 in
set_option maxRecDepth 100000 in
theorem k_MO_tried_L49 (l : Launch) {p : Program} {e : Env} {s : State} {m : MethodId} {below : List Frame} {meth : Method} {c : Code} {b n : Nat} {C : CT} (hlo : 231 ≤ n) (x1 : Int) (x2 : Int) (x3 : Int) (hx1 : InR x1) (hx2 : InR x2) (hx3 : InR x3) (F : Cx b p m c b_MO_tried 7 s ([.ref (b + 191), vI x1, vI x2, vI x3] : List Value).toArray "WardFallsModel" C n 231) (hlk : meth.locks = false) (hr : meth.sig.returnType = some .int) {res : Mem × Int} (M : Mem) (v4_ : Int) (hv4_ : v4_ = 0 ∨ v4_ = 1) (H : Heap) (locs : List Loc) (ls : Array Slot) (hS : St b C n M s H locs) (hl : lv_has ls 7 [(0, .ref (b + 191)), (1, vI x1), (2, vI x2), (3, vI x3)]) (hT : t_MO_tried_L49 x1 x2 x3 M v4_ = some res) : W p l e (headSpec (wsM y_MO_tried b_MO_tried 7 (some .int)) (rmD 3)).room s m ([.ref (b + 191), vI x1, vI x2, vI x3] : List Value).toArray below meth c H locs 0 0 (MQ below (QI b C n res.1 res.2) ([.ref (b + 191), vI x1, vI x2, vI x3] : List Value).toArray s 0 0 (frb b)) (F0 m 49 ls [vI v4_]) := by
  unfold t_MO_tried_L49 at hT
  refine lv_istore (lv' := [(4, vI v4_), (0, .ref (b + 191)), (1, vI x1), (2, vI x2), (3, vI x3)]) F.hx F.hb d_MO_tried_49 hl (Nat.le_of_ble_eq_true rfl) rfl (fun ls hl => ?_)
  refine lv_iload F.hx F.hb d_MO_tried_51 (lv_at hl 0 rfl) ?_
  refine r_if_eq (tgt := 67) F.hx F.hb (inr_z hv4_) d_MO_tried_53 (by decide) (fun c11 => ?_) (fun c11 => ?_)
  · replace hT := (if_pos c11).symm.trans hT
    refine r_iconst F.hx F.hb d_MO_tried_67 ?_
    cases hT
    exact r_iret F hlk hr rfl hS (inr_c rfl) d_MO_tried_68
  · replace hT := (if_neg c11).symm.trans hT
    refine lv_iload_n F.hx F.hb d_MO_tried_56 rfl (lv_at hl 4 rfl) ?_
    refine r_if_lt (tgt := 67) F.hx F.hb hx3 d_MO_tried_57 (by decide) (fun c12 => ?_) (fun c12 => ?_)
    · replace hT := (if_pos c12).symm.trans hT
      refine r_iconst F.hx F.hb d_MO_tried_67 ?_
      cases hT
      exact r_iret F hlk hr rfl hS (inr_c rfl) d_MO_tried_68
    · replace hT := (if_neg c12).symm.trans hT
      refine lv_iload_n F.hx F.hb d_MO_tried_60 rfl (lv_at hl 4 rfl) ?_
      refine r_sipush F.hx F.hb d_MO_tried_61 rfl ?_
      refine r_icmp_le (tgt := 69) F.hx F.hb hx3 (inr_c rfl) d_MO_tried_64 (by decide) (fun c13 => ?_) (fun c13 => ?_)
      · replace hT := (if_pos c13).symm.trans hT
        refine lv_aload_n F.hx F.hb d_MO_tried_69 rfl (lv_at hl 1 rfl) ?_
        refine r_iconst F.hx F.hb d_MO_tried_70 ?_
        refine r_iconst F.hx F.hb d_MO_tried_71 ?_
        obtain ⟨q14, hq14, hT⟩ := q_obind hT
        refine r_backV F hS (r_runV (k := 191) (N := 68) (T := T1) (As := [vI 1, vI 0]) F hS (show 191 < 231 by decide) (show shK 191 = 5 from rfl) rfl (c_MO_copies l F.2.2.1 M 1 0 (inr_c rfl) (inr_c rfl) _ hq14) gs_MO_437 hd_MO_copies ⟨Nat.le_of_ble_eq_true rfl, Nat.le_of_ble_eq_true rfl⟩ rfl hl.1 (Nat.le_of_ble_eq_true rfl) ⟨Nat.zero_le _, Nat.zero_le _⟩ rfl d_MO_tried_72) (fun H locs hS => ?_)
        refine lv_aload_n F.hx F.hb d_MO_tried_75 rfl (lv_at hl 1 rfl) ?_
        refine lv_iload_n F.hx F.hb d_MO_tried_76 rfl (lv_at hl 2 rfl) ?_
        refine r_putI (N := 68) (T := T1) (j := 44) F hS (show 191 < 231 by decide) (show shK 191 = 5 from rfl) (show shN 191 = 68 from rfl) rfl (Nat.le_of_ble_eq_true rfl) ing1 tyok1 nm1 rfl rfl rfl rfl rfl rfl mw_1433 hx1 d_MO_tried_77 (fun H locs hS => ?_)
        obtain ⟨M16, eM16⟩ : ∃ q, q = (setI q14 191 44 x1) := ⟨_, rfl⟩
        replace hS : St b C n M16 s H locs := by rw [eM16]; exact hS
        replace hT := qlet_eq hT eM16
        refine lv_aload_n F.hx F.hb d_MO_tried_80 rfl (lv_at hl 1 rfl) ?_
        refine lv_iload_n F.hx F.hb d_MO_tried_81 rfl (lv_at hl 3 rfl) ?_
        refine r_putI (N := 68) (T := T1) (j := 45) F hS (show 191 < 231 by decide) (show shK 191 = 5 from rfl) (show shN 191 = 68 from rfl) rfl (Nat.le_of_ble_eq_true rfl) ing1 tyok1 nm1 rfl rfl rfl rfl rfl rfl mw_1434 hx2 d_MO_tried_82 (fun H locs hS => ?_)
        obtain ⟨M17, eM17⟩ : ∃ q, q = (setI M16 191 45 x2) := ⟨_, rfl⟩
        replace hS : St b C n M17 s H locs := by rw [eM17]; exact hS
        replace hT := qlet_eq hT eM17
        refine r_iconst F.hx F.hb d_MO_tried_85 ?_
        refine lv_istore (lv' := [(5, vI 0), (4, vI v4_), (0, .ref (b + 191)), (1, vI x1), (2, vI x2), (3, vI x3)]) F.hx F.hb d_MO_tried_86 hl (Nat.le_of_ble_eq_true rfl) rfl (fun ls hl => ?_)
        refine r_iconst F.hx F.hb d_MO_tried_88 ?_
        refine lv_istore (lv' := [(6, vI 0), (5, vI 0), (4, vI v4_), (0, .ref (b + 191)), (1, vI x1), (2, vI x2), (3, vI x3)]) F.hx F.hb d_MO_tried_89 hl (Nat.le_of_ble_eq_true rfl) rfl (fun ls hl => ?_)
        exact k_MO_tried_L91 l hlo x1 x2 x3 hx1 hx2 hx3 F hlk hr FU M17 0 (inr_c rfl) 0 (inr_c rfl) _ _ _ hS (lv_sub hl [3, 6, 1, 0] rfl) hT
      · replace hT := (if_neg c13).symm.trans hT
        refine r_iconst F.hx F.hb d_MO_tried_67 ?_
        cases hT
        exact r_iret F hlk hr rfl hS (inr_c rfl) d_MO_tried_68
set_option maxHeartbeats 4000000 in
set_option maxRecDepth 100000 in
theorem k_MO_tried_L48 (l : Launch) {p : Program} {e : Env} {s : State} {m : MethodId} {below : List Frame} {meth : Method} {c : Code} {b n : Nat} {C : CT} (hlo : 231 ≤ n) (x1 : Int) (x2 : Int) (x3 : Int) (hx1 : InR x1) (hx2 : InR x2) (hx3 : InR x3) (F : Cx b p m c b_MO_tried 7 s ([.ref (b + 191), vI x1, vI x2, vI x3] : List Value).toArray "WardFallsModel" C n 231) (hlk : meth.locks = false) (hr : meth.sig.returnType = some .int) {res : Mem × Int} (M : Mem)  (H : Heap) (locs : List Loc) (ls : Array Slot) (hS : St b C n M s H locs) (hl : lv_has ls 7 [(0, .ref (b + 191)), (1, vI x1), (2, vI x2), (3, vI x3)]) (hT : t_MO_tried_L48 x1 x2 x3 M = some res) : W p l e (headSpec (wsM y_MO_tried b_MO_tried 7 (some .int)) (rmD 3)).room s m ([.ref (b + 191), vI x1, vI x2, vI x3] : List Value).toArray below meth c H locs 0 0 (MQ below (QI b C n res.1 res.2) ([.ref (b + 191), vI x1, vI x2, vI x3] : List Value).toArray s 0 0 (frb b)) (F0 m 48 ls []) := by
  unfold t_MO_tried_L48 at hT
  refine r_iconst F.hx F.hb d_MO_tried_48 ?_
  exact k_MO_tried_L49 l hlo x1 x2 x3 hx1 hx2 hx3 F hlk hr M 0 (Or.inl rfl) _ _ _ hS (lv_sub hl [0, 1, 2, 3] rfl) hT
set_option maxHeartbeats 4000000 in
set_option maxRecDepth 100000 in
theorem c_MO_tried (l : Launch) {b n : Nat} {C : CT} (hlo : 231 ≤ n) (M : Mem) (x1 : Int) (x2 : Int) (x3 : Int) (hx1 : InR x1) (hx2 : InR x2) (hx3 : InR x3) (res : Mem × Int) (hT : t_MO_tried M x1 x2 x3 = some res) : CM l b C n 3 y_MO_tried b_MO_tried 7 (some .int) [.ref (b + 191), vI x1, vI x2, vI x3] M (QI b C n res.1 res.2) := by
  refine CM.of (lo := 231) (ow := "WardFallsModel") (by decide) rfl (Nat.le_of_ble_eq_true rfl) hlo (fun p e s m below meth c F hlk hr hS ls hl => ?_)
  have hl : lv_has ls 7 [(0, .ref (b + 191)), (1, vI x1), (2, vI x2), (3, vI x3)] := hl
  unfold t_MO_tried at hT
  refine lv_aload_n F.hx F.hb d_MO_tried_0 rfl (lv_at hl 0 rfl) ?_
  refine r_iconst F.hx F.hb d_MO_tried_1 ?_
  refine r_putI (N := 68) (T := T1) (j := 0) F hS (show 191 < 231 by decide) (show shK 191 = 5 from rfl) (show shN 191 = 68 from rfl) rfl (Nat.le_of_ble_eq_true rfl) ing1 tyok1 nm1 rfl rfl rfl rfl rfl rfl mw_1389 (inr_c rfl) d_MO_tried_2 (fun H locs hS => ?_)
  obtain ⟨M1, eM1⟩ : ∃ q, q = (setI M 191 0 0) := ⟨_, rfl⟩
  replace hS : St b C n M1 s H locs := by rw [eM1]; exact hS
  replace hT := qlet_eq hT eM1
  refine lv_iload_n F.hx F.hb d_MO_tried_5 rfl (lv_at hl 1 rfl) ?_
  refine r_iconst F.hx F.hb d_MO_tried_6 ?_
  refine r_icmp_ne (tgt := 18) F.hx F.hb hx1 (inr_c rfl) d_MO_tried_7 (by decide) (fun c2 => ?_) (fun c2 => ?_)
  · replace hT := (if_neg c2).symm.trans hT
    refine lv_iload_n F.hx F.hb d_MO_tried_18 rfl (lv_at hl 1 rfl) ?_
    refine r_iconst F.hx F.hb d_MO_tried_19 ?_
    refine r_icmp_ne (tgt := 31) F.hx F.hb hx1 (inr_c rfl) d_MO_tried_20 (by decide) (fun c3 => ?_) (fun c3 => ?_)
    · replace hT := (if_neg c3).symm.trans hT
      refine lv_iload_n F.hx F.hb d_MO_tried_31 rfl (lv_at hl 1 rfl) ?_
      refine r_if_lt (tgt := 48) F.hx F.hb hx1 d_MO_tried_32 (by decide) (fun c4 => ?_) (fun c4 => ?_)
      · replace hT := (if_pos c4).symm.trans hT
        exact k_MO_tried_L48 l hlo x1 x2 x3 hx1 hx2 hx3 F hlk hr M1 _ _ _ hS (lv_sub hl [0, 1, 2, 3] rfl) hT
      · replace hT := (if_neg c4).symm.trans hT
        refine lv_iload_n F.hx F.hb d_MO_tried_35 rfl (lv_at hl 1 rfl) ?_
        refine r_iconst F.hx F.hb d_MO_tried_36 ?_
        refine r_icmp_gt (tgt := 48) F.hx F.hb hx1 (inr_c rfl) d_MO_tried_37 (by decide) (fun c5 => ?_) (fun c5 => ?_)
        · replace hT := (if_pos c5).symm.trans hT
          exact k_MO_tried_L48 l hlo x1 x2 x3 hx1 hx2 hx3 F hlk hr M1 _ _ _ hS (lv_sub hl [0, 1, 2, 3] rfl) hT
        · replace hT := (if_neg c5).symm.trans hT
          refine lv_iload_n F.hx F.hb d_MO_tried_40 rfl (lv_at hl 2 rfl) ?_
          refine r_if_ne (tgt := 48) F.hx F.hb hx2 d_MO_tried_41 (by decide) (fun c6 => ?_) (fun c6 => ?_)
          · replace hT := (if_neg c6).symm.trans hT
            exact k_MO_tried_L48 l hlo x1 x2 x3 hx1 hx2 hx3 F hlk hr M1 _ _ _ hS (lv_sub hl [0, 1, 2, 3] rfl) hT
          · replace hT := (if_pos c6).symm.trans hT
            refine r_iconst F.hx F.hb d_MO_tried_44 ?_
            refine lv_goto (tgt := 49) F.hx F.hb d_MO_tried_45 (by decide) ?_
            exact k_MO_tried_L49 l hlo x1 x2 x3 hx1 hx2 hx3 F hlk hr M1 1 (Or.inr rfl) _ _ _ hS (lv_sub hl [0, 1, 2, 3] rfl) hT
    · replace hT := (if_pos c3).symm.trans hT
      refine lv_aload_n F.hx F.hb d_MO_tried_23 rfl (lv_at hl 0 rfl) ?_
      refine lv_iload_n F.hx F.hb d_MO_tried_24 rfl (lv_at hl 2 rfl) ?_
      obtain ⟨q7, hq7⟩ : ∃ q, q = (t_MO_isThing M1 x2) := ⟨_, rfl⟩
      replace hT := qlet_eq hT hq7
      refine r_backZ F hS (r_runV (k := 191) (N := 68) (T := T1) (As := [vI x2]) F hS (show 191 < 231 by decide) (show shK 191 = 5 from rfl) rfl (c_MO_isThing l F.2.2.1 M1 x2 hx2 _ hq7.symm) gs_MO_378 hd_MO_isThing ⟨Nat.le_of_ble_eq_true rfl, Nat.le_of_ble_eq_true rfl⟩ rfl hl.1 (Nat.le_of_ble_eq_true rfl) ⟨Nat.zero_le _, Nat.zero_le _⟩ rfl d_MO_tried_25) (fun H locs hS h8 => ?_)
      refine lv_goto (tgt := 49) F.hx F.hb d_MO_tried_28 (by decide) ?_
      exact k_MO_tried_L49 l hlo x1 x2 x3 hx1 hx2 hx3 F hlk hr M1 q7 h8 _ _ _ hS (lv_sub hl [0, 1, 2, 3] rfl) hT
  · replace hT := (if_pos c2).symm.trans hT
    refine lv_aload_n F.hx F.hb d_MO_tried_10 rfl (lv_at hl 0 rfl) ?_
    refine lv_iload_n F.hx F.hb d_MO_tried_11 rfl (lv_at hl 2 rfl) ?_
    obtain ⟨q9, hq9⟩ : ∃ q, q = (t_MO_isWard M1 x2) := ⟨_, rfl⟩
    replace hT := qlet_eq hT hq9
    refine r_backZ F hS (r_runV (k := 191) (N := 68) (T := T1) (As := [vI x2]) F hS (show 191 < 231 by decide) (show shK 191 = 5 from rfl) rfl (c_MO_isWard l F.2.2.1 M1 x2 hx2 _ hq9.symm) gs_MO_369 hd_MO_isWard ⟨Nat.le_of_ble_eq_true rfl, Nat.le_of_ble_eq_true rfl⟩ rfl hl.1 (Nat.le_of_ble_eq_true rfl) ⟨Nat.zero_le _, Nat.zero_le _⟩ rfl d_MO_tried_12) (fun H locs hS h10 => ?_)
    refine lv_goto (tgt := 49) F.hx F.hb d_MO_tried_15 (by decide) ?_
    exact k_MO_tried_L49 l hlo x1 x2 x3 hx1 hx2 hx3 F hlk hr M1 q9 h10 _ _ _ hS (lv_sub hl [0, 1, 2, 3] rfl) hT
end
section
theorem d_MO_undo_0 : decode b_MO_undo 0 = .ok (.aload_n 0, 1) := dc_42 (by decide +kernel)
theorem d_MO_undo_1 : decode b_MO_undo 1 = .ok (.iconst 0, 1) := dc_3 (by decide +kernel)
theorem d_MO_undo_2 : decode b_MO_undo 2 = .ok (.putfield 145, 3) := dc_181 (by decide +kernel)
theorem d_MO_undo_5 : decode b_MO_undo 5 = .ok (.aload_n 0, 1) := dc_42 (by decide +kernel)
theorem d_MO_undo_6 : decode b_MO_undo 6 = .ok (.getfield 326, 3) := dc_180 (by decide +kernel)
theorem d_MO_undo_9 : decode b_MO_undo 9 = .ok (.ifCond .ne 5, 3) := dc_154 (by decide +kernel)
theorem d_MO_undo_12 : decode b_MO_undo 12 = .ok (.iconst (-1), 1) := dc_2 (by decide +kernel)
theorem d_MO_undo_13 : decode b_MO_undo 13 = .ok (.ireturn, 1) := dc_172 (by decide +kernel)
theorem d_MO_undo_14 : decode b_MO_undo 14 = .ok (.aload_n 0, 1) := dc_42 (by decide +kernel)
theorem d_MO_undo_15 : decode b_MO_undo 15 = .ok (.dup, 1) := dc_89 (by decide +kernel)
theorem d_MO_undo_16 : decode b_MO_undo 16 = .ok (.getfield 326, 3) := dc_180 (by decide +kernel)
theorem d_MO_undo_19 : decode b_MO_undo 19 = .ok (.iconst 1, 1) := dc_4 (by decide +kernel)
theorem d_MO_undo_20 : decode b_MO_undo 20 = .ok (.isub, 1) := dc_100 (by decide +kernel)
theorem d_MO_undo_21 : decode b_MO_undo 21 = .ok (.putfield 326, 3) := dc_181 (by decide +kernel)
theorem d_MO_undo_24 : decode b_MO_undo 24 = .ok (.aload_n 0, 1) := dc_42 (by decide +kernel)
theorem d_MO_undo_25 : decode b_MO_undo 25 = .ok (.iconst 0, 1) := dc_3 (by decide +kernel)
theorem d_MO_undo_26 : decode b_MO_undo 26 = .ok (.iconst 3, 1) := dc_6 (by decide +kernel)
theorem d_MO_undo_27 : decode b_MO_undo 27 = .ok (.aload_n 0, 1) := dc_42 (by decide +kernel)
theorem d_MO_undo_28 : decode b_MO_undo 28 = .ok (.getfield 326, 3) := dc_180 (by decide +kernel)
theorem d_MO_undo_31 : decode b_MO_undo 31 = .ok (.iadd, 1) := dc_96 (by decide +kernel)
theorem d_MO_undo_32 : decode b_MO_undo 32 = .ok (.invokevirtual 437, 3) := dc_182 (by decide +kernel)
theorem d_MO_undo_35 : decode b_MO_undo 35 = .ok (.aload_n 0, 1) := dc_42 (by decide +kernel)
theorem d_MO_undo_36 : decode b_MO_undo 36 = .ok (.getfield 326, 3) := dc_180 (by decide +kernel)
theorem d_MO_undo_39 : decode b_MO_undo 39 = .ok (.ireturn, 1) := dc_172 (by decide +kernel)
def t_MO_undo (M : Mem)  : Option (Mem × Int) := (qlet (setI M 191 0 0) fun M1 => (if (M1.1 191 43) = 0 then (some (M1, (-1))) else (qlet (setI M1 191 43 (w32 ((M1.1 191 43) - 1))) fun M5 => (obind (t_MO_copies M5 0 (w32 (3 + (M5.1 191 43)))) fun q7 => (some (q7, (q7.1 191 43)))))))
set_option maxHeartbeats 4000000 in
set_option maxRecDepth 100000 in
theorem c_MO_undo (l : Launch) {b n : Nat} {C : CT} (hlo : 231 ≤ n) (M : Mem)   (res : Mem × Int) (hT : t_MO_undo M  = some res) : CM l b C n 1 y_MO_undo b_MO_undo 1 (some .int) [.ref (b + 191)] M (QI b C n res.1 res.2) := by
  refine CM.of (lo := 231) (ow := "WardFallsModel") (by decide) rfl (Nat.le_of_ble_eq_true rfl) hlo (fun p e s m below meth c F hlk hr hS ls hl => ?_)
  have hl : lv_has ls 1 [(0, .ref (b + 191))] := hl
  unfold t_MO_undo at hT
  refine lv_aload_n F.hx F.hb d_MO_undo_0 rfl (lv_at hl 0 rfl) ?_
  refine r_iconst F.hx F.hb d_MO_undo_1 ?_
  refine r_putI (N := 68) (T := T1) (j := 0) F hS (show 191 < 231 by decide) (show shK 191 = 5 from rfl) (show shN 191 = 68 from rfl) rfl (Nat.le_of_ble_eq_true rfl) ing1 tyok1 nm1 rfl rfl rfl rfl rfl rfl mw_1389 (inr_c rfl) d_MO_undo_2 (fun H locs hS => ?_)
  obtain ⟨M1, eM1⟩ : ∃ q, q = (setI M 191 0 0) := ⟨_, rfl⟩
  replace hS : St b C n M1 s H locs := by rw [eM1]; exact hS
  replace hT := qlet_eq hT eM1
  refine lv_aload_n F.hx F.hb d_MO_undo_5 rfl (lv_at hl 0 rfl) ?_
  refine r_get (v := vI (M1.1 191 43)) (N := 68) (T := T1) (j := 43) F hS (show 191 < 231 by decide) (show shK 191 = 5 from rfl) (show shN 191 = 68 from rfl) rfl (Nat.le_of_ble_eq_true rfl) ing1 mw_1432 (fv_int rfl) d_MO_undo_6 ?_
  have i2 := hS.rng 191 43
  refine r_if_ne (tgt := 14) F.hx F.hb i2 d_MO_undo_9 (by decide) (fun c3 => ?_) (fun c3 => ?_)
  · replace hT := (if_neg c3).symm.trans hT
    refine lv_aload_n F.hx F.hb d_MO_undo_14 rfl (lv_at hl 0 rfl) ?_
    refine lv_dup F.hx F.hb d_MO_undo_15 rfl ?_
    refine r_get (v := vI (M1.1 191 43)) (N := 68) (T := T1) (j := 43) F hS (show 191 < 231 by decide) (show shK 191 = 5 from rfl) (show shN 191 = 68 from rfl) rfl (Nat.le_of_ble_eq_true rfl) ing1 mw_1432 (fv_int rfl) d_MO_undo_16 ?_
    have i4 := hS.rng 191 43
    refine r_iconst F.hx F.hb d_MO_undo_19 ?_
    refine r_isub F.hx F.hb d_MO_undo_20 ?_
    refine r_putI (N := 68) (T := T1) (j := 43) F hS (show 191 < 231 by decide) (show shK 191 = 5 from rfl) (show shN 191 = 68 from rfl) rfl (Nat.le_of_ble_eq_true rfl) ing1 tyok1 nm1 rfl rfl rfl rfl rfl rfl mw_1432 (inr_w32 _) d_MO_undo_21 (fun H locs hS => ?_)
    obtain ⟨M5, eM5⟩ : ∃ q, q = (setI M1 191 43 (w32 ((M1.1 191 43) - 1))) := ⟨_, rfl⟩
    replace hS : St b C n M5 s H locs := by rw [eM5]; exact hS
    replace hT := qlet_eq hT eM5
    refine lv_aload_n F.hx F.hb d_MO_undo_24 rfl (lv_at hl 0 rfl) ?_
    refine r_iconst F.hx F.hb d_MO_undo_25 ?_
    refine r_iconst F.hx F.hb d_MO_undo_26 ?_
    refine lv_aload_n F.hx F.hb d_MO_undo_27 rfl (lv_at hl 0 rfl) ?_
    refine r_get (v := vI (M5.1 191 43)) (N := 68) (T := T1) (j := 43) F hS (show 191 < 231 by decide) (show shK 191 = 5 from rfl) (show shN 191 = 68 from rfl) rfl (Nat.le_of_ble_eq_true rfl) ing1 mw_1432 (fv_int rfl) d_MO_undo_28 ?_
    have i6 := hS.rng 191 43
    refine r_iadd F.hx F.hb d_MO_undo_31 ?_
    obtain ⟨q7, hq7, hT⟩ := q_obind hT
    refine r_backV F hS (r_runV (k := 191) (N := 68) (T := T1) (As := [vI 0, vI (w32 (3 + (M5.1 191 43)))]) F hS (show 191 < 231 by decide) (show shK 191 = 5 from rfl) rfl (c_MO_copies l F.2.2.1 M5 0 (w32 (3 + (M5.1 191 43))) (inr_c rfl) (inr_w32 _) _ hq7) gs_MO_437 hd_MO_copies ⟨Nat.le_of_ble_eq_true rfl, Nat.le_of_ble_eq_true rfl⟩ rfl hl.1 (Nat.le_of_ble_eq_true rfl) ⟨Nat.zero_le _, Nat.zero_le _⟩ rfl d_MO_undo_32) (fun H locs hS => ?_)
    refine lv_aload_n F.hx F.hb d_MO_undo_35 rfl (lv_at hl 0 rfl) ?_
    refine r_get (v := vI (q7.1 191 43)) (N := 68) (T := T1) (j := 43) F hS (show 191 < 231 by decide) (show shK 191 = 5 from rfl) (show shN 191 = 68 from rfl) rfl (Nat.le_of_ble_eq_true rfl) ing1 mw_1432 (fv_int rfl) d_MO_undo_36 ?_
    have i9 := hS.rng 191 43
    cases hT
    exact r_iret F hlk hr rfl hS i9 d_MO_undo_39
  · replace hT := (if_pos c3).symm.trans hT
    refine r_iconst F.hx F.hb d_MO_undo_12 ?_
    cases hT
    exact r_iret F hlk hr rfl hS (inr_c rfl) d_MO_undo_13
theorem d_MO_keep_0 : decode b_MO_keep 0 = .ok (.aload_n 0, 1) := dc_42 (by decide +kernel)
theorem d_MO_keep_1 : decode b_MO_keep 1 = .ok (.iconst 0, 1) := dc_3 (by decide +kernel)
theorem d_MO_keep_2 : decode b_MO_keep 2 = .ok (.putfield 145, 3) := dc_181 (by decide +kernel)
theorem d_MO_keep_5 : decode b_MO_keep 5 = .ok (.aload_n 0, 1) := dc_42 (by decide +kernel)
theorem d_MO_keep_6 : decode b_MO_keep 6 = .ok (.iconst 2, 1) := dc_5 (by decide +kernel)
theorem d_MO_keep_7 : decode b_MO_keep 7 = .ok (.iconst 0, 1) := dc_3 (by decide +kernel)
theorem d_MO_keep_8 : decode b_MO_keep 8 = .ok (.invokevirtual 437, 3) := dc_182 (by decide +kernel)
theorem d_MO_keep_11 : decode b_MO_keep 11 = .ok (.aload_n 0, 1) := dc_42 (by decide +kernel)
theorem d_MO_keep_12 : decode b_MO_keep 12 = .ok (.iconst 2, 1) := dc_5 (by decide +kernel)
theorem d_MO_keep_13 : decode b_MO_keep 13 = .ok (.iconst 0, 1) := dc_3 (by decide +kernel)
theorem d_MO_keep_14 : decode b_MO_keep 14 = .ok (.invokevirtual 520, 3) := dc_182 (by decide +kernel)
theorem d_MO_keep_17 : decode b_MO_keep 17 = .ok (.aload_n 0, 1) := dc_42 (by decide +kernel)
theorem d_MO_keep_18 : decode b_MO_keep 18 = .ok (.iconst 1, 1) := dc_4 (by decide +kernel)
theorem d_MO_keep_19 : decode b_MO_keep 19 = .ok (.putfield 322, 3) := dc_181 (by decide +kernel)
theorem d_MO_keep_22 : decode b_MO_keep 22 = .ok (.aload_n 0, 1) := dc_42 (by decide +kernel)
theorem d_MO_keep_23 : decode b_MO_keep 23 = .ok (.getfield 60, 3) := dc_180 (by decide +kernel)
theorem d_MO_keep_26 : decode b_MO_keep 26 = .ok (.iconst 0, 1) := dc_3 (by decide +kernel)
theorem d_MO_keep_27 : decode b_MO_keep 27 = .ok (.iaload, 1) := dc_46 (by decide +kernel)
theorem d_MO_keep_28 : decode b_MO_keep 28 = .ok (.ireturn, 1) := dc_172 (by decide +kernel)
def t_MO_keep (M : Mem)  : Option (Mem × Int) := (qlet (setI M 191 0 0) fun M1 => (obind (t_MO_copies M1 2 0) fun q2 => (obind (t_MO_copiesLog q2 2 0) fun q4 => (qlet (setI q4 191 42 1) fun M6 => (some (M6, (M6.1 207 0)))))))
set_option maxHeartbeats 4000000 in
set_option maxRecDepth 100000 in
theorem c_MO_keep (l : Launch) {b n : Nat} {C : CT} (hlo : 231 ≤ n) (M : Mem)   (res : Mem × Int) (hT : t_MO_keep M  = some res) : CM l b C n 1 y_MO_keep b_MO_keep 1 (some .int) [.ref (b + 191)] M (QI b C n res.1 res.2) := by
  refine CM.of (lo := 231) (ow := "WardFallsModel") (by decide) rfl (Nat.le_of_ble_eq_true rfl) hlo (fun p e s m below meth c F hlk hr hS ls hl => ?_)
  have hl : lv_has ls 1 [(0, .ref (b + 191))] := hl
  unfold t_MO_keep at hT
  refine lv_aload_n F.hx F.hb d_MO_keep_0 rfl (lv_at hl 0 rfl) ?_
  refine r_iconst F.hx F.hb d_MO_keep_1 ?_
  refine r_putI (N := 68) (T := T1) (j := 0) F hS (show 191 < 231 by decide) (show shK 191 = 5 from rfl) (show shN 191 = 68 from rfl) rfl (Nat.le_of_ble_eq_true rfl) ing1 tyok1 nm1 rfl rfl rfl rfl rfl rfl mw_1389 (inr_c rfl) d_MO_keep_2 (fun H locs hS => ?_)
  obtain ⟨M1, eM1⟩ : ∃ q, q = (setI M 191 0 0) := ⟨_, rfl⟩
  replace hS : St b C n M1 s H locs := by rw [eM1]; exact hS
  replace hT := qlet_eq hT eM1
  refine lv_aload_n F.hx F.hb d_MO_keep_5 rfl (lv_at hl 0 rfl) ?_
  refine r_iconst F.hx F.hb d_MO_keep_6 ?_
  refine r_iconst F.hx F.hb d_MO_keep_7 ?_
  obtain ⟨q2, hq2, hT⟩ := q_obind hT
  refine r_backV F hS (r_runV (k := 191) (N := 68) (T := T1) (As := [vI 2, vI 0]) F hS (show 191 < 231 by decide) (show shK 191 = 5 from rfl) rfl (c_MO_copies l F.2.2.1 M1 2 0 (inr_c rfl) (inr_c rfl) _ hq2) gs_MO_437 hd_MO_copies ⟨Nat.le_of_ble_eq_true rfl, Nat.le_of_ble_eq_true rfl⟩ rfl hl.1 (Nat.le_of_ble_eq_true rfl) ⟨Nat.zero_le _, Nat.zero_le _⟩ rfl d_MO_keep_8) (fun H locs hS => ?_)
  refine lv_aload_n F.hx F.hb d_MO_keep_11 rfl (lv_at hl 0 rfl) ?_
  refine r_iconst F.hx F.hb d_MO_keep_12 ?_
  refine r_iconst F.hx F.hb d_MO_keep_13 ?_
  obtain ⟨q4, hq4, hT⟩ := q_obind hT
  refine r_backV F hS (r_runV (k := 191) (N := 68) (T := T1) (As := [vI 2, vI 0]) F hS (show 191 < 231 by decide) (show shK 191 = 5 from rfl) rfl (c_MO_copiesLog l F.2.2.1 q2 2 0 (inr_c rfl) (inr_c rfl) _ hq4) gs_MO_520 hd_MO_copiesLog ⟨Nat.le_of_ble_eq_true rfl, Nat.le_of_ble_eq_true rfl⟩ rfl hl.1 (Nat.le_of_ble_eq_true rfl) ⟨Nat.zero_le _, Nat.zero_le _⟩ rfl d_MO_keep_14) (fun H locs hS => ?_)
  refine lv_aload_n F.hx F.hb d_MO_keep_17 rfl (lv_at hl 0 rfl) ?_
  refine r_iconst F.hx F.hb d_MO_keep_18 ?_
  refine r_putI (N := 68) (T := T1) (j := 42) F hS (show 191 < 231 by decide) (show shK 191 = 5 from rfl) (show shN 191 = 68 from rfl) rfl (Nat.le_of_ble_eq_true rfl) ing1 tyok1 nm1 rfl rfl (nar_z (Or.inr rfl)) (fit_z (Or.inr rfl)) rfl rfl mw_1431 (inr_c rfl) d_MO_keep_19 (fun H locs hS => ?_)
  obtain ⟨M6, eM6⟩ : ∃ q, q = (setI q4 191 42 1) := ⟨_, rfl⟩
  replace hS : St b C n M6 s H locs := by rw [eM6]; exact hS
  replace hT := qlet_eq hT eM6
  refine lv_aload_n F.hx F.hb d_MO_keep_22 rfl (lv_at hl 0 rfl) ?_
  refine r_get (v := .ref (b + 207)) (N := 68) (T := T1) (j := 30) F hS (show 191 < 231 by decide) (show shK 191 = 5 from rfl) (show shN 191 = 68 from rfl) rfl (Nat.le_of_ble_eq_true rfl) ing1 mw_1419 (fv_sg rfl rfl rfl) d_MO_keep_23 ?_
  refine r_iconst F.hx F.hb d_MO_keep_26 ?_
  refine r_iald F hS (show 207 < 231 by decide) (show shK 207 = 0 from rfl) (show shN 207 = 23 from rfl) (inr_c rfl) (by omega) (by omega) d_MO_keep_27 ?_
  have i7 := hS.rng 207 0
  cases hT
  exact r_iret F hlk hr rfl hS i7 d_MO_keep_28
theorem d_MO_back_0 : decode b_MO_back 0 = .ok (.aload_n 0, 1) := dc_42 (by decide +kernel)
theorem d_MO_back_1 : decode b_MO_back 1 = .ok (.iconst 0, 1) := dc_3 (by decide +kernel)
theorem d_MO_back_2 : decode b_MO_back 2 = .ok (.putfield 145, 3) := dc_181 (by decide +kernel)
theorem d_MO_back_5 : decode b_MO_back 5 = .ok (.aload_n 0, 1) := dc_42 (by decide +kernel)
theorem d_MO_back_6 : decode b_MO_back 6 = .ok (.getfield 322, 3) := dc_180 (by decide +kernel)
theorem d_MO_back_9 : decode b_MO_back 9 = .ok (.ifCond .ne 5, 3) := dc_154 (by decide +kernel)
theorem d_MO_back_12 : decode b_MO_back 12 = .ok (.iconst (-1), 1) := dc_2 (by decide +kernel)
theorem d_MO_back_13 : decode b_MO_back 13 = .ok (.ireturn, 1) := dc_172 (by decide +kernel)
theorem d_MO_back_14 : decode b_MO_back 14 = .ok (.aload_n 0, 1) := dc_42 (by decide +kernel)
theorem d_MO_back_15 : decode b_MO_back 15 = .ok (.iconst 0, 1) := dc_3 (by decide +kernel)
theorem d_MO_back_16 : decode b_MO_back 16 = .ok (.iconst 2, 1) := dc_5 (by decide +kernel)
theorem d_MO_back_17 : decode b_MO_back 17 = .ok (.invokevirtual 437, 3) := dc_182 (by decide +kernel)
theorem d_MO_back_20 : decode b_MO_back 20 = .ok (.aload_n 0, 1) := dc_42 (by decide +kernel)
theorem d_MO_back_21 : decode b_MO_back 21 = .ok (.iconst 0, 1) := dc_3 (by decide +kernel)
theorem d_MO_back_22 : decode b_MO_back 22 = .ok (.iconst 2, 1) := dc_5 (by decide +kernel)
theorem d_MO_back_23 : decode b_MO_back 23 = .ok (.invokevirtual 520, 3) := dc_182 (by decide +kernel)
theorem d_MO_back_26 : decode b_MO_back 26 = .ok (.aload_n 0, 1) := dc_42 (by decide +kernel)
theorem d_MO_back_27 : decode b_MO_back 27 = .ok (.iconst 0, 1) := dc_3 (by decide +kernel)
theorem d_MO_back_28 : decode b_MO_back 28 = .ok (.putfield 326, 3) := dc_181 (by decide +kernel)
theorem d_MO_back_31 : decode b_MO_back 31 = .ok (.aload_n 0, 1) := dc_42 (by decide +kernel)
theorem d_MO_back_32 : decode b_MO_back 32 = .ok (.getfield 60, 3) := dc_180 (by decide +kernel)
theorem d_MO_back_35 : decode b_MO_back 35 = .ok (.iconst 0, 1) := dc_3 (by decide +kernel)
theorem d_MO_back_36 : decode b_MO_back 36 = .ok (.iaload, 1) := dc_46 (by decide +kernel)
theorem d_MO_back_37 : decode b_MO_back 37 = .ok (.ireturn, 1) := dc_172 (by decide +kernel)
def t_MO_back (M : Mem)  : Option (Mem × Int) := (qlet (setI M 191 0 0) fun M1 => (if (M1.1 191 42) = 0 then (some (M1, (-1))) else (obind (t_MO_copies M1 0 2) fun q4 => (obind (t_MO_copiesLog q4 0 2) fun q6 => (qlet (setI q6 191 43 0) fun M8 => (some (M8, (M8.1 207 0))))))))
set_option maxHeartbeats 4000000 in
set_option maxRecDepth 100000 in
theorem c_MO_back (l : Launch) {b n : Nat} {C : CT} (hlo : 231 ≤ n) (M : Mem)   (res : Mem × Int) (hT : t_MO_back M  = some res) : CM l b C n 1 y_MO_back b_MO_back 1 (some .int) [.ref (b + 191)] M (QI b C n res.1 res.2) := by
  refine CM.of (lo := 231) (ow := "WardFallsModel") (by decide) rfl (Nat.le_of_ble_eq_true rfl) hlo (fun p e s m below meth c F hlk hr hS ls hl => ?_)
  have hl : lv_has ls 1 [(0, .ref (b + 191))] := hl
  unfold t_MO_back at hT
  refine lv_aload_n F.hx F.hb d_MO_back_0 rfl (lv_at hl 0 rfl) ?_
  refine r_iconst F.hx F.hb d_MO_back_1 ?_
  refine r_putI (N := 68) (T := T1) (j := 0) F hS (show 191 < 231 by decide) (show shK 191 = 5 from rfl) (show shN 191 = 68 from rfl) rfl (Nat.le_of_ble_eq_true rfl) ing1 tyok1 nm1 rfl rfl rfl rfl rfl rfl mw_1389 (inr_c rfl) d_MO_back_2 (fun H locs hS => ?_)
  obtain ⟨M1, eM1⟩ : ∃ q, q = (setI M 191 0 0) := ⟨_, rfl⟩
  replace hS : St b C n M1 s H locs := by rw [eM1]; exact hS
  replace hT := qlet_eq hT eM1
  refine lv_aload_n F.hx F.hb d_MO_back_5 rfl (lv_at hl 0 rfl) ?_
  refine r_get (v := vI (M1.1 191 42)) (N := 68) (T := T1) (j := 42) F hS (show 191 < 231 by decide) (show shK 191 = 5 from rfl) (show shN 191 = 68 from rfl) rfl (Nat.le_of_ble_eq_true rfl) ing1 mw_1431 (fv_int rfl) d_MO_back_6 ?_
  have i2 := hS.rng 191 42
  refine r_if_ne (tgt := 14) F.hx F.hb i2 d_MO_back_9 (by decide) (fun c3 => ?_) (fun c3 => ?_)
  · replace hT := (if_neg c3).symm.trans hT
    refine lv_aload_n F.hx F.hb d_MO_back_14 rfl (lv_at hl 0 rfl) ?_
    refine r_iconst F.hx F.hb d_MO_back_15 ?_
    refine r_iconst F.hx F.hb d_MO_back_16 ?_
    obtain ⟨q4, hq4, hT⟩ := q_obind hT
    refine r_backV F hS (r_runV (k := 191) (N := 68) (T := T1) (As := [vI 0, vI 2]) F hS (show 191 < 231 by decide) (show shK 191 = 5 from rfl) rfl (c_MO_copies l F.2.2.1 M1 0 2 (inr_c rfl) (inr_c rfl) _ hq4) gs_MO_437 hd_MO_copies ⟨Nat.le_of_ble_eq_true rfl, Nat.le_of_ble_eq_true rfl⟩ rfl hl.1 (Nat.le_of_ble_eq_true rfl) ⟨Nat.zero_le _, Nat.zero_le _⟩ rfl d_MO_back_17) (fun H locs hS => ?_)
    refine lv_aload_n F.hx F.hb d_MO_back_20 rfl (lv_at hl 0 rfl) ?_
    refine r_iconst F.hx F.hb d_MO_back_21 ?_
    refine r_iconst F.hx F.hb d_MO_back_22 ?_
    obtain ⟨q6, hq6, hT⟩ := q_obind hT
    refine r_backV F hS (r_runV (k := 191) (N := 68) (T := T1) (As := [vI 0, vI 2]) F hS (show 191 < 231 by decide) (show shK 191 = 5 from rfl) rfl (c_MO_copiesLog l F.2.2.1 q4 0 2 (inr_c rfl) (inr_c rfl) _ hq6) gs_MO_520 hd_MO_copiesLog ⟨Nat.le_of_ble_eq_true rfl, Nat.le_of_ble_eq_true rfl⟩ rfl hl.1 (Nat.le_of_ble_eq_true rfl) ⟨Nat.zero_le _, Nat.zero_le _⟩ rfl d_MO_back_23) (fun H locs hS => ?_)
    refine lv_aload_n F.hx F.hb d_MO_back_26 rfl (lv_at hl 0 rfl) ?_
    refine r_iconst F.hx F.hb d_MO_back_27 ?_
    refine r_putI (N := 68) (T := T1) (j := 43) F hS (show 191 < 231 by decide) (show shK 191 = 5 from rfl) (show shN 191 = 68 from rfl) rfl (Nat.le_of_ble_eq_true rfl) ing1 tyok1 nm1 rfl rfl rfl rfl rfl rfl mw_1432 (inr_c rfl) d_MO_back_28 (fun H locs hS => ?_)
    obtain ⟨M8, eM8⟩ : ∃ q, q = (setI q6 191 43 0) := ⟨_, rfl⟩
    replace hS : St b C n M8 s H locs := by rw [eM8]; exact hS
    replace hT := qlet_eq hT eM8
    refine lv_aload_n F.hx F.hb d_MO_back_31 rfl (lv_at hl 0 rfl) ?_
    refine r_get (v := .ref (b + 207)) (N := 68) (T := T1) (j := 30) F hS (show 191 < 231 by decide) (show shK 191 = 5 from rfl) (show shN 191 = 68 from rfl) rfl (Nat.le_of_ble_eq_true rfl) ing1 mw_1419 (fv_sg rfl rfl rfl) d_MO_back_32 ?_
    refine r_iconst F.hx F.hb d_MO_back_35 ?_
    refine r_iald F hS (show 207 < 231 by decide) (show shK 207 = 0 from rfl) (show shN 207 = 23 from rfl) (inr_c rfl) (by omega) (by omega) d_MO_back_36 ?_
    have i9 := hS.rng 207 0
    cases hT
    exact r_iret F hlk hr rfl hS i9 d_MO_back_37
  · replace hT := (if_pos c3).symm.trans hT
    refine r_iconst F.hx F.hb d_MO_back_12 ?_
    cases hT
    exact r_iret F hlk hr rfl hS (inr_c rfl) d_MO_back_13
theorem wn_MO_count_0 : ∀ i, i < 8 → bA b_MO_count (0 + i) = wB [42, 3, 181, 0, 145, 3, 61, 27] i := wB_of (by decide +kernel)
theorem d_MO_count_0 : decode b_MO_count 0 = .ok (.aload_n 0, 1) := dc_42 (q0_win (r := 0) wn_MO_count_0 (by decide +kernel))
theorem d_MO_count_1 : decode b_MO_count 1 = .ok (.iconst 0, 1) := dc_3 (q0_win (r := 1) wn_MO_count_0 (by decide +kernel))
theorem d_MO_count_2 : decode b_MO_count 2 = .ok (.putfield 145, 3) := dc_181 (qU2_win (r := 2) wn_MO_count_0 (by decide +kernel))
theorem d_MO_count_5 : decode b_MO_count 5 = .ok (.iconst 0, 1) := dc_3 (q0_win (r := 5) wn_MO_count_0 (by decide +kernel))
theorem d_MO_count_6 : decode b_MO_count 6 = .ok (.istore_n 2, 1) := dc_61 (q0_win (r := 6) wn_MO_count_0 (by decide +kernel))
theorem d_MO_count_7 : decode b_MO_count 7 = .ok (.iload_n 1, 1) := dc_27 (q0_win (r := 7) wn_MO_count_0 (by decide +kernel))
theorem d_MO_count_8 : decode b_MO_count 8 = .ok (.tableswitch 198 0 12 #[68, 75, 82, 89, 97, 105, 112, 119, 124, 129, 134, 144, 154], 68) := by decide +kernel
theorem wn_MO_count_76 : ∀ i, i < 96 → bA b_MO_count (76 + i) = wB [42, 180, 0, 13, 3, 46, 172, 42, 180, 0, 13, 4, 46, 172, 42, 180, 0, 13, 5, 46, 172, 42, 180, 0, 13, 16, 6, 46, 172, 42, 180, 0, 13, 16, 8, 46, 172, 42, 180, 0, 60, 3, 46, 172, 42, 180, 0, 63, 3, 46, 172, 42, 180, 1, 63, 172, 42, 182, 1, 245, 172, 42, 180, 1, 70, 172, 42, 180, 0, 73, 3, 47, 184, 1, 196, 172, 42, 180, 0, 69, 3, 47, 184, 1, 196, 172, 3, 62, 29, 42, 180, 0, 13, 16, 6, 46] i := wB_of (by decide +kernel)
theorem d_MO_count_76 : decode b_MO_count 76 = .ok (.aload_n 0, 1) := dc_42 (q0_win (r := 0) wn_MO_count_76 (by decide +kernel))
theorem d_MO_count_77 : decode b_MO_count 77 = .ok (.getfield 13, 3) := dc_180 (qU2_win (r := 1) wn_MO_count_76 (by decide +kernel))
theorem d_MO_count_80 : decode b_MO_count 80 = .ok (.iconst 0, 1) := dc_3 (q0_win (r := 4) wn_MO_count_76 (by decide +kernel))
theorem d_MO_count_81 : decode b_MO_count 81 = .ok (.iaload, 1) := dc_46 (q0_win (r := 5) wn_MO_count_76 (by decide +kernel))
theorem d_MO_count_82 : decode b_MO_count 82 = .ok (.ireturn, 1) := dc_172 (q0_win (r := 6) wn_MO_count_76 (by decide +kernel))
theorem d_MO_count_83 : decode b_MO_count 83 = .ok (.aload_n 0, 1) := dc_42 (q0_win (r := 7) wn_MO_count_76 (by decide +kernel))
theorem d_MO_count_84 : decode b_MO_count 84 = .ok (.getfield 13, 3) := dc_180 (qU2_win (r := 8) wn_MO_count_76 (by decide +kernel))
theorem d_MO_count_87 : decode b_MO_count 87 = .ok (.iconst 1, 1) := dc_4 (q0_win (r := 11) wn_MO_count_76 (by decide +kernel))
theorem d_MO_count_88 : decode b_MO_count 88 = .ok (.iaload, 1) := dc_46 (q0_win (r := 12) wn_MO_count_76 (by decide +kernel))
theorem d_MO_count_89 : decode b_MO_count 89 = .ok (.ireturn, 1) := dc_172 (q0_win (r := 13) wn_MO_count_76 (by decide +kernel))
theorem d_MO_count_90 : decode b_MO_count 90 = .ok (.aload_n 0, 1) := dc_42 (q0_win (r := 14) wn_MO_count_76 (by decide +kernel))
theorem d_MO_count_91 : decode b_MO_count 91 = .ok (.getfield 13, 3) := dc_180 (qU2_win (r := 15) wn_MO_count_76 (by decide +kernel))
theorem d_MO_count_94 : decode b_MO_count 94 = .ok (.iconst 2, 1) := dc_5 (q0_win (r := 18) wn_MO_count_76 (by decide +kernel))
theorem d_MO_count_95 : decode b_MO_count 95 = .ok (.iaload, 1) := dc_46 (q0_win (r := 19) wn_MO_count_76 (by decide +kernel))
theorem d_MO_count_96 : decode b_MO_count 96 = .ok (.ireturn, 1) := dc_172 (q0_win (r := 20) wn_MO_count_76 (by decide +kernel))
theorem d_MO_count_97 : decode b_MO_count 97 = .ok (.aload_n 0, 1) := dc_42 (q0_win (r := 21) wn_MO_count_76 (by decide +kernel))
theorem d_MO_count_98 : decode b_MO_count 98 = .ok (.getfield 13, 3) := dc_180 (qU2_win (r := 22) wn_MO_count_76 (by decide +kernel))
theorem d_MO_count_101 : decode b_MO_count 101 = .ok (.bipush 6, 2) := dc_16 (qS1_win (r := 25) wn_MO_count_76 (by decide +kernel))
theorem d_MO_count_103 : decode b_MO_count 103 = .ok (.iaload, 1) := dc_46 (q0_win (r := 27) wn_MO_count_76 (by decide +kernel))
theorem d_MO_count_104 : decode b_MO_count 104 = .ok (.ireturn, 1) := dc_172 (q0_win (r := 28) wn_MO_count_76 (by decide +kernel))
theorem d_MO_count_105 : decode b_MO_count 105 = .ok (.aload_n 0, 1) := dc_42 (q0_win (r := 29) wn_MO_count_76 (by decide +kernel))
theorem d_MO_count_106 : decode b_MO_count 106 = .ok (.getfield 13, 3) := dc_180 (qU2_win (r := 30) wn_MO_count_76 (by decide +kernel))
theorem d_MO_count_109 : decode b_MO_count 109 = .ok (.bipush 8, 2) := dc_16 (qS1_win (r := 33) wn_MO_count_76 (by decide +kernel))
theorem d_MO_count_111 : decode b_MO_count 111 = .ok (.iaload, 1) := dc_46 (q0_win (r := 35) wn_MO_count_76 (by decide +kernel))
theorem d_MO_count_112 : decode b_MO_count 112 = .ok (.ireturn, 1) := dc_172 (q0_win (r := 36) wn_MO_count_76 (by decide +kernel))
theorem d_MO_count_113 : decode b_MO_count 113 = .ok (.aload_n 0, 1) := dc_42 (q0_win (r := 37) wn_MO_count_76 (by decide +kernel))
theorem d_MO_count_114 : decode b_MO_count 114 = .ok (.getfield 60, 3) := dc_180 (qU2_win (r := 38) wn_MO_count_76 (by decide +kernel))
theorem d_MO_count_117 : decode b_MO_count 117 = .ok (.iconst 0, 1) := dc_3 (q0_win (r := 41) wn_MO_count_76 (by decide +kernel))
theorem d_MO_count_118 : decode b_MO_count 118 = .ok (.iaload, 1) := dc_46 (q0_win (r := 42) wn_MO_count_76 (by decide +kernel))
theorem d_MO_count_119 : decode b_MO_count 119 = .ok (.ireturn, 1) := dc_172 (q0_win (r := 43) wn_MO_count_76 (by decide +kernel))
theorem d_MO_count_120 : decode b_MO_count 120 = .ok (.aload_n 0, 1) := dc_42 (q0_win (r := 44) wn_MO_count_76 (by decide +kernel))
theorem d_MO_count_121 : decode b_MO_count 121 = .ok (.getfield 63, 3) := dc_180 (qU2_win (r := 45) wn_MO_count_76 (by decide +kernel))
theorem d_MO_count_124 : decode b_MO_count 124 = .ok (.iconst 0, 1) := dc_3 (q0_win (r := 48) wn_MO_count_76 (by decide +kernel))
theorem d_MO_count_125 : decode b_MO_count 125 = .ok (.iaload, 1) := dc_46 (q0_win (r := 49) wn_MO_count_76 (by decide +kernel))
theorem d_MO_count_126 : decode b_MO_count 126 = .ok (.ireturn, 1) := dc_172 (q0_win (r := 50) wn_MO_count_76 (by decide +kernel))
theorem d_MO_count_127 : decode b_MO_count 127 = .ok (.aload_n 0, 1) := dc_42 (q0_win (r := 51) wn_MO_count_76 (by decide +kernel))
theorem d_MO_count_128 : decode b_MO_count 128 = .ok (.getfield 319, 3) := dc_180 (qU2_win (r := 52) wn_MO_count_76 (by decide +kernel))
theorem d_MO_count_131 : decode b_MO_count 131 = .ok (.ireturn, 1) := dc_172 (q0_win (r := 55) wn_MO_count_76 (by decide +kernel))
theorem d_MO_count_132 : decode b_MO_count 132 = .ok (.aload_n 0, 1) := dc_42 (q0_win (r := 56) wn_MO_count_76 (by decide +kernel))
theorem d_MO_count_133 : decode b_MO_count 133 = .ok (.invokevirtual 501, 3) := dc_182 (qU2_win (r := 57) wn_MO_count_76 (by decide +kernel))
theorem d_MO_count_136 : decode b_MO_count 136 = .ok (.ireturn, 1) := dc_172 (q0_win (r := 60) wn_MO_count_76 (by decide +kernel))
theorem d_MO_count_137 : decode b_MO_count 137 = .ok (.aload_n 0, 1) := dc_42 (q0_win (r := 61) wn_MO_count_76 (by decide +kernel))
theorem d_MO_count_138 : decode b_MO_count 138 = .ok (.getfield 326, 3) := dc_180 (qU2_win (r := 62) wn_MO_count_76 (by decide +kernel))
theorem d_MO_count_141 : decode b_MO_count 141 = .ok (.ireturn, 1) := dc_172 (q0_win (r := 65) wn_MO_count_76 (by decide +kernel))
theorem d_MO_count_142 : decode b_MO_count 142 = .ok (.aload_n 0, 1) := dc_42 (q0_win (r := 66) wn_MO_count_76 (by decide +kernel))
theorem d_MO_count_143 : decode b_MO_count 143 = .ok (.getfield 73, 3) := dc_180 (qU2_win (r := 67) wn_MO_count_76 (by decide +kernel))
theorem d_MO_count_146 : decode b_MO_count 146 = .ok (.iconst 0, 1) := dc_3 (q0_win (r := 70) wn_MO_count_76 (by decide +kernel))
theorem d_MO_count_147 : decode b_MO_count 147 = .ok (.laload, 1) := dc_47 (q0_win (r := 71) wn_MO_count_76 (by decide +kernel))
theorem d_MO_count_148 : decode b_MO_count 148 = .ok (.invokestatic 452, 3) := dc_184 (qU2_win (r := 72) wn_MO_count_76 (by decide +kernel))
theorem d_MO_count_151 : decode b_MO_count 151 = .ok (.ireturn, 1) := dc_172 (q0_win (r := 75) wn_MO_count_76 (by decide +kernel))
theorem d_MO_count_152 : decode b_MO_count 152 = .ok (.aload_n 0, 1) := dc_42 (q0_win (r := 76) wn_MO_count_76 (by decide +kernel))
theorem d_MO_count_153 : decode b_MO_count 153 = .ok (.getfield 69, 3) := dc_180 (qU2_win (r := 77) wn_MO_count_76 (by decide +kernel))
theorem d_MO_count_156 : decode b_MO_count 156 = .ok (.iconst 0, 1) := dc_3 (q0_win (r := 80) wn_MO_count_76 (by decide +kernel))
theorem d_MO_count_157 : decode b_MO_count 157 = .ok (.laload, 1) := dc_47 (q0_win (r := 81) wn_MO_count_76 (by decide +kernel))
theorem d_MO_count_158 : decode b_MO_count 158 = .ok (.invokestatic 452, 3) := dc_184 (qU2_win (r := 82) wn_MO_count_76 (by decide +kernel))
theorem d_MO_count_161 : decode b_MO_count 161 = .ok (.ireturn, 1) := dc_172 (q0_win (r := 85) wn_MO_count_76 (by decide +kernel))
theorem d_MO_count_162 : decode b_MO_count 162 = .ok (.iconst 0, 1) := dc_3 (q0_win (r := 86) wn_MO_count_76 (by decide +kernel))
theorem d_MO_count_163 : decode b_MO_count 163 = .ok (.istore_n 3, 1) := dc_62 (q0_win (r := 87) wn_MO_count_76 (by decide +kernel))
theorem d_MO_count_164 : decode b_MO_count 164 = .ok (.iload_n 3, 1) := dc_29 (q0_win (r := 88) wn_MO_count_76 (by decide +kernel))
theorem d_MO_count_165 : decode b_MO_count 165 = .ok (.aload_n 0, 1) := dc_42 (q0_win (r := 89) wn_MO_count_76 (by decide +kernel))
theorem d_MO_count_166 : decode b_MO_count 166 = .ok (.getfield 13, 3) := dc_180 (qU2_win (r := 90) wn_MO_count_76 (by decide +kernel))
theorem d_MO_count_169 : decode b_MO_count 169 = .ok (.bipush 6, 2) := dc_16 (qS1_win (r := 93) wn_MO_count_76 (by decide +kernel))
theorem d_MO_count_171 : decode b_MO_count 171 = .ok (.iaload, 1) := dc_46 (q0_win (r := 95) wn_MO_count_76 (by decide +kernel))
theorem wn_MO_count_172 : ∀ i, i < 36 → bA b_MO_count (172 + i) = wB [162, 0, 32, 28, 42, 3, 42, 180, 0, 79, 29, 46, 182, 1, 94, 2, 160, 0, 7, 3, 167, 0, 4, 4, 96, 61, 132, 3, 1, 167, 255, 219, 28, 172, 2, 172] i := wB_of (by decide +kernel)
theorem d_MO_count_172 : decode b_MO_count 172 = .ok (.if_icmp .ge 32, 3) := dc_162 (qS2_win (r := 0) wn_MO_count_172 (by decide +kernel))
theorem d_MO_count_175 : decode b_MO_count 175 = .ok (.iload_n 2, 1) := dc_28 (q0_win (r := 3) wn_MO_count_172 (by decide +kernel))
theorem d_MO_count_176 : decode b_MO_count 176 = .ok (.aload_n 0, 1) := dc_42 (q0_win (r := 4) wn_MO_count_172 (by decide +kernel))
theorem d_MO_count_177 : decode b_MO_count 177 = .ok (.iconst 0, 1) := dc_3 (q0_win (r := 5) wn_MO_count_172 (by decide +kernel))
theorem d_MO_count_178 : decode b_MO_count 178 = .ok (.aload_n 0, 1) := dc_42 (q0_win (r := 6) wn_MO_count_172 (by decide +kernel))
theorem d_MO_count_179 : decode b_MO_count 179 = .ok (.getfield 79, 3) := dc_180 (qU2_win (r := 7) wn_MO_count_172 (by decide +kernel))
theorem d_MO_count_182 : decode b_MO_count 182 = .ok (.iload_n 3, 1) := dc_29 (q0_win (r := 10) wn_MO_count_172 (by decide +kernel))
theorem d_MO_count_183 : decode b_MO_count 183 = .ok (.iaload, 1) := dc_46 (q0_win (r := 11) wn_MO_count_172 (by decide +kernel))
theorem d_MO_count_184 : decode b_MO_count 184 = .ok (.invokevirtual 350, 3) := dc_182 (qU2_win (r := 12) wn_MO_count_172 (by decide +kernel))
theorem d_MO_count_187 : decode b_MO_count 187 = .ok (.iconst (-1), 1) := dc_2 (q0_win (r := 15) wn_MO_count_172 (by decide +kernel))
theorem d_MO_count_188 : decode b_MO_count 188 = .ok (.if_icmp .ne 7, 3) := dc_160 (qS2_win (r := 16) wn_MO_count_172 (by decide +kernel))
theorem d_MO_count_191 : decode b_MO_count 191 = .ok (.iconst 0, 1) := dc_3 (q0_win (r := 19) wn_MO_count_172 (by decide +kernel))
theorem d_MO_count_192 : decode b_MO_count 192 = .ok (.goto 4, 3) := dc_167 (qS2_win (r := 20) wn_MO_count_172 (by decide +kernel))
theorem d_MO_count_195 : decode b_MO_count 195 = .ok (.iconst 1, 1) := dc_4 (q0_win (r := 23) wn_MO_count_172 (by decide +kernel))
theorem d_MO_count_196 : decode b_MO_count 196 = .ok (.iadd, 1) := dc_96 (q0_win (r := 24) wn_MO_count_172 (by decide +kernel))
theorem d_MO_count_197 : decode b_MO_count 197 = .ok (.istore_n 2, 1) := dc_61 (q0_win (r := 25) wn_MO_count_172 (by decide +kernel))
theorem d_MO_count_198 : decode b_MO_count 198 = .ok (.iinc 3 1, 3) := dc_132 (qI_win (r := 26) wn_MO_count_172 (by decide +kernel))
theorem d_MO_count_201 : decode b_MO_count 201 = .ok (.goto (-37), 3) := dc_167 (qS2_win (r := 29) wn_MO_count_172 (by decide +kernel))
theorem d_MO_count_204 : decode b_MO_count 204 = .ok (.iload_n 2, 1) := dc_28 (q0_win (r := 32) wn_MO_count_172 (by decide +kernel))
theorem d_MO_count_205 : decode b_MO_count 205 = .ok (.ireturn, 1) := dc_172 (q0_win (r := 33) wn_MO_count_172 (by decide +kernel))
theorem d_MO_count_206 : decode b_MO_count 206 = .ok (.iconst (-1), 1) := dc_2 (q0_win (r := 34) wn_MO_count_172 (by decide +kernel))
theorem d_MO_count_207 : decode b_MO_count 207 = .ok (.ireturn, 1) := dc_172 (q0_win (r := 35) wn_MO_count_172 (by decide +kernel))
def t_MO_count_L196 (x1 : Int) (bk164 : Mem → Int → Int → Option (Mem × Int)) (M : Mem) (v1_ : Int) (v2_ : Int) (v3_ : Int) : Option (Mem × Int) := (bk164 M (w32 (v2_ + v3_)) (w32 (v1_ + 1)))
def t_MO_count_L164 (x1 : Int)  : Nat → Mem → Int → Int → Option (Mem × Int)
  | 0, _, _, _ => none
  | fu + 1, M, v1_, v2_ => (if (M.1 193 6) ≤ v2_ then (some (M, v1_)) else (qguard (0 ≤ v2_ ∧ v2_ < 184) (obind (t_MO_nextOf M 0 (M.1 213 v2_)) fun q34 => (if q34 = (-1) then (t_MO_count_L196 x1 (fun a0_ a1_ a2_ => t_MO_count_L164 x1 fu a0_ a1_ a2_) M v2_ v1_ 0) else (t_MO_count_L196 x1 (fun a0_ a1_ a2_ => t_MO_count_L164 x1 fu a0_ a1_ a2_) M v2_ v1_ 1)))))
def t_MO_count (M : Mem) (x1 : Int) : Option (Mem × Int) := (qlet (setI M 191 0 0) fun M1 => (if x1 = 0 then (some (M1, (M1.1 193 0))) else (if x1 = 1 then (some (M1, (M1.1 193 1))) else (if x1 = 2 then (some (M1, (M1.1 193 2))) else (if x1 = 3 then (some (M1, (M1.1 193 6))) else (if x1 = 4 then (some (M1, (M1.1 193 8))) else (if x1 = 5 then (some (M1, (M1.1 207 0))) else (if x1 = 6 then (some (M1, (M1.1 208 0))) else (if x1 = 7 then (some (M1, (M1.1 191 60))) else (if x1 = 8 then (qlet (t_MO_knownMany M1) fun q19 => (some (M1, q19))) else (if x1 = 9 then (some (M1, (M1.1 191 43))) else (if x1 = 10 then (obind (t_MO_bitsOf M1 (M1.2 211 0)) fun q24 => (some (M1, q24))) else (if x1 = 11 then (obind (t_MO_bitsOf M1 (M1.2 210 0)) fun q27 => (some (M1, q27))) else (if x1 = 12 then (t_MO_count_L164 x1 FU M1 0 0) else (some (M1, (-1)))))))))))))))))
set_option maxHeartbeats 4000000 in
set_option maxRecDepth 100000 in
theorem k_MO_count_L196 (l : Launch) {p : Program} {e : Env} {s : State} {m : MethodId} {below : List Frame} {meth : Method} {c : Code} {b n : Nat} {C : CT} (hlo : 231 ≤ n) (x1 : Int) (hx1 : InR x1) (F : Cx b p m c b_MO_count 4 s ([.ref (b + 191), vI x1] : List Value).toArray "WardFallsModel" C n 231) (hlk : meth.locks = false) (hr : meth.sig.returnType = some .int) {res : Mem × Int} (bk164 : Mem → Int → Int → Option (Mem × Int)) (hbk164 : ∀ (M : Mem) (v1_ : Int) (hv1_ : InR v1_) (v2_ : Int) (hv2_ : InR v2_) (H : Heap) (locs : List Loc) (ls : Array Slot), St b C n M s H locs → lv_has ls 4 [(0, .ref (b + 191)), (2, vI v1_), (3, vI v2_)] → bk164 M v1_ v2_ = some res → W p l e (headSpec (wsM y_MO_count b_MO_count 4 (some .int)) (rmD 2)).room s m ([.ref (b + 191), vI x1] : List Value).toArray below meth c H locs 0 0 (MQ below (QI b C n res.1 res.2) ([.ref (b + 191), vI x1] : List Value).toArray s 0 0 (frb b)) (F0 m 164 ls [])) (M : Mem) (v1_ : Int) (hv1_ : InR v1_) (v2_ : Int) (hv2_ : InR v2_) (v3_ : Int) (hv3_ : v3_ = 0 ∨ v3_ = 1) (H : Heap) (locs : List Loc) (ls : Array Slot) (hS : St b C n M s H locs) (hl : lv_has ls 4 [(0, .ref (b + 191)), (3, vI v1_)]) (hT : t_MO_count_L196 x1 bk164 M v1_ v2_ v3_ = some res) : W p l e (headSpec (wsM y_MO_count b_MO_count 4 (some .int)) (rmD 2)).room s m ([.ref (b + 191), vI x1] : List Value).toArray below meth c H locs 0 0 (MQ below (QI b C n res.1 res.2) ([.ref (b + 191), vI x1] : List Value).toArray s 0 0 (frb b)) (F0 m 196 ls [vI v3_, vI v2_]) := by
  unfold t_MO_count_L196 at hT
  refine r_iadd F.hx F.hb d_MO_count_196 ?_
  refine lv_istore_n (lv' := [(2, vI (w32 (v2_ + v3_))), (0, .ref (b + 191)), (3, vI v1_)]) F.hx F.hb d_MO_count_197 rfl hl (Nat.le_of_ble_eq_true rfl) rfl (fun ls hl => ?_)
  refine lv_iinc (v := Int32.ofInt (w32 (v1_ + 1))) (lv' := [(3, vI (w32 (v1_ + 1))), (2, vI (w32 (v2_ + v3_))), (0, .ref (b + 191))]) F.hx F.hb d_MO_count_198 hl (k := 2) rfl (q_of_add _ _) (Nat.le_of_ble_eq_true rfl) rfl (fun ls hl => ?_)
  refine lv_goto (tgt := 164) F.hx F.hb d_MO_count_201 (by decide) ?_
  exact hbk164 M (w32 (v2_ + v3_)) (inr_w32 _) (w32 (v1_ + 1)) (inr_w32 _) _ _ _ hS (lv_sub hl [2, 1, 0] rfl) hT
set_option maxHeartbeats 4000000 in
set_option maxRecDepth 100000 in
theorem k_MO_count_L164 (l : Launch) {p : Program} {e : Env} {s : State} {m : MethodId} {below : List Frame} {meth : Method} {c : Code} {b n : Nat} {C : CT} (hlo : 231 ≤ n) (x1 : Int) (hx1 : InR x1) (F : Cx b p m c b_MO_count 4 s ([.ref (b + 191), vI x1] : List Value).toArray "WardFallsModel" C n 231) (hlk : meth.locks = false) (hr : meth.sig.returnType = some .int) {res : Mem × Int} : ∀ (fu : Nat) (M : Mem) (v1_ : Int) (hv1_ : InR v1_) (v2_ : Int) (hv2_ : InR v2_) (H : Heap) (locs : List Loc) (ls : Array Slot), St b C n M s H locs → lv_has ls 4 [(0, .ref (b + 191)), (2, vI v1_), (3, vI v2_)] → t_MO_count_L164 x1 fu M v1_ v2_ = some res → W p l e (headSpec (wsM y_MO_count b_MO_count 4 (some .int)) (rmD 2)).room s m ([.ref (b + 191), vI x1] : List Value).toArray below meth c H locs 0 0 (MQ below (QI b C n res.1 res.2) ([.ref (b + 191), vI x1] : List Value).toArray s 0 0 (frb b)) (F0 m 164 ls []) := by
  intro fu
  induction fu with
  | zero => intro M v1_ hv1_ v2_ hv2_ H locs ls hS hl hT; exact absurd hT (by simp [t_MO_count_L164])
  | succ fu ih =>
    intro M v1_ hv1_ v2_ hv2_ H locs ls hS hl hT
    rw [t_MO_count_L164] at hT
    refine lv_iload_n F.hx F.hb d_MO_count_164 rfl (lv_at hl 2 rfl) ?_
    refine lv_aload_n F.hx F.hb d_MO_count_165 rfl (lv_at hl 0 rfl) ?_
    refine r_get (v := .ref (b + 193)) (N := 68) (T := T1) (j := 3) F hS (show 191 < 231 by decide) (show shK 191 = 5 from rfl) (show shN 191 = 68 from rfl) rfl (Nat.le_of_ble_eq_true rfl) ing1 mw_1392 (fv_sg rfl rfl rfl) d_MO_count_166 ?_
    refine r_bipush F.hx F.hb d_MO_count_169 rfl ?_
    refine r_iald F hS (show 193 < 231 by decide) (show shK 193 = 0 from rfl) (show shN 193 = 18 from rfl) (inr_c rfl) (by omega) (by omega) d_MO_count_171 ?_
    have i30 := hS.rng 193 6
    refine r_icmp_ge (tgt := 204) F.hx F.hb hv2_ i30 d_MO_count_172 (by decide) (fun c31 => ?_) (fun c31 => ?_)
    · replace hT := (if_pos c31).symm.trans hT
      refine lv_iload_n F.hx F.hb d_MO_count_204 rfl (lv_at hl 1 rfl) ?_
      cases hT
      exact r_iret F hlk hr rfl hS hv1_ d_MO_count_205
    · replace hT := (if_neg c31).symm.trans hT
      refine lv_iload_n F.hx F.hb d_MO_count_175 rfl (lv_at hl 1 rfl) ?_
      refine lv_aload_n F.hx F.hb d_MO_count_176 rfl (lv_at hl 0 rfl) ?_
      refine r_iconst F.hx F.hb d_MO_count_177 ?_
      refine lv_aload_n F.hx F.hb d_MO_count_178 rfl (lv_at hl 0 rfl) ?_
      refine r_get (v := .ref (b + 213)) (N := 68) (T := T1) (j := 36) F hS (show 191 < 231 by decide) (show shK 191 = 5 from rfl) (show shN 191 = 68 from rfl) rfl (Nat.le_of_ble_eq_true rfl) ing1 mw_1425 (fv_sg rfl rfl rfl) d_MO_count_179 ?_
      refine lv_iload_n F.hx F.hb d_MO_count_182 rfl (lv_at hl 2 rfl) ?_
      obtain ⟨⟨g32a, g32b⟩, hT⟩ := q_guard hT
      refine r_iald F hS (show 213 < 231 by decide) (show shK 213 = 0 from rfl) (show shN 213 = 184 from rfl) hv2_ g32a g32b d_MO_count_183 ?_
      have i33 := hS.rng 213 v2_
      obtain ⟨q34, hq34, hT⟩ := q_obind hT
      refine r_backI F hS (r_runV (k := 191) (N := 68) (T := T1) (As := [vI 0, vI (M.1 213 v2_)]) F hS (show 191 < 231 by decide) (show shK 191 = 5 from rfl) rfl (c_MO_nextOf l F.2.2.1 M 0 (M.1 213 v2_) (inr_c rfl) i33 _ hq34) gs_MO_350 hd_MO_nextOf ⟨Nat.le_of_ble_eq_true rfl, Nat.le_of_ble_eq_true rfl⟩ rfl hl.1 (Nat.le_of_ble_eq_true rfl) ⟨Nat.zero_le _, Nat.zero_le _⟩ rfl d_MO_count_184) (fun H locs hS h35 => ?_)
      refine r_iconst F.hx F.hb d_MO_count_187 ?_
      refine r_icmp_ne (tgt := 195) F.hx F.hb h35 (inr_c rfl) d_MO_count_188 (by decide) (fun c36 => ?_) (fun c36 => ?_)
      · replace hT := (if_neg c36).symm.trans hT
        refine r_iconst F.hx F.hb d_MO_count_195 ?_
        exact k_MO_count_L196 l hlo x1 hx1 F hlk hr (fun a0_ a1_ a2_ => t_MO_count_L164 x1 fu a0_ a1_ a2_) ih M v2_ hv2_ v1_ hv1_ 1 (Or.inr rfl) _ _ _ hS (lv_sub hl [0, 2] rfl) hT
      · replace hT := (if_pos c36).symm.trans hT
        refine r_iconst F.hx F.hb d_MO_count_191 ?_
        refine lv_goto (tgt := 196) F.hx F.hb d_MO_count_192 (by decide) ?_
        exact k_MO_count_L196 l hlo x1 hx1 F hlk hr (fun a0_ a1_ a2_ => t_MO_count_L164 x1 fu a0_ a1_ a2_) ih M v2_ hv2_ v1_ hv1_ 0 (Or.inl rfl) _ _ _ hS (lv_sub hl [0, 2] rfl) hT
set_option maxHeartbeats 4000000 in
set_option maxRecDepth 100000 in
theorem c_MO_count (l : Launch) {b n : Nat} {C : CT} (hlo : 231 ≤ n) (M : Mem) (x1 : Int) (hx1 : InR x1) (res : Mem × Int) (hT : t_MO_count M x1 = some res) : CM l b C n 2 y_MO_count b_MO_count 4 (some .int) [.ref (b + 191), vI x1] M (QI b C n res.1 res.2) := by
  refine CM.of (lo := 231) (ow := "WardFallsModel") (by decide) rfl (Nat.le_of_ble_eq_true rfl) hlo (fun p e s m below meth c F hlk hr hS ls hl => ?_)
  have hl : lv_has ls 4 [(0, .ref (b + 191)), (1, vI x1)] := hl
  unfold t_MO_count at hT
  refine lv_aload_n F.hx F.hb d_MO_count_0 rfl (lv_at hl 0 rfl) ?_
  refine r_iconst F.hx F.hb d_MO_count_1 ?_
  refine r_putI (N := 68) (T := T1) (j := 0) F hS (show 191 < 231 by decide) (show shK 191 = 5 from rfl) (show shN 191 = 68 from rfl) rfl (Nat.le_of_ble_eq_true rfl) ing1 tyok1 nm1 rfl rfl rfl rfl rfl rfl mw_1389 (inr_c rfl) d_MO_count_2 (fun H locs hS => ?_)
  obtain ⟨M1, eM1⟩ : ∃ q, q = (setI M 191 0 0) := ⟨_, rfl⟩
  replace hS : St b C n M1 s H locs := by rw [eM1]; exact hS
  replace hT := qlet_eq hT eM1
  refine r_iconst F.hx F.hb d_MO_count_5 ?_
  refine lv_istore_n (lv' := [(2, vI 0), (0, .ref (b + 191)), (1, vI x1)]) F.hx F.hb d_MO_count_6 rfl hl (Nat.le_of_ble_eq_true rfl) rfl (fun ls hl => ?_)
  refine lv_iload_n F.hx F.hb d_MO_count_7 rfl (lv_at hl 2 rfl) ?_
  rcases q_ite hT with ⟨c2, hT⟩ | ⟨c2, hT⟩
  · refine r_tableIn (i := 0) (tgt := 76) F.hx F.hb hx1 c2 d_MO_count_8 (by decide) (by decide) rfl (by decide) ?_
    refine lv_aload_n F.hx F.hb d_MO_count_76 rfl (lv_at hl 1 rfl) ?_
    refine r_get (v := .ref (b + 193)) (N := 68) (T := T1) (j := 3) F hS (show 191 < 231 by decide) (show shK 191 = 5 from rfl) (show shN 191 = 68 from rfl) rfl (Nat.le_of_ble_eq_true rfl) ing1 mw_1392 (fv_sg rfl rfl rfl) d_MO_count_77 ?_
    refine r_iconst F.hx F.hb d_MO_count_80 ?_
    refine r_iald F hS (show 193 < 231 by decide) (show shK 193 = 0 from rfl) (show shN 193 = 18 from rfl) (inr_c rfl) (by omega) (by omega) d_MO_count_81 ?_
    have i3 := hS.rng 193 0
    cases hT
    exact r_iret F hlk hr rfl hS i3 d_MO_count_82
  ·
    rcases q_ite hT with ⟨c4, hT⟩ | ⟨c4, hT⟩
    · refine r_tableIn (i := 1) (tgt := 83) F.hx F.hb hx1 c4 d_MO_count_8 (by decide) (by decide) rfl (by decide) ?_
      refine lv_aload_n F.hx F.hb d_MO_count_83 rfl (lv_at hl 1 rfl) ?_
      refine r_get (v := .ref (b + 193)) (N := 68) (T := T1) (j := 3) F hS (show 191 < 231 by decide) (show shK 191 = 5 from rfl) (show shN 191 = 68 from rfl) rfl (Nat.le_of_ble_eq_true rfl) ing1 mw_1392 (fv_sg rfl rfl rfl) d_MO_count_84 ?_
      refine r_iconst F.hx F.hb d_MO_count_87 ?_
      refine r_iald F hS (show 193 < 231 by decide) (show shK 193 = 0 from rfl) (show shN 193 = 18 from rfl) (inr_c rfl) (by omega) (by omega) d_MO_count_88 ?_
      have i5 := hS.rng 193 1
      cases hT
      exact r_iret F hlk hr rfl hS i5 d_MO_count_89
    ·
      rcases q_ite hT with ⟨c6, hT⟩ | ⟨c6, hT⟩
      · refine r_tableIn (i := 2) (tgt := 90) F.hx F.hb hx1 c6 d_MO_count_8 (by decide) (by decide) rfl (by decide) ?_
        refine lv_aload_n F.hx F.hb d_MO_count_90 rfl (lv_at hl 1 rfl) ?_
        refine r_get (v := .ref (b + 193)) (N := 68) (T := T1) (j := 3) F hS (show 191 < 231 by decide) (show shK 191 = 5 from rfl) (show shN 191 = 68 from rfl) rfl (Nat.le_of_ble_eq_true rfl) ing1 mw_1392 (fv_sg rfl rfl rfl) d_MO_count_91 ?_
        refine r_iconst F.hx F.hb d_MO_count_94 ?_
        refine r_iald F hS (show 193 < 231 by decide) (show shK 193 = 0 from rfl) (show shN 193 = 18 from rfl) (inr_c rfl) (by omega) (by omega) d_MO_count_95 ?_
        have i7 := hS.rng 193 2
        cases hT
        exact r_iret F hlk hr rfl hS i7 d_MO_count_96
      ·
        rcases q_ite hT with ⟨c8, hT⟩ | ⟨c8, hT⟩
        · refine r_tableIn (i := 3) (tgt := 97) F.hx F.hb hx1 c8 d_MO_count_8 (by decide) (by decide) rfl (by decide) ?_
          refine lv_aload_n F.hx F.hb d_MO_count_97 rfl (lv_at hl 1 rfl) ?_
          refine r_get (v := .ref (b + 193)) (N := 68) (T := T1) (j := 3) F hS (show 191 < 231 by decide) (show shK 191 = 5 from rfl) (show shN 191 = 68 from rfl) rfl (Nat.le_of_ble_eq_true rfl) ing1 mw_1392 (fv_sg rfl rfl rfl) d_MO_count_98 ?_
          refine r_bipush F.hx F.hb d_MO_count_101 rfl ?_
          refine r_iald F hS (show 193 < 231 by decide) (show shK 193 = 0 from rfl) (show shN 193 = 18 from rfl) (inr_c rfl) (by omega) (by omega) d_MO_count_103 ?_
          have i9 := hS.rng 193 6
          cases hT
          exact r_iret F hlk hr rfl hS i9 d_MO_count_104
        ·
          rcases q_ite hT with ⟨c10, hT⟩ | ⟨c10, hT⟩
          · refine r_tableIn (i := 4) (tgt := 105) F.hx F.hb hx1 c10 d_MO_count_8 (by decide) (by decide) rfl (by decide) ?_
            refine lv_aload_n F.hx F.hb d_MO_count_105 rfl (lv_at hl 1 rfl) ?_
            refine r_get (v := .ref (b + 193)) (N := 68) (T := T1) (j := 3) F hS (show 191 < 231 by decide) (show shK 191 = 5 from rfl) (show shN 191 = 68 from rfl) rfl (Nat.le_of_ble_eq_true rfl) ing1 mw_1392 (fv_sg rfl rfl rfl) d_MO_count_106 ?_
            refine r_bipush F.hx F.hb d_MO_count_109 rfl ?_
            refine r_iald F hS (show 193 < 231 by decide) (show shK 193 = 0 from rfl) (show shN 193 = 18 from rfl) (inr_c rfl) (by omega) (by omega) d_MO_count_111 ?_
            have i11 := hS.rng 193 8
            cases hT
            exact r_iret F hlk hr rfl hS i11 d_MO_count_112
          ·
            rcases q_ite hT with ⟨c12, hT⟩ | ⟨c12, hT⟩
            · refine r_tableIn (i := 5) (tgt := 113) F.hx F.hb hx1 c12 d_MO_count_8 (by decide) (by decide) rfl (by decide) ?_
              refine lv_aload_n F.hx F.hb d_MO_count_113 rfl (lv_at hl 1 rfl) ?_
              refine r_get (v := .ref (b + 207)) (N := 68) (T := T1) (j := 30) F hS (show 191 < 231 by decide) (show shK 191 = 5 from rfl) (show shN 191 = 68 from rfl) rfl (Nat.le_of_ble_eq_true rfl) ing1 mw_1419 (fv_sg rfl rfl rfl) d_MO_count_114 ?_
              refine r_iconst F.hx F.hb d_MO_count_117 ?_
              refine r_iald F hS (show 207 < 231 by decide) (show shK 207 = 0 from rfl) (show shN 207 = 23 from rfl) (inr_c rfl) (by omega) (by omega) d_MO_count_118 ?_
              have i13 := hS.rng 207 0
              cases hT
              exact r_iret F hlk hr rfl hS i13 d_MO_count_119
            ·
              rcases q_ite hT with ⟨c14, hT⟩ | ⟨c14, hT⟩
              · refine r_tableIn (i := 6) (tgt := 120) F.hx F.hb hx1 c14 d_MO_count_8 (by decide) (by decide) rfl (by decide) ?_
                refine lv_aload_n F.hx F.hb d_MO_count_120 rfl (lv_at hl 1 rfl) ?_
                refine r_get (v := .ref (b + 208)) (N := 68) (T := T1) (j := 31) F hS (show 191 < 231 by decide) (show shK 191 = 5 from rfl) (show shN 191 = 68 from rfl) rfl (Nat.le_of_ble_eq_true rfl) ing1 mw_1420 (fv_sg rfl rfl rfl) d_MO_count_121 ?_
                refine r_iconst F.hx F.hb d_MO_count_124 ?_
                refine r_iald F hS (show 208 < 231 by decide) (show shK 208 = 0 from rfl) (show shN 208 = 23 from rfl) (inr_c rfl) (by omega) (by omega) d_MO_count_125 ?_
                have i15 := hS.rng 208 0
                cases hT
                exact r_iret F hlk hr rfl hS i15 d_MO_count_126
              ·
                rcases q_ite hT with ⟨c16, hT⟩ | ⟨c16, hT⟩
                · refine r_tableIn (i := 7) (tgt := 127) F.hx F.hb hx1 c16 d_MO_count_8 (by decide) (by decide) rfl (by decide) ?_
                  refine lv_aload_n F.hx F.hb d_MO_count_127 rfl (lv_at hl 1 rfl) ?_
                  refine r_get (v := vI (M1.1 191 60)) (N := 68) (T := T1) (j := 60) F hS (show 191 < 231 by decide) (show shK 191 = 5 from rfl) (show shN 191 = 68 from rfl) rfl (Nat.le_of_ble_eq_true rfl) ing1 mw_1449 (fv_int rfl) d_MO_count_128 ?_
                  have i17 := hS.rng 191 60
                  cases hT
                  exact r_iret F hlk hr rfl hS i17 d_MO_count_131
                ·
                  rcases q_ite hT with ⟨c18, hT⟩ | ⟨c18, hT⟩
                  · refine r_tableIn (i := 8) (tgt := 132) F.hx F.hb hx1 c18 d_MO_count_8 (by decide) (by decide) rfl (by decide) ?_
                    refine lv_aload_n F.hx F.hb d_MO_count_132 rfl (lv_at hl 1 rfl) ?_
                    obtain ⟨q19, hq19⟩ : ∃ q, q = (t_MO_knownMany M1) := ⟨_, rfl⟩
                    replace hT := qlet_eq hT hq19
                    refine r_backI F hS (r_runV (k := 191) (N := 68) (T := T1) (As := []) F hS (show 191 < 231 by decide) (show shK 191 = 5 from rfl) rfl (c_MO_knownMany l F.2.2.1 M1 _ hq19.symm) gs_MO_501 hd_MO_knownMany ⟨Nat.le_of_ble_eq_true rfl, Nat.le_of_ble_eq_true rfl⟩ rfl hl.1 (Nat.le_of_ble_eq_true rfl) ⟨Nat.zero_le _, Nat.zero_le _⟩ rfl d_MO_count_133) (fun H locs hS h20 => ?_)
                    cases hT
                    exact r_iret F hlk hr rfl hS h20 d_MO_count_136
                  ·
                    rcases q_ite hT with ⟨c21, hT⟩ | ⟨c21, hT⟩
                    · refine r_tableIn (i := 9) (tgt := 137) F.hx F.hb hx1 c21 d_MO_count_8 (by decide) (by decide) rfl (by decide) ?_
                      refine lv_aload_n F.hx F.hb d_MO_count_137 rfl (lv_at hl 1 rfl) ?_
                      refine r_get (v := vI (M1.1 191 43)) (N := 68) (T := T1) (j := 43) F hS (show 191 < 231 by decide) (show shK 191 = 5 from rfl) (show shN 191 = 68 from rfl) rfl (Nat.le_of_ble_eq_true rfl) ing1 mw_1432 (fv_int rfl) d_MO_count_138 ?_
                      have i22 := hS.rng 191 43
                      cases hT
                      exact r_iret F hlk hr rfl hS i22 d_MO_count_141
                    ·
                      rcases q_ite hT with ⟨c23, hT⟩ | ⟨c23, hT⟩
                      · refine r_tableIn (i := 10) (tgt := 142) F.hx F.hb hx1 c23 d_MO_count_8 (by decide) (by decide) rfl (by decide) ?_
                        refine lv_aload_n F.hx F.hb d_MO_count_142 rfl (lv_at hl 1 rfl) ?_
                        refine r_get (v := .ref (b + 211)) (N := 68) (T := T1) (j := 34) F hS (show 191 < 231 by decide) (show shK 191 = 5 from rfl) (show shN 191 = 68 from rfl) rfl (Nat.le_of_ble_eq_true rfl) ing1 mw_1423 (fv_sg rfl rfl rfl) d_MO_count_143 ?_
                        refine r_iconst F.hx F.hb d_MO_count_146 ?_
                        refine r_lald F hS (show 211 < 231 by decide) (show shK 211 = 2 from rfl) (show shN 211 = 23 from rfl) (inr_c rfl) (by omega) (by omega) d_MO_count_147 ?_
                        obtain ⟨q24, hq24, hT⟩ := q_obind hT
                        refine r_backI F hS (r_runS (As := [.long (M1.2 211 0)]) F hS (c_MO_bitsOf l F.2.2.1 M1 (M1.2 211 0) _ hq24) gs_MO_452 hd_MO_bitsOf ⟨Nat.le_of_ble_eq_true rfl, Nat.le_of_ble_eq_true rfl⟩ rfl hl.1 (Nat.le_of_ble_eq_true rfl) ⟨Nat.zero_le _, Nat.zero_le _⟩ rfl d_MO_count_148) (fun H locs hS h25 => ?_)
                        cases hT
                        exact r_iret F hlk hr rfl hS h25 d_MO_count_151
                      ·
                        rcases q_ite hT with ⟨c26, hT⟩ | ⟨c26, hT⟩
                        · refine r_tableIn (i := 11) (tgt := 152) F.hx F.hb hx1 c26 d_MO_count_8 (by decide) (by decide) rfl (by decide) ?_
                          refine lv_aload_n F.hx F.hb d_MO_count_152 rfl (lv_at hl 1 rfl) ?_
                          refine r_get (v := .ref (b + 210)) (N := 68) (T := T1) (j := 33) F hS (show 191 < 231 by decide) (show shK 191 = 5 from rfl) (show shN 191 = 68 from rfl) rfl (Nat.le_of_ble_eq_true rfl) ing1 mw_1422 (fv_sg rfl rfl rfl) d_MO_count_153 ?_
                          refine r_iconst F.hx F.hb d_MO_count_156 ?_
                          refine r_lald F hS (show 210 < 231 by decide) (show shK 210 = 2 from rfl) (show shN 210 = 23 from rfl) (inr_c rfl) (by omega) (by omega) d_MO_count_157 ?_
                          obtain ⟨q27, hq27, hT⟩ := q_obind hT
                          refine r_backI F hS (r_runS (As := [.long (M1.2 210 0)]) F hS (c_MO_bitsOf l F.2.2.1 M1 (M1.2 210 0) _ hq27) gs_MO_452 hd_MO_bitsOf ⟨Nat.le_of_ble_eq_true rfl, Nat.le_of_ble_eq_true rfl⟩ rfl hl.1 (Nat.le_of_ble_eq_true rfl) ⟨Nat.zero_le _, Nat.zero_le _⟩ rfl d_MO_count_158) (fun H locs hS h28 => ?_)
                          cases hT
                          exact r_iret F hlk hr rfl hS h28 d_MO_count_161
                        ·
                          rcases q_ite hT with ⟨c29, hT⟩ | ⟨c29, hT⟩
                          · refine r_tableIn (i := 12) (tgt := 162) F.hx F.hb hx1 c29 d_MO_count_8 (by decide) (by decide) rfl (by decide) ?_
                            refine r_iconst F.hx F.hb d_MO_count_162 ?_
                            refine lv_istore_n (lv' := [(3, vI 0), (2, vI 0), (0, .ref (b + 191)), (1, vI x1)]) F.hx F.hb d_MO_count_163 rfl hl (Nat.le_of_ble_eq_true rfl) rfl (fun ls hl => ?_)
                            exact k_MO_count_L164 l hlo x1 hx1 F hlk hr FU M1 0 (inr_c rfl) 0 (inr_c rfl) _ _ _ hS (lv_sub hl [2, 1, 0] rfl) hT
                          ·
                            refine r_tableOut (tgt := 206) F.hx F.hb hx1 (by omega) d_MO_count_8 (by decide) ?_
                            refine r_iconst F.hx F.hb d_MO_count_206 ?_
                            cases hT
                            exact r_iret F hlk hr rfl hS (inr_c rfl) d_MO_count_207
end
