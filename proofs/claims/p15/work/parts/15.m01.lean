theorem d_Tokens_wordOf_0 : decode b_Tokens_wordOf 0 = .ok (.iconst 0, 1) := dc_3 (by decide +kernel)
theorem d_Tokens_wordOf_1 : decode b_Tokens_wordOf 1 = .ok (.istore_n 3, 1) := dc_62 (by decide +kernel)
theorem d_Tokens_wordOf_2 : decode b_Tokens_wordOf 2 = .ok (.iconst 0, 1) := dc_3 (by decide +kernel)
theorem d_Tokens_wordOf_3 : decode b_Tokens_wordOf 3 = .ok (.istore 4, 2) := dc_54 (by decide +kernel)
theorem d_Tokens_wordOf_5 : decode b_Tokens_wordOf 5 = .ok (.iconst 0, 1) := dc_3 (by decide +kernel)
theorem d_Tokens_wordOf_6 : decode b_Tokens_wordOf 6 = .ok (.istore 5, 2) := dc_54 (by decide +kernel)
theorem d_Tokens_wordOf_8 : decode b_Tokens_wordOf 8 = .ok (.iload 5, 2) := dc_21 (by decide +kernel)
theorem d_Tokens_wordOf_10 : decode b_Tokens_wordOf 10 = .ok (.ldc 69, 2) := dc_18 (by decide +kernel)
theorem d_Tokens_wordOf_12 : decode b_Tokens_wordOf 12 = .ok (.invokevirtual 71, 3) := dc_182 (by decide +kernel)
theorem d_Tokens_wordOf_15 : decode b_Tokens_wordOf 15 = .ok (.if_icmp .ge 52, 3) := dc_162 (by decide +kernel)
theorem d_Tokens_wordOf_18 : decode b_Tokens_wordOf 18 = .ok (.ldc 69, 2) := dc_18 (by decide +kernel)
theorem d_Tokens_wordOf_20 : decode b_Tokens_wordOf 20 = .ok (.iload 5, 2) := dc_21 (by decide +kernel)
theorem d_Tokens_wordOf_22 : decode b_Tokens_wordOf 22 = .ok (.invokevirtual 77, 3) := dc_182 (by decide +kernel)
theorem d_Tokens_wordOf_25 : decode b_Tokens_wordOf 25 = .ok (.bipush 32, 2) := dc_16 (by decide +kernel)
theorem d_Tokens_wordOf_27 : decode b_Tokens_wordOf 27 = .ok (.if_icmp .ne 34, 3) := dc_160 (by decide +kernel)
theorem d_Tokens_wordOf_30 : decode b_Tokens_wordOf 30 = .ok (.iload 5, 2) := dc_21 (by decide +kernel)
theorem d_Tokens_wordOf_32 : decode b_Tokens_wordOf 32 = .ok (.iload 4, 2) := dc_21 (by decide +kernel)
theorem d_Tokens_wordOf_34 : decode b_Tokens_wordOf 34 = .ok (.isub, 1) := dc_100 (by decide +kernel)
theorem d_Tokens_wordOf_35 : decode b_Tokens_wordOf 35 = .ok (.iload_n 2, 1) := dc_28 (by decide +kernel)
theorem d_Tokens_wordOf_36 : decode b_Tokens_wordOf 36 = .ok (.if_icmp .ne 16, 3) := dc_160 (by decide +kernel)
theorem d_Tokens_wordOf_39 : decode b_Tokens_wordOf 39 = .ok (.iload 4, 2) := dc_21 (by decide +kernel)
theorem d_Tokens_wordOf_41 : decode b_Tokens_wordOf 41 = .ok (.aload_n 0, 1) := dc_42 (by decide +kernel)
theorem d_Tokens_wordOf_42 : decode b_Tokens_wordOf 42 = .ok (.iload_n 1, 1) := dc_27 (by decide +kernel)
theorem d_Tokens_wordOf_43 : decode b_Tokens_wordOf 43 = .ok (.iload_n 2, 1) := dc_28 (by decide +kernel)
theorem d_Tokens_wordOf_44 : decode b_Tokens_wordOf 44 = .ok (.invokestatic 81, 3) := dc_184 (by decide +kernel)
theorem d_Tokens_wordOf_47 : decode b_Tokens_wordOf 47 = .ok (.ifCond .eq 5, 3) := dc_153 (by decide +kernel)
theorem d_Tokens_wordOf_50 : decode b_Tokens_wordOf 50 = .ok (.iload_n 3, 1) := dc_29 (by decide +kernel)
theorem d_Tokens_wordOf_51 : decode b_Tokens_wordOf 51 = .ok (.ireturn, 1) := dc_172 (by decide +kernel)
theorem d_Tokens_wordOf_52 : decode b_Tokens_wordOf 52 = .ok (.iinc 3 1, 3) := dc_132 (by decide +kernel)
theorem d_Tokens_wordOf_55 : decode b_Tokens_wordOf 55 = .ok (.iload 5, 2) := dc_21 (by decide +kernel)
theorem d_Tokens_wordOf_57 : decode b_Tokens_wordOf 57 = .ok (.iconst 1, 1) := dc_4 (by decide +kernel)
theorem d_Tokens_wordOf_58 : decode b_Tokens_wordOf 58 = .ok (.iadd, 1) := dc_96 (by decide +kernel)
theorem d_Tokens_wordOf_59 : decode b_Tokens_wordOf 59 = .ok (.istore 4, 2) := dc_54 (by decide +kernel)
theorem d_Tokens_wordOf_61 : decode b_Tokens_wordOf 61 = .ok (.iinc 5 1, 3) := dc_132 (by decide +kernel)
theorem d_Tokens_wordOf_64 : decode b_Tokens_wordOf 64 = .ok (.goto (-56), 3) := dc_167 (by decide +kernel)
theorem d_Tokens_wordOf_67 : decode b_Tokens_wordOf 67 = .ok (.iconst (-1), 1) := dc_2 (by decide +kernel)
theorem d_Tokens_wordOf_68 : decode b_Tokens_wordOf 68 = .ok (.ireturn, 1) := dc_172 (by decide +kernel)
def t_Tokens_wordOf_L61 (r1 : Nat) (N1 : Nat) (x2 : Int) (x3 : Int) (bk8 : Mem → Int → Int → Int → Option (Int)) (M : Mem) (v3_ : Int) (v4_ : Int) (v5_ : Int) : Option (Int) := (bk8 M v3_ v4_ (w32 (v5_ + 1)))
def t_Tokens_wordOf_L52 (r1 : Nat) (N1 : Nat) (x2 : Int) (x3 : Int) (bk8 : Mem → Int → Int → Int → Option (Int)) (M : Mem) (v3_ : Int) (v4_ : Int) : Option (Int) := (t_Tokens_wordOf_L61 r1 N1 x2 x3 bk8 M (w32 (v3_ + 1)) (w32 (v4_ + 1)) v4_)
def t_Tokens_wordOf_L8 (r1 : Nat) (N1 : Nat) (x2 : Int) (x3 : Int)  : Nat → Mem → Int → Int → Int → Option (Int)
  | 0, _, _, _, _ => none
  | fu + 1, M, v3_, v4_, v5_ => (if 126 ≤ v5_ then (some (-1)) else (qguard (0 ≤ v5_ ∧ v5_ < 126) (if (chW v5_) = 32 then (if (w32 (v5_ - v4_)) = x3 then (obind (t_Tokens_isWord M v4_ r1 N1 x2 x3) fun q7 => (if q7 = 0 then (t_Tokens_wordOf_L52 r1 N1 x2 x3 (fun a0_ a1_ a2_ a3_ => t_Tokens_wordOf_L8 r1 N1 x2 x3 fu a0_ a1_ a2_ a3_) M v3_ v5_) else (some v3_))) else (t_Tokens_wordOf_L52 r1 N1 x2 x3 (fun a0_ a1_ a2_ a3_ => t_Tokens_wordOf_L8 r1 N1 x2 x3 fu a0_ a1_ a2_ a3_) M v3_ v5_)) else (t_Tokens_wordOf_L61 r1 N1 x2 x3 (fun a0_ a1_ a2_ a3_ => t_Tokens_wordOf_L8 r1 N1 x2 x3 fu a0_ a1_ a2_ a3_) M v3_ v4_ v5_))))
def t_Tokens_wordOf (M : Mem) (r1 : Nat) (N1 : Nat) (x2 : Int) (x3 : Int) : Option (Int) := (t_Tokens_wordOf_L8 r1 N1 x2 x3 FU M 0 0 0)
set_option maxHeartbeats 4000000 in
set_option maxRecDepth 100000 in
theorem k_Tokens_wordOf_L61 (l : Launch) {p : Program} {e : Env} {s : State} {m : MethodId} {below : List Frame} {meth : Method} {c : Code} {b n : Nat} {C : CT} (hlo : 191 ≤ n) (r1 : Nat) (N1 : Nat) (x2 : Int) (x3 : Int) (hr1 : arrP 0 r1 N1 191) (hx2 : InR x2) (hx3 : InR x3) (F : Cx b p m c b_Tokens_wordOf 6 s ([.ref (b + r1), vI x2, vI x3] : List Value).toArray "WardFalls$Tokens" C n 191) (hlk : meth.locks = false) (hr : meth.sig.returnType = some .int) {res : Int} (bk8 : Mem → Int → Int → Int → Option (Int)) (hbk8 : ∀ (M : Mem) (v3_ : Int) (hv3_ : InR v3_) (v4_ : Int) (hv4_ : InR v4_) (v5_ : Int) (hv5_ : InR v5_) (H : Heap) (locs : List Loc) (ls : Array Slot), St b C n M s H locs → lv_has ls 6 [(0, .ref (b + r1)), (1, vI x2), (2, vI x3), (3, vI v3_), (4, vI v4_), (5, vI v5_)] → bk8 M v3_ v4_ v5_ = some res → W p l e (headSpec (wsM y_Tokens_wordOf b_Tokens_wordOf 6 (some .int)) (rmD 5)).room s m ([.ref (b + r1), vI x2, vI x3] : List Value).toArray below meth c H locs 0 0 (MQ below (QI b C n M res) ([.ref (b + r1), vI x2, vI x3] : List Value).toArray s 0 0 (frb b)) (F0 m 8 ls [])) (M : Mem) (v3_ : Int) (hv3_ : InR v3_) (v4_ : Int) (hv4_ : InR v4_) (v5_ : Int) (hv5_ : InR v5_) (H : Heap) (locs : List Loc) (ls : Array Slot) (hS : St b C n M s H locs) (hl : lv_has ls 6 [(0, .ref (b + r1)), (1, vI x2), (2, vI x3), (3, vI v3_), (4, vI v4_), (5, vI v5_)]) (hT : t_Tokens_wordOf_L61 r1 N1 x2 x3 bk8 M v3_ v4_ v5_ = some res) : W p l e (headSpec (wsM y_Tokens_wordOf b_Tokens_wordOf 6 (some .int)) (rmD 5)).room s m ([.ref (b + r1), vI x2, vI x3] : List Value).toArray below meth c H locs 0 0 (MQ below (QI b C n M res) ([.ref (b + r1), vI x2, vI x3] : List Value).toArray s 0 0 (frb b)) (F0 m 61 ls []) := by
  unfold t_Tokens_wordOf_L61 at hT
  refine lv_iinc (v := Int32.ofInt (w32 (v5_ + 1))) (lv' := [(5, vI (w32 (v5_ + 1))), (0, .ref (b + r1)), (1, vI x2), (2, vI x3), (3, vI v3_), (4, vI v4_)]) F.hx F.hb d_Tokens_wordOf_61 hl (k := 5) rfl (q_of_add _ _) (Nat.le_of_ble_eq_true rfl) rfl (fun ls hl => ?_)
  refine lv_goto (tgt := 8) F.hx F.hb d_Tokens_wordOf_64 (by decide) ?_
  exact hbk8 M v3_ hv3_ v4_ hv4_ (w32 (v5_ + 1)) (inr_w32 _) _ _ _ hS (lv_sub hl [1, 2, 3, 4, 5, 0] rfl) hT
set_option maxHeartbeats 4000000 in
set_option maxRecDepth 100000 in
theorem k_Tokens_wordOf_L52 (l : Launch) {p : Program} {e : Env} {s : State} {m : MethodId} {below : List Frame} {meth : Method} {c : Code} {b n : Nat} {C : CT} (hlo : 191 ≤ n) (r1 : Nat) (N1 : Nat) (x2 : Int) (x3 : Int) (hr1 : arrP 0 r1 N1 191) (hx2 : InR x2) (hx3 : InR x3) (F : Cx b p m c b_Tokens_wordOf 6 s ([.ref (b + r1), vI x2, vI x3] : List Value).toArray "WardFalls$Tokens" C n 191) (hlk : meth.locks = false) (hr : meth.sig.returnType = some .int) {res : Int} (bk8 : Mem → Int → Int → Int → Option (Int)) (hbk8 : ∀ (M : Mem) (v3_ : Int) (hv3_ : InR v3_) (v4_ : Int) (hv4_ : InR v4_) (v5_ : Int) (hv5_ : InR v5_) (H : Heap) (locs : List Loc) (ls : Array Slot), St b C n M s H locs → lv_has ls 6 [(0, .ref (b + r1)), (1, vI x2), (2, vI x3), (3, vI v3_), (4, vI v4_), (5, vI v5_)] → bk8 M v3_ v4_ v5_ = some res → W p l e (headSpec (wsM y_Tokens_wordOf b_Tokens_wordOf 6 (some .int)) (rmD 5)).room s m ([.ref (b + r1), vI x2, vI x3] : List Value).toArray below meth c H locs 0 0 (MQ below (QI b C n M res) ([.ref (b + r1), vI x2, vI x3] : List Value).toArray s 0 0 (frb b)) (F0 m 8 ls [])) (M : Mem) (v3_ : Int) (hv3_ : InR v3_) (v4_ : Int) (hv4_ : InR v4_) (H : Heap) (locs : List Loc) (ls : Array Slot) (hS : St b C n M s H locs) (hl : lv_has ls 6 [(0, .ref (b + r1)), (1, vI x2), (2, vI x3), (3, vI v3_), (5, vI v4_)]) (hT : t_Tokens_wordOf_L52 r1 N1 x2 x3 bk8 M v3_ v4_ = some res) : W p l e (headSpec (wsM y_Tokens_wordOf b_Tokens_wordOf 6 (some .int)) (rmD 5)).room s m ([.ref (b + r1), vI x2, vI x3] : List Value).toArray below meth c H locs 0 0 (MQ below (QI b C n M res) ([.ref (b + r1), vI x2, vI x3] : List Value).toArray s 0 0 (frb b)) (F0 m 52 ls []) := by
  unfold t_Tokens_wordOf_L52 at hT
  refine lv_iinc (v := Int32.ofInt (w32 (v3_ + 1))) (lv' := [(3, vI (w32 (v3_ + 1))), (0, .ref (b + r1)), (1, vI x2), (2, vI x3), (5, vI v4_)]) F.hx F.hb d_Tokens_wordOf_52 hl (k := 3) rfl (q_of_add _ _) (Nat.le_of_ble_eq_true rfl) rfl (fun ls hl => ?_)
  refine lv_iload F.hx F.hb d_Tokens_wordOf_55 (lv_at hl 4 rfl) ?_
  refine r_iconst F.hx F.hb d_Tokens_wordOf_57 ?_
  refine r_iadd F.hx F.hb d_Tokens_wordOf_58 ?_
  refine lv_istore (lv' := [(4, vI (w32 (v4_ + 1))), (3, vI (w32 (v3_ + 1))), (0, .ref (b + r1)), (1, vI x2), (2, vI x3), (5, vI v4_)]) F.hx F.hb d_Tokens_wordOf_59 hl (Nat.le_of_ble_eq_true rfl) rfl (fun ls hl => ?_)
  exact k_Tokens_wordOf_L61 l hlo r1 N1 x2 x3 hr1 hx2 hx3 F hlk hr bk8 hbk8 M (w32 (v3_ + 1)) (inr_w32 _) (w32 (v4_ + 1)) (inr_w32 _) v4_ hv4_ _ _ _ hS (lv_sub hl [2, 3, 4, 1, 0, 5] rfl) hT
set_option maxHeartbeats 4000000 in
set_option maxRecDepth 100000 in
theorem k_Tokens_wordOf_L8 (l : Launch) {p : Program} {e : Env} {s : State} {m : MethodId} {below : List Frame} {meth : Method} {c : Code} {b n : Nat} {C : CT} (hlo : 191 ≤ n) (r1 : Nat) (N1 : Nat) (x2 : Int) (x3 : Int) (hr1 : arrP 0 r1 N1 191) (hx2 : InR x2) (hx3 : InR x3) (F : Cx b p m c b_Tokens_wordOf 6 s ([.ref (b + r1), vI x2, vI x3] : List Value).toArray "WardFalls$Tokens" C n 191) (hlk : meth.locks = false) (hr : meth.sig.returnType = some .int) {res : Int} : ∀ (fu : Nat) (M : Mem) (v3_ : Int) (hv3_ : InR v3_) (v4_ : Int) (hv4_ : InR v4_) (v5_ : Int) (hv5_ : InR v5_) (H : Heap) (locs : List Loc) (ls : Array Slot), St b C n M s H locs → lv_has ls 6 [(0, .ref (b + r1)), (1, vI x2), (2, vI x3), (3, vI v3_), (4, vI v4_), (5, vI v5_)] → t_Tokens_wordOf_L8 r1 N1 x2 x3 fu M v3_ v4_ v5_ = some res → W p l e (headSpec (wsM y_Tokens_wordOf b_Tokens_wordOf 6 (some .int)) (rmD 5)).room s m ([.ref (b + r1), vI x2, vI x3] : List Value).toArray below meth c H locs 0 0 (MQ below (QI b C n M res) ([.ref (b + r1), vI x2, vI x3] : List Value).toArray s 0 0 (frb b)) (F0 m 8 ls []) := by
  intro fu
  induction fu with
  | zero => intro M v3_ hv3_ v4_ hv4_ v5_ hv5_ H locs ls hS hl hT; exact absurd hT (by simp [t_Tokens_wordOf_L8])
  | succ fu ih =>
    intro M v3_ hv3_ v4_ hv4_ v5_ hv5_ H locs ls hS hl hT
    rw [t_Tokens_wordOf_L8] at hT
    refine lv_iload F.hx F.hb d_Tokens_wordOf_8 (lv_at hl 5 rfl) ?_
    refine va_ldcS F.hx F.hb F.hown F.2.2.2.2.1.1 d_Tokens_wordOf_10 ?_
    refine r_backI F hS (r_runVT (As := []) F hS (isStr1 (C := C)) rfl (c_Str_length l _ (isStr1 (C := C))) gs_Tokens_71 hd_Str_length ⟨Nat.le_of_ble_eq_true rfl, Nat.le_of_ble_eq_true rfl⟩ rfl hl.1 (Nat.le_of_ble_eq_true rfl) ⟨Nat.zero_le _, Nat.zero_le _⟩ rfl d_Tokens_wordOf_12) (fun H locs hS h1 => ?_)
    refine r_icmp_ge (tgt := 67) F.hx F.hb hv5_ h1 d_Tokens_wordOf_15 (by decide) (fun c2 => ?_) (fun c2 => ?_)
    · replace hT := (if_pos c2).symm.trans hT
      refine r_iconst F.hx F.hb d_Tokens_wordOf_67 ?_
      cases hT
      exact r_iret F hlk hr rfl hS (inr_c rfl) d_Tokens_wordOf_68
    · replace hT := (if_neg c2).symm.trans hT
      refine va_ldcS F.hx F.hb F.hown F.2.2.2.2.1.1 d_Tokens_wordOf_18 ?_
      refine lv_iload F.hx F.hb d_Tokens_wordOf_20 (lv_at hl 5 rfl) ?_
      obtain ⟨⟨g3a, g3b⟩, hT⟩ := q_guard hT
      refine r_backI F hS (r_runVT (As := [vI v5_]) F hS (isStr1 (C := C)) rfl (c_Str_charAt l _ (isStr1 (C := C)) hv5_ g3a g3b) gs_Tokens_77 hd_Str_charAt ⟨Nat.le_of_ble_eq_true rfl, Nat.le_of_ble_eq_true rfl⟩ rfl hl.1 (Nat.le_of_ble_eq_true rfl) ⟨Nat.zero_le _, Nat.zero_le _⟩ rfl d_Tokens_wordOf_22) (fun H locs hS h4 => ?_)
      refine r_bipush F.hx F.hb d_Tokens_wordOf_25 rfl ?_
      refine r_icmp_ne (tgt := 61) F.hx F.hb h4 (inr_c rfl) d_Tokens_wordOf_27 (by decide) (fun c5 => ?_) (fun c5 => ?_)
      · replace hT := (if_neg c5).symm.trans hT
        exact k_Tokens_wordOf_L61 l hlo r1 N1 x2 x3 hr1 hx2 hx3 F hlk hr (fun a0_ a1_ a2_ a3_ => t_Tokens_wordOf_L8 r1 N1 x2 x3 fu a0_ a1_ a2_ a3_) ih M v3_ hv3_ v4_ hv4_ v5_ hv5_ _ _ _ hS (lv_sub hl [0, 1, 2, 3, 4, 5] rfl) hT
      · replace hT := (if_pos c5).symm.trans hT
        refine lv_iload F.hx F.hb d_Tokens_wordOf_30 (lv_at hl 5 rfl) ?_
        refine lv_iload F.hx F.hb d_Tokens_wordOf_32 (lv_at hl 4 rfl) ?_
        refine r_isub F.hx F.hb d_Tokens_wordOf_34 ?_
        refine lv_iload_n F.hx F.hb d_Tokens_wordOf_35 rfl (lv_at hl 2 rfl) ?_
        refine r_icmp_ne (tgt := 52) F.hx F.hb (inr_w32 _) hx3 d_Tokens_wordOf_36 (by decide) (fun c6 => ?_) (fun c6 => ?_)
        · replace hT := (if_neg c6).symm.trans hT
          exact k_Tokens_wordOf_L52 l hlo r1 N1 x2 x3 hr1 hx2 hx3 F hlk hr (fun a0_ a1_ a2_ a3_ => t_Tokens_wordOf_L8 r1 N1 x2 x3 fu a0_ a1_ a2_ a3_) ih M v3_ hv3_ v5_ hv5_ _ _ _ hS (lv_sub hl [0, 1, 2, 3, 5] rfl) hT
        · replace hT := (if_pos c6).symm.trans hT
          refine lv_iload F.hx F.hb d_Tokens_wordOf_39 (lv_at hl 4 rfl) ?_
          refine lv_aload_n F.hx F.hb d_Tokens_wordOf_41 rfl (lv_at hl 0 rfl) ?_
          refine lv_iload_n F.hx F.hb d_Tokens_wordOf_42 rfl (lv_at hl 1 rfl) ?_
          refine lv_iload_n F.hx F.hb d_Tokens_wordOf_43 rfl (lv_at hl 2 rfl) ?_
          obtain ⟨q7, hq7, hT⟩ := q_obind hT
          refine r_backZ F hS (r_runS (As := [vI v4_, .ref (b + r1), vI x2, vI x3]) F hS (c_Tokens_isWord l F.2.2.1 M v4_ r1 N1 x2 x3 hv4_ hr1 hx2 hx3 _ hq7) gs_Tokens_81 hd_Tokens_isWord ⟨Nat.le_of_ble_eq_true rfl, Nat.le_of_ble_eq_true rfl⟩ rfl hl.1 (Nat.le_of_ble_eq_true rfl) ⟨Nat.zero_le _, Nat.zero_le _⟩ rfl d_Tokens_wordOf_44) (fun H locs hS h8 => ?_)
          refine r_if_eq (tgt := 52) F.hx F.hb (inr_z h8) d_Tokens_wordOf_47 (by decide) (fun c9 => ?_) (fun c9 => ?_)
          · replace hT := (if_pos c9).symm.trans hT
            exact k_Tokens_wordOf_L52 l hlo r1 N1 x2 x3 hr1 hx2 hx3 F hlk hr (fun a0_ a1_ a2_ a3_ => t_Tokens_wordOf_L8 r1 N1 x2 x3 fu a0_ a1_ a2_ a3_) ih M v3_ hv3_ v5_ hv5_ _ _ _ hS (lv_sub hl [0, 1, 2, 3, 5] rfl) hT
          · replace hT := (if_neg c9).symm.trans hT
            refine lv_iload_n F.hx F.hb d_Tokens_wordOf_50 rfl (lv_at hl 3 rfl) ?_
            cases hT
            exact r_iret F hlk hr rfl hS hv3_ d_Tokens_wordOf_51
set_option maxHeartbeats 4000000 in
set_option maxRecDepth 100000 in
theorem c_Tokens_wordOf (l : Launch) {b n : Nat} {C : CT} (hlo : 191 ≤ n) (M : Mem) (r1 : Nat) (N1 : Nat) (x2 : Int) (x3 : Int) (hr1 : arrP 0 r1 N1 191) (hx2 : InR x2) (hx3 : InR x3) (res : Int) (hT : t_Tokens_wordOf M r1 N1 x2 x3 = some res) : CM l b C n 5 y_Tokens_wordOf b_Tokens_wordOf 6 (some .int) [.ref (b + r1), vI x2, vI x3] M (QI b C n M res) := by
  refine CM.of (lo := 191) (ow := "WardFalls$Tokens") (by decide) rfl (Nat.le_of_ble_eq_true rfl) hlo (fun p e s m below meth c F hlk hr hS ls hl => ?_)
  have hl : lv_has ls 6 [(0, .ref (b + r1)), (1, vI x2), (2, vI x3)] := hl
  unfold t_Tokens_wordOf at hT
  refine r_iconst F.hx F.hb d_Tokens_wordOf_0 ?_
  refine lv_istore_n (lv' := [(3, vI 0), (0, .ref (b + r1)), (1, vI x2), (2, vI x3)]) F.hx F.hb d_Tokens_wordOf_1 rfl hl (Nat.le_of_ble_eq_true rfl) rfl (fun ls hl => ?_)
  refine r_iconst F.hx F.hb d_Tokens_wordOf_2 ?_
  refine lv_istore (lv' := [(4, vI 0), (3, vI 0), (0, .ref (b + r1)), (1, vI x2), (2, vI x3)]) F.hx F.hb d_Tokens_wordOf_3 hl (Nat.le_of_ble_eq_true rfl) rfl (fun ls hl => ?_)
  refine r_iconst F.hx F.hb d_Tokens_wordOf_5 ?_
  refine lv_istore (lv' := [(5, vI 0), (4, vI 0), (3, vI 0), (0, .ref (b + r1)), (1, vI x2), (2, vI x3)]) F.hx F.hb d_Tokens_wordOf_6 hl (Nat.le_of_ble_eq_true rfl) rfl (fun ls hl => ?_)
  exact k_Tokens_wordOf_L8 l hlo r1 N1 x2 x3 hr1 hx2 hx3 F hlk hr FU M 0 (inr_c rfl) 0 (inr_c rfl) 0 (inr_c rfl) _ _ _ hS (lv_sub hl [3, 4, 5, 2, 1, 0] rfl) hT
theorem d_Tokens_add_0 : decode b_Tokens_add 0 = .ok (.aload_n 0, 1) := dc_42 (by decide +kernel)
theorem d_Tokens_add_1 : decode b_Tokens_add 1 = .ok (.getfield 9, 3) := dc_180 (by decide +kernel)
theorem d_Tokens_add_4 : decode b_Tokens_add 4 = .ok (.aload_n 0, 1) := dc_42 (by decide +kernel)
theorem d_Tokens_add_5 : decode b_Tokens_add 5 = .ok (.getfield 21, 3) := dc_180 (by decide +kernel)
theorem d_Tokens_add_8 : decode b_Tokens_add 8 = .ok (.iload_n 1, 1) := dc_27 (by decide +kernel)
theorem d_Tokens_add_9 : decode b_Tokens_add 9 = .ok (.invokestatic 51, 3) := dc_184 (by decide +kernel)
theorem d_Tokens_add_12 : decode b_Tokens_add 12 = .ok (.aload_n 0, 1) := dc_42 (by decide +kernel)
theorem d_Tokens_add_13 : decode b_Tokens_add 13 = .ok (.getfield 15, 3) := dc_180 (by decide +kernel)
theorem d_Tokens_add_16 : decode b_Tokens_add 16 = .ok (.aload_n 0, 1) := dc_42 (by decide +kernel)
theorem d_Tokens_add_17 : decode b_Tokens_add 17 = .ok (.getfield 21, 3) := dc_180 (by decide +kernel)
theorem d_Tokens_add_20 : decode b_Tokens_add 20 = .ok (.iload_n 2, 1) := dc_28 (by decide +kernel)
theorem d_Tokens_add_21 : decode b_Tokens_add 21 = .ok (.invokestatic 51, 3) := dc_184 (by decide +kernel)
theorem d_Tokens_add_24 : decode b_Tokens_add 24 = .ok (.aload_n 0, 1) := dc_42 (by decide +kernel)
theorem d_Tokens_add_25 : decode b_Tokens_add 25 = .ok (.getfield 18, 3) := dc_180 (by decide +kernel)
theorem d_Tokens_add_28 : decode b_Tokens_add 28 = .ok (.aload_n 0, 1) := dc_42 (by decide +kernel)
theorem d_Tokens_add_29 : decode b_Tokens_add 29 = .ok (.getfield 21, 3) := dc_180 (by decide +kernel)
theorem d_Tokens_add_32 : decode b_Tokens_add 32 = .ok (.iload_n 3, 1) := dc_29 (by decide +kernel)
theorem d_Tokens_add_33 : decode b_Tokens_add 33 = .ok (.invokestatic 51, 3) := dc_184 (by decide +kernel)
theorem d_Tokens_add_36 : decode b_Tokens_add 36 = .ok (.aload_n 0, 1) := dc_42 (by decide +kernel)
theorem d_Tokens_add_37 : decode b_Tokens_add 37 = .ok (.dup, 1) := dc_89 (by decide +kernel)
theorem d_Tokens_add_38 : decode b_Tokens_add 38 = .ok (.getfield 21, 3) := dc_180 (by decide +kernel)
theorem d_Tokens_add_41 : decode b_Tokens_add 41 = .ok (.iconst 1, 1) := dc_4 (by decide +kernel)
theorem d_Tokens_add_42 : decode b_Tokens_add 42 = .ok (.iadd, 1) := dc_96 (by decide +kernel)
theorem d_Tokens_add_43 : decode b_Tokens_add 43 = .ok (.putfield 21, 3) := dc_181 (by decide +kernel)
theorem d_Tokens_add_46 : decode b_Tokens_add 46 = .ok (.return_, 1) := dc_177 (by decide +kernel)
def t_Tokens_add (M : Mem) (x1 : Int) (x2 : Int) (x3 : Int) : Mem := (qlet (t_WF_put M 43 701 (M.1 42 3) x1) fun q2 => (qlet (t_WF_put q2 44 701 (q2.1 42 3) x2) fun q5 => (qlet (t_WF_put q5 45 701 (q5.1 42 3) x3) fun q8 => (qlet (setI q8 42 3 (w32 ((q8.1 42 3) + 1))) fun M11 => M11))))
set_option maxHeartbeats 4000000 in
set_option maxRecDepth 100000 in
theorem c_Tokens_add (l : Launch) {b n : Nat} {C : CT} (hlo : 191 ≤ n) (M : Mem) (x1 : Int) (x2 : Int) (x3 : Int) (hx1 : InR x1) (hx2 : InR x2) (hx3 : InR x3) (res : Mem) (hT : t_Tokens_add M x1 x2 x3 = res) : CM l b C n 1 y_Tokens_add b_Tokens_add 4 (none) [.ref (b + 42), vI x1, vI x2, vI x3] M (QV b C n res) := by
  refine CM.of (lo := 191) (ow := "WardFalls$Tokens") (by decide) rfl (Nat.le_of_ble_eq_true rfl) hlo (fun p e s m below meth c F hlk hr hS ls hl => ?_)
  have hl : lv_has ls 4 [(0, .ref (b + 42)), (1, vI x1), (2, vI x2), (3, vI x3)] := hl
  unfold t_Tokens_add at hT
  refine lv_aload_n F.hx F.hb d_Tokens_add_0 rfl (lv_at hl 0 rfl) ?_
  refine r_get (v := .ref (b + 43)) (N := 4) (T := T10) (j := 0) F hS (show 42 < 191 by decide) (show shK 42 = 14 from rfl) (show shN 42 = 4 from rfl) rfl (Nat.le_of_ble_eq_true rfl) ing10 mw_206 (fv_sg rfl rfl rfl) d_Tokens_add_1 ?_
  refine lv_aload_n F.hx F.hb d_Tokens_add_4 rfl (lv_at hl 0 rfl) ?_
  refine r_get (v := vI (M.1 42 3)) (N := 4) (T := T10) (j := 3) F hS (show 42 < 191 by decide) (show shK 42 = 14 from rfl) (show shN 42 = 4 from rfl) rfl (Nat.le_of_ble_eq_true rfl) ing10 mw_214 (fv_int rfl) d_Tokens_add_5 ?_
  have i1 := hS.rng 42 3
  refine lv_iload_n F.hx F.hb d_Tokens_add_8 rfl (lv_at hl 1 rfl) ?_
  obtain ⟨q2, hq2⟩ : ∃ q, q = (t_WF_put M 43 701 (M.1 42 3) x1) := ⟨_, rfl⟩
  replace hT := qlet_eq hT hq2
  refine r_backV F hS (r_runSN (As := [.ref (b + 43), vI (M.1 42 3), vI x1]) F hS (c_WF_put l F.2.2.1 M 43 701 (M.1 42 3) x1 (show arrP 0 43 701 191 from ⟨rfl, rfl, by decide⟩) i1 hx1 _ hq2.symm) mw_512 mw_511 mw_1 gs_Tokens_51 hd_WF_put ⟨Nat.le_of_ble_eq_true rfl, Nat.le_of_ble_eq_true rfl⟩ rfl hl.1 (Nat.le_of_ble_eq_true rfl) ⟨Nat.zero_le _, Nat.zero_le _⟩ rfl d_Tokens_add_9) (fun H locs hS => ?_)
  refine lv_aload_n F.hx F.hb d_Tokens_add_12 rfl (lv_at hl 0 rfl) ?_
  refine r_get (v := .ref (b + 44)) (N := 4) (T := T10) (j := 1) F hS (show 42 < 191 by decide) (show shK 42 = 14 from rfl) (show shN 42 = 4 from rfl) rfl (Nat.le_of_ble_eq_true rfl) ing10 mw_209 (fv_sg rfl rfl rfl) d_Tokens_add_13 ?_
  refine lv_aload_n F.hx F.hb d_Tokens_add_16 rfl (lv_at hl 0 rfl) ?_
  refine r_get (v := vI (q2.1 42 3)) (N := 4) (T := T10) (j := 3) F hS (show 42 < 191 by decide) (show shK 42 = 14 from rfl) (show shN 42 = 4 from rfl) rfl (Nat.le_of_ble_eq_true rfl) ing10 mw_214 (fv_int rfl) d_Tokens_add_17 ?_
  have i4 := hS.rng 42 3
  refine lv_iload_n F.hx F.hb d_Tokens_add_20 rfl (lv_at hl 2 rfl) ?_
  obtain ⟨q5, hq5⟩ : ∃ q, q = (t_WF_put q2 44 701 (q2.1 42 3) x2) := ⟨_, rfl⟩
  replace hT := qlet_eq hT hq5
  refine r_backV F hS (r_runSN (As := [.ref (b + 44), vI (q2.1 42 3), vI x2]) F hS (c_WF_put l F.2.2.1 q2 44 701 (q2.1 42 3) x2 (show arrP 0 44 701 191 from ⟨rfl, rfl, by decide⟩) i4 hx2 _ hq5.symm) mw_512 mw_511 mw_1 gs_Tokens_51 hd_WF_put ⟨Nat.le_of_ble_eq_true rfl, Nat.le_of_ble_eq_true rfl⟩ rfl hl.1 (Nat.le_of_ble_eq_true rfl) ⟨Nat.zero_le _, Nat.zero_le _⟩ rfl d_Tokens_add_21) (fun H locs hS => ?_)
  refine lv_aload_n F.hx F.hb d_Tokens_add_24 rfl (lv_at hl 0 rfl) ?_
  refine r_get (v := .ref (b + 45)) (N := 4) (T := T10) (j := 2) F hS (show 42 < 191 by decide) (show shK 42 = 14 from rfl) (show shN 42 = 4 from rfl) rfl (Nat.le_of_ble_eq_true rfl) ing10 mw_212 (fv_sg rfl rfl rfl) d_Tokens_add_25 ?_
  refine lv_aload_n F.hx F.hb d_Tokens_add_28 rfl (lv_at hl 0 rfl) ?_
  refine r_get (v := vI (q5.1 42 3)) (N := 4) (T := T10) (j := 3) F hS (show 42 < 191 by decide) (show shK 42 = 14 from rfl) (show shN 42 = 4 from rfl) rfl (Nat.le_of_ble_eq_true rfl) ing10 mw_214 (fv_int rfl) d_Tokens_add_29 ?_
  have i7 := hS.rng 42 3
  refine lv_iload_n F.hx F.hb d_Tokens_add_32 rfl (lv_at hl 3 rfl) ?_
  obtain ⟨q8, hq8⟩ : ∃ q, q = (t_WF_put q5 45 701 (q5.1 42 3) x3) := ⟨_, rfl⟩
  replace hT := qlet_eq hT hq8
  refine r_backV F hS (r_runSN (As := [.ref (b + 45), vI (q5.1 42 3), vI x3]) F hS (c_WF_put l F.2.2.1 q5 45 701 (q5.1 42 3) x3 (show arrP 0 45 701 191 from ⟨rfl, rfl, by decide⟩) i7 hx3 _ hq8.symm) mw_512 mw_511 mw_1 gs_Tokens_51 hd_WF_put ⟨Nat.le_of_ble_eq_true rfl, Nat.le_of_ble_eq_true rfl⟩ rfl hl.1 (Nat.le_of_ble_eq_true rfl) ⟨Nat.zero_le _, Nat.zero_le _⟩ rfl d_Tokens_add_33) (fun H locs hS => ?_)
  refine lv_aload_n F.hx F.hb d_Tokens_add_36 rfl (lv_at hl 0 rfl) ?_
  refine lv_dup F.hx F.hb d_Tokens_add_37 rfl ?_
  refine r_get (v := vI (q8.1 42 3)) (N := 4) (T := T10) (j := 3) F hS (show 42 < 191 by decide) (show shK 42 = 14 from rfl) (show shN 42 = 4 from rfl) rfl (Nat.le_of_ble_eq_true rfl) ing10 mw_214 (fv_int rfl) d_Tokens_add_38 ?_
  have i10 := hS.rng 42 3
  refine r_iconst F.hx F.hb d_Tokens_add_41 ?_
  refine r_iadd F.hx F.hb d_Tokens_add_42 ?_
  refine r_putI (N := 4) (T := T10) (j := 3) F hS (show 42 < 191 by decide) (show shK 42 = 14 from rfl) (show shN 42 = 4 from rfl) rfl (Nat.le_of_ble_eq_true rfl) ing10 tyok10 nm10 rfl rfl rfl rfl rfl rfl mw_214 (inr_w32 _) d_Tokens_add_43 (fun H locs hS => ?_)
  obtain ⟨M11, eM11⟩ : ∃ q, q = (setI q8 42 3 (w32 ((q8.1 42 3) + 1))) := ⟨_, rfl⟩
  replace hS : St b C n M11 s H locs := by rw [eM11]; exact hS
  replace hT := qlet_eq hT eM11
  subst hT
  exact r_vret F hlk hr hS d_Tokens_add_46
theorem d_Tokens_scanWord_0 : decode b_Tokens_scanWord 0 = .ok (.iconst 0, 1) := dc_3 (by decide +kernel)
theorem d_Tokens_scanWord_1 : decode b_Tokens_scanWord 1 = .ok (.istore 4, 2) := dc_54 (by decide +kernel)
theorem d_Tokens_scanWord_3 : decode b_Tokens_scanWord 3 = .ok (.iload_n 2, 1) := dc_28 (by decide +kernel)
theorem d_Tokens_scanWord_4 : decode b_Tokens_scanWord 4 = .ok (.istore 5, 2) := dc_54 (by decide +kernel)
theorem d_Tokens_scanWord_6 : decode b_Tokens_scanWord 6 = .ok (.iload 5, 2) := dc_21 (by decide +kernel)
theorem d_Tokens_scanWord_8 : decode b_Tokens_scanWord 8 = .ok (.iload_n 3, 1) := dc_29 (by decide +kernel)
theorem d_Tokens_scanWord_9 : decode b_Tokens_scanWord 9 = .ok (.if_icmp .ge 55, 3) := dc_162 (by decide +kernel)
theorem d_Tokens_scanWord_12 : decode b_Tokens_scanWord 12 = .ok (.aload_n 1, 1) := dc_43 (by decide +kernel)
theorem d_Tokens_scanWord_13 : decode b_Tokens_scanWord 13 = .ok (.iload 5, 2) := dc_21 (by decide +kernel)
theorem d_Tokens_scanWord_15 : decode b_Tokens_scanWord 15 = .ok (.invokestatic 25, 3) := dc_184 (by decide +kernel)
theorem d_Tokens_scanWord_18 : decode b_Tokens_scanWord 18 = .ok (.invokestatic 29, 3) := dc_184 (by decide +kernel)
theorem d_Tokens_scanWord_21 : decode b_Tokens_scanWord 21 = .ok (.ifCond .eq 43, 3) := dc_153 (by decide +kernel)
theorem d_Tokens_scanWord_24 : decode b_Tokens_scanWord 24 = .ok (.iload 5, 2) := dc_21 (by decide +kernel)
theorem d_Tokens_scanWord_26 : decode b_Tokens_scanWord 26 = .ok (.iload_n 2, 1) := dc_28 (by decide +kernel)
theorem d_Tokens_scanWord_27 : decode b_Tokens_scanWord 27 = .ok (.isub, 1) := dc_100 (by decide +kernel)
theorem d_Tokens_scanWord_28 : decode b_Tokens_scanWord 28 = .ok (.bipush 6, 2) := dc_16 (by decide +kernel)
theorem d_Tokens_scanWord_30 : decode b_Tokens_scanWord 30 = .ok (.if_icmp .ge 28, 3) := dc_162 (by decide +kernel)
theorem d_Tokens_scanWord_33 : decode b_Tokens_scanWord 33 = .ok (.iload 4, 2) := dc_21 (by decide +kernel)
theorem d_Tokens_scanWord_35 : decode b_Tokens_scanWord 35 = .ok (.aload_n 1, 1) := dc_43 (by decide +kernel)
theorem d_Tokens_scanWord_36 : decode b_Tokens_scanWord 36 = .ok (.iload 5, 2) := dc_21 (by decide +kernel)
theorem d_Tokens_scanWord_38 : decode b_Tokens_scanWord 38 = .ok (.invokestatic 25, 3) := dc_184 (by decide +kernel)
theorem d_Tokens_scanWord_41 : decode b_Tokens_scanWord 41 = .ok (.bipush 97, 2) := dc_16 (by decide +kernel)
theorem d_Tokens_scanWord_43 : decode b_Tokens_scanWord 43 = .ok (.isub, 1) := dc_100 (by decide +kernel)
theorem d_Tokens_scanWord_44 : decode b_Tokens_scanWord 44 = .ok (.iconst 1, 1) := dc_4 (by decide +kernel)
theorem d_Tokens_scanWord_45 : decode b_Tokens_scanWord 45 = .ok (.iadd, 1) := dc_96 (by decide +kernel)
theorem d_Tokens_scanWord_46 : decode b_Tokens_scanWord 46 = .ok (.iconst 5, 1) := dc_8 (by decide +kernel)
theorem d_Tokens_scanWord_47 : decode b_Tokens_scanWord 47 = .ok (.iconst 5, 1) := dc_8 (by decide +kernel)
theorem d_Tokens_scanWord_48 : decode b_Tokens_scanWord 48 = .ok (.iload 5, 2) := dc_21 (by decide +kernel)
theorem d_Tokens_scanWord_50 : decode b_Tokens_scanWord 50 = .ok (.iload_n 2, 1) := dc_28 (by decide +kernel)
theorem d_Tokens_scanWord_51 : decode b_Tokens_scanWord 51 = .ok (.isub, 1) := dc_100 (by decide +kernel)
theorem d_Tokens_scanWord_52 : decode b_Tokens_scanWord 52 = .ok (.isub, 1) := dc_100 (by decide +kernel)
theorem d_Tokens_scanWord_53 : decode b_Tokens_scanWord 53 = .ok (.imul, 1) := dc_104 (by decide +kernel)
theorem d_Tokens_scanWord_54 : decode b_Tokens_scanWord 54 = .ok (.ishl, 1) := dc_120 (by decide +kernel)
theorem d_Tokens_scanWord_55 : decode b_Tokens_scanWord 55 = .ok (.ior, 1) := dc_128 (by decide +kernel)
theorem d_Tokens_scanWord_56 : decode b_Tokens_scanWord 56 = .ok (.istore 4, 2) := dc_54 (by decide +kernel)
theorem d_Tokens_scanWord_58 : decode b_Tokens_scanWord 58 = .ok (.iinc 5 1, 3) := dc_132 (by decide +kernel)
theorem d_Tokens_scanWord_61 : decode b_Tokens_scanWord 61 = .ok (.goto (-55), 3) := dc_167 (by decide +kernel)
theorem d_Tokens_scanWord_64 : decode b_Tokens_scanWord 64 = .ok (.aload_n 1, 1) := dc_43 (by decide +kernel)
theorem d_Tokens_scanWord_65 : decode b_Tokens_scanWord 65 = .ok (.iload_n 2, 1) := dc_28 (by decide +kernel)
theorem d_Tokens_scanWord_66 : decode b_Tokens_scanWord 66 = .ok (.iload 5, 2) := dc_21 (by decide +kernel)
theorem d_Tokens_scanWord_68 : decode b_Tokens_scanWord 68 = .ok (.iload_n 2, 1) := dc_28 (by decide +kernel)
theorem d_Tokens_scanWord_69 : decode b_Tokens_scanWord 69 = .ok (.isub, 1) := dc_100 (by decide +kernel)
theorem d_Tokens_scanWord_70 : decode b_Tokens_scanWord 70 = .ok (.invokestatic 55, 3) := dc_184 (by decide +kernel)
theorem d_Tokens_scanWord_73 : decode b_Tokens_scanWord 73 = .ok (.istore 6, 2) := dc_54 (by decide +kernel)
theorem d_Tokens_scanWord_75 : decode b_Tokens_scanWord 75 = .ok (.iload 6, 2) := dc_21 (by decide +kernel)
theorem d_Tokens_scanWord_77 : decode b_Tokens_scanWord 77 = .ok (.ifCond .lt 14, 3) := dc_155 (by decide +kernel)
theorem d_Tokens_scanWord_80 : decode b_Tokens_scanWord 80 = .ok (.aload_n 0, 1) := dc_42 (by decide +kernel)
theorem d_Tokens_scanWord_81 : decode b_Tokens_scanWord 81 = .ok (.iload 6, 2) := dc_21 (by decide +kernel)
theorem d_Tokens_scanWord_83 : decode b_Tokens_scanWord 83 = .ok (.iconst 0, 1) := dc_3 (by decide +kernel)
theorem d_Tokens_scanWord_84 : decode b_Tokens_scanWord 84 = .ok (.iload_n 2, 1) := dc_28 (by decide +kernel)
theorem d_Tokens_scanWord_85 : decode b_Tokens_scanWord 85 = .ok (.invokevirtual 47, 3) := dc_182 (by decide +kernel)
theorem d_Tokens_scanWord_88 : decode b_Tokens_scanWord 88 = .ok (.goto 26, 3) := dc_167 (by decide +kernel)
theorem d_Tokens_scanWord_91 : decode b_Tokens_scanWord 91 = .ok (.aload_n 0, 1) := dc_42 (by decide +kernel)
theorem d_Tokens_scanWord_92 : decode b_Tokens_scanWord 92 = .ok (.iload 5, 2) := dc_21 (by decide +kernel)
theorem d_Tokens_scanWord_94 : decode b_Tokens_scanWord 94 = .ok (.iload_n 2, 1) := dc_28 (by decide +kernel)
theorem d_Tokens_scanWord_95 : decode b_Tokens_scanWord 95 = .ok (.isub, 1) := dc_100 (by decide +kernel)
theorem d_Tokens_scanWord_96 : decode b_Tokens_scanWord 96 = .ok (.bipush 6, 2) := dc_16 (by decide +kernel)
theorem d_Tokens_scanWord_98 : decode b_Tokens_scanWord 98 = .ok (.if_icmp .le 8, 3) := dc_164 (by decide +kernel)
theorem d_Tokens_scanWord_101 : decode b_Tokens_scanWord 101 = .ok (.bipush 33, 2) := dc_16 (by decide +kernel)
theorem d_Tokens_scanWord_103 : decode b_Tokens_scanWord 103 = .ok (.goto 5, 3) := dc_167 (by decide +kernel)
theorem d_Tokens_scanWord_106 : decode b_Tokens_scanWord 106 = .ok (.bipush 30, 2) := dc_16 (by decide +kernel)
theorem d_Tokens_scanWord_108 : decode b_Tokens_scanWord 108 = .ok (.iload 4, 2) := dc_21 (by decide +kernel)
theorem d_Tokens_scanWord_110 : decode b_Tokens_scanWord 110 = .ok (.iload_n 2, 1) := dc_28 (by decide +kernel)
theorem d_Tokens_scanWord_111 : decode b_Tokens_scanWord 111 = .ok (.invokevirtual 47, 3) := dc_182 (by decide +kernel)
theorem d_Tokens_scanWord_114 : decode b_Tokens_scanWord 114 = .ok (.iload 5, 2) := dc_21 (by decide +kernel)
theorem d_Tokens_scanWord_116 : decode b_Tokens_scanWord 116 = .ok (.ireturn, 1) := dc_172 (by decide +kernel)
def t_Tokens_scanWord_L58 (r1 : Nat) (N1 : Nat) (x2 : Int) (x3 : Int) (bk6 : Mem → Int → Int → Option (Mem × Int)) (M : Mem) (v4_ : Int) (v5_ : Int) : Option (Mem × Int) := (bk6 M v4_ (w32 (v5_ + 1)))
def t_Tokens_scanWord_L108 (r1 : Nat) (N1 : Nat) (x2 : Int) (x3 : Int)  (M : Mem) (v1_ : Int) (v2_ : Int) (v4_ : Int) : Option (Mem × Int) := (qlet (t_Tokens_add M v4_ v1_ x2) fun q16 => (some (q16, v2_)))
def t_Tokens_scanWord_L64 (r1 : Nat) (N1 : Nat) (x2 : Int) (x3 : Int)  (M : Mem) (v3_ : Int) (v4_ : Int) : Option (Mem × Int) := (obind (t_Tokens_wordOf M r1 N1 x2 (w32 (v4_ - x2))) fun q10 => (if q10 < 0 then (if (w32 (v4_ - x2)) ≤ 6 then (t_Tokens_scanWord_L108 r1 N1 x2 x3 M v3_ v4_ 30) else (t_Tokens_scanWord_L108 r1 N1 x2 x3 M v3_ v4_ 33)) else (qlet (t_Tokens_add M q10 0 x2) fun q14 => (some (q14, v4_)))))
def t_Tokens_scanWord_L6 (r1 : Nat) (N1 : Nat) (x2 : Int) (x3 : Int)  : Nat → Mem → Int → Int → Option (Mem × Int)
  | 0, _, _, _ => none
  | fu + 1, M, v4_, v5_ => (if x3 ≤ v5_ then (t_Tokens_scanWord_L64 r1 N1 x2 x3 M v4_ v5_) else (qlet (t_WF_look M r1 N1 v5_) fun q2 => (qlet (t_Tokens_isLetter M q2) fun q4 => (if q4 = 0 then (t_Tokens_scanWord_L64 r1 N1 x2 x3 M v4_ v5_) else (if 6 ≤ (w32 (v5_ - x2)) then (t_Tokens_scanWord_L58 r1 N1 x2 x3 (fun a0_ a1_ a2_ => t_Tokens_scanWord_L6 r1 N1 x2 x3 fu a0_ a1_ a2_) M v4_ v5_) else (qlet (t_WF_look M r1 N1 v5_) fun q8 => (t_Tokens_scanWord_L58 r1 N1 x2 x3 (fun a0_ a1_ a2_ => t_Tokens_scanWord_L6 r1 N1 x2 x3 fu a0_ a1_ a2_) M (q_or v4_ (q_shl (w32 ((w32 (q8 - 97)) + 1)) (w32 (5 * (w32 (5 - (w32 (v5_ - x2)))))))) v5_)))))))
def t_Tokens_scanWord (M : Mem) (r1 : Nat) (N1 : Nat) (x2 : Int) (x3 : Int) : Option (Mem × Int) := (t_Tokens_scanWord_L6 r1 N1 x2 x3 FU M 0 x2)
set_option maxHeartbeats 4000000 in
set_option maxRecDepth 100000 in
theorem k_Tokens_scanWord_L58 (l : Launch) {p : Program} {e : Env} {s : State} {m : MethodId} {below : List Frame} {meth : Method} {c : Code} {b n : Nat} {C : CT} (hlo : 191 ≤ n) (r1 : Nat) (N1 : Nat) (x2 : Int) (x3 : Int) (hr1 : arrP 0 r1 N1 191) (hx2 : InR x2) (hx3 : InR x3) (F : Cx b p m c b_Tokens_scanWord 7 s ([.ref (b + 42), .ref (b + r1), vI x2, vI x3] : List Value).toArray "WardFalls$Tokens" C n 191) (hlk : meth.locks = false) (hr : meth.sig.returnType = some .int) {res : Mem × Int} (bk6 : Mem → Int → Int → Option (Mem × Int)) (hbk6 : ∀ (M : Mem) (v4_ : Int) (hv4_ : InR v4_) (v5_ : Int) (hv5_ : InR v5_) (H : Heap) (locs : List Loc) (ls : Array Slot), St b C n M s H locs → lv_has ls 7 [(0, .ref (b + 42)), (1, .ref (b + r1)), (2, vI x2), (3, vI x3), (4, vI v4_), (5, vI v5_)] → bk6 M v4_ v5_ = some res → W p l e (headSpec (wsM y_Tokens_scanWord b_Tokens_scanWord 7 (some .int)) (rmD 6)).room s m ([.ref (b + 42), .ref (b + r1), vI x2, vI x3] : List Value).toArray below meth c H locs 0 0 (MQ below (QI b C n res.1 res.2) ([.ref (b + 42), .ref (b + r1), vI x2, vI x3] : List Value).toArray s 0 0 (frb b)) (F0 m 6 ls [])) (M : Mem) (v4_ : Int) (hv4_ : InR v4_) (v5_ : Int) (hv5_ : InR v5_) (H : Heap) (locs : List Loc) (ls : Array Slot) (hS : St b C n M s H locs) (hl : lv_has ls 7 [(0, .ref (b + 42)), (1, .ref (b + r1)), (2, vI x2), (3, vI x3), (4, vI v4_), (5, vI v5_)]) (hT : t_Tokens_scanWord_L58 r1 N1 x2 x3 bk6 M v4_ v5_ = some res) : W p l e (headSpec (wsM y_Tokens_scanWord b_Tokens_scanWord 7 (some .int)) (rmD 6)).room s m ([.ref (b + 42), .ref (b + r1), vI x2, vI x3] : List Value).toArray below meth c H locs 0 0 (MQ below (QI b C n res.1 res.2) ([.ref (b + 42), .ref (b + r1), vI x2, vI x3] : List Value).toArray s 0 0 (frb b)) (F0 m 58 ls []) := by
  unfold t_Tokens_scanWord_L58 at hT
  refine lv_iinc (v := Int32.ofInt (w32 (v5_ + 1))) (lv' := [(5, vI (w32 (v5_ + 1))), (0, .ref (b + 42)), (1, .ref (b + r1)), (2, vI x2), (3, vI x3), (4, vI v4_)]) F.hx F.hb d_Tokens_scanWord_58 hl (k := 5) rfl (q_of_add _ _) (Nat.le_of_ble_eq_true rfl) rfl (fun ls hl => ?_)
  refine lv_goto (tgt := 6) F.hx F.hb d_Tokens_scanWord_61 (by decide) ?_
  exact hbk6 M v4_ hv4_ (w32 (v5_ + 1)) (inr_w32 _) _ _ _ hS (lv_sub hl [1, 2, 3, 4, 5, 0] rfl) hT
set_option maxHeartbeats 4000000 in
set_option maxRecDepth 100000 in
theorem k_Tokens_scanWord_L108 (l : Launch) {p : Program} {e : Env} {s : State} {m : MethodId} {below : List Frame} {meth : Method} {c : Code} {b n : Nat} {C : CT} (hlo : 191 ≤ n) (r1 : Nat) (N1 : Nat) (x2 : Int) (x3 : Int) (hr1 : arrP 0 r1 N1 191) (hx2 : InR x2) (hx3 : InR x3) (F : Cx b p m c b_Tokens_scanWord 7 s ([.ref (b + 42), .ref (b + r1), vI x2, vI x3] : List Value).toArray "WardFalls$Tokens" C n 191) (hlk : meth.locks = false) (hr : meth.sig.returnType = some .int) {res : Mem × Int} (M : Mem) (v1_ : Int) (hv1_ : InR v1_) (v2_ : Int) (hv2_ : InR v2_) (v4_ : Int) (hv4_ : InR v4_) (H : Heap) (locs : List Loc) (ls : Array Slot) (hS : St b C n M s H locs) (hl : lv_has ls 7 [(2, vI x2), (4, vI v1_), (5, vI v2_)]) (hT : t_Tokens_scanWord_L108 r1 N1 x2 x3 M v1_ v2_ v4_ = some res) : W p l e (headSpec (wsM y_Tokens_scanWord b_Tokens_scanWord 7 (some .int)) (rmD 6)).room s m ([.ref (b + 42), .ref (b + r1), vI x2, vI x3] : List Value).toArray below meth c H locs 0 0 (MQ below (QI b C n res.1 res.2) ([.ref (b + 42), .ref (b + r1), vI x2, vI x3] : List Value).toArray s 0 0 (frb b)) (F0 m 108 ls [vI v4_, .ref (b + 42)]) := by
  unfold t_Tokens_scanWord_L108 at hT
  refine lv_iload F.hx F.hb d_Tokens_scanWord_108 (lv_at hl 1 rfl) ?_
  refine lv_iload_n F.hx F.hb d_Tokens_scanWord_110 rfl (lv_at hl 0 rfl) ?_
  obtain ⟨q16, hq16⟩ : ∃ q, q = (t_Tokens_add M v4_ v1_ x2) := ⟨_, rfl⟩
  replace hT := qlet_eq hT hq16
  refine r_backV F hS (r_runV (k := 42) (N := 4) (T := T10) (As := [vI v4_, vI v1_, vI x2]) F hS (show 42 < 191 by decide) (show shK 42 = 14 from rfl) rfl (c_Tokens_add l F.2.2.1 M v4_ v1_ x2 hv4_ hv1_ hx2 _ hq16.symm) gs_Tokens_47 hd_Tokens_add ⟨Nat.le_of_ble_eq_true rfl, Nat.le_of_ble_eq_true rfl⟩ rfl hl.1 (Nat.le_of_ble_eq_true rfl) ⟨Nat.zero_le _, Nat.zero_le _⟩ rfl d_Tokens_scanWord_111) (fun H locs hS => ?_)
  refine lv_iload F.hx F.hb d_Tokens_scanWord_114 (lv_at hl 2 rfl) ?_
  cases hT
  exact r_iret F hlk hr rfl hS hv2_ d_Tokens_scanWord_116
set_option maxHeartbeats 4000000 in
set_option maxRecDepth 100000 in
theorem k_Tokens_scanWord_L64 (l : Launch) {p : Program} {e : Env} {s : State} {m : MethodId} {below : List Frame} {meth : Method} {c : Code} {b n : Nat} {C : CT} (hlo : 191 ≤ n) (r1 : Nat) (N1 : Nat) (x2 : Int) (x3 : Int) (hr1 : arrP 0 r1 N1 191) (hx2 : InR x2) (hx3 : InR x3) (F : Cx b p m c b_Tokens_scanWord 7 s ([.ref (b + 42), .ref (b + r1), vI x2, vI x3] : List Value).toArray "WardFalls$Tokens" C n 191) (hlk : meth.locks = false) (hr : meth.sig.returnType = some .int) {res : Mem × Int} (M : Mem) (v3_ : Int) (hv3_ : InR v3_) (v4_ : Int) (hv4_ : InR v4_) (H : Heap) (locs : List Loc) (ls : Array Slot) (hS : St b C n M s H locs) (hl : lv_has ls 7 [(0, .ref (b + 42)), (1, .ref (b + r1)), (2, vI x2), (4, vI v3_), (5, vI v4_)]) (hT : t_Tokens_scanWord_L64 r1 N1 x2 x3 M v3_ v4_ = some res) : W p l e (headSpec (wsM y_Tokens_scanWord b_Tokens_scanWord 7 (some .int)) (rmD 6)).room s m ([.ref (b + 42), .ref (b + r1), vI x2, vI x3] : List Value).toArray below meth c H locs 0 0 (MQ below (QI b C n res.1 res.2) ([.ref (b + 42), .ref (b + r1), vI x2, vI x3] : List Value).toArray s 0 0 (frb b)) (F0 m 64 ls []) := by
  unfold t_Tokens_scanWord_L64 at hT
  refine lv_aload_n F.hx F.hb d_Tokens_scanWord_64 rfl (lv_at hl 1 rfl) ?_
  refine lv_iload_n F.hx F.hb d_Tokens_scanWord_65 rfl (lv_at hl 2 rfl) ?_
  refine lv_iload F.hx F.hb d_Tokens_scanWord_66 (lv_at hl 4 rfl) ?_
  refine lv_iload_n F.hx F.hb d_Tokens_scanWord_68 rfl (lv_at hl 2 rfl) ?_
  refine r_isub F.hx F.hb d_Tokens_scanWord_69 ?_
  obtain ⟨q10, hq10, hT⟩ := q_obind hT
  refine r_backI F hS (r_runS (As := [.ref (b + r1), vI x2, vI (w32 (v4_ - x2))]) F hS (c_Tokens_wordOf l F.2.2.1 M r1 N1 x2 (w32 (v4_ - x2)) hr1 hx2 (inr_w32 _) _ hq10) gs_Tokens_55 hd_Tokens_wordOf ⟨Nat.le_of_ble_eq_true rfl, Nat.le_of_ble_eq_true rfl⟩ rfl hl.1 (Nat.le_of_ble_eq_true rfl) ⟨Nat.zero_le _, Nat.zero_le _⟩ rfl d_Tokens_scanWord_70) (fun H locs hS h11 => ?_)
  refine lv_istore (lv' := [(6, vI q10), (0, .ref (b + 42)), (1, .ref (b + r1)), (2, vI x2), (4, vI v3_), (5, vI v4_)]) F.hx F.hb d_Tokens_scanWord_73 hl (Nat.le_of_ble_eq_true rfl) rfl (fun ls hl => ?_)
  refine lv_iload F.hx F.hb d_Tokens_scanWord_75 (lv_at hl 0 rfl) ?_
  refine r_if_lt (tgt := 91) F.hx F.hb h11 d_Tokens_scanWord_77 (by decide) (fun c12 => ?_) (fun c12 => ?_)
  · replace hT := (if_pos c12).symm.trans hT
    refine lv_aload_n F.hx F.hb d_Tokens_scanWord_91 rfl (lv_at hl 1 rfl) ?_
    refine lv_iload F.hx F.hb d_Tokens_scanWord_92 (lv_at hl 5 rfl) ?_
    refine lv_iload_n F.hx F.hb d_Tokens_scanWord_94 rfl (lv_at hl 3 rfl) ?_
    refine r_isub F.hx F.hb d_Tokens_scanWord_95 ?_
    refine r_bipush F.hx F.hb d_Tokens_scanWord_96 rfl ?_
    refine r_icmp_le (tgt := 106) F.hx F.hb (inr_w32 _) (inr_c rfl) d_Tokens_scanWord_98 (by decide) (fun c13 => ?_) (fun c13 => ?_)
    · replace hT := (if_pos c13).symm.trans hT
      refine r_bipush F.hx F.hb d_Tokens_scanWord_106 rfl ?_
      exact k_Tokens_scanWord_L108 l hlo r1 N1 x2 x3 hr1 hx2 hx3 F hlk hr M v3_ hv3_ v4_ hv4_ 30 (inr_c rfl) _ _ _ hS (lv_sub hl [3, 4, 5] rfl) hT
    · replace hT := (if_neg c13).symm.trans hT
      refine r_bipush F.hx F.hb d_Tokens_scanWord_101 rfl ?_
      refine lv_goto (tgt := 108) F.hx F.hb d_Tokens_scanWord_103 (by decide) ?_
      exact k_Tokens_scanWord_L108 l hlo r1 N1 x2 x3 hr1 hx2 hx3 F hlk hr M v3_ hv3_ v4_ hv4_ 33 (inr_c rfl) _ _ _ hS (lv_sub hl [3, 4, 5] rfl) hT
  · replace hT := (if_neg c12).symm.trans hT
    refine lv_aload_n F.hx F.hb d_Tokens_scanWord_80 rfl (lv_at hl 1 rfl) ?_
    refine lv_iload F.hx F.hb d_Tokens_scanWord_81 (lv_at hl 0 rfl) ?_
    refine r_iconst F.hx F.hb d_Tokens_scanWord_83 ?_
    refine lv_iload_n F.hx F.hb d_Tokens_scanWord_84 rfl (lv_at hl 3 rfl) ?_
    obtain ⟨q14, hq14⟩ : ∃ q, q = (t_Tokens_add M q10 0 x2) := ⟨_, rfl⟩
    replace hT := qlet_eq hT hq14
    refine r_backV F hS (r_runV (k := 42) (N := 4) (T := T10) (As := [vI q10, vI 0, vI x2]) F hS (show 42 < 191 by decide) (show shK 42 = 14 from rfl) rfl (c_Tokens_add l F.2.2.1 M q10 0 x2 h11 (inr_c rfl) hx2 _ hq14.symm) gs_Tokens_47 hd_Tokens_add ⟨Nat.le_of_ble_eq_true rfl, Nat.le_of_ble_eq_true rfl⟩ rfl hl.1 (Nat.le_of_ble_eq_true rfl) ⟨Nat.zero_le _, Nat.zero_le _⟩ rfl d_Tokens_scanWord_85) (fun H locs hS => ?_)
    refine lv_goto (tgt := 114) F.hx F.hb d_Tokens_scanWord_88 (by decide) ?_
    refine lv_iload F.hx F.hb d_Tokens_scanWord_114 (lv_at hl 5 rfl) ?_
    cases hT
    exact r_iret F hlk hr rfl hS hv4_ d_Tokens_scanWord_116
set_option maxHeartbeats 4000000 in
set_option maxRecDepth 100000 in
theorem k_Tokens_scanWord_L6 (l : Launch) {p : Program} {e : Env} {s : State} {m : MethodId} {below : List Frame} {meth : Method} {c : Code} {b n : Nat} {C : CT} (hlo : 191 ≤ n) (r1 : Nat) (N1 : Nat) (x2 : Int) (x3 : Int) (hr1 : arrP 0 r1 N1 191) (hx2 : InR x2) (hx3 : InR x3) (F : Cx b p m c b_Tokens_scanWord 7 s ([.ref (b + 42), .ref (b + r1), vI x2, vI x3] : List Value).toArray "WardFalls$Tokens" C n 191) (hlk : meth.locks = false) (hr : meth.sig.returnType = some .int) {res : Mem × Int} : ∀ (fu : Nat) (M : Mem) (v4_ : Int) (hv4_ : InR v4_) (v5_ : Int) (hv5_ : InR v5_) (H : Heap) (locs : List Loc) (ls : Array Slot), St b C n M s H locs → lv_has ls 7 [(0, .ref (b + 42)), (1, .ref (b + r1)), (2, vI x2), (3, vI x3), (4, vI v4_), (5, vI v5_)] → t_Tokens_scanWord_L6 r1 N1 x2 x3 fu M v4_ v5_ = some res → W p l e (headSpec (wsM y_Tokens_scanWord b_Tokens_scanWord 7 (some .int)) (rmD 6)).room s m ([.ref (b + 42), .ref (b + r1), vI x2, vI x3] : List Value).toArray below meth c H locs 0 0 (MQ below (QI b C n res.1 res.2) ([.ref (b + 42), .ref (b + r1), vI x2, vI x3] : List Value).toArray s 0 0 (frb b)) (F0 m 6 ls []) := by
  intro fu
  induction fu with
  | zero => intro M v4_ hv4_ v5_ hv5_ H locs ls hS hl hT; exact absurd hT (by simp [t_Tokens_scanWord_L6])
  | succ fu ih =>
    intro M v4_ hv4_ v5_ hv5_ H locs ls hS hl hT
    rw [t_Tokens_scanWord_L6] at hT
    refine lv_iload F.hx F.hb d_Tokens_scanWord_6 (lv_at hl 5 rfl) ?_
    refine lv_iload_n F.hx F.hb d_Tokens_scanWord_8 rfl (lv_at hl 3 rfl) ?_
    refine r_icmp_ge (tgt := 64) F.hx F.hb hv5_ hx3 d_Tokens_scanWord_9 (by decide) (fun c1 => ?_) (fun c1 => ?_)
    · replace hT := (if_pos c1).symm.trans hT
      exact k_Tokens_scanWord_L64 l hlo r1 N1 x2 x3 hr1 hx2 hx3 F hlk hr M v4_ hv4_ v5_ hv5_ _ _ _ hS (lv_sub hl [0, 1, 2, 4, 5] rfl) hT
    · replace hT := (if_neg c1).symm.trans hT
      refine lv_aload_n F.hx F.hb d_Tokens_scanWord_12 rfl (lv_at hl 1 rfl) ?_
      refine lv_iload F.hx F.hb d_Tokens_scanWord_13 (lv_at hl 5 rfl) ?_
      obtain ⟨q2, hq2⟩ : ∃ q, q = (t_WF_look M r1 N1 v5_) := ⟨_, rfl⟩
      replace hT := qlet_eq hT hq2
      refine r_backI F hS (r_runSN (As := [.ref (b + r1), vI v5_]) F hS (c_WF_look l F.2.2.1 M r1 N1 v5_ hr1 hv5_ _ hq2.symm) mw_519 mw_518 mw_1 gs_Tokens_25 hd_WF_look ⟨Nat.le_of_ble_eq_true rfl, Nat.le_of_ble_eq_true rfl⟩ rfl hl.1 (Nat.le_of_ble_eq_true rfl) ⟨Nat.zero_le _, Nat.zero_le _⟩ rfl d_Tokens_scanWord_15) (fun H locs hS h3 => ?_)
      obtain ⟨q4, hq4⟩ : ∃ q, q = (t_Tokens_isLetter M q2) := ⟨_, rfl⟩
      replace hT := qlet_eq hT hq4
      refine r_backZ F hS (r_runS (As := [vI q2]) F hS (c_Tokens_isLetter l F.2.2.1 M q2 h3 _ hq4.symm) gs_Tokens_29 hd_Tokens_isLetter ⟨Nat.le_of_ble_eq_true rfl, Nat.le_of_ble_eq_true rfl⟩ rfl hl.1 (Nat.le_of_ble_eq_true rfl) ⟨Nat.zero_le _, Nat.zero_le _⟩ rfl d_Tokens_scanWord_18) (fun H locs hS h5 => ?_)
      refine r_if_eq (tgt := 64) F.hx F.hb (inr_z h5) d_Tokens_scanWord_21 (by decide) (fun c6 => ?_) (fun c6 => ?_)
      · replace hT := (if_pos c6).symm.trans hT
        exact k_Tokens_scanWord_L64 l hlo r1 N1 x2 x3 hr1 hx2 hx3 F hlk hr M v4_ hv4_ v5_ hv5_ _ _ _ hS (lv_sub hl [0, 1, 2, 4, 5] rfl) hT
      · replace hT := (if_neg c6).symm.trans hT
        refine lv_iload F.hx F.hb d_Tokens_scanWord_24 (lv_at hl 5 rfl) ?_
        refine lv_iload_n F.hx F.hb d_Tokens_scanWord_26 rfl (lv_at hl 2 rfl) ?_
        refine r_isub F.hx F.hb d_Tokens_scanWord_27 ?_
        refine r_bipush F.hx F.hb d_Tokens_scanWord_28 rfl ?_
        refine r_icmp_ge (tgt := 58) F.hx F.hb (inr_w32 _) (inr_c rfl) d_Tokens_scanWord_30 (by decide) (fun c7 => ?_) (fun c7 => ?_)
        · replace hT := (if_pos c7).symm.trans hT
          exact k_Tokens_scanWord_L58 l hlo r1 N1 x2 x3 hr1 hx2 hx3 F hlk hr (fun a0_ a1_ a2_ => t_Tokens_scanWord_L6 r1 N1 x2 x3 fu a0_ a1_ a2_) ih M v4_ hv4_ v5_ hv5_ _ _ _ hS (lv_sub hl [0, 1, 2, 3, 4, 5] rfl) hT
        · replace hT := (if_neg c7).symm.trans hT
          refine lv_iload F.hx F.hb d_Tokens_scanWord_33 (lv_at hl 4 rfl) ?_
          refine lv_aload_n F.hx F.hb d_Tokens_scanWord_35 rfl (lv_at hl 1 rfl) ?_
          refine lv_iload F.hx F.hb d_Tokens_scanWord_36 (lv_at hl 5 rfl) ?_
          obtain ⟨q8, hq8⟩ : ∃ q, q = (t_WF_look M r1 N1 v5_) := ⟨_, rfl⟩
          replace hT := qlet_eq hT hq8
          refine r_backI F hS (r_runSN (As := [.ref (b + r1), vI v5_]) F hS (c_WF_look l F.2.2.1 M r1 N1 v5_ hr1 hv5_ _ hq8.symm) mw_519 mw_518 mw_1 gs_Tokens_25 hd_WF_look ⟨Nat.le_of_ble_eq_true rfl, Nat.le_of_ble_eq_true rfl⟩ rfl hl.1 (Nat.le_of_ble_eq_true rfl) ⟨Nat.zero_le _, Nat.zero_le _⟩ rfl d_Tokens_scanWord_38) (fun H locs hS h9 => ?_)
          refine r_bipush F.hx F.hb d_Tokens_scanWord_41 rfl ?_
          refine r_isub F.hx F.hb d_Tokens_scanWord_43 ?_
          refine r_iconst F.hx F.hb d_Tokens_scanWord_44 ?_
          refine r_iadd F.hx F.hb d_Tokens_scanWord_45 ?_
          refine r_iconst F.hx F.hb d_Tokens_scanWord_46 ?_
          refine r_iconst F.hx F.hb d_Tokens_scanWord_47 ?_
          refine lv_iload F.hx F.hb d_Tokens_scanWord_48 (lv_at hl 5 rfl) ?_
          refine lv_iload_n F.hx F.hb d_Tokens_scanWord_50 rfl (lv_at hl 2 rfl) ?_
          refine r_isub F.hx F.hb d_Tokens_scanWord_51 ?_
          refine r_isub F.hx F.hb d_Tokens_scanWord_52 ?_
          refine r_imul F.hx F.hb d_Tokens_scanWord_53 ?_
          refine r_ishl F.hx F.hb d_Tokens_scanWord_54 ?_
          refine r_ior F.hx F.hb d_Tokens_scanWord_55 ?_
          refine lv_istore (lv' := [(4, vI (q_or v4_ (q_shl (w32 ((w32 (q8 - 97)) + 1)) (w32 (5 * (w32 (5 - (w32 (v5_ - x2))))))))), (0, .ref (b + 42)), (1, .ref (b + r1)), (2, vI x2), (3, vI x3), (5, vI v5_)]) F.hx F.hb d_Tokens_scanWord_56 hl (Nat.le_of_ble_eq_true rfl) rfl (fun ls hl => ?_)
          exact k_Tokens_scanWord_L58 l hlo r1 N1 x2 x3 hr1 hx2 hx3 F hlk hr (fun a0_ a1_ a2_ => t_Tokens_scanWord_L6 r1 N1 x2 x3 fu a0_ a1_ a2_) ih M (q_or v4_ (q_shl (w32 ((w32 (q8 - 97)) + 1)) (w32 (5 * (w32 (5 - (w32 (v5_ - x2)))))))) (q_inr_toInt _) v5_ hv5_ _ _ _ hS (lv_sub hl [1, 2, 3, 4, 0, 5] rfl) hT
set_option maxHeartbeats 4000000 in
set_option maxRecDepth 100000 in
theorem c_Tokens_scanWord (l : Launch) {b n : Nat} {C : CT} (hlo : 191 ≤ n) (M : Mem) (r1 : Nat) (N1 : Nat) (x2 : Int) (x3 : Int) (hr1 : arrP 0 r1 N1 191) (hx2 : InR x2) (hx3 : InR x3) (res : Mem × Int) (hT : t_Tokens_scanWord M r1 N1 x2 x3 = some res) : CM l b C n 6 y_Tokens_scanWord b_Tokens_scanWord 7 (some .int) [.ref (b + 42), .ref (b + r1), vI x2, vI x3] M (QI b C n res.1 res.2) := by
  refine CM.of (lo := 191) (ow := "WardFalls$Tokens") (by decide) rfl (Nat.le_of_ble_eq_true rfl) hlo (fun p e s m below meth c F hlk hr hS ls hl => ?_)
  have hl : lv_has ls 7 [(0, .ref (b + 42)), (1, .ref (b + r1)), (2, vI x2), (3, vI x3)] := hl
  unfold t_Tokens_scanWord at hT
  refine r_iconst F.hx F.hb d_Tokens_scanWord_0 ?_
  refine lv_istore (lv' := [(4, vI 0), (0, .ref (b + 42)), (1, .ref (b + r1)), (2, vI x2), (3, vI x3)]) F.hx F.hb d_Tokens_scanWord_1 hl (Nat.le_of_ble_eq_true rfl) rfl (fun ls hl => ?_)
  refine lv_iload_n F.hx F.hb d_Tokens_scanWord_3 rfl (lv_at hl 3 rfl) ?_
  refine lv_istore (lv' := [(5, vI x2), (4, vI 0), (0, .ref (b + 42)), (1, .ref (b + r1)), (2, vI x2), (3, vI x3)]) F.hx F.hb d_Tokens_scanWord_4 hl (Nat.le_of_ble_eq_true rfl) rfl (fun ls hl => ?_)
  exact k_Tokens_scanWord_L6 l hlo r1 N1 x2 x3 hr1 hx2 hx3 F hlk hr FU M 0 (inr_c rfl) x2 hx2 _ _ _ hS (lv_sub hl [2, 3, 4, 5, 1, 0] rfl) hT
theorem d_Tokens_isDigit_0 : decode b_Tokens_isDigit 0 = .ok (.iload_n 0, 1) := dc_26 (by decide +kernel)
theorem d_Tokens_isDigit_1 : decode b_Tokens_isDigit 1 = .ok (.bipush 48, 2) := dc_16 (by decide +kernel)
theorem d_Tokens_isDigit_3 : decode b_Tokens_isDigit 3 = .ok (.if_icmp .lt 13, 3) := dc_161 (by decide +kernel)
theorem d_Tokens_isDigit_6 : decode b_Tokens_isDigit 6 = .ok (.iload_n 0, 1) := dc_26 (by decide +kernel)
theorem d_Tokens_isDigit_7 : decode b_Tokens_isDigit 7 = .ok (.bipush 57, 2) := dc_16 (by decide +kernel)
theorem d_Tokens_isDigit_9 : decode b_Tokens_isDigit 9 = .ok (.if_icmp .gt 7, 3) := dc_163 (by decide +kernel)
theorem d_Tokens_isDigit_12 : decode b_Tokens_isDigit 12 = .ok (.iconst 1, 1) := dc_4 (by decide +kernel)
theorem d_Tokens_isDigit_13 : decode b_Tokens_isDigit 13 = .ok (.goto 4, 3) := dc_167 (by decide +kernel)
theorem d_Tokens_isDigit_16 : decode b_Tokens_isDigit 16 = .ok (.iconst 0, 1) := dc_3 (by decide +kernel)
theorem d_Tokens_isDigit_17 : decode b_Tokens_isDigit 17 = .ok (.ireturn, 1) := dc_172 (by decide +kernel)
def t_Tokens_isDigit (M : Mem) (x1 : Int) : Int := (if x1 < 48 then 0 else (if 57 < x1 then 0 else 1))
set_option maxHeartbeats 4000000 in
set_option maxRecDepth 100000 in
theorem c_Tokens_isDigit (l : Launch) {b n : Nat} {C : CT} (hlo : 191 ≤ n) (M : Mem) (x1 : Int) (hx1 : InR x1) (res : Int) (hT : t_Tokens_isDigit M x1 = res) : CM l b C n 0 y_Tokens_isDigit b_Tokens_isDigit 1 (some .boolean) [vI x1] M (QZ b C n M res) := by
  refine CM.of (lo := 191) (ow := "WardFalls$Tokens") (by decide) rfl (Nat.le_of_ble_eq_true rfl) hlo (fun p e s m below meth c F hlk hr hS ls hl => ?_)
  have hl : lv_has ls 1 [(0, vI x1)] := hl
  unfold t_Tokens_isDigit at hT
  refine lv_iload_n F.hx F.hb d_Tokens_isDigit_0 rfl (lv_at hl 0 rfl) ?_
  refine r_bipush F.hx F.hb d_Tokens_isDigit_1 rfl ?_
  refine r_icmp_lt (tgt := 16) F.hx F.hb hx1 (inr_c rfl) d_Tokens_isDigit_3 (by decide) (fun c1 => ?_) (fun c1 => ?_)
  · replace hT := (if_pos c1).symm.trans hT
    refine r_iconst F.hx F.hb d_Tokens_isDigit_16 ?_
    subst hT
    exact r_zret F hlk hr hS (Or.inl rfl) d_Tokens_isDigit_17
  · replace hT := (if_neg c1).symm.trans hT
    refine lv_iload_n F.hx F.hb d_Tokens_isDigit_6 rfl (lv_at hl 0 rfl) ?_
    refine r_bipush F.hx F.hb d_Tokens_isDigit_7 rfl ?_
    refine r_icmp_gt (tgt := 16) F.hx F.hb hx1 (inr_c rfl) d_Tokens_isDigit_9 (by decide) (fun c2 => ?_) (fun c2 => ?_)
    · replace hT := (if_pos c2).symm.trans hT
      refine r_iconst F.hx F.hb d_Tokens_isDigit_16 ?_
      subst hT
      exact r_zret F hlk hr hS (Or.inl rfl) d_Tokens_isDigit_17
    · replace hT := (if_neg c2).symm.trans hT
      refine r_iconst F.hx F.hb d_Tokens_isDigit_12 ?_
      refine lv_goto (tgt := 17) F.hx F.hb d_Tokens_isDigit_13 (by decide) ?_
      subst hT
      exact r_zret F hlk hr hS (Or.inr rfl) d_Tokens_isDigit_17
theorem d_Tokens_scanNumber_0 : decode b_Tokens_scanNumber 0 = .ok (.iconst 0, 1) := dc_3 (by decide +kernel)
theorem d_Tokens_scanNumber_1 : decode b_Tokens_scanNumber 1 = .ok (.istore 4, 2) := dc_54 (by decide +kernel)
theorem d_Tokens_scanNumber_3 : decode b_Tokens_scanNumber 3 = .ok (.iload_n 2, 1) := dc_28 (by decide +kernel)
theorem d_Tokens_scanNumber_4 : decode b_Tokens_scanNumber 4 = .ok (.istore 5, 2) := dc_54 (by decide +kernel)
theorem d_Tokens_scanNumber_6 : decode b_Tokens_scanNumber 6 = .ok (.iload 5, 2) := dc_21 (by decide +kernel)
theorem d_Tokens_scanNumber_8 : decode b_Tokens_scanNumber 8 = .ok (.iload_n 3, 1) := dc_29 (by decide +kernel)
theorem d_Tokens_scanNumber_9 : decode b_Tokens_scanNumber 9 = .ok (.if_icmp .ge 43, 3) := dc_162 (by decide +kernel)
theorem d_Tokens_scanNumber_12 : decode b_Tokens_scanNumber 12 = .ok (.aload_n 1, 1) := dc_43 (by decide +kernel)
theorem d_Tokens_scanNumber_13 : decode b_Tokens_scanNumber 13 = .ok (.iload 5, 2) := dc_21 (by decide +kernel)
theorem d_Tokens_scanNumber_15 : decode b_Tokens_scanNumber 15 = .ok (.invokestatic 25, 3) := dc_184 (by decide +kernel)
theorem d_Tokens_scanNumber_18 : decode b_Tokens_scanNumber 18 = .ok (.invokestatic 37, 3) := dc_184 (by decide +kernel)
theorem d_Tokens_scanNumber_21 : decode b_Tokens_scanNumber 21 = .ok (.ifCond .eq 31, 3) := dc_153 (by decide +kernel)
theorem d_Tokens_scanNumber_24 : decode b_Tokens_scanNumber 24 = .ok (.iload 4, 2) := dc_21 (by decide +kernel)
theorem d_Tokens_scanNumber_26 : decode b_Tokens_scanNumber 26 = .ok (.bipush 10, 2) := dc_16 (by decide +kernel)
theorem d_Tokens_scanNumber_28 : decode b_Tokens_scanNumber 28 = .ok (.imul, 1) := dc_104 (by decide +kernel)
theorem d_Tokens_scanNumber_29 : decode b_Tokens_scanNumber 29 = .ok (.aload_n 1, 1) := dc_43 (by decide +kernel)
theorem d_Tokens_scanNumber_30 : decode b_Tokens_scanNumber 30 = .ok (.iload 5, 2) := dc_21 (by decide +kernel)
theorem d_Tokens_scanNumber_32 : decode b_Tokens_scanNumber 32 = .ok (.invokestatic 25, 3) := dc_184 (by decide +kernel)
theorem d_Tokens_scanNumber_35 : decode b_Tokens_scanNumber 35 = .ok (.iadd, 1) := dc_96 (by decide +kernel)
theorem d_Tokens_scanNumber_36 : decode b_Tokens_scanNumber 36 = .ok (.bipush 48, 2) := dc_16 (by decide +kernel)
theorem d_Tokens_scanNumber_38 : decode b_Tokens_scanNumber 38 = .ok (.isub, 1) := dc_100 (by decide +kernel)
theorem d_Tokens_scanNumber_39 : decode b_Tokens_scanNumber 39 = .ok (.ldc 58, 2) := dc_18 (by decide +kernel)
theorem d_Tokens_scanNumber_41 : decode b_Tokens_scanNumber 41 = .ok (.invokestatic 59, 3) := dc_184 (by decide +kernel)
theorem d_Tokens_scanNumber_44 : decode b_Tokens_scanNumber 44 = .ok (.istore 4, 2) := dc_54 (by decide +kernel)
theorem d_Tokens_scanNumber_46 : decode b_Tokens_scanNumber 46 = .ok (.iinc 5 1, 3) := dc_132 (by decide +kernel)
theorem d_Tokens_scanNumber_49 : decode b_Tokens_scanNumber 49 = .ok (.goto (-43), 3) := dc_167 (by decide +kernel)
theorem d_Tokens_scanNumber_52 : decode b_Tokens_scanNumber 52 = .ok (.aload_n 0, 1) := dc_42 (by decide +kernel)
theorem d_Tokens_scanNumber_53 : decode b_Tokens_scanNumber 53 = .ok (.bipush 31, 2) := dc_16 (by decide +kernel)
theorem d_Tokens_scanNumber_55 : decode b_Tokens_scanNumber 55 = .ok (.iload 4, 2) := dc_21 (by decide +kernel)
theorem d_Tokens_scanNumber_57 : decode b_Tokens_scanNumber 57 = .ok (.iload_n 2, 1) := dc_28 (by decide +kernel)
theorem d_Tokens_scanNumber_58 : decode b_Tokens_scanNumber 58 = .ok (.invokevirtual 47, 3) := dc_182 (by decide +kernel)
theorem d_Tokens_scanNumber_61 : decode b_Tokens_scanNumber 61 = .ok (.iload 5, 2) := dc_21 (by decide +kernel)
theorem d_Tokens_scanNumber_63 : decode b_Tokens_scanNumber 63 = .ok (.ireturn, 1) := dc_172 (by decide +kernel)
def t_Tokens_scanNumber_L52 (r1 : Nat) (N1 : Nat) (x2 : Int) (x3 : Int)  (M : Mem) (v2_ : Int) (v3_ : Int) : Option (Mem × Int) := (qlet (t_Tokens_add M 31 v2_ x2) fun q9 => (some (q9, v3_)))
def t_Tokens_scanNumber_L6 (r1 : Nat) (N1 : Nat) (x2 : Int) (x3 : Int)  : Nat → Mem → Int → Int → Option (Mem × Int)
  | 0, _, _, _ => none
  | fu + 1, M, v4_, v5_ => (if x3 ≤ v5_ then (t_Tokens_scanNumber_L52 r1 N1 x2 x3 M v4_ v5_) else (qlet (t_WF_look M r1 N1 v5_) fun q2 => (qlet (t_Tokens_isDigit M q2) fun q4 => (if q4 = 0 then (t_Tokens_scanNumber_L52 r1 N1 x2 x3 M v4_ v5_) else (qlet (t_WF_look M r1 N1 v5_) fun q7 => (t_Tokens_scanNumber_L6 r1 N1 x2 x3 fu M (q_min (w32 ((w32 ((w32 (v4_ * 10)) + q7)) - 48)) 1000000) (w32 (v5_ + 1))))))))
def t_Tokens_scanNumber (M : Mem) (r1 : Nat) (N1 : Nat) (x2 : Int) (x3 : Int) : Option (Mem × Int) := (t_Tokens_scanNumber_L6 r1 N1 x2 x3 FU M 0 x2)
set_option maxHeartbeats 4000000 in
set_option maxRecDepth 100000 in
theorem k_Tokens_scanNumber_L52 (l : Launch) {p : Program} {e : Env} {s : State} {m : MethodId} {below : List Frame} {meth : Method} {c : Code} {b n : Nat} {C : CT} (hlo : 191 ≤ n) (r1 : Nat) (N1 : Nat) (x2 : Int) (x3 : Int) (hr1 : arrP 0 r1 N1 191) (hx2 : InR x2) (hx3 : InR x3) (F : Cx b p m c b_Tokens_scanNumber 6 s ([.ref (b + 42), .ref (b + r1), vI x2, vI x3] : List Value).toArray "WardFalls$Tokens" C n 191) (hlk : meth.locks = false) (hr : meth.sig.returnType = some .int) {res : Mem × Int} (M : Mem) (v2_ : Int) (hv2_ : InR v2_) (v3_ : Int) (hv3_ : InR v3_) (H : Heap) (locs : List Loc) (ls : Array Slot) (hS : St b C n M s H locs) (hl : lv_has ls 6 [(0, .ref (b + 42)), (2, vI x2), (4, vI v2_), (5, vI v3_)]) (hT : t_Tokens_scanNumber_L52 r1 N1 x2 x3 M v2_ v3_ = some res) : W p l e (headSpec (wsM y_Tokens_scanNumber b_Tokens_scanNumber 6 (some .int)) (rmD 2)).room s m ([.ref (b + 42), .ref (b + r1), vI x2, vI x3] : List Value).toArray below meth c H locs 0 0 (MQ below (QI b C n res.1 res.2) ([.ref (b + 42), .ref (b + r1), vI x2, vI x3] : List Value).toArray s 0 0 (frb b)) (F0 m 52 ls []) := by
  unfold t_Tokens_scanNumber_L52 at hT
  refine lv_aload_n F.hx F.hb d_Tokens_scanNumber_52 rfl (lv_at hl 0 rfl) ?_
  refine r_bipush F.hx F.hb d_Tokens_scanNumber_53 rfl ?_
  refine lv_iload F.hx F.hb d_Tokens_scanNumber_55 (lv_at hl 2 rfl) ?_
  refine lv_iload_n F.hx F.hb d_Tokens_scanNumber_57 rfl (lv_at hl 1 rfl) ?_
  obtain ⟨q9, hq9⟩ : ∃ q, q = (t_Tokens_add M 31 v2_ x2) := ⟨_, rfl⟩
  replace hT := qlet_eq hT hq9
  refine r_backV F hS (r_runV (k := 42) (N := 4) (T := T10) (As := [vI 31, vI v2_, vI x2]) F hS (show 42 < 191 by decide) (show shK 42 = 14 from rfl) rfl (c_Tokens_add l F.2.2.1 M 31 v2_ x2 (inr_c rfl) hv2_ hx2 _ hq9.symm) gs_Tokens_47 hd_Tokens_add ⟨Nat.le_of_ble_eq_true rfl, Nat.le_of_ble_eq_true rfl⟩ rfl hl.1 (Nat.le_of_ble_eq_true rfl) ⟨Nat.zero_le _, Nat.zero_le _⟩ rfl d_Tokens_scanNumber_58) (fun H locs hS => ?_)
  refine lv_iload F.hx F.hb d_Tokens_scanNumber_61 (lv_at hl 3 rfl) ?_
  cases hT
  exact r_iret F hlk hr rfl hS hv3_ d_Tokens_scanNumber_63
set_option maxHeartbeats 4000000 in
set_option maxRecDepth 100000 in
theorem k_Tokens_scanNumber_L6 (l : Launch) {p : Program} {e : Env} {s : State} {m : MethodId} {below : List Frame} {meth : Method} {c : Code} {b n : Nat} {C : CT} (hlo : 191 ≤ n) (r1 : Nat) (N1 : Nat) (x2 : Int) (x3 : Int) (hr1 : arrP 0 r1 N1 191) (hx2 : InR x2) (hx3 : InR x3) (F : Cx b p m c b_Tokens_scanNumber 6 s ([.ref (b + 42), .ref (b + r1), vI x2, vI x3] : List Value).toArray "WardFalls$Tokens" C n 191) (hlk : meth.locks = false) (hr : meth.sig.returnType = some .int) {res : Mem × Int} : ∀ (fu : Nat) (M : Mem) (v4_ : Int) (hv4_ : InR v4_) (v5_ : Int) (hv5_ : InR v5_) (H : Heap) (locs : List Loc) (ls : Array Slot), St b C n M s H locs → lv_has ls 6 [(0, .ref (b + 42)), (1, .ref (b + r1)), (2, vI x2), (3, vI x3), (4, vI v4_), (5, vI v5_)] → t_Tokens_scanNumber_L6 r1 N1 x2 x3 fu M v4_ v5_ = some res → W p l e (headSpec (wsM y_Tokens_scanNumber b_Tokens_scanNumber 6 (some .int)) (rmD 2)).room s m ([.ref (b + 42), .ref (b + r1), vI x2, vI x3] : List Value).toArray below meth c H locs 0 0 (MQ below (QI b C n res.1 res.2) ([.ref (b + 42), .ref (b + r1), vI x2, vI x3] : List Value).toArray s 0 0 (frb b)) (F0 m 6 ls []) := by
  intro fu
  induction fu with
  | zero => intro M v4_ hv4_ v5_ hv5_ H locs ls hS hl hT; exact absurd hT (by simp [t_Tokens_scanNumber_L6])
  | succ fu ih =>
    intro M v4_ hv4_ v5_ hv5_ H locs ls hS hl hT
    rw [t_Tokens_scanNumber_L6] at hT
    refine lv_iload F.hx F.hb d_Tokens_scanNumber_6 (lv_at hl 5 rfl) ?_
    refine lv_iload_n F.hx F.hb d_Tokens_scanNumber_8 rfl (lv_at hl 3 rfl) ?_
    refine r_icmp_ge (tgt := 52) F.hx F.hb hv5_ hx3 d_Tokens_scanNumber_9 (by decide) (fun c1 => ?_) (fun c1 => ?_)
    · replace hT := (if_pos c1).symm.trans hT
      exact k_Tokens_scanNumber_L52 l hlo r1 N1 x2 x3 hr1 hx2 hx3 F hlk hr M v4_ hv4_ v5_ hv5_ _ _ _ hS (lv_sub hl [0, 2, 4, 5] rfl) hT
    · replace hT := (if_neg c1).symm.trans hT
      refine lv_aload_n F.hx F.hb d_Tokens_scanNumber_12 rfl (lv_at hl 1 rfl) ?_
      refine lv_iload F.hx F.hb d_Tokens_scanNumber_13 (lv_at hl 5 rfl) ?_
      obtain ⟨q2, hq2⟩ : ∃ q, q = (t_WF_look M r1 N1 v5_) := ⟨_, rfl⟩
      replace hT := qlet_eq hT hq2
      refine r_backI F hS (r_runSN (As := [.ref (b + r1), vI v5_]) F hS (c_WF_look l F.2.2.1 M r1 N1 v5_ hr1 hv5_ _ hq2.symm) mw_519 mw_518 mw_1 gs_Tokens_25 hd_WF_look ⟨Nat.le_of_ble_eq_true rfl, Nat.le_of_ble_eq_true rfl⟩ rfl hl.1 (Nat.le_of_ble_eq_true rfl) ⟨Nat.zero_le _, Nat.zero_le _⟩ rfl d_Tokens_scanNumber_15) (fun H locs hS h3 => ?_)
      obtain ⟨q4, hq4⟩ : ∃ q, q = (t_Tokens_isDigit M q2) := ⟨_, rfl⟩
      replace hT := qlet_eq hT hq4
      refine r_backZ F hS (r_runS (As := [vI q2]) F hS (c_Tokens_isDigit l F.2.2.1 M q2 h3 _ hq4.symm) gs_Tokens_37 hd_Tokens_isDigit ⟨Nat.le_of_ble_eq_true rfl, Nat.le_of_ble_eq_true rfl⟩ rfl hl.1 (Nat.le_of_ble_eq_true rfl) ⟨Nat.zero_le _, Nat.zero_le _⟩ rfl d_Tokens_scanNumber_18) (fun H locs hS h5 => ?_)
      refine r_if_eq (tgt := 52) F.hx F.hb (inr_z h5) d_Tokens_scanNumber_21 (by decide) (fun c6 => ?_) (fun c6 => ?_)
      · replace hT := (if_pos c6).symm.trans hT
        exact k_Tokens_scanNumber_L52 l hlo r1 N1 x2 x3 hr1 hx2 hx3 F hlk hr M v4_ hv4_ v5_ hv5_ _ _ _ hS (lv_sub hl [0, 2, 4, 5] rfl) hT
      · replace hT := (if_neg c6).symm.trans hT
        refine lv_iload F.hx F.hb d_Tokens_scanNumber_24 (lv_at hl 4 rfl) ?_
        refine r_bipush F.hx F.hb d_Tokens_scanNumber_26 rfl ?_
        refine r_imul F.hx F.hb d_Tokens_scanNumber_28 ?_
        refine lv_aload_n F.hx F.hb d_Tokens_scanNumber_29 rfl (lv_at hl 1 rfl) ?_
        refine lv_iload F.hx F.hb d_Tokens_scanNumber_30 (lv_at hl 5 rfl) ?_
        obtain ⟨q7, hq7⟩ : ∃ q, q = (t_WF_look M r1 N1 v5_) := ⟨_, rfl⟩
        replace hT := qlet_eq hT hq7
        refine r_backI F hS (r_runSN (As := [.ref (b + r1), vI v5_]) F hS (c_WF_look l F.2.2.1 M r1 N1 v5_ hr1 hv5_ _ hq7.symm) mw_519 mw_518 mw_1 gs_Tokens_25 hd_WF_look ⟨Nat.le_of_ble_eq_true rfl, Nat.le_of_ble_eq_true rfl⟩ rfl hl.1 (Nat.le_of_ble_eq_true rfl) ⟨Nat.zero_le _, Nat.zero_le _⟩ rfl d_Tokens_scanNumber_32) (fun H locs hS h8 => ?_)
        refine r_iadd F.hx F.hb d_Tokens_scanNumber_35 ?_
        refine r_bipush F.hx F.hb d_Tokens_scanNumber_36 rfl ?_
        refine r_isub F.hx F.hb d_Tokens_scanNumber_38 ?_
        refine lv_ldc (v := Int32.ofInt 1000000) F.hx F.hb F.hown (F.hts mw_700) d_Tokens_scanNumber_39 ?_
        refine r_mmin F hl.1 mw_701 mw_532 mw_14 mw_533 ⟨Nat.le_of_ble_eq_true rfl, Nat.le_of_ble_eq_true rfl⟩ (Nat.le_of_ble_eq_true rfl) ⟨Nat.zero_le _, Nat.zero_le _⟩ (inr_w32 _) (inr_c rfl) d_Tokens_scanNumber_41 ?_
        refine lv_istore (lv' := [(4, vI (q_min (w32 ((w32 ((w32 (v4_ * 10)) + q7)) - 48)) 1000000)), (0, .ref (b + 42)), (1, .ref (b + r1)), (2, vI x2), (3, vI x3), (5, vI v5_)]) F.hx F.hb d_Tokens_scanNumber_44 hl (Nat.le_of_ble_eq_true rfl) rfl (fun ls hl => ?_)
        refine lv_iinc (v := Int32.ofInt (w32 (v5_ + 1))) (lv' := [(5, vI (w32 (v5_ + 1))), (4, vI (q_min (w32 ((w32 ((w32 (v4_ * 10)) + q7)) - 48)) 1000000)), (0, .ref (b + 42)), (1, .ref (b + r1)), (2, vI x2), (3, vI x3)]) F.hx F.hb d_Tokens_scanNumber_46 hl (k := 5) rfl (q_of_add _ _) (Nat.le_of_ble_eq_true rfl) rfl (fun ls hl => ?_)
        refine lv_goto (tgt := 6) F.hx F.hb d_Tokens_scanNumber_49 (by decide) ?_
        exact ih M (q_min (w32 ((w32 ((w32 (v4_ * 10)) + q7)) - 48)) 1000000) (inr_min (inr_w32 _) (inr_c rfl)) (w32 (v5_ + 1)) (inr_w32 _) _ _ _ hS (lv_sub hl [2, 3, 4, 5, 1, 0] rfl) hT
set_option maxHeartbeats 4000000 in
set_option maxRecDepth 100000 in
theorem c_Tokens_scanNumber (l : Launch) {b n : Nat} {C : CT} (hlo : 191 ≤ n) (M : Mem) (r1 : Nat) (N1 : Nat) (x2 : Int) (x3 : Int) (hr1 : arrP 0 r1 N1 191) (hx2 : InR x2) (hx3 : InR x3) (res : Mem × Int) (hT : t_Tokens_scanNumber M r1 N1 x2 x3 = some res) : CM l b C n 2 y_Tokens_scanNumber b_Tokens_scanNumber 6 (some .int) [.ref (b + 42), .ref (b + r1), vI x2, vI x3] M (QI b C n res.1 res.2) := by
  refine CM.of (lo := 191) (ow := "WardFalls$Tokens") (by decide) rfl (Nat.le_of_ble_eq_true rfl) hlo (fun p e s m below meth c F hlk hr hS ls hl => ?_)
  have hl : lv_has ls 6 [(0, .ref (b + 42)), (1, .ref (b + r1)), (2, vI x2), (3, vI x3)] := hl
  unfold t_Tokens_scanNumber at hT
  refine r_iconst F.hx F.hb d_Tokens_scanNumber_0 ?_
  refine lv_istore (lv' := [(4, vI 0), (0, .ref (b + 42)), (1, .ref (b + r1)), (2, vI x2), (3, vI x3)]) F.hx F.hb d_Tokens_scanNumber_1 hl (Nat.le_of_ble_eq_true rfl) rfl (fun ls hl => ?_)
  refine lv_iload_n F.hx F.hb d_Tokens_scanNumber_3 rfl (lv_at hl 3 rfl) ?_
  refine lv_istore (lv' := [(5, vI x2), (4, vI 0), (0, .ref (b + 42)), (1, .ref (b + r1)), (2, vI x2), (3, vI x3)]) F.hx F.hb d_Tokens_scanNumber_4 hl (Nat.le_of_ble_eq_true rfl) rfl (fun ls hl => ?_)
  exact k_Tokens_scanNumber_L6 l hlo r1 N1 x2 x3 hr1 hx2 hx3 F hlk hr FU M 0 (inr_c rfl) x2 hx2 _ _ _ hS (lv_sub hl [2, 3, 4, 5, 1, 0] rfl) hT
theorem wn_Tokens_signOf_0 : ∀ i, i < 1 → bA b_Tokens_signOf (0 + i) = wB [26] i := wB_of (by decide +kernel)
theorem d_Tokens_signOf_0 : decode b_Tokens_signOf 0 = .ok (.iload_n 0, 1) := dc_26 (q0_win (r := 0) wn_Tokens_signOf_0 (by decide +kernel))
theorem d_Tokens_signOf_1 : decode b_Tokens_signOf 1 = .ok (.tableswitch 137 40 62 #[110, 113, 122, 116, 137, 119, 137, 125, 137, 137, 137, 137, 137, 137, 137, 137, 137, 137, 137, 107, 128, 131, 134], 107) := by decide +kernel
theorem wn_Tokens_signOf_108 : ∀ i, i < 33 → bA b_Tokens_signOf (108 + i) = wB [16, 40, 172, 16, 41, 172, 16, 42, 172, 16, 43, 172, 16, 44, 172, 16, 45, 172, 16, 46, 172, 16, 47, 172, 16, 49, 172, 16, 52, 172, 16, 33, 172] i := wB_of (by decide +kernel)
theorem d_Tokens_signOf_108 : decode b_Tokens_signOf 108 = .ok (.bipush 40, 2) := dc_16 (qS1_win (r := 0) wn_Tokens_signOf_108 (by decide +kernel))
theorem d_Tokens_signOf_110 : decode b_Tokens_signOf 110 = .ok (.ireturn, 1) := dc_172 (q0_win (r := 2) wn_Tokens_signOf_108 (by decide +kernel))
theorem d_Tokens_signOf_111 : decode b_Tokens_signOf 111 = .ok (.bipush 41, 2) := dc_16 (qS1_win (r := 3) wn_Tokens_signOf_108 (by decide +kernel))
theorem d_Tokens_signOf_113 : decode b_Tokens_signOf 113 = .ok (.ireturn, 1) := dc_172 (q0_win (r := 5) wn_Tokens_signOf_108 (by decide +kernel))
theorem d_Tokens_signOf_114 : decode b_Tokens_signOf 114 = .ok (.bipush 42, 2) := dc_16 (qS1_win (r := 6) wn_Tokens_signOf_108 (by decide +kernel))
theorem d_Tokens_signOf_116 : decode b_Tokens_signOf 116 = .ok (.ireturn, 1) := dc_172 (q0_win (r := 8) wn_Tokens_signOf_108 (by decide +kernel))
theorem d_Tokens_signOf_117 : decode b_Tokens_signOf 117 = .ok (.bipush 43, 2) := dc_16 (qS1_win (r := 9) wn_Tokens_signOf_108 (by decide +kernel))
theorem d_Tokens_signOf_119 : decode b_Tokens_signOf 119 = .ok (.ireturn, 1) := dc_172 (q0_win (r := 11) wn_Tokens_signOf_108 (by decide +kernel))
theorem d_Tokens_signOf_120 : decode b_Tokens_signOf 120 = .ok (.bipush 44, 2) := dc_16 (qS1_win (r := 12) wn_Tokens_signOf_108 (by decide +kernel))
theorem d_Tokens_signOf_122 : decode b_Tokens_signOf 122 = .ok (.ireturn, 1) := dc_172 (q0_win (r := 14) wn_Tokens_signOf_108 (by decide +kernel))
theorem d_Tokens_signOf_123 : decode b_Tokens_signOf 123 = .ok (.bipush 45, 2) := dc_16 (qS1_win (r := 15) wn_Tokens_signOf_108 (by decide +kernel))
theorem d_Tokens_signOf_125 : decode b_Tokens_signOf 125 = .ok (.ireturn, 1) := dc_172 (q0_win (r := 17) wn_Tokens_signOf_108 (by decide +kernel))
theorem d_Tokens_signOf_126 : decode b_Tokens_signOf 126 = .ok (.bipush 46, 2) := dc_16 (qS1_win (r := 18) wn_Tokens_signOf_108 (by decide +kernel))
theorem d_Tokens_signOf_128 : decode b_Tokens_signOf 128 = .ok (.ireturn, 1) := dc_172 (q0_win (r := 20) wn_Tokens_signOf_108 (by decide +kernel))
theorem d_Tokens_signOf_129 : decode b_Tokens_signOf 129 = .ok (.bipush 47, 2) := dc_16 (qS1_win (r := 21) wn_Tokens_signOf_108 (by decide +kernel))
theorem d_Tokens_signOf_131 : decode b_Tokens_signOf 131 = .ok (.ireturn, 1) := dc_172 (q0_win (r := 23) wn_Tokens_signOf_108 (by decide +kernel))
theorem d_Tokens_signOf_132 : decode b_Tokens_signOf 132 = .ok (.bipush 49, 2) := dc_16 (qS1_win (r := 24) wn_Tokens_signOf_108 (by decide +kernel))
theorem d_Tokens_signOf_134 : decode b_Tokens_signOf 134 = .ok (.ireturn, 1) := dc_172 (q0_win (r := 26) wn_Tokens_signOf_108 (by decide +kernel))
theorem d_Tokens_signOf_135 : decode b_Tokens_signOf 135 = .ok (.bipush 52, 2) := dc_16 (qS1_win (r := 27) wn_Tokens_signOf_108 (by decide +kernel))
theorem d_Tokens_signOf_137 : decode b_Tokens_signOf 137 = .ok (.ireturn, 1) := dc_172 (q0_win (r := 29) wn_Tokens_signOf_108 (by decide +kernel))
theorem d_Tokens_signOf_138 : decode b_Tokens_signOf 138 = .ok (.bipush 33, 2) := dc_16 (qS1_win (r := 30) wn_Tokens_signOf_108 (by decide +kernel))
theorem d_Tokens_signOf_140 : decode b_Tokens_signOf 140 = .ok (.ireturn, 1) := dc_172 (q0_win (r := 32) wn_Tokens_signOf_108 (by decide +kernel))
def t_Tokens_signOf (M : Mem) (x1 : Int) : Int := (if x1 = 40 then 41 else (if x1 = 41 then 42 else (if x1 = 42 then 45 else (if x1 = 43 then 43 else (if x1 = 44 then 33 else (if x1 = 45 then 44 else (if x1 = 46 then 33 else (if x1 = 47 then 46 else (if x1 = 48 then 33 else (if x1 = 49 then 33 else (if x1 = 50 then 33 else (if x1 = 51 then 33 else (if x1 = 52 then 33 else (if x1 = 53 then 33 else (if x1 = 54 then 33 else (if x1 = 55 then 33 else (if x1 = 56 then 33 else (if x1 = 57 then 33 else (if x1 = 58 then 33 else (if x1 = 59 then 40 else (if x1 = 60 then 47 else (if x1 = 61 then 49 else (if x1 = 62 then 52 else 33)))))))))))))))))))))))
set_option maxHeartbeats 4000000 in
set_option maxRecDepth 100000 in
theorem c_Tokens_signOf (l : Launch) {b n : Nat} {C : CT} (hlo : 191 ≤ n) (M : Mem) (x1 : Int) (hx1 : InR x1) (res : Int) (hT : t_Tokens_signOf M x1 = res) : CM l b C n 0 y_Tokens_signOf b_Tokens_signOf 1 (some .int) [vI x1] M (QI b C n M res) := by
  refine CM.of (lo := 191) (ow := "WardFalls$Tokens") (by decide) rfl (Nat.le_of_ble_eq_true rfl) hlo (fun p e s m below meth c F hlk hr hS ls hl => ?_)
  have hl : lv_has ls 1 [(0, vI x1)] := hl
  unfold t_Tokens_signOf at hT
  refine lv_iload_n F.hx F.hb d_Tokens_signOf_0 rfl (lv_at hl 0 rfl) ?_
  rcases q_ite hT with ⟨c1, hT⟩ | ⟨c1, hT⟩
  · refine r_tableIn (i := 40) (tgt := 111) F.hx F.hb hx1 c1 d_Tokens_signOf_1 (by decide) (by decide) rfl (by decide) ?_
    refine r_bipush F.hx F.hb d_Tokens_signOf_111 rfl ?_
    subst hT
    exact r_iret F hlk hr rfl hS (inr_c rfl) d_Tokens_signOf_113
  ·
    rcases q_ite hT with ⟨c2, hT⟩ | ⟨c2, hT⟩
    · refine r_tableIn (i := 41) (tgt := 114) F.hx F.hb hx1 c2 d_Tokens_signOf_1 (by decide) (by decide) rfl (by decide) ?_
      refine r_bipush F.hx F.hb d_Tokens_signOf_114 rfl ?_
      subst hT
      exact r_iret F hlk hr rfl hS (inr_c rfl) d_Tokens_signOf_116
    ·
      rcases q_ite hT with ⟨c3, hT⟩ | ⟨c3, hT⟩
      · refine r_tableIn (i := 42) (tgt := 123) F.hx F.hb hx1 c3 d_Tokens_signOf_1 (by decide) (by decide) rfl (by decide) ?_
        refine r_bipush F.hx F.hb d_Tokens_signOf_123 rfl ?_
        subst hT
        exact r_iret F hlk hr rfl hS (inr_c rfl) d_Tokens_signOf_125
      ·
        rcases q_ite hT with ⟨c4, hT⟩ | ⟨c4, hT⟩
        · refine r_tableIn (i := 43) (tgt := 117) F.hx F.hb hx1 c4 d_Tokens_signOf_1 (by decide) (by decide) rfl (by decide) ?_
          refine r_bipush F.hx F.hb d_Tokens_signOf_117 rfl ?_
          subst hT
          exact r_iret F hlk hr rfl hS (inr_c rfl) d_Tokens_signOf_119
        ·
          rcases q_ite hT with ⟨c5, hT⟩ | ⟨c5, hT⟩
          · refine r_tableIn (i := 44) (tgt := 138) F.hx F.hb hx1 c5 d_Tokens_signOf_1 (by decide) (by decide) rfl (by decide) ?_
            refine r_bipush F.hx F.hb d_Tokens_signOf_138 rfl ?_
            subst hT
            exact r_iret F hlk hr rfl hS (inr_c rfl) d_Tokens_signOf_140
          ·
            rcases q_ite hT with ⟨c6, hT⟩ | ⟨c6, hT⟩
            · refine r_tableIn (i := 45) (tgt := 120) F.hx F.hb hx1 c6 d_Tokens_signOf_1 (by decide) (by decide) rfl (by decide) ?_
              refine r_bipush F.hx F.hb d_Tokens_signOf_120 rfl ?_
              subst hT
              exact r_iret F hlk hr rfl hS (inr_c rfl) d_Tokens_signOf_122
            ·
              rcases q_ite hT with ⟨c7, hT⟩ | ⟨c7, hT⟩
              · refine r_tableIn (i := 46) (tgt := 138) F.hx F.hb hx1 c7 d_Tokens_signOf_1 (by decide) (by decide) rfl (by decide) ?_
                refine r_bipush F.hx F.hb d_Tokens_signOf_138 rfl ?_
                subst hT
                exact r_iret F hlk hr rfl hS (inr_c rfl) d_Tokens_signOf_140
              ·
                rcases q_ite hT with ⟨c8, hT⟩ | ⟨c8, hT⟩
                · refine r_tableIn (i := 47) (tgt := 126) F.hx F.hb hx1 c8 d_Tokens_signOf_1 (by decide) (by decide) rfl (by decide) ?_
                  refine r_bipush F.hx F.hb d_Tokens_signOf_126 rfl ?_
                  subst hT
                  exact r_iret F hlk hr rfl hS (inr_c rfl) d_Tokens_signOf_128
                ·
                  rcases q_ite hT with ⟨c9, hT⟩ | ⟨c9, hT⟩
                  · refine r_tableIn (i := 48) (tgt := 138) F.hx F.hb hx1 c9 d_Tokens_signOf_1 (by decide) (by decide) rfl (by decide) ?_
                    refine r_bipush F.hx F.hb d_Tokens_signOf_138 rfl ?_
                    subst hT
                    exact r_iret F hlk hr rfl hS (inr_c rfl) d_Tokens_signOf_140
                  ·
                    rcases q_ite hT with ⟨c10, hT⟩ | ⟨c10, hT⟩
                    · refine r_tableIn (i := 49) (tgt := 138) F.hx F.hb hx1 c10 d_Tokens_signOf_1 (by decide) (by decide) rfl (by decide) ?_
                      refine r_bipush F.hx F.hb d_Tokens_signOf_138 rfl ?_
                      subst hT
                      exact r_iret F hlk hr rfl hS (inr_c rfl) d_Tokens_signOf_140
                    ·
                      rcases q_ite hT with ⟨c11, hT⟩ | ⟨c11, hT⟩
                      · refine r_tableIn (i := 50) (tgt := 138) F.hx F.hb hx1 c11 d_Tokens_signOf_1 (by decide) (by decide) rfl (by decide) ?_
                        refine r_bipush F.hx F.hb d_Tokens_signOf_138 rfl ?_
                        subst hT
                        exact r_iret F hlk hr rfl hS (inr_c rfl) d_Tokens_signOf_140
                      ·
                        rcases q_ite hT with ⟨c12, hT⟩ | ⟨c12, hT⟩
                        · refine r_tableIn (i := 51) (tgt := 138) F.hx F.hb hx1 c12 d_Tokens_signOf_1 (by decide) (by decide) rfl (by decide) ?_
                          refine r_bipush F.hx F.hb d_Tokens_signOf_138 rfl ?_
                          subst hT
                          exact r_iret F hlk hr rfl hS (inr_c rfl) d_Tokens_signOf_140
                        ·
                          rcases q_ite hT with ⟨c13, hT⟩ | ⟨c13, hT⟩
                          · refine r_tableIn (i := 52) (tgt := 138) F.hx F.hb hx1 c13 d_Tokens_signOf_1 (by decide) (by decide) rfl (by decide) ?_
                            refine r_bipush F.hx F.hb d_Tokens_signOf_138 rfl ?_
                            subst hT
                            exact r_iret F hlk hr rfl hS (inr_c rfl) d_Tokens_signOf_140
                          ·
                            rcases q_ite hT with ⟨c14, hT⟩ | ⟨c14, hT⟩
                            · refine r_tableIn (i := 53) (tgt := 138) F.hx F.hb hx1 c14 d_Tokens_signOf_1 (by decide) (by decide) rfl (by decide) ?_
                              refine r_bipush F.hx F.hb d_Tokens_signOf_138 rfl ?_
                              subst hT
                              exact r_iret F hlk hr rfl hS (inr_c rfl) d_Tokens_signOf_140
                            ·
                              rcases q_ite hT with ⟨c15, hT⟩ | ⟨c15, hT⟩
                              · refine r_tableIn (i := 54) (tgt := 138) F.hx F.hb hx1 c15 d_Tokens_signOf_1 (by decide) (by decide) rfl (by decide) ?_
                                refine r_bipush F.hx F.hb d_Tokens_signOf_138 rfl ?_
                                subst hT
                                exact r_iret F hlk hr rfl hS (inr_c rfl) d_Tokens_signOf_140
                              ·
                                rcases q_ite hT with ⟨c16, hT⟩ | ⟨c16, hT⟩
                                · refine r_tableIn (i := 55) (tgt := 138) F.hx F.hb hx1 c16 d_Tokens_signOf_1 (by decide) (by decide) rfl (by decide) ?_
                                  refine r_bipush F.hx F.hb d_Tokens_signOf_138 rfl ?_
                                  subst hT
                                  exact r_iret F hlk hr rfl hS (inr_c rfl) d_Tokens_signOf_140
                                ·
                                  rcases q_ite hT with ⟨c17, hT⟩ | ⟨c17, hT⟩
                                  · refine r_tableIn (i := 56) (tgt := 138) F.hx F.hb hx1 c17 d_Tokens_signOf_1 (by decide) (by decide) rfl (by decide) ?_
                                    refine r_bipush F.hx F.hb d_Tokens_signOf_138 rfl ?_
                                    subst hT
                                    exact r_iret F hlk hr rfl hS (inr_c rfl) d_Tokens_signOf_140
                                  ·
                                    rcases q_ite hT with ⟨c18, hT⟩ | ⟨c18, hT⟩
                                    · refine r_tableIn (i := 57) (tgt := 138) F.hx F.hb hx1 c18 d_Tokens_signOf_1 (by decide) (by decide) rfl (by decide) ?_
                                      refine r_bipush F.hx F.hb d_Tokens_signOf_138 rfl ?_
                                      subst hT
                                      exact r_iret F hlk hr rfl hS (inr_c rfl) d_Tokens_signOf_140
                                    ·
                                      rcases q_ite hT with ⟨c19, hT⟩ | ⟨c19, hT⟩
                                      · refine r_tableIn (i := 58) (tgt := 138) F.hx F.hb hx1 c19 d_Tokens_signOf_1 (by decide) (by decide) rfl (by decide) ?_
                                        refine r_bipush F.hx F.hb d_Tokens_signOf_138 rfl ?_
                                        subst hT
                                        exact r_iret F hlk hr rfl hS (inr_c rfl) d_Tokens_signOf_140
                                      ·
                                        rcases q_ite hT with ⟨c20, hT⟩ | ⟨c20, hT⟩
                                        · refine r_tableIn (i := 59) (tgt := 108) F.hx F.hb hx1 c20 d_Tokens_signOf_1 (by decide) (by decide) rfl (by decide) ?_
                                          refine r_bipush F.hx F.hb d_Tokens_signOf_108 rfl ?_
                                          subst hT
                                          exact r_iret F hlk hr rfl hS (inr_c rfl) d_Tokens_signOf_110
                                        ·
                                          rcases q_ite hT with ⟨c21, hT⟩ | ⟨c21, hT⟩
                                          · refine r_tableIn (i := 60) (tgt := 129) F.hx F.hb hx1 c21 d_Tokens_signOf_1 (by decide) (by decide) rfl (by decide) ?_
                                            refine r_bipush F.hx F.hb d_Tokens_signOf_129 rfl ?_
                                            subst hT
                                            exact r_iret F hlk hr rfl hS (inr_c rfl) d_Tokens_signOf_131
                                          ·
                                            rcases q_ite hT with ⟨c22, hT⟩ | ⟨c22, hT⟩
                                            · refine r_tableIn (i := 61) (tgt := 132) F.hx F.hb hx1 c22 d_Tokens_signOf_1 (by decide) (by decide) rfl (by decide) ?_
                                              refine r_bipush F.hx F.hb d_Tokens_signOf_132 rfl ?_
                                              subst hT
                                              exact r_iret F hlk hr rfl hS (inr_c rfl) d_Tokens_signOf_134
                                            ·
                                              rcases q_ite hT with ⟨c23, hT⟩ | ⟨c23, hT⟩
                                              · refine r_tableIn (i := 62) (tgt := 135) F.hx F.hb hx1 c23 d_Tokens_signOf_1 (by decide) (by decide) rfl (by decide) ?_
                                                refine r_bipush F.hx F.hb d_Tokens_signOf_135 rfl ?_
                                                subst hT
                                                exact r_iret F hlk hr rfl hS (inr_c rfl) d_Tokens_signOf_137
                                              ·
                                                refine r_tableOut (tgt := 138) F.hx F.hb hx1 (by omega) d_Tokens_signOf_1 (by decide) ?_
                                                refine r_bipush F.hx F.hb d_Tokens_signOf_138 rfl ?_
                                                subst hT
                                                exact r_iret F hlk hr rfl hS (inr_c rfl) d_Tokens_signOf_140
theorem d_Tokens_scanSign_0 : decode b_Tokens_scanSign 0 = .ok (.iload_n 1, 1) := dc_27 (by decide +kernel)
theorem d_Tokens_scanSign_1 : decode b_Tokens_scanSign 1 = .ok (.invokestatic 65, 3) := dc_184 (by decide +kernel)
theorem d_Tokens_scanSign_4 : decode b_Tokens_scanSign 4 = .ok (.istore 4, 2) := dc_54 (by decide +kernel)
theorem d_Tokens_scanSign_6 : decode b_Tokens_scanSign 6 = .ok (.iload 4, 2) := dc_21 (by decide +kernel)
theorem d_Tokens_scanSign_8 : decode b_Tokens_scanSign 8 = .ok (.bipush 47, 2) := dc_16 (by decide +kernel)
theorem d_Tokens_scanSign_10 : decode b_Tokens_scanSign 10 = .ok (.if_icmp .ne 38, 3) := dc_160 (by decide +kernel)
theorem d_Tokens_scanSign_13 : decode b_Tokens_scanSign 13 = .ok (.iload_n 2, 1) := dc_28 (by decide +kernel)
theorem d_Tokens_scanSign_14 : decode b_Tokens_scanSign 14 = .ok (.bipush 61, 2) := dc_16 (by decide +kernel)
theorem d_Tokens_scanSign_16 : decode b_Tokens_scanSign 16 = .ok (.if_icmp .eq 9, 3) := dc_159 (by decide +kernel)
theorem d_Tokens_scanSign_19 : decode b_Tokens_scanSign 19 = .ok (.iload_n 2, 1) := dc_28 (by decide +kernel)
theorem d_Tokens_scanSign_20 : decode b_Tokens_scanSign 20 = .ok (.bipush 62, 2) := dc_16 (by decide +kernel)
theorem d_Tokens_scanSign_22 : decode b_Tokens_scanSign 22 = .ok (.if_icmp .ne 26, 3) := dc_160 (by decide +kernel)
theorem d_Tokens_scanSign_25 : decode b_Tokens_scanSign 25 = .ok (.aload_n 0, 1) := dc_42 (by decide +kernel)
theorem d_Tokens_scanSign_26 : decode b_Tokens_scanSign 26 = .ok (.iload_n 2, 1) := dc_28 (by decide +kernel)
theorem d_Tokens_scanSign_27 : decode b_Tokens_scanSign 27 = .ok (.bipush 61, 2) := dc_16 (by decide +kernel)
theorem d_Tokens_scanSign_29 : decode b_Tokens_scanSign 29 = .ok (.if_icmp .ne 8, 3) := dc_160 (by decide +kernel)
theorem d_Tokens_scanSign_32 : decode b_Tokens_scanSign 32 = .ok (.bipush 48, 2) := dc_16 (by decide +kernel)
theorem d_Tokens_scanSign_34 : decode b_Tokens_scanSign 34 = .ok (.goto 5, 3) := dc_167 (by decide +kernel)
theorem d_Tokens_scanSign_37 : decode b_Tokens_scanSign 37 = .ok (.bipush 50, 2) := dc_16 (by decide +kernel)
theorem d_Tokens_scanSign_39 : decode b_Tokens_scanSign 39 = .ok (.iconst 0, 1) := dc_3 (by decide +kernel)
theorem d_Tokens_scanSign_40 : decode b_Tokens_scanSign 40 = .ok (.iload_n 3, 1) := dc_29 (by decide +kernel)
theorem d_Tokens_scanSign_41 : decode b_Tokens_scanSign 41 = .ok (.invokevirtual 47, 3) := dc_182 (by decide +kernel)
theorem d_Tokens_scanSign_44 : decode b_Tokens_scanSign 44 = .ok (.iload_n 3, 1) := dc_29 (by decide +kernel)
theorem d_Tokens_scanSign_45 : decode b_Tokens_scanSign 45 = .ok (.iconst 2, 1) := dc_5 (by decide +kernel)
theorem d_Tokens_scanSign_46 : decode b_Tokens_scanSign 46 = .ok (.iadd, 1) := dc_96 (by decide +kernel)
theorem d_Tokens_scanSign_47 : decode b_Tokens_scanSign 47 = .ok (.ireturn, 1) := dc_172 (by decide +kernel)
theorem d_Tokens_scanSign_48 : decode b_Tokens_scanSign 48 = .ok (.iload 4, 2) := dc_21 (by decide +kernel)
theorem d_Tokens_scanSign_50 : decode b_Tokens_scanSign 50 = .ok (.bipush 52, 2) := dc_16 (by decide +kernel)
theorem d_Tokens_scanSign_52 : decode b_Tokens_scanSign 52 = .ok (.if_icmp .ne 21, 3) := dc_160 (by decide +kernel)
theorem d_Tokens_scanSign_55 : decode b_Tokens_scanSign 55 = .ok (.iload_n 2, 1) := dc_28 (by decide +kernel)
theorem d_Tokens_scanSign_56 : decode b_Tokens_scanSign 56 = .ok (.bipush 61, 2) := dc_16 (by decide +kernel)
theorem d_Tokens_scanSign_58 : decode b_Tokens_scanSign 58 = .ok (.if_icmp .ne 15, 3) := dc_160 (by decide +kernel)
theorem d_Tokens_scanSign_61 : decode b_Tokens_scanSign 61 = .ok (.aload_n 0, 1) := dc_42 (by decide +kernel)
theorem d_Tokens_scanSign_62 : decode b_Tokens_scanSign 62 = .ok (.bipush 51, 2) := dc_16 (by decide +kernel)
theorem d_Tokens_scanSign_64 : decode b_Tokens_scanSign 64 = .ok (.iconst 0, 1) := dc_3 (by decide +kernel)
theorem d_Tokens_scanSign_65 : decode b_Tokens_scanSign 65 = .ok (.iload_n 3, 1) := dc_29 (by decide +kernel)
theorem d_Tokens_scanSign_66 : decode b_Tokens_scanSign 66 = .ok (.invokevirtual 47, 3) := dc_182 (by decide +kernel)
theorem d_Tokens_scanSign_69 : decode b_Tokens_scanSign 69 = .ok (.iload_n 3, 1) := dc_29 (by decide +kernel)
theorem d_Tokens_scanSign_70 : decode b_Tokens_scanSign 70 = .ok (.iconst 2, 1) := dc_5 (by decide +kernel)
theorem d_Tokens_scanSign_71 : decode b_Tokens_scanSign 71 = .ok (.iadd, 1) := dc_96 (by decide +kernel)
theorem d_Tokens_scanSign_72 : decode b_Tokens_scanSign 72 = .ok (.ireturn, 1) := dc_172 (by decide +kernel)
theorem d_Tokens_scanSign_73 : decode b_Tokens_scanSign 73 = .ok (.aload_n 0, 1) := dc_42 (by decide +kernel)
theorem d_Tokens_scanSign_74 : decode b_Tokens_scanSign 74 = .ok (.iload 4, 2) := dc_21 (by decide +kernel)
theorem d_Tokens_scanSign_76 : decode b_Tokens_scanSign 76 = .ok (.iconst 0, 1) := dc_3 (by decide +kernel)
theorem d_Tokens_scanSign_77 : decode b_Tokens_scanSign 77 = .ok (.iload_n 3, 1) := dc_29 (by decide +kernel)
theorem d_Tokens_scanSign_78 : decode b_Tokens_scanSign 78 = .ok (.invokevirtual 47, 3) := dc_182 (by decide +kernel)
theorem d_Tokens_scanSign_81 : decode b_Tokens_scanSign 81 = .ok (.iload_n 3, 1) := dc_29 (by decide +kernel)
theorem d_Tokens_scanSign_82 : decode b_Tokens_scanSign 82 = .ok (.iconst 1, 1) := dc_4 (by decide +kernel)
theorem d_Tokens_scanSign_83 : decode b_Tokens_scanSign 83 = .ok (.iadd, 1) := dc_96 (by decide +kernel)
theorem d_Tokens_scanSign_84 : decode b_Tokens_scanSign 84 = .ok (.ireturn, 1) := dc_172 (by decide +kernel)
def t_Tokens_scanSign_L39 (x1 : Int) (x2 : Int) (x3 : Int)  (M : Mem) (v2_ : Int) : Mem × Int := (qlet (t_Tokens_add M v2_ 0 x3) fun q13 => (q13, (w32 (x3 + 2))))
def t_Tokens_scanSign_L25 (x1 : Int) (x2 : Int) (x3 : Int)  (M : Mem)  : Mem × Int := (if x2 = 61 then (t_Tokens_scanSign_L39 x1 x2 x3 M 48) else (t_Tokens_scanSign_L39 x1 x2 x3 M 50))
def t_Tokens_scanSign_L73 (x1 : Int) (x2 : Int) (x3 : Int)  (M : Mem) (v2_ : Int) : Mem × Int := (qlet (t_Tokens_add M v2_ 0 x3) fun q11 => (q11, (w32 (x3 + 1))))
def t_Tokens_scanSign_L48 (x1 : Int) (x2 : Int) (x3 : Int)  (M : Mem) (v3_ : Int) : Mem × Int := (if v3_ = 52 then (if x2 = 61 then (qlet (t_Tokens_add M 51 0 x3) fun q8 => (q8, (w32 (x3 + 2)))) else (t_Tokens_scanSign_L73 x1 x2 x3 M v3_)) else (t_Tokens_scanSign_L73 x1 x2 x3 M v3_))
def t_Tokens_scanSign (M : Mem) (x1 : Int) (x2 : Int) (x3 : Int) : Mem × Int := (qlet (t_Tokens_signOf M x1) fun q1 => (if q1 = 47 then (if x2 = 61 then (t_Tokens_scanSign_L25 x1 x2 x3 M) else (if x2 = 62 then (t_Tokens_scanSign_L25 x1 x2 x3 M) else (t_Tokens_scanSign_L48 x1 x2 x3 M q1))) else (t_Tokens_scanSign_L48 x1 x2 x3 M q1)))
set_option maxHeartbeats 4000000 in
set_option maxRecDepth 100000 in
theorem k_Tokens_scanSign_L39 (l : Launch) {p : Program} {e : Env} {s : State} {m : MethodId} {below : List Frame} {meth : Method} {c : Code} {b n : Nat} {C : CT} (hlo : 191 ≤ n) (x1 : Int) (x2 : Int) (x3 : Int) (hx1 : InR x1) (hx2 : InR x2) (hx3 : InR x3) (F : Cx b p m c b_Tokens_scanSign 5 s ([.ref (b + 42), vI x1, vI x2, vI x3] : List Value).toArray "WardFalls$Tokens" C n 191) (hlk : meth.locks = false) (hr : meth.sig.returnType = some .int) {res : Mem × Int} (M : Mem) (v2_ : Int) (hv2_ : InR v2_) (H : Heap) (locs : List Loc) (ls : Array Slot) (hS : St b C n M s H locs) (hl : lv_has ls 5 [(3, vI x3)]) (hT : t_Tokens_scanSign_L39 x1 x2 x3 M v2_ = res) : W p l e (headSpec (wsM y_Tokens_scanSign b_Tokens_scanSign 5 (some .int)) (rmD 2)).room s m ([.ref (b + 42), vI x1, vI x2, vI x3] : List Value).toArray below meth c H locs 0 0 (MQ below (QI b C n res.1 res.2) ([.ref (b + 42), vI x1, vI x2, vI x3] : List Value).toArray s 0 0 (frb b)) (F0 m 39 ls [vI v2_, .ref (b + 42)]) := by
  unfold t_Tokens_scanSign_L39 at hT
  refine r_iconst F.hx F.hb d_Tokens_scanSign_39 ?_
  refine lv_iload_n F.hx F.hb d_Tokens_scanSign_40 rfl (lv_at hl 0 rfl) ?_
  obtain ⟨q13, hq13⟩ : ∃ q, q = (t_Tokens_add M v2_ 0 x3) := ⟨_, rfl⟩
  replace hT := qlet_eq hT hq13
  refine r_backV F hS (r_runV (k := 42) (N := 4) (T := T10) (As := [vI v2_, vI 0, vI x3]) F hS (show 42 < 191 by decide) (show shK 42 = 14 from rfl) rfl (c_Tokens_add l F.2.2.1 M v2_ 0 x3 hv2_ (inr_c rfl) hx3 _ hq13.symm) gs_Tokens_47 hd_Tokens_add ⟨Nat.le_of_ble_eq_true rfl, Nat.le_of_ble_eq_true rfl⟩ rfl hl.1 (Nat.le_of_ble_eq_true rfl) ⟨Nat.zero_le _, Nat.zero_le _⟩ rfl d_Tokens_scanSign_41) (fun H locs hS => ?_)
  refine lv_iload_n F.hx F.hb d_Tokens_scanSign_44 rfl (lv_at hl 0 rfl) ?_
  refine r_iconst F.hx F.hb d_Tokens_scanSign_45 ?_
  refine r_iadd F.hx F.hb d_Tokens_scanSign_46 ?_
  subst hT
  exact r_iret F hlk hr rfl hS (inr_w32 _) d_Tokens_scanSign_47
set_option maxHeartbeats 4000000 in
set_option maxRecDepth 100000 in
theorem k_Tokens_scanSign_L25 (l : Launch) {p : Program} {e : Env} {s : State} {m : MethodId} {below : List Frame} {meth : Method} {c : Code} {b n : Nat} {C : CT} (hlo : 191 ≤ n) (x1 : Int) (x2 : Int) (x3 : Int) (hx1 : InR x1) (hx2 : InR x2) (hx3 : InR x3) (F : Cx b p m c b_Tokens_scanSign 5 s ([.ref (b + 42), vI x1, vI x2, vI x3] : List Value).toArray "WardFalls$Tokens" C n 191) (hlk : meth.locks = false) (hr : meth.sig.returnType = some .int) {res : Mem × Int} (M : Mem)  (H : Heap) (locs : List Loc) (ls : Array Slot) (hS : St b C n M s H locs) (hl : lv_has ls 5 [(0, .ref (b + 42)), (2, vI x2), (3, vI x3)]) (hT : t_Tokens_scanSign_L25 x1 x2 x3 M = res) : W p l e (headSpec (wsM y_Tokens_scanSign b_Tokens_scanSign 5 (some .int)) (rmD 2)).room s m ([.ref (b + 42), vI x1, vI x2, vI x3] : List Value).toArray below meth c H locs 0 0 (MQ below (QI b C n res.1 res.2) ([.ref (b + 42), vI x1, vI x2, vI x3] : List Value).toArray s 0 0 (frb b)) (F0 m 25 ls []) := by
  unfold t_Tokens_scanSign_L25 at hT
  refine lv_aload_n F.hx F.hb d_Tokens_scanSign_25 rfl (lv_at hl 0 rfl) ?_
  refine lv_iload_n F.hx F.hb d_Tokens_scanSign_26 rfl (lv_at hl 1 rfl) ?_
  refine r_bipush F.hx F.hb d_Tokens_scanSign_27 rfl ?_
  refine r_icmp_ne (tgt := 37) F.hx F.hb hx2 (inr_c rfl) d_Tokens_scanSign_29 (by decide) (fun c10 => ?_) (fun c10 => ?_)
  · replace hT := (if_neg c10).symm.trans hT
    refine r_bipush F.hx F.hb d_Tokens_scanSign_37 rfl ?_
    exact k_Tokens_scanSign_L39 l hlo x1 x2 x3 hx1 hx2 hx3 F hlk hr M 50 (inr_c rfl) _ _ _ hS (lv_sub hl [2] rfl) hT
  · replace hT := (if_pos c10).symm.trans hT
    refine r_bipush F.hx F.hb d_Tokens_scanSign_32 rfl ?_
    refine lv_goto (tgt := 39) F.hx F.hb d_Tokens_scanSign_34 (by decide) ?_
    exact k_Tokens_scanSign_L39 l hlo x1 x2 x3 hx1 hx2 hx3 F hlk hr M 48 (inr_c rfl) _ _ _ hS (lv_sub hl [2] rfl) hT
set_option maxHeartbeats 4000000 in
set_option maxRecDepth 100000 in
theorem k_Tokens_scanSign_L73 (l : Launch) {p : Program} {e : Env} {s : State} {m : MethodId} {below : List Frame} {meth : Method} {c : Code} {b n : Nat} {C : CT} (hlo : 191 ≤ n) (x1 : Int) (x2 : Int) (x3 : Int) (hx1 : InR x1) (hx2 : InR x2) (hx3 : InR x3) (F : Cx b p m c b_Tokens_scanSign 5 s ([.ref (b + 42), vI x1, vI x2, vI x3] : List Value).toArray "WardFalls$Tokens" C n 191) (hlk : meth.locks = false) (hr : meth.sig.returnType = some .int) {res : Mem × Int} (M : Mem) (v2_ : Int) (hv2_ : InR v2_) (H : Heap) (locs : List Loc) (ls : Array Slot) (hS : St b C n M s H locs) (hl : lv_has ls 5 [(0, .ref (b + 42)), (3, vI x3), (4, vI v2_)]) (hT : t_Tokens_scanSign_L73 x1 x2 x3 M v2_ = res) : W p l e (headSpec (wsM y_Tokens_scanSign b_Tokens_scanSign 5 (some .int)) (rmD 2)).room s m ([.ref (b + 42), vI x1, vI x2, vI x3] : List Value).toArray below meth c H locs 0 0 (MQ below (QI b C n res.1 res.2) ([.ref (b + 42), vI x1, vI x2, vI x3] : List Value).toArray s 0 0 (frb b)) (F0 m 73 ls []) := by
  unfold t_Tokens_scanSign_L73 at hT
  refine lv_aload_n F.hx F.hb d_Tokens_scanSign_73 rfl (lv_at hl 0 rfl) ?_
  refine lv_iload F.hx F.hb d_Tokens_scanSign_74 (lv_at hl 2 rfl) ?_
  refine r_iconst F.hx F.hb d_Tokens_scanSign_76 ?_
  refine lv_iload_n F.hx F.hb d_Tokens_scanSign_77 rfl (lv_at hl 1 rfl) ?_
  obtain ⟨q11, hq11⟩ : ∃ q, q = (t_Tokens_add M v2_ 0 x3) := ⟨_, rfl⟩
  replace hT := qlet_eq hT hq11
  refine r_backV F hS (r_runV (k := 42) (N := 4) (T := T10) (As := [vI v2_, vI 0, vI x3]) F hS (show 42 < 191 by decide) (show shK 42 = 14 from rfl) rfl (c_Tokens_add l F.2.2.1 M v2_ 0 x3 hv2_ (inr_c rfl) hx3 _ hq11.symm) gs_Tokens_47 hd_Tokens_add ⟨Nat.le_of_ble_eq_true rfl, Nat.le_of_ble_eq_true rfl⟩ rfl hl.1 (Nat.le_of_ble_eq_true rfl) ⟨Nat.zero_le _, Nat.zero_le _⟩ rfl d_Tokens_scanSign_78) (fun H locs hS => ?_)
  refine lv_iload_n F.hx F.hb d_Tokens_scanSign_81 rfl (lv_at hl 1 rfl) ?_
  refine r_iconst F.hx F.hb d_Tokens_scanSign_82 ?_
  refine r_iadd F.hx F.hb d_Tokens_scanSign_83 ?_
  subst hT
  exact r_iret F hlk hr rfl hS (inr_w32 _) d_Tokens_scanSign_84
set_option maxHeartbeats 4000000 in
set_option maxRecDepth 100000 in
theorem k_Tokens_scanSign_L48 (l : Launch) {p : Program} {e : Env} {s : State} {m : MethodId} {below : List Frame} {meth : Method} {c : Code} {b n : Nat} {C : CT} (hlo : 191 ≤ n) (x1 : Int) (x2 : Int) (x3 : Int) (hx1 : InR x1) (hx2 : InR x2) (hx3 : InR x3) (F : Cx b p m c b_Tokens_scanSign 5 s ([.ref (b + 42), vI x1, vI x2, vI x3] : List Value).toArray "WardFalls$Tokens" C n 191) (hlk : meth.locks = false) (hr : meth.sig.returnType = some .int) {res : Mem × Int} (M : Mem) (v3_ : Int) (hv3_ : InR v3_) (H : Heap) (locs : List Loc) (ls : Array Slot) (hS : St b C n M s H locs) (hl : lv_has ls 5 [(0, .ref (b + 42)), (2, vI x2), (3, vI x3), (4, vI v3_)]) (hT : t_Tokens_scanSign_L48 x1 x2 x3 M v3_ = res) : W p l e (headSpec (wsM y_Tokens_scanSign b_Tokens_scanSign 5 (some .int)) (rmD 2)).room s m ([.ref (b + 42), vI x1, vI x2, vI x3] : List Value).toArray below meth c H locs 0 0 (MQ below (QI b C n res.1 res.2) ([.ref (b + 42), vI x1, vI x2, vI x3] : List Value).toArray s 0 0 (frb b)) (F0 m 48 ls []) := by
  unfold t_Tokens_scanSign_L48 at hT
  refine lv_iload F.hx F.hb d_Tokens_scanSign_48 (lv_at hl 3 rfl) ?_
  refine r_bipush F.hx F.hb d_Tokens_scanSign_50 rfl ?_
  refine r_icmp_ne (tgt := 73) F.hx F.hb hv3_ (inr_c rfl) d_Tokens_scanSign_52 (by decide) (fun c6 => ?_) (fun c6 => ?_)
  · replace hT := (if_neg c6).symm.trans hT
    exact k_Tokens_scanSign_L73 l hlo x1 x2 x3 hx1 hx2 hx3 F hlk hr M v3_ hv3_ _ _ _ hS (lv_sub hl [0, 2, 3] rfl) hT
  · replace hT := (if_pos c6).symm.trans hT
    refine lv_iload_n F.hx F.hb d_Tokens_scanSign_55 rfl (lv_at hl 1 rfl) ?_
    refine r_bipush F.hx F.hb d_Tokens_scanSign_56 rfl ?_
    refine r_icmp_ne (tgt := 73) F.hx F.hb hx2 (inr_c rfl) d_Tokens_scanSign_58 (by decide) (fun c7 => ?_) (fun c7 => ?_)
    · replace hT := (if_neg c7).symm.trans hT
      exact k_Tokens_scanSign_L73 l hlo x1 x2 x3 hx1 hx2 hx3 F hlk hr M v3_ hv3_ _ _ _ hS (lv_sub hl [0, 2, 3] rfl) hT
    · replace hT := (if_pos c7).symm.trans hT
      refine lv_aload_n F.hx F.hb d_Tokens_scanSign_61 rfl (lv_at hl 0 rfl) ?_
      refine r_bipush F.hx F.hb d_Tokens_scanSign_62 rfl ?_
      refine r_iconst F.hx F.hb d_Tokens_scanSign_64 ?_
      refine lv_iload_n F.hx F.hb d_Tokens_scanSign_65 rfl (lv_at hl 2 rfl) ?_
      obtain ⟨q8, hq8⟩ : ∃ q, q = (t_Tokens_add M 51 0 x3) := ⟨_, rfl⟩
      replace hT := qlet_eq hT hq8
      refine r_backV F hS (r_runV (k := 42) (N := 4) (T := T10) (As := [vI 51, vI 0, vI x3]) F hS (show 42 < 191 by decide) (show shK 42 = 14 from rfl) rfl (c_Tokens_add l F.2.2.1 M 51 0 x3 (inr_c rfl) (inr_c rfl) hx3 _ hq8.symm) gs_Tokens_47 hd_Tokens_add ⟨Nat.le_of_ble_eq_true rfl, Nat.le_of_ble_eq_true rfl⟩ rfl hl.1 (Nat.le_of_ble_eq_true rfl) ⟨Nat.zero_le _, Nat.zero_le _⟩ rfl d_Tokens_scanSign_66) (fun H locs hS => ?_)
      refine lv_iload_n F.hx F.hb d_Tokens_scanSign_69 rfl (lv_at hl 2 rfl) ?_
      refine r_iconst F.hx F.hb d_Tokens_scanSign_70 ?_
      refine r_iadd F.hx F.hb d_Tokens_scanSign_71 ?_
      subst hT
      exact r_iret F hlk hr rfl hS (inr_w32 _) d_Tokens_scanSign_72
set_option maxHeartbeats 4000000 in
set_option maxRecDepth 100000 in
theorem c_Tokens_scanSign (l : Launch) {b n : Nat} {C : CT} (hlo : 191 ≤ n) (M : Mem) (x1 : Int) (x2 : Int) (x3 : Int) (hx1 : InR x1) (hx2 : InR x2) (hx3 : InR x3) (res : Mem × Int) (hT : t_Tokens_scanSign M x1 x2 x3 = res) : CM l b C n 2 y_Tokens_scanSign b_Tokens_scanSign 5 (some .int) [.ref (b + 42), vI x1, vI x2, vI x3] M (QI b C n res.1 res.2) := by
  refine CM.of (lo := 191) (ow := "WardFalls$Tokens") (by decide) rfl (Nat.le_of_ble_eq_true rfl) hlo (fun p e s m below meth c F hlk hr hS ls hl => ?_)
  have hl : lv_has ls 5 [(0, .ref (b + 42)), (1, vI x1), (2, vI x2), (3, vI x3)] := hl
  unfold t_Tokens_scanSign at hT
  refine lv_iload_n F.hx F.hb d_Tokens_scanSign_0 rfl (lv_at hl 1 rfl) ?_
  obtain ⟨q1, hq1⟩ : ∃ q, q = (t_Tokens_signOf M x1) := ⟨_, rfl⟩
  replace hT := qlet_eq hT hq1
  refine r_backI F hS (r_runS (As := [vI x1]) F hS (c_Tokens_signOf l F.2.2.1 M x1 hx1 _ hq1.symm) gs_Tokens_65 hd_Tokens_signOf ⟨Nat.le_of_ble_eq_true rfl, Nat.le_of_ble_eq_true rfl⟩ rfl hl.1 (Nat.le_of_ble_eq_true rfl) ⟨Nat.zero_le _, Nat.zero_le _⟩ rfl d_Tokens_scanSign_1) (fun H locs hS h2 => ?_)
  refine lv_istore (lv' := [(4, vI q1), (0, .ref (b + 42)), (1, vI x1), (2, vI x2), (3, vI x3)]) F.hx F.hb d_Tokens_scanSign_4 hl (Nat.le_of_ble_eq_true rfl) rfl (fun ls hl => ?_)
  refine lv_iload F.hx F.hb d_Tokens_scanSign_6 (lv_at hl 0 rfl) ?_
  refine r_bipush F.hx F.hb d_Tokens_scanSign_8 rfl ?_
  refine r_icmp_ne (tgt := 48) F.hx F.hb h2 (inr_c rfl) d_Tokens_scanSign_10 (by decide) (fun c3 => ?_) (fun c3 => ?_)
  · replace hT := (if_neg c3).symm.trans hT
    exact k_Tokens_scanSign_L48 l hlo x1 x2 x3 hx1 hx2 hx3 F hlk hr M q1 h2 _ _ _ hS (lv_sub hl [1, 3, 4, 0] rfl) hT
  · replace hT := (if_pos c3).symm.trans hT
    refine lv_iload_n F.hx F.hb d_Tokens_scanSign_13 rfl (lv_at hl 3 rfl) ?_
    refine r_bipush F.hx F.hb d_Tokens_scanSign_14 rfl ?_
    refine r_icmp_eq (tgt := 25) F.hx F.hb hx2 (inr_c rfl) d_Tokens_scanSign_16 (by decide) (fun c4 => ?_) (fun c4 => ?_)
    · replace hT := (if_pos c4).symm.trans hT
      exact k_Tokens_scanSign_L25 l hlo x1 x2 x3 hx1 hx2 hx3 F hlk hr M _ _ _ hS (lv_sub hl [1, 3, 4] rfl) hT
    · replace hT := (if_neg c4).symm.trans hT
      refine lv_iload_n F.hx F.hb d_Tokens_scanSign_19 rfl (lv_at hl 3 rfl) ?_
      refine r_bipush F.hx F.hb d_Tokens_scanSign_20 rfl ?_
      refine r_icmp_ne (tgt := 48) F.hx F.hb hx2 (inr_c rfl) d_Tokens_scanSign_22 (by decide) (fun c5 => ?_) (fun c5 => ?_)
      · replace hT := (if_neg c5).symm.trans hT
        exact k_Tokens_scanSign_L48 l hlo x1 x2 x3 hx1 hx2 hx3 F hlk hr M q1 h2 _ _ _ hS (lv_sub hl [1, 3, 4, 0] rfl) hT
      · replace hT := (if_pos c5).symm.trans hT
        exact k_Tokens_scanSign_L25 l hlo x1 x2 x3 hx1 hx2 hx3 F hlk hr M _ _ _ hS (lv_sub hl [1, 3, 4] rfl) hT
theorem d_Tokens_scan_0 : decode b_Tokens_scan 0 = .ok (.aload_n 0, 1) := dc_42 (by decide +kernel)
theorem d_Tokens_scan_1 : decode b_Tokens_scan 1 = .ok (.iconst 0, 1) := dc_3 (by decide +kernel)
theorem d_Tokens_scan_2 : decode b_Tokens_scan 2 = .ok (.putfield 21, 3) := dc_181 (by decide +kernel)
theorem d_Tokens_scan_5 : decode b_Tokens_scan 5 = .ok (.iconst 0, 1) := dc_3 (by decide +kernel)
theorem d_Tokens_scan_6 : decode b_Tokens_scan 6 = .ok (.istore_n 3, 1) := dc_62 (by decide +kernel)
theorem d_Tokens_scan_7 : decode b_Tokens_scan 7 = .ok (.iconst 0, 1) := dc_3 (by decide +kernel)
theorem d_Tokens_scan_8 : decode b_Tokens_scan 8 = .ok (.istore 4, 2) := dc_54 (by decide +kernel)
theorem d_Tokens_scan_10 : decode b_Tokens_scan 10 = .ok (.iload 4, 2) := dc_21 (by decide +kernel)
theorem d_Tokens_scan_12 : decode b_Tokens_scan 12 = .ok (.sipush 700, 3) := dc_17 (by decide +kernel)
theorem d_Tokens_scan_15 : decode b_Tokens_scan 15 = .ok (.if_icmp .ge 105, 3) := dc_162 (by decide +kernel)
theorem d_Tokens_scan_18 : decode b_Tokens_scan 18 = .ok (.iload_n 3, 1) := dc_29 (by decide +kernel)
theorem d_Tokens_scan_19 : decode b_Tokens_scan 19 = .ok (.iload_n 2, 1) := dc_28 (by decide +kernel)
theorem d_Tokens_scan_20 : decode b_Tokens_scan 20 = .ok (.if_icmp .ge 100, 3) := dc_162 (by decide +kernel)
theorem d_Tokens_scan_23 : decode b_Tokens_scan 23 = .ok (.aload_n 1, 1) := dc_43 (by decide +kernel)
theorem d_Tokens_scan_24 : decode b_Tokens_scan 24 = .ok (.iload_n 3, 1) := dc_29 (by decide +kernel)
theorem d_Tokens_scan_25 : decode b_Tokens_scan 25 = .ok (.invokestatic 25, 3) := dc_184 (by decide +kernel)
theorem d_Tokens_scan_28 : decode b_Tokens_scan 28 = .ok (.istore 5, 2) := dc_54 (by decide +kernel)
theorem d_Tokens_scan_30 : decode b_Tokens_scan 30 = .ok (.iload 5, 2) := dc_21 (by decide +kernel)
theorem d_Tokens_scan_32 : decode b_Tokens_scan 32 = .ok (.bipush 10, 2) := dc_16 (by decide +kernel)
theorem d_Tokens_scan_34 : decode b_Tokens_scan 34 = .ok (.if_icmp .eq 10, 3) := dc_159 (by decide +kernel)
theorem d_Tokens_scan_37 : decode b_Tokens_scan 37 = .ok (.iload 5, 2) := dc_21 (by decide +kernel)
theorem d_Tokens_scan_39 : decode b_Tokens_scan 39 = .ok (.bipush 32, 2) := dc_16 (by decide +kernel)
theorem d_Tokens_scan_41 : decode b_Tokens_scan 41 = .ok (.if_icmp .ne 9, 3) := dc_160 (by decide +kernel)
theorem d_Tokens_scan_44 : decode b_Tokens_scan 44 = .ok (.iinc 3 1, 3) := dc_132 (by decide +kernel)
theorem d_Tokens_scan_47 : decode b_Tokens_scan 47 = .ok (.goto 67, 3) := dc_167 (by decide +kernel)
theorem d_Tokens_scan_50 : decode b_Tokens_scan 50 = .ok (.iload 5, 2) := dc_21 (by decide +kernel)
theorem d_Tokens_scan_52 : decode b_Tokens_scan 52 = .ok (.invokestatic 29, 3) := dc_184 (by decide +kernel)
theorem d_Tokens_scan_55 : decode b_Tokens_scan 55 = .ok (.ifCond .eq 14, 3) := dc_153 (by decide +kernel)
theorem d_Tokens_scan_58 : decode b_Tokens_scan 58 = .ok (.aload_n 0, 1) := dc_42 (by decide +kernel)
theorem d_Tokens_scan_59 : decode b_Tokens_scan 59 = .ok (.aload_n 1, 1) := dc_43 (by decide +kernel)
theorem d_Tokens_scan_60 : decode b_Tokens_scan 60 = .ok (.iload_n 3, 1) := dc_29 (by decide +kernel)
theorem d_Tokens_scan_61 : decode b_Tokens_scan 61 = .ok (.iload_n 2, 1) := dc_28 (by decide +kernel)
theorem d_Tokens_scan_62 : decode b_Tokens_scan 62 = .ok (.invokevirtual 33, 3) := dc_182 (by decide +kernel)
theorem d_Tokens_scan_65 : decode b_Tokens_scan 65 = .ok (.istore_n 3, 1) := dc_62 (by decide +kernel)
theorem d_Tokens_scan_66 : decode b_Tokens_scan 66 = .ok (.goto 48, 3) := dc_167 (by decide +kernel)
theorem d_Tokens_scan_69 : decode b_Tokens_scan 69 = .ok (.iload 5, 2) := dc_21 (by decide +kernel)
theorem d_Tokens_scan_71 : decode b_Tokens_scan 71 = .ok (.invokestatic 37, 3) := dc_184 (by decide +kernel)
theorem d_Tokens_scan_74 : decode b_Tokens_scan 74 = .ok (.ifCond .eq 14, 3) := dc_153 (by decide +kernel)
theorem d_Tokens_scan_77 : decode b_Tokens_scan 77 = .ok (.aload_n 0, 1) := dc_42 (by decide +kernel)
theorem d_Tokens_scan_78 : decode b_Tokens_scan 78 = .ok (.aload_n 1, 1) := dc_43 (by decide +kernel)
theorem d_Tokens_scan_79 : decode b_Tokens_scan 79 = .ok (.iload_n 3, 1) := dc_29 (by decide +kernel)
theorem d_Tokens_scan_80 : decode b_Tokens_scan 80 = .ok (.iload_n 2, 1) := dc_28 (by decide +kernel)
theorem d_Tokens_scan_81 : decode b_Tokens_scan 81 = .ok (.invokevirtual 40, 3) := dc_182 (by decide +kernel)
theorem d_Tokens_scan_84 : decode b_Tokens_scan 84 = .ok (.istore_n 3, 1) := dc_62 (by decide +kernel)
theorem d_Tokens_scan_85 : decode b_Tokens_scan 85 = .ok (.goto 29, 3) := dc_167 (by decide +kernel)
theorem d_Tokens_scan_88 : decode b_Tokens_scan 88 = .ok (.aload_n 0, 1) := dc_42 (by decide +kernel)
theorem d_Tokens_scan_89 : decode b_Tokens_scan 89 = .ok (.iload 5, 2) := dc_21 (by decide +kernel)
theorem d_Tokens_scan_91 : decode b_Tokens_scan 91 = .ok (.iload_n 3, 1) := dc_29 (by decide +kernel)
theorem d_Tokens_scan_92 : decode b_Tokens_scan 92 = .ok (.iconst 1, 1) := dc_4 (by decide +kernel)
theorem d_Tokens_scan_93 : decode b_Tokens_scan 93 = .ok (.iadd, 1) := dc_96 (by decide +kernel)
theorem d_Tokens_scan_94 : decode b_Tokens_scan 94 = .ok (.iload_n 2, 1) := dc_28 (by decide +kernel)
theorem d_Tokens_scan_95 : decode b_Tokens_scan 95 = .ok (.if_icmp .ge 13, 3) := dc_162 (by decide +kernel)
theorem d_Tokens_scan_98 : decode b_Tokens_scan 98 = .ok (.aload_n 1, 1) := dc_43 (by decide +kernel)
theorem d_Tokens_scan_99 : decode b_Tokens_scan 99 = .ok (.iload_n 3, 1) := dc_29 (by decide +kernel)
theorem d_Tokens_scan_100 : decode b_Tokens_scan 100 = .ok (.iconst 1, 1) := dc_4 (by decide +kernel)
theorem d_Tokens_scan_101 : decode b_Tokens_scan 101 = .ok (.iadd, 1) := dc_96 (by decide +kernel)
theorem d_Tokens_scan_102 : decode b_Tokens_scan 102 = .ok (.invokestatic 25, 3) := dc_184 (by decide +kernel)
theorem d_Tokens_scan_105 : decode b_Tokens_scan 105 = .ok (.goto 4, 3) := dc_167 (by decide +kernel)
theorem d_Tokens_scan_108 : decode b_Tokens_scan 108 = .ok (.iconst (-1), 1) := dc_2 (by decide +kernel)
theorem d_Tokens_scan_109 : decode b_Tokens_scan 109 = .ok (.iload_n 3, 1) := dc_29 (by decide +kernel)
theorem d_Tokens_scan_110 : decode b_Tokens_scan 110 = .ok (.invokevirtual 43, 3) := dc_182 (by decide +kernel)
theorem d_Tokens_scan_113 : decode b_Tokens_scan 113 = .ok (.istore_n 3, 1) := dc_62 (by decide +kernel)
theorem d_Tokens_scan_114 : decode b_Tokens_scan 114 = .ok (.iinc 4 1, 3) := dc_132 (by decide +kernel)
theorem d_Tokens_scan_117 : decode b_Tokens_scan 117 = .ok (.goto (-107), 3) := dc_167 (by decide +kernel)
theorem d_Tokens_scan_120 : decode b_Tokens_scan 120 = .ok (.aload_n 0, 1) := dc_42 (by decide +kernel)
theorem d_Tokens_scan_121 : decode b_Tokens_scan 121 = .ok (.bipush 32, 2) := dc_16 (by decide +kernel)
theorem d_Tokens_scan_123 : decode b_Tokens_scan 123 = .ok (.iconst 0, 1) := dc_3 (by decide +kernel)
theorem d_Tokens_scan_124 : decode b_Tokens_scan 124 = .ok (.iload_n 2, 1) := dc_28 (by decide +kernel)
theorem d_Tokens_scan_125 : decode b_Tokens_scan 125 = .ok (.invokevirtual 47, 3) := dc_182 (by decide +kernel)
theorem d_Tokens_scan_128 : decode b_Tokens_scan 128 = .ok (.return_, 1) := dc_177 (by decide +kernel)
def t_Tokens_scan_L114 (r1 : Nat) (N1 : Nat) (x2 : Int) (bk10 : Mem → Int → Int → Option (Mem)) (M : Mem) (v3_ : Int) (v4_ : Int) : Option (Mem) := (bk10 M v3_ (w32 (v4_ + 1)))
def t_Tokens_scan_L44 (r1 : Nat) (N1 : Nat) (x2 : Int) (bk10 : Mem → Int → Int → Option (Mem)) (M : Mem) (v3_ : Int) (v4_ : Int) : Option (Mem) := (t_Tokens_scan_L114 r1 N1 x2 bk10 M (w32 (v3_ + 1)) v4_)
def t_Tokens_scan_L109 (r1 : Nat) (N1 : Nat) (x2 : Int) (bk10 : Mem → Int → Int → Option (Mem)) (M : Mem) (v3_ : Int) (v4_ : Int) (v6_ : Int) (v7_ : Int) : Option (Mem) := (qlet (t_Tokens_scanSign M v6_ v7_ v3_) fun q23 => (t_Tokens_scan_L114 r1 N1 x2 bk10 (q23.1) (q23.2) v4_))
def t_Tokens_scan_L120 (r1 : Nat) (N1 : Nat) (x2 : Int)  (M : Mem)  : Option (Mem) := (qlet (t_Tokens_add M 32 0 x2) fun q21 => (some q21))
def t_Tokens_scan_L10 (r1 : Nat) (N1 : Nat) (x2 : Int)  : Nat → Mem → Int → Int → Option (Mem)
  | 0, _, _, _ => none
  | fu + 1, M, v3_, v4_ => (if 700 ≤ v4_ then (t_Tokens_scan_L120 r1 N1 x2 M) else (if x2 ≤ v3_ then (t_Tokens_scan_L120 r1 N1 x2 M) else (qlet (t_WF_look M r1 N1 v3_) fun q4 => (if q4 = 10 then (t_Tokens_scan_L44 r1 N1 x2 (fun a0_ a1_ a2_ => t_Tokens_scan_L10 r1 N1 x2 fu a0_ a1_ a2_) M v3_ v4_) else (if q4 = 32 then (t_Tokens_scan_L44 r1 N1 x2 (fun a0_ a1_ a2_ => t_Tokens_scan_L10 r1 N1 x2 fu a0_ a1_ a2_) M v3_ v4_) else (qlet (t_Tokens_isLetter M q4) fun q8 => (if q8 = 0 then (qlet (t_Tokens_isDigit M q4) fun q11 => (if q11 = 0 then (if x2 ≤ (w32 (v3_ + 1)) then (t_Tokens_scan_L109 r1 N1 x2 (fun a0_ a1_ a2_ => t_Tokens_scan_L10 r1 N1 x2 fu a0_ a1_ a2_) M v3_ v4_ q4 (-1)) else (qlet (t_WF_look M r1 N1 (w32 (v3_ + 1))) fun q15 => (t_Tokens_scan_L109 r1 N1 x2 (fun a0_ a1_ a2_ => t_Tokens_scan_L10 r1 N1 x2 fu a0_ a1_ a2_) M v3_ v4_ q4 q15))) else (obind (t_Tokens_scanNumber M r1 N1 v3_ x2) fun q17 => (t_Tokens_scan_L114 r1 N1 x2 (fun a0_ a1_ a2_ => t_Tokens_scan_L10 r1 N1 x2 fu a0_ a1_ a2_) (q17.1) (q17.2) v4_)))) else (obind (t_Tokens_scanWord M r1 N1 v3_ x2) fun q19 => (t_Tokens_scan_L114 r1 N1 x2 (fun a0_ a1_ a2_ => t_Tokens_scan_L10 r1 N1 x2 fu a0_ a1_ a2_) (q19.1) (q19.2) v4_)))))))))
def t_Tokens_scan (M : Mem) (r1 : Nat) (N1 : Nat) (x2 : Int) : Option (Mem) := (qlet (setI M 42 3 0) fun M1 => (t_Tokens_scan_L10 r1 N1 x2 FU M1 0 0))
set_option maxHeartbeats 4000000 in
set_option maxRecDepth 100000 in
theorem k_Tokens_scan_L114 (l : Launch) {p : Program} {e : Env} {s : State} {m : MethodId} {below : List Frame} {meth : Method} {c : Code} {b n : Nat} {C : CT} (hlo : 191 ≤ n) (r1 : Nat) (N1 : Nat) (x2 : Int) (hr1 : arrP 0 r1 N1 191) (hx2 : InR x2) (F : Cx b p m c b_Tokens_scan 6 s ([.ref (b + 42), .ref (b + r1), vI x2] : List Value).toArray "WardFalls$Tokens" C n 191) (hlk : meth.locks = false) (hr : meth.sig.returnType = none) {res : Mem} (bk10 : Mem → Int → Int → Option (Mem)) (hbk10 : ∀ (M : Mem) (v3_ : Int) (hv3_ : InR v3_) (v4_ : Int) (hv4_ : InR v4_) (H : Heap) (locs : List Loc) (ls : Array Slot), St b C n M s H locs → lv_has ls 6 [(0, .ref (b + 42)), (1, .ref (b + r1)), (2, vI x2), (3, vI v3_), (4, vI v4_)] → bk10 M v3_ v4_ = some res → W p l e (headSpec (wsM y_Tokens_scan b_Tokens_scan 6 (none)) (rmD 7)).room s m ([.ref (b + 42), .ref (b + r1), vI x2] : List Value).toArray below meth c H locs 0 0 (MQ below (QV b C n res) ([.ref (b + 42), .ref (b + r1), vI x2] : List Value).toArray s 0 0 (frb b)) (F0 m 10 ls [])) (M : Mem) (v3_ : Int) (hv3_ : InR v3_) (v4_ : Int) (hv4_ : InR v4_) (H : Heap) (locs : List Loc) (ls : Array Slot) (hS : St b C n M s H locs) (hl : lv_has ls 6 [(0, .ref (b + 42)), (1, .ref (b + r1)), (2, vI x2), (3, vI v3_), (4, vI v4_)]) (hT : t_Tokens_scan_L114 r1 N1 x2 bk10 M v3_ v4_ = some res) : W p l e (headSpec (wsM y_Tokens_scan b_Tokens_scan 6 (none)) (rmD 7)).room s m ([.ref (b + 42), .ref (b + r1), vI x2] : List Value).toArray below meth c H locs 0 0 (MQ below (QV b C n res) ([.ref (b + 42), .ref (b + r1), vI x2] : List Value).toArray s 0 0 (frb b)) (F0 m 114 ls []) := by
  unfold t_Tokens_scan_L114 at hT
  refine lv_iinc (v := Int32.ofInt (w32 (v4_ + 1))) (lv' := [(4, vI (w32 (v4_ + 1))), (0, .ref (b + 42)), (1, .ref (b + r1)), (2, vI x2), (3, vI v3_)]) F.hx F.hb d_Tokens_scan_114 hl (k := 4) rfl (q_of_add _ _) (Nat.le_of_ble_eq_true rfl) rfl (fun ls hl => ?_)
  refine lv_goto (tgt := 10) F.hx F.hb d_Tokens_scan_117 (by decide) ?_
  exact hbk10 M v3_ hv3_ (w32 (v4_ + 1)) (inr_w32 _) _ _ _ hS (lv_sub hl [1, 2, 3, 4, 0] rfl) hT
set_option maxHeartbeats 4000000 in
set_option maxRecDepth 100000 in
theorem k_Tokens_scan_L44 (l : Launch) {p : Program} {e : Env} {s : State} {m : MethodId} {below : List Frame} {meth : Method} {c : Code} {b n : Nat} {C : CT} (hlo : 191 ≤ n) (r1 : Nat) (N1 : Nat) (x2 : Int) (hr1 : arrP 0 r1 N1 191) (hx2 : InR x2) (F : Cx b p m c b_Tokens_scan 6 s ([.ref (b + 42), .ref (b + r1), vI x2] : List Value).toArray "WardFalls$Tokens" C n 191) (hlk : meth.locks = false) (hr : meth.sig.returnType = none) {res : Mem} (bk10 : Mem → Int → Int → Option (Mem)) (hbk10 : ∀ (M : Mem) (v3_ : Int) (hv3_ : InR v3_) (v4_ : Int) (hv4_ : InR v4_) (H : Heap) (locs : List Loc) (ls : Array Slot), St b C n M s H locs → lv_has ls 6 [(0, .ref (b + 42)), (1, .ref (b + r1)), (2, vI x2), (3, vI v3_), (4, vI v4_)] → bk10 M v3_ v4_ = some res → W p l e (headSpec (wsM y_Tokens_scan b_Tokens_scan 6 (none)) (rmD 7)).room s m ([.ref (b + 42), .ref (b + r1), vI x2] : List Value).toArray below meth c H locs 0 0 (MQ below (QV b C n res) ([.ref (b + 42), .ref (b + r1), vI x2] : List Value).toArray s 0 0 (frb b)) (F0 m 10 ls [])) (M : Mem) (v3_ : Int) (hv3_ : InR v3_) (v4_ : Int) (hv4_ : InR v4_) (H : Heap) (locs : List Loc) (ls : Array Slot) (hS : St b C n M s H locs) (hl : lv_has ls 6 [(0, .ref (b + 42)), (1, .ref (b + r1)), (2, vI x2), (3, vI v3_), (4, vI v4_)]) (hT : t_Tokens_scan_L44 r1 N1 x2 bk10 M v3_ v4_ = some res) : W p l e (headSpec (wsM y_Tokens_scan b_Tokens_scan 6 (none)) (rmD 7)).room s m ([.ref (b + 42), .ref (b + r1), vI x2] : List Value).toArray below meth c H locs 0 0 (MQ below (QV b C n res) ([.ref (b + 42), .ref (b + r1), vI x2] : List Value).toArray s 0 0 (frb b)) (F0 m 44 ls []) := by
  unfold t_Tokens_scan_L44 at hT
  refine lv_iinc (v := Int32.ofInt (w32 (v3_ + 1))) (lv' := [(3, vI (w32 (v3_ + 1))), (0, .ref (b + 42)), (1, .ref (b + r1)), (2, vI x2), (4, vI v4_)]) F.hx F.hb d_Tokens_scan_44 hl (k := 3) rfl (q_of_add _ _) (Nat.le_of_ble_eq_true rfl) rfl (fun ls hl => ?_)
  refine lv_goto (tgt := 114) F.hx F.hb d_Tokens_scan_47 (by decide) ?_
  exact k_Tokens_scan_L114 l hlo r1 N1 x2 hr1 hx2 F hlk hr bk10 hbk10 M (w32 (v3_ + 1)) (inr_w32 _) v4_ hv4_ _ _ _ hS (lv_sub hl [1, 2, 3, 0, 4] rfl) hT
set_option maxHeartbeats 4000000 in
set_option maxRecDepth 100000 in
theorem k_Tokens_scan_L109 (l : Launch) {p : Program} {e : Env} {s : State} {m : MethodId} {below : List Frame} {meth : Method} {c : Code} {b n : Nat} {C : CT} (hlo : 191 ≤ n) (r1 : Nat) (N1 : Nat) (x2 : Int) (hr1 : arrP 0 r1 N1 191) (hx2 : InR x2) (F : Cx b p m c b_Tokens_scan 6 s ([.ref (b + 42), .ref (b + r1), vI x2] : List Value).toArray "WardFalls$Tokens" C n 191) (hlk : meth.locks = false) (hr : meth.sig.returnType = none) {res : Mem} (bk10 : Mem → Int → Int → Option (Mem)) (hbk10 : ∀ (M : Mem) (v3_ : Int) (hv3_ : InR v3_) (v4_ : Int) (hv4_ : InR v4_) (H : Heap) (locs : List Loc) (ls : Array Slot), St b C n M s H locs → lv_has ls 6 [(0, .ref (b + 42)), (1, .ref (b + r1)), (2, vI x2), (3, vI v3_), (4, vI v4_)] → bk10 M v3_ v4_ = some res → W p l e (headSpec (wsM y_Tokens_scan b_Tokens_scan 6 (none)) (rmD 7)).room s m ([.ref (b + 42), .ref (b + r1), vI x2] : List Value).toArray below meth c H locs 0 0 (MQ below (QV b C n res) ([.ref (b + 42), .ref (b + r1), vI x2] : List Value).toArray s 0 0 (frb b)) (F0 m 10 ls [])) (M : Mem) (v3_ : Int) (hv3_ : InR v3_) (v4_ : Int) (hv4_ : InR v4_) (v6_ : Int) (hv6_ : InR v6_) (v7_ : Int) (hv7_ : InR v7_) (H : Heap) (locs : List Loc) (ls : Array Slot) (hS : St b C n M s H locs) (hl : lv_has ls 6 [(0, .ref (b + 42)), (1, .ref (b + r1)), (2, vI x2), (3, vI v3_), (4, vI v4_)]) (hT : t_Tokens_scan_L109 r1 N1 x2 bk10 M v3_ v4_ v6_ v7_ = some res) : W p l e (headSpec (wsM y_Tokens_scan b_Tokens_scan 6 (none)) (rmD 7)).room s m ([.ref (b + 42), .ref (b + r1), vI x2] : List Value).toArray below meth c H locs 0 0 (MQ below (QV b C n res) ([.ref (b + 42), .ref (b + r1), vI x2] : List Value).toArray s 0 0 (frb b)) (F0 m 109 ls [vI v7_, vI v6_, .ref (b + 42)]) := by
  unfold t_Tokens_scan_L109 at hT
  refine lv_iload_n F.hx F.hb d_Tokens_scan_109 rfl (lv_at hl 3 rfl) ?_
  obtain ⟨q23, hq23⟩ : ∃ q, q = (t_Tokens_scanSign M v6_ v7_ v3_) := ⟨_, rfl⟩
  replace hT := qlet_eq hT hq23
  refine r_backI F hS (r_runV (k := 42) (N := 4) (T := T10) (As := [vI v6_, vI v7_, vI v3_]) F hS (show 42 < 191 by decide) (show shK 42 = 14 from rfl) rfl (c_Tokens_scanSign l F.2.2.1 M v6_ v7_ v3_ hv6_ hv7_ hv3_ _ hq23.symm) gs_Tokens_43 hd_Tokens_scanSign ⟨Nat.le_of_ble_eq_true rfl, Nat.le_of_ble_eq_true rfl⟩ rfl hl.1 (Nat.le_of_ble_eq_true rfl) ⟨Nat.zero_le _, Nat.zero_le _⟩ rfl d_Tokens_scan_110) (fun H locs hS h24 => ?_)
  refine lv_istore_n (lv' := [(3, vI (q23.2)), (0, .ref (b + 42)), (1, .ref (b + r1)), (2, vI x2), (4, vI v4_)]) F.hx F.hb d_Tokens_scan_113 rfl hl (Nat.le_of_ble_eq_true rfl) rfl (fun ls hl => ?_)
  exact k_Tokens_scan_L114 l hlo r1 N1 x2 hr1 hx2 F hlk hr bk10 hbk10 (q23.1) (q23.2) h24 v4_ hv4_ _ _ _ hS (lv_sub hl [1, 2, 3, 0, 4] rfl) hT
set_option maxHeartbeats 4000000 in
set_option maxRecDepth 100000 in
theorem k_Tokens_scan_L120 (l : Launch) {p : Program} {e : Env} {s : State} {m : MethodId} {below : List Frame} {meth : Method} {c : Code} {b n : Nat} {C : CT} (hlo : 191 ≤ n) (r1 : Nat) (N1 : Nat) (x2 : Int) (hr1 : arrP 0 r1 N1 191) (hx2 : InR x2) (F : Cx b p m c b_Tokens_scan 6 s ([.ref (b + 42), .ref (b + r1), vI x2] : List Value).toArray "WardFalls$Tokens" C n 191) (hlk : meth.locks = false) (hr : meth.sig.returnType = none) {res : Mem} (M : Mem)  (H : Heap) (locs : List Loc) (ls : Array Slot) (hS : St b C n M s H locs) (hl : lv_has ls 6 [(0, .ref (b + 42)), (2, vI x2)]) (hT : t_Tokens_scan_L120 r1 N1 x2 M = some res) : W p l e (headSpec (wsM y_Tokens_scan b_Tokens_scan 6 (none)) (rmD 7)).room s m ([.ref (b + 42), .ref (b + r1), vI x2] : List Value).toArray below meth c H locs 0 0 (MQ below (QV b C n res) ([.ref (b + 42), .ref (b + r1), vI x2] : List Value).toArray s 0 0 (frb b)) (F0 m 120 ls []) := by
  unfold t_Tokens_scan_L120 at hT
  refine lv_aload_n F.hx F.hb d_Tokens_scan_120 rfl (lv_at hl 0 rfl) ?_
  refine r_bipush F.hx F.hb d_Tokens_scan_121 rfl ?_
  refine r_iconst F.hx F.hb d_Tokens_scan_123 ?_
  refine lv_iload_n F.hx F.hb d_Tokens_scan_124 rfl (lv_at hl 1 rfl) ?_
  obtain ⟨q21, hq21⟩ : ∃ q, q = (t_Tokens_add M 32 0 x2) := ⟨_, rfl⟩
  replace hT := qlet_eq hT hq21
  refine r_backV F hS (r_runV (k := 42) (N := 4) (T := T10) (As := [vI 32, vI 0, vI x2]) F hS (show 42 < 191 by decide) (show shK 42 = 14 from rfl) rfl (c_Tokens_add l F.2.2.1 M 32 0 x2 (inr_c rfl) (inr_c rfl) hx2 _ hq21.symm) gs_Tokens_47 hd_Tokens_add ⟨Nat.le_of_ble_eq_true rfl, Nat.le_of_ble_eq_true rfl⟩ rfl hl.1 (Nat.le_of_ble_eq_true rfl) ⟨Nat.zero_le _, Nat.zero_le _⟩ rfl d_Tokens_scan_125) (fun H locs hS => ?_)
  cases hT
  exact r_vret F hlk hr hS d_Tokens_scan_128
set_option maxHeartbeats 4000000 in
set_option maxRecDepth 100000 in
theorem k_Tokens_scan_L10 (l : Launch) {p : Program} {e : Env} {s : State} {m : MethodId} {below : List Frame} {meth : Method} {c : Code} {b n : Nat} {C : CT} (hlo : 191 ≤ n) (r1 : Nat) (N1 : Nat) (x2 : Int) (hr1 : arrP 0 r1 N1 191) (hx2 : InR x2) (F : Cx b p m c b_Tokens_scan 6 s ([.ref (b + 42), .ref (b + r1), vI x2] : List Value).toArray "WardFalls$Tokens" C n 191) (hlk : meth.locks = false) (hr : meth.sig.returnType = none) {res : Mem} : ∀ (fu : Nat) (M : Mem) (v3_ : Int) (hv3_ : InR v3_) (v4_ : Int) (hv4_ : InR v4_) (H : Heap) (locs : List Loc) (ls : Array Slot), St b C n M s H locs → lv_has ls 6 [(0, .ref (b + 42)), (1, .ref (b + r1)), (2, vI x2), (3, vI v3_), (4, vI v4_)] → t_Tokens_scan_L10 r1 N1 x2 fu M v3_ v4_ = some res → W p l e (headSpec (wsM y_Tokens_scan b_Tokens_scan 6 (none)) (rmD 7)).room s m ([.ref (b + 42), .ref (b + r1), vI x2] : List Value).toArray below meth c H locs 0 0 (MQ below (QV b C n res) ([.ref (b + 42), .ref (b + r1), vI x2] : List Value).toArray s 0 0 (frb b)) (F0 m 10 ls []) := by
  intro fu
  induction fu with
  | zero => intro M v3_ hv3_ v4_ hv4_ H locs ls hS hl hT; exact absurd hT (by simp [t_Tokens_scan_L10])
  | succ fu ih =>
    intro M v3_ hv3_ v4_ hv4_ H locs ls hS hl hT
    rw [t_Tokens_scan_L10] at hT
    refine lv_iload F.hx F.hb d_Tokens_scan_10 (lv_at hl 4 rfl) ?_
    refine r_sipush F.hx F.hb d_Tokens_scan_12 rfl ?_
    refine r_icmp_ge (tgt := 120) F.hx F.hb hv4_ (inr_c rfl) d_Tokens_scan_15 (by decide) (fun c2 => ?_) (fun c2 => ?_)
    · replace hT := (if_pos c2).symm.trans hT
      exact k_Tokens_scan_L120 l hlo r1 N1 x2 hr1 hx2 F hlk hr M _ _ _ hS (lv_sub hl [0, 2] rfl) hT
    · replace hT := (if_neg c2).symm.trans hT
      refine lv_iload_n F.hx F.hb d_Tokens_scan_18 rfl (lv_at hl 3 rfl) ?_
      refine lv_iload_n F.hx F.hb d_Tokens_scan_19 rfl (lv_at hl 2 rfl) ?_
      refine r_icmp_ge (tgt := 120) F.hx F.hb hv3_ hx2 d_Tokens_scan_20 (by decide) (fun c3 => ?_) (fun c3 => ?_)
      · replace hT := (if_pos c3).symm.trans hT
        exact k_Tokens_scan_L120 l hlo r1 N1 x2 hr1 hx2 F hlk hr M _ _ _ hS (lv_sub hl [0, 2] rfl) hT
      · replace hT := (if_neg c3).symm.trans hT
        refine lv_aload_n F.hx F.hb d_Tokens_scan_23 rfl (lv_at hl 1 rfl) ?_
        refine lv_iload_n F.hx F.hb d_Tokens_scan_24 rfl (lv_at hl 3 rfl) ?_
        obtain ⟨q4, hq4⟩ : ∃ q, q = (t_WF_look M r1 N1 v3_) := ⟨_, rfl⟩
        replace hT := qlet_eq hT hq4
        refine r_backI F hS (r_runSN (As := [.ref (b + r1), vI v3_]) F hS (c_WF_look l F.2.2.1 M r1 N1 v3_ hr1 hv3_ _ hq4.symm) mw_519 mw_518 mw_1 gs_Tokens_25 hd_WF_look ⟨Nat.le_of_ble_eq_true rfl, Nat.le_of_ble_eq_true rfl⟩ rfl hl.1 (Nat.le_of_ble_eq_true rfl) ⟨Nat.zero_le _, Nat.zero_le _⟩ rfl d_Tokens_scan_25) (fun H locs hS h5 => ?_)
        refine lv_istore (lv' := [(5, vI q4), (0, .ref (b + 42)), (1, .ref (b + r1)), (2, vI x2), (3, vI v3_), (4, vI v4_)]) F.hx F.hb d_Tokens_scan_28 hl (Nat.le_of_ble_eq_true rfl) rfl (fun ls hl => ?_)
        refine lv_iload F.hx F.hb d_Tokens_scan_30 (lv_at hl 0 rfl) ?_
        refine r_bipush F.hx F.hb d_Tokens_scan_32 rfl ?_
        refine r_icmp_eq (tgt := 44) F.hx F.hb h5 (inr_c rfl) d_Tokens_scan_34 (by decide) (fun c6 => ?_) (fun c6 => ?_)
        · replace hT := (if_pos c6).symm.trans hT
          exact k_Tokens_scan_L44 l hlo r1 N1 x2 hr1 hx2 F hlk hr (fun a0_ a1_ a2_ => t_Tokens_scan_L10 r1 N1 x2 fu a0_ a1_ a2_) ih M v3_ hv3_ v4_ hv4_ _ _ _ hS (lv_sub hl [1, 2, 3, 4, 5] rfl) hT
        · replace hT := (if_neg c6).symm.trans hT
          refine lv_iload F.hx F.hb d_Tokens_scan_37 (lv_at hl 0 rfl) ?_
          refine r_bipush F.hx F.hb d_Tokens_scan_39 rfl ?_
          refine r_icmp_ne (tgt := 50) F.hx F.hb h5 (inr_c rfl) d_Tokens_scan_41 (by decide) (fun c7 => ?_) (fun c7 => ?_)
          · replace hT := (if_neg c7).symm.trans hT
            refine lv_iload F.hx F.hb d_Tokens_scan_50 (lv_at hl 0 rfl) ?_
            obtain ⟨q8, hq8⟩ : ∃ q, q = (t_Tokens_isLetter M q4) := ⟨_, rfl⟩
            replace hT := qlet_eq hT hq8
            refine r_backZ F hS (r_runS (As := [vI q4]) F hS (c_Tokens_isLetter l F.2.2.1 M q4 h5 _ hq8.symm) gs_Tokens_29 hd_Tokens_isLetter ⟨Nat.le_of_ble_eq_true rfl, Nat.le_of_ble_eq_true rfl⟩ rfl hl.1 (Nat.le_of_ble_eq_true rfl) ⟨Nat.zero_le _, Nat.zero_le _⟩ rfl d_Tokens_scan_52) (fun H locs hS h9 => ?_)
            refine r_if_eq (tgt := 69) F.hx F.hb (inr_z h9) d_Tokens_scan_55 (by decide) (fun c10 => ?_) (fun c10 => ?_)
            · replace hT := (if_pos c10).symm.trans hT
              refine lv_iload F.hx F.hb d_Tokens_scan_69 (lv_at hl 0 rfl) ?_
              obtain ⟨q11, hq11⟩ : ∃ q, q = (t_Tokens_isDigit M q4) := ⟨_, rfl⟩
              replace hT := qlet_eq hT hq11
              refine r_backZ F hS (r_runS (As := [vI q4]) F hS (c_Tokens_isDigit l F.2.2.1 M q4 h5 _ hq11.symm) gs_Tokens_37 hd_Tokens_isDigit ⟨Nat.le_of_ble_eq_true rfl, Nat.le_of_ble_eq_true rfl⟩ rfl hl.1 (Nat.le_of_ble_eq_true rfl) ⟨Nat.zero_le _, Nat.zero_le _⟩ rfl d_Tokens_scan_71) (fun H locs hS h12 => ?_)
              refine r_if_eq (tgt := 88) F.hx F.hb (inr_z h12) d_Tokens_scan_74 (by decide) (fun c13 => ?_) (fun c13 => ?_)
              · replace hT := (if_pos c13).symm.trans hT
                refine lv_aload_n F.hx F.hb d_Tokens_scan_88 rfl (lv_at hl 1 rfl) ?_
                refine lv_iload F.hx F.hb d_Tokens_scan_89 (lv_at hl 0 rfl) ?_
                refine lv_iload_n F.hx F.hb d_Tokens_scan_91 rfl (lv_at hl 4 rfl) ?_
                refine r_iconst F.hx F.hb d_Tokens_scan_92 ?_
                refine r_iadd F.hx F.hb d_Tokens_scan_93 ?_
                refine lv_iload_n F.hx F.hb d_Tokens_scan_94 rfl (lv_at hl 3 rfl) ?_
                refine r_icmp_ge (tgt := 108) F.hx F.hb (inr_w32 _) hx2 d_Tokens_scan_95 (by decide) (fun c14 => ?_) (fun c14 => ?_)
                · replace hT := (if_pos c14).symm.trans hT
                  refine r_iconst F.hx F.hb d_Tokens_scan_108 ?_
                  exact k_Tokens_scan_L109 l hlo r1 N1 x2 hr1 hx2 F hlk hr (fun a0_ a1_ a2_ => t_Tokens_scan_L10 r1 N1 x2 fu a0_ a1_ a2_) ih M v3_ hv3_ v4_ hv4_ q4 h5 (-1) (inr_c rfl) _ _ _ hS (lv_sub hl [1, 2, 3, 4, 5] rfl) hT
                · replace hT := (if_neg c14).symm.trans hT
                  refine lv_aload_n F.hx F.hb d_Tokens_scan_98 rfl (lv_at hl 2 rfl) ?_
                  refine lv_iload_n F.hx F.hb d_Tokens_scan_99 rfl (lv_at hl 4 rfl) ?_
                  refine r_iconst F.hx F.hb d_Tokens_scan_100 ?_
                  refine r_iadd F.hx F.hb d_Tokens_scan_101 ?_
                  obtain ⟨q15, hq15⟩ : ∃ q, q = (t_WF_look M r1 N1 (w32 (v3_ + 1))) := ⟨_, rfl⟩
                  replace hT := qlet_eq hT hq15
                  refine r_backI F hS (r_runSN (As := [.ref (b + r1), vI (w32 (v3_ + 1))]) F hS (c_WF_look l F.2.2.1 M r1 N1 (w32 (v3_ + 1)) hr1 (inr_w32 _) _ hq15.symm) mw_519 mw_518 mw_1 gs_Tokens_25 hd_WF_look ⟨Nat.le_of_ble_eq_true rfl, Nat.le_of_ble_eq_true rfl⟩ rfl hl.1 (Nat.le_of_ble_eq_true rfl) ⟨Nat.zero_le _, Nat.zero_le _⟩ rfl d_Tokens_scan_102) (fun H locs hS h16 => ?_)
                  refine lv_goto (tgt := 109) F.hx F.hb d_Tokens_scan_105 (by decide) ?_
                  exact k_Tokens_scan_L109 l hlo r1 N1 x2 hr1 hx2 F hlk hr (fun a0_ a1_ a2_ => t_Tokens_scan_L10 r1 N1 x2 fu a0_ a1_ a2_) ih M v3_ hv3_ v4_ hv4_ q4 h5 q15 h16 _ _ _ hS (lv_sub hl [1, 2, 3, 4, 5] rfl) hT
              · replace hT := (if_neg c13).symm.trans hT
                refine lv_aload_n F.hx F.hb d_Tokens_scan_77 rfl (lv_at hl 1 rfl) ?_
                refine lv_aload_n F.hx F.hb d_Tokens_scan_78 rfl (lv_at hl 2 rfl) ?_
                refine lv_iload_n F.hx F.hb d_Tokens_scan_79 rfl (lv_at hl 4 rfl) ?_
                refine lv_iload_n F.hx F.hb d_Tokens_scan_80 rfl (lv_at hl 3 rfl) ?_
                obtain ⟨q17, hq17, hT⟩ := q_obind hT
                refine r_backI F hS (r_runV (k := 42) (N := 4) (T := T10) (As := [.ref (b + r1), vI v3_, vI x2]) F hS (show 42 < 191 by decide) (show shK 42 = 14 from rfl) rfl (c_Tokens_scanNumber l F.2.2.1 M r1 N1 v3_ x2 hr1 hv3_ hx2 _ hq17) gs_Tokens_40 hd_Tokens_scanNumber ⟨Nat.le_of_ble_eq_true rfl, Nat.le_of_ble_eq_true rfl⟩ rfl hl.1 (Nat.le_of_ble_eq_true rfl) ⟨Nat.zero_le _, Nat.zero_le _⟩ rfl d_Tokens_scan_81) (fun H locs hS h18 => ?_)
                refine lv_istore_n (lv' := [(3, vI (q17.2)), (5, vI q4), (0, .ref (b + 42)), (1, .ref (b + r1)), (2, vI x2), (4, vI v4_)]) F.hx F.hb d_Tokens_scan_84 rfl hl (Nat.le_of_ble_eq_true rfl) rfl (fun ls hl => ?_)
                refine lv_goto (tgt := 114) F.hx F.hb d_Tokens_scan_85 (by decide) ?_
                exact k_Tokens_scan_L114 l hlo r1 N1 x2 hr1 hx2 F hlk hr (fun a0_ a1_ a2_ => t_Tokens_scan_L10 r1 N1 x2 fu a0_ a1_ a2_) ih (q17.1) (q17.2) h18 v4_ hv4_ _ _ _ hS (lv_sub hl [2, 3, 4, 0, 5] rfl) hT
            · replace hT := (if_neg c10).symm.trans hT
              refine lv_aload_n F.hx F.hb d_Tokens_scan_58 rfl (lv_at hl 1 rfl) ?_
              refine lv_aload_n F.hx F.hb d_Tokens_scan_59 rfl (lv_at hl 2 rfl) ?_
              refine lv_iload_n F.hx F.hb d_Tokens_scan_60 rfl (lv_at hl 4 rfl) ?_
              refine lv_iload_n F.hx F.hb d_Tokens_scan_61 rfl (lv_at hl 3 rfl) ?_
              obtain ⟨q19, hq19, hT⟩ := q_obind hT
              refine r_backI F hS (r_runV (k := 42) (N := 4) (T := T10) (As := [.ref (b + r1), vI v3_, vI x2]) F hS (show 42 < 191 by decide) (show shK 42 = 14 from rfl) rfl (c_Tokens_scanWord l F.2.2.1 M r1 N1 v3_ x2 hr1 hv3_ hx2 _ hq19) gs_Tokens_33 hd_Tokens_scanWord ⟨Nat.le_of_ble_eq_true rfl, Nat.le_of_ble_eq_true rfl⟩ rfl hl.1 (Nat.le_of_ble_eq_true rfl) ⟨Nat.zero_le _, Nat.zero_le _⟩ rfl d_Tokens_scan_62) (fun H locs hS h20 => ?_)
              refine lv_istore_n (lv' := [(3, vI (q19.2)), (5, vI q4), (0, .ref (b + 42)), (1, .ref (b + r1)), (2, vI x2), (4, vI v4_)]) F.hx F.hb d_Tokens_scan_65 rfl hl (Nat.le_of_ble_eq_true rfl) rfl (fun ls hl => ?_)
              refine lv_goto (tgt := 114) F.hx F.hb d_Tokens_scan_66 (by decide) ?_
              exact k_Tokens_scan_L114 l hlo r1 N1 x2 hr1 hx2 F hlk hr (fun a0_ a1_ a2_ => t_Tokens_scan_L10 r1 N1 x2 fu a0_ a1_ a2_) ih (q19.1) (q19.2) h20 v4_ hv4_ _ _ _ hS (lv_sub hl [2, 3, 4, 0, 5] rfl) hT
          · replace hT := (if_pos c7).symm.trans hT
            exact k_Tokens_scan_L44 l hlo r1 N1 x2 hr1 hx2 F hlk hr (fun a0_ a1_ a2_ => t_Tokens_scan_L10 r1 N1 x2 fu a0_ a1_ a2_) ih M v3_ hv3_ v4_ hv4_ _ _ _ hS (lv_sub hl [1, 2, 3, 4, 5] rfl) hT
set_option maxHeartbeats 4000000 in
set_option maxRecDepth 100000 in
theorem c_Tokens_scan (l : Launch) {b n : Nat} {C : CT} (hlo : 191 ≤ n) (M : Mem) (r1 : Nat) (N1 : Nat) (x2 : Int) (hr1 : arrP 0 r1 N1 191) (hx2 : InR x2) (res : Mem) (hT : t_Tokens_scan M r1 N1 x2 = some res) : CM l b C n 7 y_Tokens_scan b_Tokens_scan 6 (none) [.ref (b + 42), .ref (b + r1), vI x2] M (QV b C n res) := by
  refine CM.of (lo := 191) (ow := "WardFalls$Tokens") (by decide) rfl (Nat.le_of_ble_eq_true rfl) hlo (fun p e s m below meth c F hlk hr hS ls hl => ?_)
  have hl : lv_has ls 6 [(0, .ref (b + 42)), (1, .ref (b + r1)), (2, vI x2)] := hl
  unfold t_Tokens_scan at hT
  refine lv_aload_n F.hx F.hb d_Tokens_scan_0 rfl (lv_at hl 0 rfl) ?_
  refine r_iconst F.hx F.hb d_Tokens_scan_1 ?_
  refine r_putI (N := 4) (T := T10) (j := 3) F hS (show 42 < 191 by decide) (show shK 42 = 14 from rfl) (show shN 42 = 4 from rfl) rfl (Nat.le_of_ble_eq_true rfl) ing10 tyok10 nm10 rfl rfl rfl rfl rfl rfl mw_214 (inr_c rfl) d_Tokens_scan_2 (fun H locs hS => ?_)
  obtain ⟨M1, eM1⟩ : ∃ q, q = (setI M 42 3 0) := ⟨_, rfl⟩
  replace hS : St b C n M1 s H locs := by rw [eM1]; exact hS
  replace hT := qlet_eq hT eM1
  refine r_iconst F.hx F.hb d_Tokens_scan_5 ?_
  refine lv_istore_n (lv' := [(3, vI 0), (0, .ref (b + 42)), (1, .ref (b + r1)), (2, vI x2)]) F.hx F.hb d_Tokens_scan_6 rfl hl (Nat.le_of_ble_eq_true rfl) rfl (fun ls hl => ?_)
  refine r_iconst F.hx F.hb d_Tokens_scan_7 ?_
  refine lv_istore (lv' := [(4, vI 0), (3, vI 0), (0, .ref (b + 42)), (1, .ref (b + r1)), (2, vI x2)]) F.hx F.hb d_Tokens_scan_8 hl (Nat.le_of_ble_eq_true rfl) rfl (fun ls hl => ?_)
  exact k_Tokens_scan_L10 l hlo r1 N1 x2 hr1 hx2 F hlk hr FU M1 0 (inr_c rfl) 0 (inr_c rfl) _ _ _ hS (lv_sub hl [2, 3, 4, 1, 0] rfl) hT
theorem d_Reader_goTo_0 : decode b_Reader_goTo 0 = .ok (.aload_n 0, 1) := dc_42 (by decide +kernel)
theorem d_Reader_goTo_1 : decode b_Reader_goTo 1 = .ok (.aload_n 0, 1) := dc_42 (by decide +kernel)
theorem d_Reader_goTo_2 : decode b_Reader_goTo 2 = .ok (.getfield 44, 3) := dc_180 (by decide +kernel)
theorem d_Reader_goTo_5 : decode b_Reader_goTo 5 = .ok (.putfield 138, 3) := dc_181 (by decide +kernel)
theorem d_Reader_goTo_8 : decode b_Reader_goTo 8 = .ok (.aload_n 0, 1) := dc_42 (by decide +kernel)
theorem d_Reader_goTo_9 : decode b_Reader_goTo 9 = .ok (.iload_n 1, 1) := dc_27 (by decide +kernel)
theorem d_Reader_goTo_10 : decode b_Reader_goTo 10 = .ok (.putfield 94, 3) := dc_181 (by decide +kernel)
theorem d_Reader_goTo_13 : decode b_Reader_goTo 13 = .ok (.aload_n 0, 1) := dc_42 (by decide +kernel)
theorem d_Reader_goTo_14 : decode b_Reader_goTo 14 = .ok (.aload_n 0, 1) := dc_42 (by decide +kernel)
theorem d_Reader_goTo_15 : decode b_Reader_goTo 15 = .ok (.getfield 60, 3) := dc_180 (by decide +kernel)
theorem d_Reader_goTo_18 : decode b_Reader_goTo 18 = .ok (.ifnonnull 8, 3) := dc_199 (by decide +kernel)
theorem d_Reader_goTo_21 : decode b_Reader_goTo 21 = .ok (.bipush 32, 2) := dc_16 (by decide +kernel)
theorem d_Reader_goTo_23 : decode b_Reader_goTo 23 = .ok (.goto 14, 3) := dc_167 (by decide +kernel)
theorem d_Reader_goTo_26 : decode b_Reader_goTo 26 = .ok (.aload_n 0, 1) := dc_42 (by decide +kernel)
theorem d_Reader_goTo_27 : decode b_Reader_goTo 27 = .ok (.getfield 60, 3) := dc_180 (by decide +kernel)
theorem d_Reader_goTo_30 : decode b_Reader_goTo 30 = .ok (.getfield 188, 3) := dc_180 (by decide +kernel)
theorem d_Reader_goTo_33 : decode b_Reader_goTo 33 = .ok (.iload_n 1, 1) := dc_27 (by decide +kernel)
theorem d_Reader_goTo_34 : decode b_Reader_goTo 34 = .ok (.invokestatic 193, 3) := dc_184 (by decide +kernel)
theorem d_Reader_goTo_37 : decode b_Reader_goTo 37 = .ok (.putfield 15, 3) := dc_181 (by decide +kernel)
theorem d_Reader_goTo_40 : decode b_Reader_goTo 40 = .ok (.aload_n 0, 1) := dc_42 (by decide +kernel)
theorem d_Reader_goTo_41 : decode b_Reader_goTo 41 = .ok (.aload_n 0, 1) := dc_42 (by decide +kernel)
theorem d_Reader_goTo_42 : decode b_Reader_goTo 42 = .ok (.getfield 60, 3) := dc_180 (by decide +kernel)
theorem d_Reader_goTo_45 : decode b_Reader_goTo 45 = .ok (.ifnonnull 7, 3) := dc_199 (by decide +kernel)
theorem d_Reader_goTo_48 : decode b_Reader_goTo 48 = .ok (.iconst 0, 1) := dc_3 (by decide +kernel)
theorem d_Reader_goTo_49 : decode b_Reader_goTo 49 = .ok (.goto 14, 3) := dc_167 (by decide +kernel)
theorem d_Reader_goTo_52 : decode b_Reader_goTo 52 = .ok (.aload_n 0, 1) := dc_42 (by decide +kernel)
theorem d_Reader_goTo_53 : decode b_Reader_goTo 53 = .ok (.getfield 60, 3) := dc_180 (by decide +kernel)
theorem d_Reader_goTo_56 : decode b_Reader_goTo 56 = .ok (.getfield 196, 3) := dc_180 (by decide +kernel)
theorem d_Reader_goTo_59 : decode b_Reader_goTo 59 = .ok (.iload_n 1, 1) := dc_27 (by decide +kernel)
theorem d_Reader_goTo_60 : decode b_Reader_goTo 60 = .ok (.invokestatic 193, 3) := dc_184 (by decide +kernel)
theorem d_Reader_goTo_63 : decode b_Reader_goTo 63 = .ok (.putfield 131, 3) := dc_181 (by decide +kernel)
theorem d_Reader_goTo_66 : decode b_Reader_goTo 66 = .ok (.aload_n 0, 1) := dc_42 (by decide +kernel)
theorem d_Reader_goTo_67 : decode b_Reader_goTo 67 = .ok (.aload_n 0, 1) := dc_42 (by decide +kernel)
theorem d_Reader_goTo_68 : decode b_Reader_goTo 68 = .ok (.getfield 60, 3) := dc_180 (by decide +kernel)
theorem d_Reader_goTo_71 : decode b_Reader_goTo 71 = .ok (.ifnonnull 7, 3) := dc_199 (by decide +kernel)
theorem d_Reader_goTo_74 : decode b_Reader_goTo 74 = .ok (.iconst (-1), 1) := dc_2 (by decide +kernel)
theorem d_Reader_goTo_75 : decode b_Reader_goTo 75 = .ok (.goto 14, 3) := dc_167 (by decide +kernel)
theorem d_Reader_goTo_78 : decode b_Reader_goTo 78 = .ok (.aload_n 0, 1) := dc_42 (by decide +kernel)
theorem d_Reader_goTo_79 : decode b_Reader_goTo 79 = .ok (.getfield 60, 3) := dc_180 (by decide +kernel)
theorem d_Reader_goTo_82 : decode b_Reader_goTo 82 = .ok (.getfield 199, 3) := dc_180 (by decide +kernel)
theorem d_Reader_goTo_85 : decode b_Reader_goTo 85 = .ok (.iload_n 1, 1) := dc_27 (by decide +kernel)
theorem d_Reader_goTo_86 : decode b_Reader_goTo 86 = .ok (.invokestatic 193, 3) := dc_184 (by decide +kernel)
theorem d_Reader_goTo_89 : decode b_Reader_goTo 89 = .ok (.putfield 44, 3) := dc_181 (by decide +kernel)
theorem d_Reader_goTo_92 : decode b_Reader_goTo 92 = .ok (.return_, 1) := dc_177 (by decide +kernel)
def t_Reader_goTo_L89 (x1 : Int)  (M : Mem) (v1_ : Int) : Option (Mem) := (qlet (setI M 46 4 v1_) fun M18 => (some M18))
def t_Reader_goTo_L63 (x1 : Int)  (M : Mem) (v3_ : Int) : Option (Mem) := (qlet (setI M 46 3 v3_) fun M13 => (if M13.1 46 0 < 0 then (t_Reader_goTo_L89 x1 M13 (-1)) else (if M13.1 46 0 < 0 then none else (qlet (t_WF_look M13 45 701 x1) fun q16 => (t_Reader_goTo_L89 x1 M13 q16)))))
def t_Reader_goTo_L37 (x1 : Int)  (M : Mem) (v3_ : Int) : Option (Mem) := (qlet (setI M 46 2 v3_) fun M8 => (if M8.1 46 0 < 0 then (t_Reader_goTo_L63 x1 M8 0) else (if M8.1 46 0 < 0 then none else (qlet (t_WF_look M8 44 701 x1) fun q11 => (t_Reader_goTo_L63 x1 M8 q11)))))
def t_Reader_goTo (M : Mem) (x1 : Int) : Option (Mem) := (qlet (setI M 46 5 (M.1 46 4)) fun M2 => (qlet (setI M2 46 1 x1) fun M3 => (if M3.1 46 0 < 0 then (t_Reader_goTo_L37 x1 M3 32) else (if M3.1 46 0 < 0 then none else (qlet (t_WF_look M3 43 701 x1) fun q6 => (t_Reader_goTo_L37 x1 M3 q6))))))
set_option maxHeartbeats 4000000 in
set_option maxRecDepth 100000 in
theorem k_Reader_goTo_L89 (l : Launch) {p : Program} {e : Env} {s : State} {m : MethodId} {below : List Frame} {meth : Method} {c : Code} {b n : Nat} {C : CT} (hlo : 191 ≤ n) (x1 : Int) (hx1 : InR x1) (F : Cx b p m c b_Reader_goTo 2 s ([.ref (b + 46), vI x1] : List Value).toArray "WardFalls$Reader" C n 191) (hlk : meth.locks = false) (hr : meth.sig.returnType = none) {res : Mem} (M : Mem) (v1_ : Int) (hv1_ : InR v1_) (H : Heap) (locs : List Loc) (ls : Array Slot) (hS : St b C n M s H locs) (hl : lv_has ls 2 []) (hT : t_Reader_goTo_L89 x1 M v1_ = some res) : W p l e (headSpec (wsM y_Reader_goTo b_Reader_goTo 2 (none)) (rmD 1)).room s m ([.ref (b + 46), vI x1] : List Value).toArray below meth c H locs 0 0 (MQ below (QV b C n res) ([.ref (b + 46), vI x1] : List Value).toArray s 0 0 (frb b)) (F0 m 89 ls [vI v1_, .ref (b + 46)]) := by
  unfold t_Reader_goTo_L89 at hT
  refine r_putI (N := 11) (T := T8) (j := 4) F hS (show 46 < 191 by decide) (show shK 46 = 12 from rfl) (show shN 46 = 11 from rfl) rfl (Nat.le_of_ble_eq_true rfl) ing8 tyok8 nm8 rfl rfl rfl rfl rfl rfl mw_234 hv1_ d_Reader_goTo_89 (fun H locs hS => ?_)
  obtain ⟨M18, eM18⟩ : ∃ q, q = (setI M 46 4 v1_) := ⟨_, rfl⟩
  replace hS : St b C n M18 s H locs := by rw [eM18]; exact hS
  replace hT := qlet_eq hT eM18
  cases hT
  exact r_vret F hlk hr hS d_Reader_goTo_92
set_option maxHeartbeats 4000000 in
set_option maxRecDepth 100000 in
theorem k_Reader_goTo_L63 (l : Launch) {p : Program} {e : Env} {s : State} {m : MethodId} {below : List Frame} {meth : Method} {c : Code} {b n : Nat} {C : CT} (hlo : 191 ≤ n) (x1 : Int) (hx1 : InR x1) (F : Cx b p m c b_Reader_goTo 2 s ([.ref (b + 46), vI x1] : List Value).toArray "WardFalls$Reader" C n 191) (hlk : meth.locks = false) (hr : meth.sig.returnType = none) {res : Mem} (M : Mem) (v3_ : Int) (hv3_ : InR v3_) (H : Heap) (locs : List Loc) (ls : Array Slot) (hS : St b C n M s H locs) (hl : lv_has ls 2 [(0, .ref (b + 46)), (1, vI x1)]) (hT : t_Reader_goTo_L63 x1 M v3_ = some res) : W p l e (headSpec (wsM y_Reader_goTo b_Reader_goTo 2 (none)) (rmD 1)).room s m ([.ref (b + 46), vI x1] : List Value).toArray below meth c H locs 0 0 (MQ below (QV b C n res) ([.ref (b + 46), vI x1] : List Value).toArray s 0 0 (frb b)) (F0 m 63 ls [vI v3_, .ref (b + 46)]) := by
  unfold t_Reader_goTo_L63 at hT
  refine r_putI (N := 11) (T := T8) (j := 3) F hS (show 46 < 191 by decide) (show shK 46 = 12 from rfl) (show shN 46 = 11 from rfl) rfl (Nat.le_of_ble_eq_true rfl) ing8 tyok8 nm8 rfl rfl rfl rfl rfl rfl mw_233 hv3_ d_Reader_goTo_63 (fun H locs hS => ?_)
  obtain ⟨M13, eM13⟩ : ∃ q, q = (setI M 46 3 v3_) := ⟨_, rfl⟩
  replace hS : St b C n M13 s H locs := by rw [eM13]; exact hS
  replace hT := qlet_eq hT eM13
  refine lv_aload_n F.hx F.hb d_Reader_goTo_66 rfl (lv_at hl 0 rfl) ?_
  refine lv_aload_n F.hx F.hb d_Reader_goTo_67 rfl (lv_at hl 0 rfl) ?_
  rcases q_ite hT with ⟨c14, hT⟩ | ⟨c14, hT⟩
  · refine r_get (v := .null) (N := 11) (T := T8) (j := 0) F hS (show 46 < 191 by decide) (show shK 46 = 12 from rfl) (show shN 46 = 11 from rfl) rfl (Nat.le_of_ble_eq_true rfl) ing8 mw_230 (tok_null hS c14) d_Reader_goTo_68 ?_
    refine lv_ifnonnullN F.hx F.hb d_Reader_goTo_71 ?_
    refine r_iconst F.hx F.hb d_Reader_goTo_74 ?_
    refine lv_goto (tgt := 89) F.hx F.hb d_Reader_goTo_75 (by decide) ?_
    exact k_Reader_goTo_L89 l hlo x1 hx1 F hlk hr M13 (-1) (inr_c rfl) _ _ _ hS (lv_sub hl [] rfl) hT
  · refine r_get (v := .ref (b + 42)) (N := 11) (T := T8) (j := 0) F hS (show 46 < 191 by decide) (show shK 46 = 12 from rfl) (show shN 46 = 11 from rfl) rfl (Nat.le_of_ble_eq_true rfl) ing8 mw_230 (tok_some hS c14) d_Reader_goTo_68 ?_
    refine lv_ifnonnull (tgt := 78) F.hx F.hb d_Reader_goTo_71 (by decide) ?_
    refine lv_aload_n F.hx F.hb d_Reader_goTo_78 rfl (lv_at hl 0 rfl) ?_
    rcases q_ite hT with ⟨c15, hT⟩ | ⟨c15, hT⟩
    · exact absurd hT (by simp)
    · refine r_get (v := .ref (b + 42)) (N := 11) (T := T8) (j := 0) F hS (show 46 < 191 by decide) (show shK 46 = 12 from rfl) (show shN 46 = 11 from rfl) rfl (Nat.le_of_ble_eq_true rfl) ing8 mw_230 (tok_some hS c15) d_Reader_goTo_79 ?_
      refine r_get (v := .ref (b + 45)) (N := 4) (T := T10) (j := 2) F hS (show 42 < 191 by decide) (show shK 42 = 14 from rfl) (show shN 42 = 4 from rfl) rfl (Nat.le_of_ble_eq_true rfl) ing10 mw_213 (fv_sg rfl rfl rfl) d_Reader_goTo_82 ?_
      refine lv_iload_n F.hx F.hb d_Reader_goTo_85 rfl (lv_at hl 1 rfl) ?_
      obtain ⟨q16, hq16⟩ : ∃ q, q = (t_WF_look M13 45 701 x1) := ⟨_, rfl⟩
      replace hT := qlet_eq hT hq16
      refine r_backI F hS (r_runSN (As := [.ref (b + 45), vI x1]) F hS (c_WF_look l F.2.2.1 M13 45 701 x1 (show arrP 0 45 701 191 from ⟨rfl, rfl, by decide⟩) hx1 _ hq16.symm) mw_519 mw_518 mw_1 gs_Reader_193 hd_WF_look ⟨Nat.le_of_ble_eq_true rfl, Nat.le_of_ble_eq_true rfl⟩ rfl hl.1 (Nat.le_of_ble_eq_true rfl) ⟨Nat.zero_le _, Nat.zero_le _⟩ rfl d_Reader_goTo_86) (fun H locs hS h17 => ?_)
      exact k_Reader_goTo_L89 l hlo x1 hx1 F hlk hr M13 q16 h17 _ _ _ hS (lv_sub hl [] rfl) hT
set_option maxHeartbeats 4000000 in
set_option maxRecDepth 100000 in
theorem k_Reader_goTo_L37 (l : Launch) {p : Program} {e : Env} {s : State} {m : MethodId} {below : List Frame} {meth : Method} {c : Code} {b n : Nat} {C : CT} (hlo : 191 ≤ n) (x1 : Int) (hx1 : InR x1) (F : Cx b p m c b_Reader_goTo 2 s ([.ref (b + 46), vI x1] : List Value).toArray "WardFalls$Reader" C n 191) (hlk : meth.locks = false) (hr : meth.sig.returnType = none) {res : Mem} (M : Mem) (v3_ : Int) (hv3_ : InR v3_) (H : Heap) (locs : List Loc) (ls : Array Slot) (hS : St b C n M s H locs) (hl : lv_has ls 2 [(0, .ref (b + 46)), (1, vI x1)]) (hT : t_Reader_goTo_L37 x1 M v3_ = some res) : W p l e (headSpec (wsM y_Reader_goTo b_Reader_goTo 2 (none)) (rmD 1)).room s m ([.ref (b + 46), vI x1] : List Value).toArray below meth c H locs 0 0 (MQ below (QV b C n res) ([.ref (b + 46), vI x1] : List Value).toArray s 0 0 (frb b)) (F0 m 37 ls [vI v3_, .ref (b + 46)]) := by
  unfold t_Reader_goTo_L37 at hT
  refine r_putI (N := 11) (T := T8) (j := 2) F hS (show 46 < 191 by decide) (show shK 46 = 12 from rfl) (show shN 46 = 11 from rfl) rfl (Nat.le_of_ble_eq_true rfl) ing8 tyok8 nm8 rfl rfl rfl rfl rfl rfl mw_232 hv3_ d_Reader_goTo_37 (fun H locs hS => ?_)
  obtain ⟨M8, eM8⟩ : ∃ q, q = (setI M 46 2 v3_) := ⟨_, rfl⟩
  replace hS : St b C n M8 s H locs := by rw [eM8]; exact hS
  replace hT := qlet_eq hT eM8
  refine lv_aload_n F.hx F.hb d_Reader_goTo_40 rfl (lv_at hl 0 rfl) ?_
  refine lv_aload_n F.hx F.hb d_Reader_goTo_41 rfl (lv_at hl 0 rfl) ?_
  rcases q_ite hT with ⟨c9, hT⟩ | ⟨c9, hT⟩
  · refine r_get (v := .null) (N := 11) (T := T8) (j := 0) F hS (show 46 < 191 by decide) (show shK 46 = 12 from rfl) (show shN 46 = 11 from rfl) rfl (Nat.le_of_ble_eq_true rfl) ing8 mw_230 (tok_null hS c9) d_Reader_goTo_42 ?_
    refine lv_ifnonnullN F.hx F.hb d_Reader_goTo_45 ?_
    refine r_iconst F.hx F.hb d_Reader_goTo_48 ?_
    refine lv_goto (tgt := 63) F.hx F.hb d_Reader_goTo_49 (by decide) ?_
    exact k_Reader_goTo_L63 l hlo x1 hx1 F hlk hr M8 0 (inr_c rfl) _ _ _ hS (lv_sub hl [0, 1] rfl) hT
  · refine r_get (v := .ref (b + 42)) (N := 11) (T := T8) (j := 0) F hS (show 46 < 191 by decide) (show shK 46 = 12 from rfl) (show shN 46 = 11 from rfl) rfl (Nat.le_of_ble_eq_true rfl) ing8 mw_230 (tok_some hS c9) d_Reader_goTo_42 ?_
    refine lv_ifnonnull (tgt := 52) F.hx F.hb d_Reader_goTo_45 (by decide) ?_
    refine lv_aload_n F.hx F.hb d_Reader_goTo_52 rfl (lv_at hl 0 rfl) ?_
    rcases q_ite hT with ⟨c10, hT⟩ | ⟨c10, hT⟩
    · exact absurd hT (by simp)
    · refine r_get (v := .ref (b + 42)) (N := 11) (T := T8) (j := 0) F hS (show 46 < 191 by decide) (show shK 46 = 12 from rfl) (show shN 46 = 11 from rfl) rfl (Nat.le_of_ble_eq_true rfl) ing8 mw_230 (tok_some hS c10) d_Reader_goTo_53 ?_
      refine r_get (v := .ref (b + 44)) (N := 4) (T := T10) (j := 1) F hS (show 42 < 191 by decide) (show shK 42 = 14 from rfl) (show shN 42 = 4 from rfl) rfl (Nat.le_of_ble_eq_true rfl) ing10 mw_211 (fv_sg rfl rfl rfl) d_Reader_goTo_56 ?_
      refine lv_iload_n F.hx F.hb d_Reader_goTo_59 rfl (lv_at hl 1 rfl) ?_
      obtain ⟨q11, hq11⟩ : ∃ q, q = (t_WF_look M8 44 701 x1) := ⟨_, rfl⟩
      replace hT := qlet_eq hT hq11
      refine r_backI F hS (r_runSN (As := [.ref (b + 44), vI x1]) F hS (c_WF_look l F.2.2.1 M8 44 701 x1 (show arrP 0 44 701 191 from ⟨rfl, rfl, by decide⟩) hx1 _ hq11.symm) mw_519 mw_518 mw_1 gs_Reader_193 hd_WF_look ⟨Nat.le_of_ble_eq_true rfl, Nat.le_of_ble_eq_true rfl⟩ rfl hl.1 (Nat.le_of_ble_eq_true rfl) ⟨Nat.zero_le _, Nat.zero_le _⟩ rfl d_Reader_goTo_60) (fun H locs hS h12 => ?_)
      exact k_Reader_goTo_L63 l hlo x1 hx1 F hlk hr M8 q11 h12 _ _ _ hS (lv_sub hl [0, 1] rfl) hT
set_option maxHeartbeats 4000000 in
set_option maxRecDepth 100000 in
theorem c_Reader_goTo (l : Launch) {b n : Nat} {C : CT} (hlo : 191 ≤ n) (M : Mem) (x1 : Int) (hx1 : InR x1) (res : Mem) (hT : t_Reader_goTo M x1 = some res) : CM l b C n 1 y_Reader_goTo b_Reader_goTo 2 (none) [.ref (b + 46), vI x1] M (QV b C n res) := by
  refine CM.of (lo := 191) (ow := "WardFalls$Reader") (by decide) rfl (Nat.le_of_ble_eq_true rfl) hlo (fun p e s m below meth c F hlk hr hS ls hl => ?_)
  have hl : lv_has ls 2 [(0, .ref (b + 46)), (1, vI x1)] := hl
  unfold t_Reader_goTo at hT
  refine lv_aload_n F.hx F.hb d_Reader_goTo_0 rfl (lv_at hl 0 rfl) ?_
  refine lv_aload_n F.hx F.hb d_Reader_goTo_1 rfl (lv_at hl 0 rfl) ?_
  refine r_get (v := vI (M.1 46 4)) (N := 11) (T := T8) (j := 4) F hS (show 46 < 191 by decide) (show shK 46 = 12 from rfl) (show shN 46 = 11 from rfl) rfl (Nat.le_of_ble_eq_true rfl) ing8 mw_234 (fv_int rfl) d_Reader_goTo_2 ?_
  have i1 := hS.rng 46 4
  refine r_putI (N := 11) (T := T8) (j := 5) F hS (show 46 < 191 by decide) (show shK 46 = 12 from rfl) (show shN 46 = 11 from rfl) rfl (Nat.le_of_ble_eq_true rfl) ing8 tyok8 nm8 rfl rfl rfl rfl rfl rfl mw_235 i1 d_Reader_goTo_5 (fun H locs hS => ?_)
  obtain ⟨M2, eM2⟩ : ∃ q, q = (setI M 46 5 (M.1 46 4)) := ⟨_, rfl⟩
  replace hS : St b C n M2 s H locs := by rw [eM2]; exact hS
  replace hT := qlet_eq hT eM2
  refine lv_aload_n F.hx F.hb d_Reader_goTo_8 rfl (lv_at hl 0 rfl) ?_
  refine lv_iload_n F.hx F.hb d_Reader_goTo_9 rfl (lv_at hl 1 rfl) ?_
  refine r_putI (N := 11) (T := T8) (j := 1) F hS (show 46 < 191 by decide) (show shK 46 = 12 from rfl) (show shN 46 = 11 from rfl) rfl (Nat.le_of_ble_eq_true rfl) ing8 tyok8 nm8 rfl rfl rfl rfl rfl rfl mw_231 hx1 d_Reader_goTo_10 (fun H locs hS => ?_)
  obtain ⟨M3, eM3⟩ : ∃ q, q = (setI M2 46 1 x1) := ⟨_, rfl⟩
  replace hS : St b C n M3 s H locs := by rw [eM3]; exact hS
  replace hT := qlet_eq hT eM3
  refine lv_aload_n F.hx F.hb d_Reader_goTo_13 rfl (lv_at hl 0 rfl) ?_
  refine lv_aload_n F.hx F.hb d_Reader_goTo_14 rfl (lv_at hl 0 rfl) ?_
  rcases q_ite hT with ⟨c4, hT⟩ | ⟨c4, hT⟩
  · refine r_get (v := .null) (N := 11) (T := T8) (j := 0) F hS (show 46 < 191 by decide) (show shK 46 = 12 from rfl) (show shN 46 = 11 from rfl) rfl (Nat.le_of_ble_eq_true rfl) ing8 mw_230 (tok_null hS c4) d_Reader_goTo_15 ?_
    refine lv_ifnonnullN F.hx F.hb d_Reader_goTo_18 ?_
    refine r_bipush F.hx F.hb d_Reader_goTo_21 rfl ?_
    refine lv_goto (tgt := 37) F.hx F.hb d_Reader_goTo_23 (by decide) ?_
    exact k_Reader_goTo_L37 l hlo x1 hx1 F hlk hr M3 32 (inr_c rfl) _ _ _ hS (lv_sub hl [0, 1] rfl) hT
  · refine r_get (v := .ref (b + 42)) (N := 11) (T := T8) (j := 0) F hS (show 46 < 191 by decide) (show shK 46 = 12 from rfl) (show shN 46 = 11 from rfl) rfl (Nat.le_of_ble_eq_true rfl) ing8 mw_230 (tok_some hS c4) d_Reader_goTo_15 ?_
    refine lv_ifnonnull (tgt := 26) F.hx F.hb d_Reader_goTo_18 (by decide) ?_
    refine lv_aload_n F.hx F.hb d_Reader_goTo_26 rfl (lv_at hl 0 rfl) ?_
    rcases q_ite hT with ⟨c5, hT⟩ | ⟨c5, hT⟩
    · exact absurd hT (by simp)
    · refine r_get (v := .ref (b + 42)) (N := 11) (T := T8) (j := 0) F hS (show 46 < 191 by decide) (show shK 46 = 12 from rfl) (show shN 46 = 11 from rfl) rfl (Nat.le_of_ble_eq_true rfl) ing8 mw_230 (tok_some hS c5) d_Reader_goTo_27 ?_
      refine r_get (v := .ref (b + 43)) (N := 4) (T := T10) (j := 0) F hS (show 42 < 191 by decide) (show shK 42 = 14 from rfl) (show shN 42 = 4 from rfl) rfl (Nat.le_of_ble_eq_true rfl) ing10 mw_208 (fv_sg rfl rfl rfl) d_Reader_goTo_30 ?_
      refine lv_iload_n F.hx F.hb d_Reader_goTo_33 rfl (lv_at hl 1 rfl) ?_
      obtain ⟨q6, hq6⟩ : ∃ q, q = (t_WF_look M3 43 701 x1) := ⟨_, rfl⟩
      replace hT := qlet_eq hT hq6
      refine r_backI F hS (r_runSN (As := [.ref (b + 43), vI x1]) F hS (c_WF_look l F.2.2.1 M3 43 701 x1 (show arrP 0 43 701 191 from ⟨rfl, rfl, by decide⟩) hx1 _ hq6.symm) mw_519 mw_518 mw_1 gs_Reader_193 hd_WF_look ⟨Nat.le_of_ble_eq_true rfl, Nat.le_of_ble_eq_true rfl⟩ rfl hl.1 (Nat.le_of_ble_eq_true rfl) ⟨Nat.zero_le _, Nat.zero_le _⟩ rfl d_Reader_goTo_34) (fun H locs hS h7 => ?_)
      exact k_Reader_goTo_L37 l hlo x1 hx1 F hlk hr M3 q6 h7 _ _ _ hS (lv_sub hl [0, 1] rfl) hT
