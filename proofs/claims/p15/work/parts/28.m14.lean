theorem d_WF_canTry_0 : decode b_WF_canTry 0 = .ok (.iload_n 1, 1) := dc_27 (by decide +kernel)
theorem d_WF_canTry_1 : decode b_WF_canTry 1 = .ok (.tableswitch 63 0 4 #[35, 35, 35, 45, 54], 35) := by decide +kernel
theorem d_WF_canTry_36 : decode b_WF_canTry 36 = .ok (.iload_n 2, 1) := dc_28 (by decide +kernel)
theorem d_WF_canTry_37 : decode b_WF_canTry 37 = .ok (.ifCond .ne 7, 3) := dc_154 (by decide +kernel)
theorem d_WF_canTry_40 : decode b_WF_canTry 40 = .ok (.iconst 1, 1) := dc_4 (by decide +kernel)
theorem d_WF_canTry_41 : decode b_WF_canTry 41 = .ok (.goto 4, 3) := dc_167 (by decide +kernel)
theorem d_WF_canTry_44 : decode b_WF_canTry 44 = .ok (.iconst 0, 1) := dc_3 (by decide +kernel)
theorem d_WF_canTry_45 : decode b_WF_canTry 45 = .ok (.ireturn, 1) := dc_172 (by decide +kernel)
theorem d_WF_canTry_46 : decode b_WF_canTry 46 = .ok (.aload_n 0, 1) := dc_42 (by decide +kernel)
theorem d_WF_canTry_47 : decode b_WF_canTry 47 = .ok (.getfield 22, 3) := dc_180 (by decide +kernel)
theorem d_WF_canTry_50 : decode b_WF_canTry 50 = .ok (.iload_n 2, 1) := dc_28 (by decide +kernel)
theorem d_WF_canTry_51 : decode b_WF_canTry 51 = .ok (.invokevirtual 198, 3) := dc_182 (by decide +kernel)
theorem d_WF_canTry_54 : decode b_WF_canTry 54 = .ok (.ireturn, 1) := dc_172 (by decide +kernel)
theorem d_WF_canTry_55 : decode b_WF_canTry 55 = .ok (.aload_n 0, 1) := dc_42 (by decide +kernel)
theorem d_WF_canTry_56 : decode b_WF_canTry 56 = .ok (.getfield 22, 3) := dc_180 (by decide +kernel)
theorem d_WF_canTry_59 : decode b_WF_canTry 59 = .ok (.iload_n 2, 1) := dc_28 (by decide +kernel)
theorem d_WF_canTry_60 : decode b_WF_canTry 60 = .ok (.invokevirtual 225, 3) := dc_182 (by decide +kernel)
theorem d_WF_canTry_63 : decode b_WF_canTry 63 = .ok (.ireturn, 1) := dc_172 (by decide +kernel)
theorem d_WF_canTry_64 : decode b_WF_canTry 64 = .ok (.iconst 0, 1) := dc_3 (by decide +kernel)
theorem d_WF_canTry_65 : decode b_WF_canTry 65 = .ok (.ireturn, 1) := dc_172 (by decide +kernel)
def t_WF_canTry_L36 (x1 : Int) (x2 : Int)  (M : Mem)  : Int := (if x2 = 0 then 1 else 0)
def t_WF_canTry (M : Mem) (x1 : Int) (x2 : Int) : Int := (if x1 = 0 then (t_WF_canTry_L36 x1 x2 M) else (if x1 = 1 then (t_WF_canTry_L36 x1 x2 M) else (if x1 = 2 then (t_WF_canTry_L36 x1 x2 M) else (if x1 = 3 then (qlet (t_Town_hasWard M ((M.1 0 4).toNat) x2) fun q6 => q6) else (if x1 = 4 then (qlet (t_Town_hasThing M ((M.1 0 4).toNat) x2) fun q10 => q10) else 0)))))
set_option maxHeartbeats 4000000 in
set_option maxRecDepth 100000 in
theorem k_WF_canTry_L36 (l : Launch) {p : Program} {e : Env} {s : State} {m : MethodId} {below : List Frame} {meth : Method} {c : Code} {b n : Nat} {C : CT} (hlo : 191 ≤ n) (x1 : Int) (x2 : Int) (hx1 : InR x1) (hx2 : InR x2) (F : Cx b p m c b_WF_canTry 3 s ([.ref (b + 0), vI x1, vI x2] : List Value).toArray "WardFalls" C n 191) (hlk : meth.locks = false) (hr : meth.sig.returnType = some .boolean) {res : Int} (M : Mem)  (H : Heap) (locs : List Loc) (ls : Array Slot) (hS : St b C n M s H locs) (hl : lv_has ls 3 [(2, vI x2)]) (hT : t_WF_canTry_L36 x1 x2 M = res) : W p l e (headSpec (wsM y_WF_canTry b_WF_canTry 3 (some .boolean)) (rmD 1)).room s m ([.ref (b + 0), vI x1, vI x2] : List Value).toArray below meth c H locs 0 0 (MQ below (QZ b C n M res) ([.ref (b + 0), vI x1, vI x2] : List Value).toArray s 0 0 (frb b)) (F0 m 36 ls []) := by
  unfold t_WF_canTry_L36 at hT
  refine lv_iload_n F.hx F.hb d_WF_canTry_36 rfl (lv_at hl 0 rfl) ?_
  refine r_if_ne (tgt := 44) F.hx F.hb hx2 d_WF_canTry_37 (by decide) (fun c12 => ?_) (fun c12 => ?_)
  · replace hT := (if_neg c12).symm.trans hT
    refine r_iconst F.hx F.hb d_WF_canTry_44 ?_
    subst hT
    exact r_zret F hlk hr hS (Or.inl rfl) d_WF_canTry_45
  · replace hT := (if_pos c12).symm.trans hT
    refine r_iconst F.hx F.hb d_WF_canTry_40 ?_
    refine lv_goto (tgt := 45) F.hx F.hb d_WF_canTry_41 (by decide) ?_
    subst hT
    exact r_zret F hlk hr hS (Or.inr rfl) d_WF_canTry_45
set_option maxHeartbeats 4000000 in
set_option maxRecDepth 100000 in
theorem c_WF_canTry (l : Launch) {b n : Nat} {C : CT} (hlo : 191 ≤ n) (M : Mem) (x1 : Int) (x2 : Int) (hx1 : InR x1) (hx2 : InR x2) (res : Int) (hT : t_WF_canTry M x1 x2 = res) : CM l b C n 1 y_WF_canTry b_WF_canTry 3 (some .boolean) [.ref (b + 0), vI x1, vI x2] M (QZ b C n M res) := by
  refine CM.of (lo := 191) (ow := "WardFalls") (by decide) rfl (Nat.le_of_ble_eq_true rfl) hlo (fun p e s m below meth c F hlk hr hS ls hl => ?_)
  have hl : lv_has ls 3 [(0, .ref (b + 0)), (1, vI x1), (2, vI x2)] := hl
  unfold t_WF_canTry at hT
  refine lv_iload_n F.hx F.hb d_WF_canTry_0 rfl (lv_at hl 1 rfl) ?_
  rcases q_ite hT with ⟨c1, hT⟩ | ⟨c1, hT⟩
  · refine r_tableIn (i := 0) (tgt := 36) F.hx F.hb hx1 c1 d_WF_canTry_1 (by decide) (by decide) rfl (by decide) ?_
    exact k_WF_canTry_L36 l hlo x1 x2 hx1 hx2 F hlk hr M _ _ _ hS (lv_sub hl [2] rfl) hT
  ·
    rcases q_ite hT with ⟨c2, hT⟩ | ⟨c2, hT⟩
    · refine r_tableIn (i := 1) (tgt := 36) F.hx F.hb hx1 c2 d_WF_canTry_1 (by decide) (by decide) rfl (by decide) ?_
      exact k_WF_canTry_L36 l hlo x1 x2 hx1 hx2 F hlk hr M _ _ _ hS (lv_sub hl [2] rfl) hT
    ·
      rcases q_ite hT with ⟨c3, hT⟩ | ⟨c3, hT⟩
      · refine r_tableIn (i := 2) (tgt := 36) F.hx F.hb hx1 c3 d_WF_canTry_1 (by decide) (by decide) rfl (by decide) ?_
        exact k_WF_canTry_L36 l hlo x1 x2 hx1 hx2 F hlk hr M _ _ _ hS (lv_sub hl [2] rfl) hT
      ·
        rcases q_ite hT with ⟨c4, hT⟩ | ⟨c4, hT⟩
        · refine r_tableIn (i := 3) (tgt := 46) F.hx F.hb hx1 c4 d_WF_canTry_1 (by decide) (by decide) rfl (by decide) ?_
          refine lv_aload_n F.hx F.hb d_WF_canTry_46 rfl (lv_at hl 0 rfl) ?_
          have h5 := St_town hS
          refine r_get (v := .ref (b + ((M.1 0 4).toNat))) (N := 19) (T := T0) (j := 4) F hS (show 0 < 191 by decide) (show shK 0 = 4 from rfl) (show shN 0 = 19 from rfl) rfl (Nat.le_of_ble_eq_true rfl) ing0 mw_554 (fv_town hS) d_WF_canTry_47 ?_
          refine lv_iload_n F.hx F.hb d_WF_canTry_50 rfl (lv_at hl 2 rfl) ?_
          obtain ⟨q6, hq6⟩ : ∃ q, q = (t_Town_hasWard M ((M.1 0 4).toNat) x2) := ⟨_, rfl⟩
          replace hT := qlet_eq hT hq6
          refine r_backZ F hS (r_runV (k := ((M.1 0 4).toNat)) (N := 20) (T := T11) (As := [vI x2]) F hS (Town_lt h5) (Town_sh h5) rfl (c_Town_hasWard l F.2.2.1 M ((M.1 0 4).toNat) x2 h5 hx2 _ hq6.symm) gs_WF_198 hd_Town_hasWard ⟨Nat.le_of_ble_eq_true rfl, Nat.le_of_ble_eq_true rfl⟩ rfl hl.1 (Nat.le_of_ble_eq_true rfl) ⟨Nat.zero_le _, Nat.zero_le _⟩ rfl d_WF_canTry_51) (fun H locs hS h7 => ?_)
          subst hT
          exact r_zret F hlk hr hS h7 d_WF_canTry_54
        ·
          rcases q_ite hT with ⟨c8, hT⟩ | ⟨c8, hT⟩
          · refine r_tableIn (i := 4) (tgt := 55) F.hx F.hb hx1 c8 d_WF_canTry_1 (by decide) (by decide) rfl (by decide) ?_
            refine lv_aload_n F.hx F.hb d_WF_canTry_55 rfl (lv_at hl 0 rfl) ?_
            have h9 := St_town hS
            refine r_get (v := .ref (b + ((M.1 0 4).toNat))) (N := 19) (T := T0) (j := 4) F hS (show 0 < 191 by decide) (show shK 0 = 4 from rfl) (show shN 0 = 19 from rfl) rfl (Nat.le_of_ble_eq_true rfl) ing0 mw_554 (fv_town hS) d_WF_canTry_56 ?_
            refine lv_iload_n F.hx F.hb d_WF_canTry_59 rfl (lv_at hl 2 rfl) ?_
            obtain ⟨q10, hq10⟩ : ∃ q, q = (t_Town_hasThing M ((M.1 0 4).toNat) x2) := ⟨_, rfl⟩
            replace hT := qlet_eq hT hq10
            refine r_backZ F hS (r_runV (k := ((M.1 0 4).toNat)) (N := 20) (T := T11) (As := [vI x2]) F hS (Town_lt h9) (Town_sh h9) rfl (c_Town_hasThing l F.2.2.1 M ((M.1 0 4).toNat) x2 h9 hx2 _ hq10.symm) gs_WF_225 hd_Town_hasThing ⟨Nat.le_of_ble_eq_true rfl, Nat.le_of_ble_eq_true rfl⟩ rfl hl.1 (Nat.le_of_ble_eq_true rfl) ⟨Nat.zero_le _, Nat.zero_le _⟩ rfl d_WF_canTry_60) (fun H locs hS h11 => ?_)
            subst hT
            exact r_zret F hlk hr hS h11 d_WF_canTry_63
          ·
            refine r_tableOut (tgt := 64) F.hx F.hb hx1 (by omega) d_WF_canTry_1 (by decide) ?_
            refine r_iconst F.hx F.hb d_WF_canTry_64 ?_
            subst hT
            exact r_zret F hlk hr hS (Or.inl rfl) d_WF_canTry_65
theorem wn_WF_tried_0 : ∀ i, i < 34 → bA b_WF_tried (0 + i) = wB [29, 155, 0, 19, 29, 17, 0, 200, 163, 0, 12, 42, 27, 28, 182, 1, 144, 154, 0, 5, 2, 172, 42, 180, 0, 50, 42, 180, 0, 46, 182, 1, 43, 27] i := wB_of (by decide +kernel)
theorem d_WF_tried_0 : decode b_WF_tried 0 = .ok (.iload_n 3, 1) := dc_29 (q0_win (r := 0) wn_WF_tried_0 (by decide +kernel))
theorem d_WF_tried_1 : decode b_WF_tried 1 = .ok (.ifCond .lt 19, 3) := dc_155 (qS2_win (r := 1) wn_WF_tried_0 (by decide +kernel))
theorem d_WF_tried_4 : decode b_WF_tried 4 = .ok (.iload_n 3, 1) := dc_29 (q0_win (r := 4) wn_WF_tried_0 (by decide +kernel))
theorem d_WF_tried_5 : decode b_WF_tried 5 = .ok (.sipush 200, 3) := dc_17 (qS2_win (r := 5) wn_WF_tried_0 (by decide +kernel))
theorem d_WF_tried_8 : decode b_WF_tried 8 = .ok (.if_icmp .gt 12, 3) := dc_163 (qS2_win (r := 8) wn_WF_tried_0 (by decide +kernel))
theorem d_WF_tried_11 : decode b_WF_tried 11 = .ok (.aload_n 0, 1) := dc_42 (q0_win (r := 11) wn_WF_tried_0 (by decide +kernel))
theorem d_WF_tried_12 : decode b_WF_tried 12 = .ok (.iload_n 1, 1) := dc_27 (q0_win (r := 12) wn_WF_tried_0 (by decide +kernel))
theorem d_WF_tried_13 : decode b_WF_tried 13 = .ok (.iload_n 2, 1) := dc_28 (q0_win (r := 13) wn_WF_tried_0 (by decide +kernel))
theorem d_WF_tried_14 : decode b_WF_tried 14 = .ok (.invokevirtual 400, 3) := dc_182 (qU2_win (r := 14) wn_WF_tried_0 (by decide +kernel))
theorem d_WF_tried_17 : decode b_WF_tried 17 = .ok (.ifCond .ne 5, 3) := dc_154 (qS2_win (r := 17) wn_WF_tried_0 (by decide +kernel))
theorem d_WF_tried_20 : decode b_WF_tried 20 = .ok (.iconst (-1), 1) := dc_2 (q0_win (r := 20) wn_WF_tried_0 (by decide +kernel))
theorem d_WF_tried_21 : decode b_WF_tried 21 = .ok (.ireturn, 1) := dc_172 (q0_win (r := 21) wn_WF_tried_0 (by decide +kernel))
theorem d_WF_tried_22 : decode b_WF_tried 22 = .ok (.aload_n 0, 1) := dc_42 (q0_win (r := 22) wn_WF_tried_0 (by decide +kernel))
theorem d_WF_tried_23 : decode b_WF_tried 23 = .ok (.getfield 50, 3) := dc_180 (qU2_win (r := 23) wn_WF_tried_0 (by decide +kernel))
theorem d_WF_tried_26 : decode b_WF_tried 26 = .ok (.aload_n 0, 1) := dc_42 (q0_win (r := 26) wn_WF_tried_0 (by decide +kernel))
theorem d_WF_tried_27 : decode b_WF_tried 27 = .ok (.getfield 46, 3) := dc_180 (qU2_win (r := 27) wn_WF_tried_0 (by decide +kernel))
theorem d_WF_tried_30 : decode b_WF_tried 30 = .ok (.invokevirtual 299, 3) := dc_182 (qU2_win (r := 30) wn_WF_tried_0 (by decide +kernel))
theorem d_WF_tried_33 : decode b_WF_tried 33 = .ok (.iload_n 1, 1) := dc_27 (q0_win (r := 33) wn_WF_tried_0 (by decide +kernel))
theorem d_WF_tried_34 : decode b_WF_tried 34 = .ok (.tableswitch 86 0 4 #[34, 86, 45, 56, 71], 34) := by decide +kernel
theorem wn_WF_tried_68 : ∀ i, i < 96 → bA b_WF_tried (68 + i) = wB [42, 180, 0, 50, 9, 181, 0, 176, 167, 0, 44, 42, 180, 0, 50, 9, 181, 0, 165, 167, 0, 33, 42, 180, 0, 50, 180, 0, 201, 28, 7, 184, 1, 35, 167, 0, 18, 42, 180, 0, 50, 180, 0, 228, 28, 2, 184, 1, 35, 167, 0, 3, 3, 54, 4, 3, 54, 5, 21, 5, 29, 162, 0, 35, 21, 4, 42, 180, 0, 50, 42, 180, 0, 22, 27, 4, 159, 0, 7, 4, 167, 0, 4, 3, 182, 1, 16, 96, 54, 4, 132, 5, 1, 167, 255, 221] i := wB_of (by decide +kernel)
theorem d_WF_tried_68 : decode b_WF_tried 68 = .ok (.aload_n 0, 1) := dc_42 (q0_win (r := 0) wn_WF_tried_68 (by decide +kernel))
theorem d_WF_tried_69 : decode b_WF_tried 69 = .ok (.getfield 50, 3) := dc_180 (qU2_win (r := 1) wn_WF_tried_68 (by decide +kernel))
theorem d_WF_tried_72 : decode b_WF_tried 72 = .ok (.lconst 0, 1) := dc_9 (q0_win (r := 4) wn_WF_tried_68 (by decide +kernel))
theorem d_WF_tried_73 : decode b_WF_tried 73 = .ok (.putfield 176, 3) := dc_181 (qU2_win (r := 5) wn_WF_tried_68 (by decide +kernel))
theorem d_WF_tried_76 : decode b_WF_tried 76 = .ok (.goto 44, 3) := dc_167 (qS2_win (r := 8) wn_WF_tried_68 (by decide +kernel))
theorem d_WF_tried_79 : decode b_WF_tried 79 = .ok (.aload_n 0, 1) := dc_42 (q0_win (r := 11) wn_WF_tried_68 (by decide +kernel))
theorem d_WF_tried_80 : decode b_WF_tried 80 = .ok (.getfield 50, 3) := dc_180 (qU2_win (r := 12) wn_WF_tried_68 (by decide +kernel))
theorem d_WF_tried_83 : decode b_WF_tried 83 = .ok (.lconst 0, 1) := dc_9 (q0_win (r := 15) wn_WF_tried_68 (by decide +kernel))
theorem d_WF_tried_84 : decode b_WF_tried 84 = .ok (.putfield 165, 3) := dc_181 (qU2_win (r := 16) wn_WF_tried_68 (by decide +kernel))
theorem d_WF_tried_87 : decode b_WF_tried 87 = .ok (.goto 33, 3) := dc_167 (qS2_win (r := 19) wn_WF_tried_68 (by decide +kernel))
theorem d_WF_tried_90 : decode b_WF_tried 90 = .ok (.aload_n 0, 1) := dc_42 (q0_win (r := 22) wn_WF_tried_68 (by decide +kernel))
theorem d_WF_tried_91 : decode b_WF_tried 91 = .ok (.getfield 50, 3) := dc_180 (qU2_win (r := 23) wn_WF_tried_68 (by decide +kernel))
theorem d_WF_tried_94 : decode b_WF_tried 94 = .ok (.getfield 201, 3) := dc_180 (qU2_win (r := 26) wn_WF_tried_68 (by decide +kernel))
theorem d_WF_tried_97 : decode b_WF_tried 97 = .ok (.iload_n 2, 1) := dc_28 (q0_win (r := 29) wn_WF_tried_68 (by decide +kernel))
theorem d_WF_tried_98 : decode b_WF_tried 98 = .ok (.iconst 4, 1) := dc_7 (q0_win (r := 30) wn_WF_tried_68 (by decide +kernel))
theorem d_WF_tried_99 : decode b_WF_tried 99 = .ok (.invokestatic 291, 3) := dc_184 (qU2_win (r := 31) wn_WF_tried_68 (by decide +kernel))
theorem d_WF_tried_102 : decode b_WF_tried 102 = .ok (.goto 18, 3) := dc_167 (qS2_win (r := 34) wn_WF_tried_68 (by decide +kernel))
theorem d_WF_tried_105 : decode b_WF_tried 105 = .ok (.aload_n 0, 1) := dc_42 (q0_win (r := 37) wn_WF_tried_68 (by decide +kernel))
theorem d_WF_tried_106 : decode b_WF_tried 106 = .ok (.getfield 50, 3) := dc_180 (qU2_win (r := 38) wn_WF_tried_68 (by decide +kernel))
theorem d_WF_tried_109 : decode b_WF_tried 109 = .ok (.getfield 228, 3) := dc_180 (qU2_win (r := 41) wn_WF_tried_68 (by decide +kernel))
theorem d_WF_tried_112 : decode b_WF_tried 112 = .ok (.iload_n 2, 1) := dc_28 (q0_win (r := 44) wn_WF_tried_68 (by decide +kernel))
theorem d_WF_tried_113 : decode b_WF_tried 113 = .ok (.iconst (-1), 1) := dc_2 (q0_win (r := 45) wn_WF_tried_68 (by decide +kernel))
theorem d_WF_tried_114 : decode b_WF_tried 114 = .ok (.invokestatic 291, 3) := dc_184 (qU2_win (r := 46) wn_WF_tried_68 (by decide +kernel))
theorem d_WF_tried_117 : decode b_WF_tried 117 = .ok (.goto 3, 3) := dc_167 (qS2_win (r := 49) wn_WF_tried_68 (by decide +kernel))
theorem d_WF_tried_120 : decode b_WF_tried 120 = .ok (.iconst 0, 1) := dc_3 (q0_win (r := 52) wn_WF_tried_68 (by decide +kernel))
theorem d_WF_tried_121 : decode b_WF_tried 121 = .ok (.istore 4, 2) := dc_54 (qU1_win (r := 53) wn_WF_tried_68 (by decide +kernel))
theorem d_WF_tried_123 : decode b_WF_tried 123 = .ok (.iconst 0, 1) := dc_3 (q0_win (r := 55) wn_WF_tried_68 (by decide +kernel))
theorem d_WF_tried_124 : decode b_WF_tried 124 = .ok (.istore 5, 2) := dc_54 (qU1_win (r := 56) wn_WF_tried_68 (by decide +kernel))
theorem d_WF_tried_126 : decode b_WF_tried 126 = .ok (.iload 5, 2) := dc_21 (qU1_win (r := 58) wn_WF_tried_68 (by decide +kernel))
theorem d_WF_tried_128 : decode b_WF_tried 128 = .ok (.iload_n 3, 1) := dc_29 (q0_win (r := 60) wn_WF_tried_68 (by decide +kernel))
theorem d_WF_tried_129 : decode b_WF_tried 129 = .ok (.if_icmp .ge 35, 3) := dc_162 (qS2_win (r := 61) wn_WF_tried_68 (by decide +kernel))
theorem d_WF_tried_132 : decode b_WF_tried 132 = .ok (.iload 4, 2) := dc_21 (qU1_win (r := 64) wn_WF_tried_68 (by decide +kernel))
theorem d_WF_tried_134 : decode b_WF_tried 134 = .ok (.aload_n 0, 1) := dc_42 (q0_win (r := 66) wn_WF_tried_68 (by decide +kernel))
theorem d_WF_tried_135 : decode b_WF_tried 135 = .ok (.getfield 50, 3) := dc_180 (qU2_win (r := 67) wn_WF_tried_68 (by decide +kernel))
theorem d_WF_tried_138 : decode b_WF_tried 138 = .ok (.aload_n 0, 1) := dc_42 (q0_win (r := 70) wn_WF_tried_68 (by decide +kernel))
theorem d_WF_tried_139 : decode b_WF_tried 139 = .ok (.getfield 22, 3) := dc_180 (qU2_win (r := 71) wn_WF_tried_68 (by decide +kernel))
theorem d_WF_tried_142 : decode b_WF_tried 142 = .ok (.iload_n 1, 1) := dc_27 (q0_win (r := 74) wn_WF_tried_68 (by decide +kernel))
theorem d_WF_tried_143 : decode b_WF_tried 143 = .ok (.iconst 1, 1) := dc_4 (q0_win (r := 75) wn_WF_tried_68 (by decide +kernel))
theorem d_WF_tried_144 : decode b_WF_tried 144 = .ok (.if_icmp .eq 7, 3) := dc_159 (qS2_win (r := 76) wn_WF_tried_68 (by decide +kernel))
theorem d_WF_tried_147 : decode b_WF_tried 147 = .ok (.iconst 1, 1) := dc_4 (q0_win (r := 79) wn_WF_tried_68 (by decide +kernel))
theorem d_WF_tried_148 : decode b_WF_tried 148 = .ok (.goto 4, 3) := dc_167 (qS2_win (r := 80) wn_WF_tried_68 (by decide +kernel))
theorem d_WF_tried_151 : decode b_WF_tried 151 = .ok (.iconst 0, 1) := dc_3 (q0_win (r := 83) wn_WF_tried_68 (by decide +kernel))
theorem d_WF_tried_152 : decode b_WF_tried 152 = .ok (.invokevirtual 272, 3) := dc_182 (qU2_win (r := 84) wn_WF_tried_68 (by decide +kernel))
theorem d_WF_tried_155 : decode b_WF_tried 155 = .ok (.iadd, 1) := dc_96 (q0_win (r := 87) wn_WF_tried_68 (by decide +kernel))
theorem d_WF_tried_156 : decode b_WF_tried 156 = .ok (.istore 4, 2) := dc_54 (qU1_win (r := 88) wn_WF_tried_68 (by decide +kernel))
theorem d_WF_tried_158 : decode b_WF_tried 158 = .ok (.iinc 5 1, 3) := dc_132 (qI_win (r := 90) wn_WF_tried_68 (by decide +kernel))
theorem d_WF_tried_161 : decode b_WF_tried 161 = .ok (.goto (-35), 3) := dc_167 (qS2_win (r := 93) wn_WF_tried_68 (by decide +kernel))
theorem wn_WF_tried_164 : ∀ i, i < 3 → bA b_WF_tried (164 + i) = wB [21, 4, 172] i := wB_of (by decide +kernel)
theorem d_WF_tried_164 : decode b_WF_tried 164 = .ok (.iload 4, 2) := dc_21 (qU1_win (r := 0) wn_WF_tried_164 (by decide +kernel))
theorem d_WF_tried_166 : decode b_WF_tried 166 = .ok (.ireturn, 1) := dc_172 (q0_win (r := 2) wn_WF_tried_164 (by decide +kernel))
def t_WF_tried_L152 (x1 : Int) (x2 : Int) (x3 : Int) (bk126 : Mem → Int → Int → Option (Mem × Int)) (M : Mem) (v3_ : Int) (v4_ : Int) (u6_ : Nat) (v7_ : Int) : Option (Mem × Int) := (obind (t_Scene_beat M 52 u6_ v7_) fun q22 => (bk126 (q22.1) (w32 (v4_ + (q22.2))) (w32 (v3_ + 1))))
def t_WF_tried_L126 (x1 : Int) (x2 : Int) (x3 : Int)  : Nat → Mem → Int → Int → Option (Mem × Int)
  | 0, _, _, _ => none
  | fu + 1, M, v3_, v4_ => (if x3 ≤ v4_ then (some (M, v3_)) else (if x1 = 1 then (t_WF_tried_L152 x1 x2 x3 (fun a0_ a1_ a2_ => t_WF_tried_L126 x1 x2 x3 fu a0_ a1_ a2_) M v4_ v3_ ((M.1 0 4).toNat) 0) else (t_WF_tried_L152 x1 x2 x3 (fun a0_ a1_ a2_ => t_WF_tried_L126 x1 x2 x3 fu a0_ a1_ a2_) M v4_ v3_ ((M.1 0 4).toNat) 1)))
def t_WF_tried_L120 (x1 : Int) (x2 : Int) (x3 : Int)  (M : Mem)  : Option (Mem × Int) := (t_WF_tried_L126 x1 x2 x3 FU M 0 0)
def t_WF_tried (M : Mem) (x1 : Int) (x2 : Int) (x3 : Int) : Option (Mem × Int) := (if x3 < 0 then (some (M, (-1))) else (if 200 < x3 then (some (M, (-1))) else (qlet (t_WF_canTry M x1 x2) fun q3 => (if q3 = 0 then (some (M, (-1))) else (qlet (t_Scene_copy M 52 47) fun q6 => (if x1 = 0 then (qlet (setL q6 52 5 0) fun M9 => (t_WF_tried_L120 x1 x2 x3 M9)) else (if x1 = 1 then (t_WF_tried_L120 x1 x2 x3 q6) else (if x1 = 2 then (qlet (setL q6 52 4 0) fun M12 => (t_WF_tried_L120 x1 x2 x3 M12)) else (if x1 = 3 then (qlet (t_WF_put q6 53 4 x2 4) fun q14 => (t_WF_tried_L120 x1 x2 x3 q14)) else (if x1 = 4 then (qlet (t_WF_put q6 54 8 x2 (-1)) fun q17 => (t_WF_tried_L120 x1 x2 x3 q17)) else (t_WF_tried_L120 x1 x2 x3 q6)))))))))))
set_option maxHeartbeats 4000000 in
set_option maxRecDepth 100000 in
theorem k_WF_tried_L152 (l : Launch) {p : Program} {e : Env} {s : State} {m : MethodId} {below : List Frame} {meth : Method} {c : Code} {b n : Nat} {C : CT} (hlo : 191 ≤ n) (x1 : Int) (x2 : Int) (x3 : Int) (hx1 : InR x1) (hx2 : InR x2) (hx3 : InR x3) (F : Cx b p m c b_WF_tried 6 s ([.ref (b + 0), vI x1, vI x2, vI x3] : List Value).toArray "WardFalls" C n 191) (hlk : meth.locks = false) (hr : meth.sig.returnType = some .int) {res : Mem × Int} (bk126 : Mem → Int → Int → Option (Mem × Int)) (hbk126 : ∀ (M : Mem) (v3_ : Int) (hv3_ : InR v3_) (v4_ : Int) (hv4_ : InR v4_) (H : Heap) (locs : List Loc) (ls : Array Slot), St b C n M s H locs → lv_has ls 6 [(0, .ref (b + 0)), (1, vI x1), (3, vI x3), (4, vI v3_), (5, vI v4_)] → bk126 M v3_ v4_ = some res → W p l e (headSpec (wsM y_WF_tried b_WF_tried 6 (some .int)) (rmD 4)).room s m ([.ref (b + 0), vI x1, vI x2, vI x3] : List Value).toArray below meth c H locs 0 0 (MQ below (QI b C n res.1 res.2) ([.ref (b + 0), vI x1, vI x2, vI x3] : List Value).toArray s 0 0 (frb b)) (F0 m 126 ls [])) (M : Mem) (v3_ : Int) (hv3_ : InR v3_) (v4_ : Int) (hv4_ : InR v4_) (u6_ : Nat) (hu6_ : isTown u6_) (v7_ : Int) (hv7_ : v7_ = 0 ∨ v7_ = 1) (H : Heap) (locs : List Loc) (ls : Array Slot) (hS : St b C n M s H locs) (hl : lv_has ls 6 [(0, .ref (b + 0)), (1, vI x1), (3, vI x3), (5, vI v3_)]) (hT : t_WF_tried_L152 x1 x2 x3 bk126 M v3_ v4_ u6_ v7_ = some res) : W p l e (headSpec (wsM y_WF_tried b_WF_tried 6 (some .int)) (rmD 4)).room s m ([.ref (b + 0), vI x1, vI x2, vI x3] : List Value).toArray below meth c H locs 0 0 (MQ below (QI b C n res.1 res.2) ([.ref (b + 0), vI x1, vI x2, vI x3] : List Value).toArray s 0 0 (frb b)) (F0 m 152 ls [vI v7_, .ref (b + u6_), .ref (b + 52), vI v4_]) := by
  unfold t_WF_tried_L152 at hT
  obtain ⟨q22, hq22, hT⟩ := q_obind hT
  refine r_backI F hS (r_runV (k := 52) (N := 7) (T := T9) (As := [.ref (b + u6_), vI v7_]) F hS (show 52 < 191 by decide) (show shK 52 = 13 from rfl) rfl (c_Scene_beat l F.2.2.1 M 52 u6_ v7_ (by decide : isScene 52) hu6_ (inr_z hv7_) _ hq22) gs_WF_272 hd_Scene_beat ⟨Nat.le_of_ble_eq_true rfl, Nat.le_of_ble_eq_true rfl⟩ rfl hl.1 (Nat.le_of_ble_eq_true rfl) ⟨Nat.zero_le _, Nat.zero_le _⟩ rfl d_WF_tried_152) (fun H locs hS h23 => ?_)
  refine r_iadd F.hx F.hb d_WF_tried_155 ?_
  refine lv_istore (lv' := [(4, vI (w32 (v4_ + (q22.2)))), (0, .ref (b + 0)), (1, vI x1), (3, vI x3), (5, vI v3_)]) F.hx F.hb d_WF_tried_156 hl (Nat.le_of_ble_eq_true rfl) rfl (fun ls hl => ?_)
  refine lv_iinc (v := Int32.ofInt (w32 (v3_ + 1))) (lv' := [(5, vI (w32 (v3_ + 1))), (4, vI (w32 (v4_ + (q22.2)))), (0, .ref (b + 0)), (1, vI x1), (3, vI x3)]) F.hx F.hb d_WF_tried_158 hl (k := 4) rfl (q_of_add _ _) (Nat.le_of_ble_eq_true rfl) rfl (fun ls hl => ?_)
  refine lv_goto (tgt := 126) F.hx F.hb d_WF_tried_161 (by decide) ?_
  exact hbk126 (q22.1) (w32 (v4_ + (q22.2))) (inr_w32 _) (w32 (v3_ + 1)) (inr_w32 _) _ _ _ hS (lv_sub hl [2, 3, 4, 1, 0] rfl) hT
set_option maxHeartbeats 4000000 in
set_option maxRecDepth 100000 in
theorem k_WF_tried_L126 (l : Launch) {p : Program} {e : Env} {s : State} {m : MethodId} {below : List Frame} {meth : Method} {c : Code} {b n : Nat} {C : CT} (hlo : 191 ≤ n) (x1 : Int) (x2 : Int) (x3 : Int) (hx1 : InR x1) (hx2 : InR x2) (hx3 : InR x3) (F : Cx b p m c b_WF_tried 6 s ([.ref (b + 0), vI x1, vI x2, vI x3] : List Value).toArray "WardFalls" C n 191) (hlk : meth.locks = false) (hr : meth.sig.returnType = some .int) {res : Mem × Int} : ∀ (fu : Nat) (M : Mem) (v3_ : Int) (hv3_ : InR v3_) (v4_ : Int) (hv4_ : InR v4_) (H : Heap) (locs : List Loc) (ls : Array Slot), St b C n M s H locs → lv_has ls 6 [(0, .ref (b + 0)), (1, vI x1), (3, vI x3), (4, vI v3_), (5, vI v4_)] → t_WF_tried_L126 x1 x2 x3 fu M v3_ v4_ = some res → W p l e (headSpec (wsM y_WF_tried b_WF_tried 6 (some .int)) (rmD 4)).room s m ([.ref (b + 0), vI x1, vI x2, vI x3] : List Value).toArray below meth c H locs 0 0 (MQ below (QI b C n res.1 res.2) ([.ref (b + 0), vI x1, vI x2, vI x3] : List Value).toArray s 0 0 (frb b)) (F0 m 126 ls []) := by
  intro fu
  induction fu with
  | zero => intro M v3_ hv3_ v4_ hv4_ H locs ls hS hl hT; exact absurd hT (by simp [t_WF_tried_L126])
  | succ fu ih =>
    intro M v3_ hv3_ v4_ hv4_ H locs ls hS hl hT
    rw [t_WF_tried_L126] at hT
    refine lv_iload F.hx F.hb d_WF_tried_126 (lv_at hl 4 rfl) ?_
    refine lv_iload_n F.hx F.hb d_WF_tried_128 rfl (lv_at hl 2 rfl) ?_
    refine r_icmp_ge (tgt := 164) F.hx F.hb hv4_ hx3 d_WF_tried_129 (by decide) (fun c19 => ?_) (fun c19 => ?_)
    · replace hT := (if_pos c19).symm.trans hT
      refine lv_iload F.hx F.hb d_WF_tried_164 (lv_at hl 3 rfl) ?_
      cases hT
      exact r_iret F hlk hr rfl hS hv3_ d_WF_tried_166
    · replace hT := (if_neg c19).symm.trans hT
      refine lv_iload F.hx F.hb d_WF_tried_132 (lv_at hl 3 rfl) ?_
      refine lv_aload_n F.hx F.hb d_WF_tried_134 rfl (lv_at hl 0 rfl) ?_
      refine r_get (v := .ref (b + 52)) (N := 19) (T := T0) (j := 9) F hS (show 0 < 191 by decide) (show shK 0 = 4 from rfl) (show shN 0 = 19 from rfl) rfl (Nat.le_of_ble_eq_true rfl) ing0 mw_559 (fv_sg rfl rfl rfl) d_WF_tried_135 ?_
      refine lv_aload_n F.hx F.hb d_WF_tried_138 rfl (lv_at hl 0 rfl) ?_
      have h20 := St_town hS
      refine r_get (v := .ref (b + ((M.1 0 4).toNat))) (N := 19) (T := T0) (j := 4) F hS (show 0 < 191 by decide) (show shK 0 = 4 from rfl) (show shN 0 = 19 from rfl) rfl (Nat.le_of_ble_eq_true rfl) ing0 mw_554 (fv_town hS) d_WF_tried_139 ?_
      refine lv_iload_n F.hx F.hb d_WF_tried_142 rfl (lv_at hl 1 rfl) ?_
      refine r_iconst F.hx F.hb d_WF_tried_143 ?_
      refine r_icmp_eq (tgt := 151) F.hx F.hb hx1 (inr_c rfl) d_WF_tried_144 (by decide) (fun c21 => ?_) (fun c21 => ?_)
      · replace hT := (if_pos c21).symm.trans hT
        refine r_iconst F.hx F.hb d_WF_tried_151 ?_
        exact k_WF_tried_L152 l hlo x1 x2 x3 hx1 hx2 hx3 F hlk hr (fun a0_ a1_ a2_ => t_WF_tried_L126 x1 x2 x3 fu a0_ a1_ a2_) ih M v4_ hv4_ v3_ hv3_ ((M.1 0 4).toNat) h20 0 (Or.inl rfl) _ _ _ hS (lv_sub hl [0, 1, 2, 4] rfl) hT
      · replace hT := (if_neg c21).symm.trans hT
        refine r_iconst F.hx F.hb d_WF_tried_147 ?_
        refine lv_goto (tgt := 152) F.hx F.hb d_WF_tried_148 (by decide) ?_
        exact k_WF_tried_L152 l hlo x1 x2 x3 hx1 hx2 hx3 F hlk hr (fun a0_ a1_ a2_ => t_WF_tried_L126 x1 x2 x3 fu a0_ a1_ a2_) ih M v4_ hv4_ v3_ hv3_ ((M.1 0 4).toNat) h20 1 (Or.inr rfl) _ _ _ hS (lv_sub hl [0, 1, 2, 4] rfl) hT
set_option maxHeartbeats 4000000 in
set_option maxRecDepth 100000 in
theorem k_WF_tried_L120 (l : Launch) {p : Program} {e : Env} {s : State} {m : MethodId} {below : List Frame} {meth : Method} {c : Code} {b n : Nat} {C : CT} (hlo : 191 ≤ n) (x1 : Int) (x2 : Int) (x3 : Int) (hx1 : InR x1) (hx2 : InR x2) (hx3 : InR x3) (F : Cx b p m c b_WF_tried 6 s ([.ref (b + 0), vI x1, vI x2, vI x3] : List Value).toArray "WardFalls" C n 191) (hlk : meth.locks = false) (hr : meth.sig.returnType = some .int) {res : Mem × Int} (M : Mem)  (H : Heap) (locs : List Loc) (ls : Array Slot) (hS : St b C n M s H locs) (hl : lv_has ls 6 [(0, .ref (b + 0)), (1, vI x1), (3, vI x3)]) (hT : t_WF_tried_L120 x1 x2 x3 M = some res) : W p l e (headSpec (wsM y_WF_tried b_WF_tried 6 (some .int)) (rmD 4)).room s m ([.ref (b + 0), vI x1, vI x2, vI x3] : List Value).toArray below meth c H locs 0 0 (MQ below (QI b C n res.1 res.2) ([.ref (b + 0), vI x1, vI x2, vI x3] : List Value).toArray s 0 0 (frb b)) (F0 m 120 ls []) := by
  unfold t_WF_tried_L120 at hT
  refine r_iconst F.hx F.hb d_WF_tried_120 ?_
  refine lv_istore (lv' := [(4, vI 0), (0, .ref (b + 0)), (1, vI x1), (3, vI x3)]) F.hx F.hb d_WF_tried_121 hl (Nat.le_of_ble_eq_true rfl) rfl (fun ls hl => ?_)
  refine r_iconst F.hx F.hb d_WF_tried_123 ?_
  refine lv_istore (lv' := [(5, vI 0), (4, vI 0), (0, .ref (b + 0)), (1, vI x1), (3, vI x3)]) F.hx F.hb d_WF_tried_124 hl (Nat.le_of_ble_eq_true rfl) rfl (fun ls hl => ?_)
  exact k_WF_tried_L126 l hlo x1 x2 x3 hx1 hx2 hx3 F hlk hr FU M 0 (inr_c rfl) 0 (inr_c rfl) _ _ _ hS (lv_sub hl [2, 3, 4, 1, 0] rfl) hT
set_option maxHeartbeats 4000000 in
set_option maxRecDepth 100000 in
theorem c_WF_tried (l : Launch) {b n : Nat} {C : CT} (hlo : 191 ≤ n) (M : Mem) (x1 : Int) (x2 : Int) (x3 : Int) (hx1 : InR x1) (hx2 : InR x2) (hx3 : InR x3) (res : Mem × Int) (hT : t_WF_tried M x1 x2 x3 = some res) : CM l b C n 4 y_WF_tried b_WF_tried 6 (some .int) [.ref (b + 0), vI x1, vI x2, vI x3] M (QI b C n res.1 res.2) := by
  refine CM.of (lo := 191) (ow := "WardFalls") (by decide) rfl (Nat.le_of_ble_eq_true rfl) hlo (fun p e s m below meth c F hlk hr hS ls hl => ?_)
  have hl : lv_has ls 6 [(0, .ref (b + 0)), (1, vI x1), (2, vI x2), (3, vI x3)] := hl
  unfold t_WF_tried at hT
  refine lv_iload_n F.hx F.hb d_WF_tried_0 rfl (lv_at hl 3 rfl) ?_
  refine r_if_lt (tgt := 20) F.hx F.hb hx3 d_WF_tried_1 (by decide) (fun c1 => ?_) (fun c1 => ?_)
  · replace hT := (if_pos c1).symm.trans hT
    refine r_iconst F.hx F.hb d_WF_tried_20 ?_
    cases hT
    exact r_iret F hlk hr rfl hS (inr_c rfl) d_WF_tried_21
  · replace hT := (if_neg c1).symm.trans hT
    refine lv_iload_n F.hx F.hb d_WF_tried_4 rfl (lv_at hl 3 rfl) ?_
    refine r_sipush F.hx F.hb d_WF_tried_5 rfl ?_
    refine r_icmp_gt (tgt := 20) F.hx F.hb hx3 (inr_c rfl) d_WF_tried_8 (by decide) (fun c2 => ?_) (fun c2 => ?_)
    · replace hT := (if_pos c2).symm.trans hT
      refine r_iconst F.hx F.hb d_WF_tried_20 ?_
      cases hT
      exact r_iret F hlk hr rfl hS (inr_c rfl) d_WF_tried_21
    · replace hT := (if_neg c2).symm.trans hT
      refine lv_aload_n F.hx F.hb d_WF_tried_11 rfl (lv_at hl 0 rfl) ?_
      refine lv_iload_n F.hx F.hb d_WF_tried_12 rfl (lv_at hl 1 rfl) ?_
      refine lv_iload_n F.hx F.hb d_WF_tried_13 rfl (lv_at hl 2 rfl) ?_
      obtain ⟨q3, hq3⟩ : ∃ q, q = (t_WF_canTry M x1 x2) := ⟨_, rfl⟩
      replace hT := qlet_eq hT hq3
      refine r_backZ F hS (r_runV (k := 0) (N := 19) (T := T0) (As := [vI x1, vI x2]) F hS (show 0 < 191 by decide) (show shK 0 = 4 from rfl) rfl (c_WF_canTry l F.2.2.1 M x1 x2 hx1 hx2 _ hq3.symm) gs_WF_400 hd_WF_canTry ⟨Nat.le_of_ble_eq_true rfl, Nat.le_of_ble_eq_true rfl⟩ rfl hl.1 (Nat.le_of_ble_eq_true rfl) ⟨Nat.zero_le _, Nat.zero_le _⟩ rfl d_WF_tried_14) (fun H locs hS h4 => ?_)
      refine r_if_ne (tgt := 22) F.hx F.hb (inr_z h4) d_WF_tried_17 (by decide) (fun c5 => ?_) (fun c5 => ?_)
      · replace hT := (if_neg c5).symm.trans hT
        refine lv_aload_n F.hx F.hb d_WF_tried_22 rfl (lv_at hl 0 rfl) ?_
        refine r_get (v := .ref (b + 52)) (N := 19) (T := T0) (j := 9) F hS (show 0 < 191 by decide) (show shK 0 = 4 from rfl) (show shN 0 = 19 from rfl) rfl (Nat.le_of_ble_eq_true rfl) ing0 mw_559 (fv_sg rfl rfl rfl) d_WF_tried_23 ?_
        refine lv_aload_n F.hx F.hb d_WF_tried_26 rfl (lv_at hl 0 rfl) ?_
        refine r_get (v := .ref (b + 47)) (N := 19) (T := T0) (j := 8) F hS (show 0 < 191 by decide) (show shK 0 = 4 from rfl) (show shN 0 = 19 from rfl) rfl (Nat.le_of_ble_eq_true rfl) ing0 mw_558 (fv_sg rfl rfl rfl) d_WF_tried_27 ?_
        obtain ⟨q6, hq6⟩ : ∃ q, q = (t_Scene_copy M 52 47) := ⟨_, rfl⟩
        replace hT := qlet_eq hT hq6
        refine r_backV F hS (r_runV (k := 52) (N := 7) (T := T9) (As := [.ref (b + 47)]) F hS (show 52 < 191 by decide) (show shK 52 = 13 from rfl) rfl (c_Scene_copy l F.2.2.1 M 52 47 (by decide : isScene 52) (by decide : isScene 47) _ hq6.symm) gs_WF_299 hd_Scene_copy ⟨Nat.le_of_ble_eq_true rfl, Nat.le_of_ble_eq_true rfl⟩ rfl hl.1 (Nat.le_of_ble_eq_true rfl) ⟨Nat.zero_le _, Nat.zero_le _⟩ rfl d_WF_tried_30) (fun H locs hS => ?_)
        refine lv_iload_n F.hx F.hb d_WF_tried_33 rfl (lv_at hl 1 rfl) ?_
        rcases q_ite hT with ⟨c8, hT⟩ | ⟨c8, hT⟩
        · refine r_tableIn (i := 0) (tgt := 68) F.hx F.hb hx1 c8 d_WF_tried_34 (by decide) (by decide) rfl (by decide) ?_
          refine lv_aload_n F.hx F.hb d_WF_tried_68 rfl (lv_at hl 0 rfl) ?_
          refine r_get (v := .ref (b + 52)) (N := 19) (T := T0) (j := 9) F hS (show 0 < 191 by decide) (show shK 0 = 4 from rfl) (show shN 0 = 19 from rfl) rfl (Nat.le_of_ble_eq_true rfl) ing0 mw_559 (fv_sg rfl rfl rfl) d_WF_tried_69 ?_
          refine lv_lconst (v := 0) F.hx F.hb d_WF_tried_72 rfl ?_
          refine r_putL (N := 7) (T := T9) (j := 5) F hS (show 52 < 191 by decide) (show shK 52 = 13 from rfl) (show shN 52 = 7 from rfl) rfl (Nat.le_of_ble_eq_true rfl) ing9 tyok9 nm9 rfl rfl rfl mw_290 d_WF_tried_73 (fun H locs hS => ?_)
          obtain ⟨M9, eM9⟩ : ∃ q, q = (setL q6 52 5 0) := ⟨_, rfl⟩
          replace hS : St b C n M9 s H locs := by rw [eM9]; exact hS
          replace hT := qlet_eq hT eM9
          refine lv_goto (tgt := 120) F.hx F.hb d_WF_tried_76 (by decide) ?_
          exact k_WF_tried_L120 l hlo x1 x2 x3 hx1 hx2 hx3 F hlk hr M9 _ _ _ hS (lv_sub hl [0, 1, 3] rfl) hT
        ·
          rcases q_ite hT with ⟨c10, hT⟩ | ⟨c10, hT⟩
          · refine r_tableIn (i := 1) (tgt := 120) F.hx F.hb hx1 c10 d_WF_tried_34 (by decide) (by decide) rfl (by decide) ?_
            exact k_WF_tried_L120 l hlo x1 x2 x3 hx1 hx2 hx3 F hlk hr q6 _ _ _ hS (lv_sub hl [0, 1, 3] rfl) hT
          ·
            rcases q_ite hT with ⟨c11, hT⟩ | ⟨c11, hT⟩
            · refine r_tableIn (i := 2) (tgt := 79) F.hx F.hb hx1 c11 d_WF_tried_34 (by decide) (by decide) rfl (by decide) ?_
              refine lv_aload_n F.hx F.hb d_WF_tried_79 rfl (lv_at hl 0 rfl) ?_
              refine r_get (v := .ref (b + 52)) (N := 19) (T := T0) (j := 9) F hS (show 0 < 191 by decide) (show shK 0 = 4 from rfl) (show shN 0 = 19 from rfl) rfl (Nat.le_of_ble_eq_true rfl) ing0 mw_559 (fv_sg rfl rfl rfl) d_WF_tried_80 ?_
              refine lv_lconst (v := 0) F.hx F.hb d_WF_tried_83 rfl ?_
              refine r_putL (N := 7) (T := T9) (j := 4) F hS (show 52 < 191 by decide) (show shK 52 = 13 from rfl) (show shN 52 = 7 from rfl) rfl (Nat.le_of_ble_eq_true rfl) ing9 tyok9 nm9 rfl rfl rfl mw_287 d_WF_tried_84 (fun H locs hS => ?_)
              obtain ⟨M12, eM12⟩ : ∃ q, q = (setL q6 52 4 0) := ⟨_, rfl⟩
              replace hS : St b C n M12 s H locs := by rw [eM12]; exact hS
              replace hT := qlet_eq hT eM12
              refine lv_goto (tgt := 120) F.hx F.hb d_WF_tried_87 (by decide) ?_
              exact k_WF_tried_L120 l hlo x1 x2 x3 hx1 hx2 hx3 F hlk hr M12 _ _ _ hS (lv_sub hl [0, 1, 3] rfl) hT
            ·
              rcases q_ite hT with ⟨c13, hT⟩ | ⟨c13, hT⟩
              · refine r_tableIn (i := 3) (tgt := 90) F.hx F.hb hx1 c13 d_WF_tried_34 (by decide) (by decide) rfl (by decide) ?_
                refine lv_aload_n F.hx F.hb d_WF_tried_90 rfl (lv_at hl 0 rfl) ?_
                refine r_get (v := .ref (b + 52)) (N := 19) (T := T0) (j := 9) F hS (show 0 < 191 by decide) (show shK 0 = 4 from rfl) (show shN 0 = 19 from rfl) rfl (Nat.le_of_ble_eq_true rfl) ing0 mw_559 (fv_sg rfl rfl rfl) d_WF_tried_91 ?_
                refine r_get (v := .ref (b + 53)) (N := 7) (T := T9) (j := 0) F hS (show 52 < 191 by decide) (show shK 52 = 13 from rfl) (show shN 52 = 7 from rfl) rfl (Nat.le_of_ble_eq_true rfl) ing9 mw_276 (fv_sg rfl rfl rfl) d_WF_tried_94 ?_
                refine lv_iload_n F.hx F.hb d_WF_tried_97 rfl (lv_at hl 2 rfl) ?_
                refine r_iconst F.hx F.hb d_WF_tried_98 ?_
                obtain ⟨q14, hq14⟩ : ∃ q, q = (t_WF_put q6 53 4 x2 4) := ⟨_, rfl⟩
                replace hT := qlet_eq hT hq14
                refine r_backV F hS (r_runS (As := [.ref (b + 53), vI x2, vI 4]) F hS (c_WF_put l F.2.2.1 q6 53 4 x2 4 (show arrP 0 53 4 191 from ⟨rfl, rfl, by decide⟩) hx2 (inr_c rfl) _ hq14.symm) gs_WF_291 hd_WF_put ⟨Nat.le_of_ble_eq_true rfl, Nat.le_of_ble_eq_true rfl⟩ rfl hl.1 (Nat.le_of_ble_eq_true rfl) ⟨Nat.zero_le _, Nat.zero_le _⟩ rfl d_WF_tried_99) (fun H locs hS => ?_)
                refine lv_goto (tgt := 120) F.hx F.hb d_WF_tried_102 (by decide) ?_
                exact k_WF_tried_L120 l hlo x1 x2 x3 hx1 hx2 hx3 F hlk hr q14 _ _ _ hS (lv_sub hl [0, 1, 3] rfl) hT
              ·
                rcases q_ite hT with ⟨c16, hT⟩ | ⟨c16, hT⟩
                · refine r_tableIn (i := 4) (tgt := 105) F.hx F.hb hx1 c16 d_WF_tried_34 (by decide) (by decide) rfl (by decide) ?_
                  refine lv_aload_n F.hx F.hb d_WF_tried_105 rfl (lv_at hl 0 rfl) ?_
                  refine r_get (v := .ref (b + 52)) (N := 19) (T := T0) (j := 9) F hS (show 0 < 191 by decide) (show shK 0 = 4 from rfl) (show shN 0 = 19 from rfl) rfl (Nat.le_of_ble_eq_true rfl) ing0 mw_559 (fv_sg rfl rfl rfl) d_WF_tried_106 ?_
                  refine r_get (v := .ref (b + 54)) (N := 7) (T := T9) (j := 1) F hS (show 52 < 191 by decide) (show shK 52 = 13 from rfl) (show shN 52 = 7 from rfl) rfl (Nat.le_of_ble_eq_true rfl) ing9 mw_280 (fv_sg rfl rfl rfl) d_WF_tried_109 ?_
                  refine lv_iload_n F.hx F.hb d_WF_tried_112 rfl (lv_at hl 2 rfl) ?_
                  refine r_iconst F.hx F.hb d_WF_tried_113 ?_
                  obtain ⟨q17, hq17⟩ : ∃ q, q = (t_WF_put q6 54 8 x2 (-1)) := ⟨_, rfl⟩
                  replace hT := qlet_eq hT hq17
                  refine r_backV F hS (r_runS (As := [.ref (b + 54), vI x2, vI (-1)]) F hS (c_WF_put l F.2.2.1 q6 54 8 x2 (-1) (show arrP 0 54 8 191 from ⟨rfl, rfl, by decide⟩) hx2 (inr_c rfl) _ hq17.symm) gs_WF_291 hd_WF_put ⟨Nat.le_of_ble_eq_true rfl, Nat.le_of_ble_eq_true rfl⟩ rfl hl.1 (Nat.le_of_ble_eq_true rfl) ⟨Nat.zero_le _, Nat.zero_le _⟩ rfl d_WF_tried_114) (fun H locs hS => ?_)
                  refine lv_goto (tgt := 120) F.hx F.hb d_WF_tried_117 (by decide) ?_
                  exact k_WF_tried_L120 l hlo x1 x2 x3 hx1 hx2 hx3 F hlk hr q17 _ _ _ hS (lv_sub hl [0, 1, 3] rfl) hT
                ·
                  refine r_tableOut (tgt := 120) F.hx F.hb hx1 (by omega) d_WF_tried_34 (by decide) ?_
                  exact k_WF_tried_L120 l hlo x1 x2 x3 hx1 hx2 hx3 F hlk hr q6 _ _ _ hS (lv_sub hl [0, 1, 3] rfl) hT
      · replace hT := (if_pos c5).symm.trans hT
        refine r_iconst F.hx F.hb d_WF_tried_20 ?_
        cases hT
        exact r_iret F hlk hr rfl hS (inr_c rfl) d_WF_tried_21
theorem d_Past_takeBack_0 : decode b_Past_takeBack 0 = .ok (.aload_n 0, 1) := dc_42 (by decide +kernel)
theorem d_Past_takeBack_1 : decode b_Past_takeBack 1 = .ok (.getfield 18, 3) := dc_180 (by decide +kernel)
theorem d_Past_takeBack_4 : decode b_Past_takeBack 4 = .ok (.ifCond .ne 5, 3) := dc_154 (by decide +kernel)
theorem d_Past_takeBack_7 : decode b_Past_takeBack 7 = .ok (.iconst 0, 1) := dc_3 (by decide +kernel)
theorem d_Past_takeBack_8 : decode b_Past_takeBack 8 = .ok (.ireturn, 1) := dc_172 (by decide +kernel)
theorem d_Past_takeBack_9 : decode b_Past_takeBack 9 = .ok (.aload_n 0, 1) := dc_42 (by decide +kernel)
theorem d_Past_takeBack_10 : decode b_Past_takeBack 10 = .ok (.getfield 22, 3) := dc_180 (by decide +kernel)
theorem d_Past_takeBack_13 : decode b_Past_takeBack 13 = .ok (.ifCond .lt 40, 3) := dc_155 (by decide +kernel)
theorem d_Past_takeBack_16 : decode b_Past_takeBack 16 = .ok (.aload_n 0, 1) := dc_42 (by decide +kernel)
theorem d_Past_takeBack_17 : decode b_Past_takeBack 17 = .ok (.getfield 22, 3) := dc_180 (by decide +kernel)
theorem d_Past_takeBack_20 : decode b_Past_takeBack 20 = .ok (.aload_n 0, 1) := dc_42 (by decide +kernel)
theorem d_Past_takeBack_21 : decode b_Past_takeBack 21 = .ok (.getfield 11, 3) := dc_180 (by decide +kernel)
theorem d_Past_takeBack_24 : decode b_Past_takeBack 24 = .ok (.arraylength, 1) := dc_190 (by decide +kernel)
theorem d_Past_takeBack_25 : decode b_Past_takeBack 25 = .ok (.if_icmp .ge 28, 3) := dc_162 (by decide +kernel)
theorem d_Past_takeBack_28 : decode b_Past_takeBack 28 = .ok (.aload_n 0, 1) := dc_42 (by decide +kernel)
theorem d_Past_takeBack_29 : decode b_Past_takeBack 29 = .ok (.getfield 11, 3) := dc_180 (by decide +kernel)
theorem d_Past_takeBack_32 : decode b_Past_takeBack 32 = .ok (.aload_n 0, 1) := dc_42 (by decide +kernel)
theorem d_Past_takeBack_33 : decode b_Past_takeBack 33 = .ok (.getfield 22, 3) := dc_180 (by decide +kernel)
theorem d_Past_takeBack_36 : decode b_Past_takeBack 36 = .ok (.aaload, 1) := dc_50 (by decide +kernel)
theorem d_Past_takeBack_37 : decode b_Past_takeBack 37 = .ok (.ifnull 16, 3) := dc_198 (by decide +kernel)
theorem d_Past_takeBack_40 : decode b_Past_takeBack 40 = .ok (.aload_n 1, 1) := dc_43 (by decide +kernel)
theorem d_Past_takeBack_41 : decode b_Past_takeBack 41 = .ok (.aload_n 0, 1) := dc_42 (by decide +kernel)
theorem d_Past_takeBack_42 : decode b_Past_takeBack 42 = .ok (.getfield 11, 3) := dc_180 (by decide +kernel)
theorem d_Past_takeBack_45 : decode b_Past_takeBack 45 = .ok (.aload_n 0, 1) := dc_42 (by decide +kernel)
theorem d_Past_takeBack_46 : decode b_Past_takeBack 46 = .ok (.getfield 22, 3) := dc_180 (by decide +kernel)
theorem d_Past_takeBack_49 : decode b_Past_takeBack 49 = .ok (.aaload, 1) := dc_50 (by decide +kernel)
theorem d_Past_takeBack_50 : decode b_Past_takeBack 50 = .ok (.invokevirtual 25, 3) := dc_182 (by decide +kernel)
theorem d_Past_takeBack_53 : decode b_Past_takeBack 53 = .ok (.aload_n 0, 1) := dc_42 (by decide +kernel)
theorem d_Past_takeBack_54 : decode b_Past_takeBack 54 = .ok (.aload_n 0, 1) := dc_42 (by decide +kernel)
theorem d_Past_takeBack_55 : decode b_Past_takeBack 55 = .ok (.getfield 22, 3) := dc_180 (by decide +kernel)
theorem d_Past_takeBack_58 : decode b_Past_takeBack 58 = .ok (.ifCond .le 12, 3) := dc_158 (by decide +kernel)
theorem d_Past_takeBack_61 : decode b_Past_takeBack 61 = .ok (.aload_n 0, 1) := dc_42 (by decide +kernel)
theorem d_Past_takeBack_62 : decode b_Past_takeBack 62 = .ok (.getfield 22, 3) := dc_180 (by decide +kernel)
theorem d_Past_takeBack_65 : decode b_Past_takeBack 65 = .ok (.iconst 1, 1) := dc_4 (by decide +kernel)
theorem d_Past_takeBack_66 : decode b_Past_takeBack 66 = .ok (.isub, 1) := dc_100 (by decide +kernel)
theorem d_Past_takeBack_67 : decode b_Past_takeBack 67 = .ok (.goto 10, 3) := dc_167 (by decide +kernel)
theorem d_Past_takeBack_70 : decode b_Past_takeBack 70 = .ok (.aload_n 0, 1) := dc_42 (by decide +kernel)
theorem d_Past_takeBack_71 : decode b_Past_takeBack 71 = .ok (.getfield 11, 3) := dc_180 (by decide +kernel)
theorem d_Past_takeBack_74 : decode b_Past_takeBack 74 = .ok (.arraylength, 1) := dc_190 (by decide +kernel)
theorem d_Past_takeBack_75 : decode b_Past_takeBack 75 = .ok (.iconst 1, 1) := dc_4 (by decide +kernel)
theorem d_Past_takeBack_76 : decode b_Past_takeBack 76 = .ok (.isub, 1) := dc_100 (by decide +kernel)
theorem d_Past_takeBack_77 : decode b_Past_takeBack 77 = .ok (.putfield 22, 3) := dc_181 (by decide +kernel)
theorem d_Past_takeBack_80 : decode b_Past_takeBack 80 = .ok (.aload_n 0, 1) := dc_42 (by decide +kernel)
theorem d_Past_takeBack_81 : decode b_Past_takeBack 81 = .ok (.dup, 1) := dc_89 (by decide +kernel)
theorem d_Past_takeBack_82 : decode b_Past_takeBack 82 = .ok (.getfield 18, 3) := dc_180 (by decide +kernel)
theorem d_Past_takeBack_85 : decode b_Past_takeBack 85 = .ok (.iconst 1, 1) := dc_4 (by decide +kernel)
theorem d_Past_takeBack_86 : decode b_Past_takeBack 86 = .ok (.isub, 1) := dc_100 (by decide +kernel)
theorem d_Past_takeBack_87 : decode b_Past_takeBack 87 = .ok (.putfield 18, 3) := dc_181 (by decide +kernel)
theorem d_Past_takeBack_90 : decode b_Past_takeBack 90 = .ok (.iconst 1, 1) := dc_4 (by decide +kernel)
theorem d_Past_takeBack_91 : decode b_Past_takeBack 91 = .ok (.ireturn, 1) := dc_172 (by decide +kernel)
def t_Past_takeBack_L77 (k1 : Nat)  (M : Mem) (v2_ : Int) : Mem × Int := (qlet (setI M 70 1 v2_) fun M16 => (qlet (setI M16 70 2 (w32 ((M16.1 70 2) - 1))) fun M18 => (M18, 1)))
def t_Past_takeBack_L53 (k1 : Nat)  (M : Mem)  : Mem × Int := (if (M.1 70 1) ≤ 0 then (t_Past_takeBack_L77 k1 M (w32 (20 - 1))) else (t_Past_takeBack_L77 k1 M (w32 ((M.1 70 1) - 1))))
def t_Past_takeBack (M : Mem) (k1 : Nat) : Mem × Int := (if (M.1 70 2) = 0 then (M, 0) else (if (M.1 70 1) < 0 then (t_Past_takeBack_L53 k1 M) else (if 20 ≤ (M.1 70 1) then (t_Past_takeBack_L53 k1 M) else (qlet (t_Scene_copy M k1 (72 + 5 * ((M.1 70 1)).toNat)) fun q11 => (t_Past_takeBack_L53 k1 q11)))))
set_option maxHeartbeats 4000000 in
set_option maxRecDepth 100000 in
theorem k_Past_takeBack_L77 (l : Launch) {p : Program} {e : Env} {s : State} {m : MethodId} {below : List Frame} {meth : Method} {c : Code} {b n : Nat} {C : CT} (hlo : 191 ≤ n) (k1 : Nat) (hk1 : isScene k1) (F : Cx b p m c b_Past_takeBack 2 s ([.ref (b + 70), .ref (b + k1)] : List Value).toArray "WardFalls$Past" C n 191) (hlk : meth.locks = false) (hr : meth.sig.returnType = some .boolean) {res : Mem × Int} (M : Mem) (v2_ : Int) (hv2_ : InR v2_) (H : Heap) (locs : List Loc) (ls : Array Slot) (hS : St b C n M s H locs) (hl : lv_has ls 2 [(0, .ref (b + 70))]) (hT : t_Past_takeBack_L77 k1 M v2_ = res) : W p l e (headSpec (wsM y_Past_takeBack b_Past_takeBack 2 (some .boolean)) (rmD 4)).room s m ([.ref (b + 70), .ref (b + k1)] : List Value).toArray below meth c H locs 0 0 (MQ below (QZ b C n res.1 res.2) ([.ref (b + 70), .ref (b + k1)] : List Value).toArray s 0 0 (frb b)) (F0 m 77 ls [vI v2_, .ref (b + 70)]) := by
  unfold t_Past_takeBack_L77 at hT
  refine r_putI (N := 3) (T := T6) (j := 1) F hS (show 70 < 191 by decide) (show shK 70 = 10 from rfl) (show shN 70 = 3 from rfl) rfl (Nat.le_of_ble_eq_true rfl) ing6 tyok6 nm6 rfl rfl rfl rfl rfl rfl mw_348 hv2_ d_Past_takeBack_77 (fun H locs hS => ?_)
  obtain ⟨M16, eM16⟩ : ∃ q, q = (setI M 70 1 v2_) := ⟨_, rfl⟩
  replace hS : St b C n M16 s H locs := by rw [eM16]; exact hS
  replace hT := qlet_eq hT eM16
  refine lv_aload_n F.hx F.hb d_Past_takeBack_80 rfl (lv_at hl 0 rfl) ?_
  refine lv_dup F.hx F.hb d_Past_takeBack_81 rfl ?_
  refine r_get (v := vI (M16.1 70 2)) (N := 3) (T := T6) (j := 2) F hS (show 70 < 191 by decide) (show shK 70 = 10 from rfl) (show shN 70 = 3 from rfl) rfl (Nat.le_of_ble_eq_true rfl) ing6 mw_349 (fv_int rfl) d_Past_takeBack_82 ?_
  have i17 := hS.rng 70 2
  refine r_iconst F.hx F.hb d_Past_takeBack_85 ?_
  refine r_isub F.hx F.hb d_Past_takeBack_86 ?_
  refine r_putI (N := 3) (T := T6) (j := 2) F hS (show 70 < 191 by decide) (show shK 70 = 10 from rfl) (show shN 70 = 3 from rfl) rfl (Nat.le_of_ble_eq_true rfl) ing6 tyok6 nm6 rfl rfl rfl rfl rfl rfl mw_349 (inr_w32 _) d_Past_takeBack_87 (fun H locs hS => ?_)
  obtain ⟨M18, eM18⟩ : ∃ q, q = (setI M16 70 2 (w32 ((M16.1 70 2) - 1))) := ⟨_, rfl⟩
  replace hS : St b C n M18 s H locs := by rw [eM18]; exact hS
  replace hT := qlet_eq hT eM18
  refine r_iconst F.hx F.hb d_Past_takeBack_90 ?_
  subst hT
  exact r_zret F hlk hr hS (Or.inr rfl) d_Past_takeBack_91
set_option maxHeartbeats 4000000 in
set_option maxRecDepth 100000 in
theorem k_Past_takeBack_L53 (l : Launch) {p : Program} {e : Env} {s : State} {m : MethodId} {below : List Frame} {meth : Method} {c : Code} {b n : Nat} {C : CT} (hlo : 191 ≤ n) (k1 : Nat) (hk1 : isScene k1) (F : Cx b p m c b_Past_takeBack 2 s ([.ref (b + 70), .ref (b + k1)] : List Value).toArray "WardFalls$Past" C n 191) (hlk : meth.locks = false) (hr : meth.sig.returnType = some .boolean) {res : Mem × Int} (M : Mem)  (H : Heap) (locs : List Loc) (ls : Array Slot) (hS : St b C n M s H locs) (hl : lv_has ls 2 [(0, .ref (b + 70))]) (hT : t_Past_takeBack_L53 k1 M = res) : W p l e (headSpec (wsM y_Past_takeBack b_Past_takeBack 2 (some .boolean)) (rmD 4)).room s m ([.ref (b + 70), .ref (b + k1)] : List Value).toArray below meth c H locs 0 0 (MQ below (QZ b C n res.1 res.2) ([.ref (b + 70), .ref (b + k1)] : List Value).toArray s 0 0 (frb b)) (F0 m 53 ls []) := by
  unfold t_Past_takeBack_L53 at hT
  refine lv_aload_n F.hx F.hb d_Past_takeBack_53 rfl (lv_at hl 0 rfl) ?_
  refine lv_aload_n F.hx F.hb d_Past_takeBack_54 rfl (lv_at hl 0 rfl) ?_
  refine r_get (v := vI (M.1 70 1)) (N := 3) (T := T6) (j := 1) F hS (show 70 < 191 by decide) (show shK 70 = 10 from rfl) (show shN 70 = 3 from rfl) rfl (Nat.le_of_ble_eq_true rfl) ing6 mw_348 (fv_int rfl) d_Past_takeBack_55 ?_
  have i13 := hS.rng 70 1
  refine r_if_le (tgt := 70) F.hx F.hb i13 d_Past_takeBack_58 (by decide) (fun c14 => ?_) (fun c14 => ?_)
  · replace hT := (if_pos c14).symm.trans hT
    refine lv_aload_n F.hx F.hb d_Past_takeBack_70 rfl (lv_at hl 0 rfl) ?_
    refine r_get (v := .ref (b + 71)) (N := 3) (T := T6) (j := 0) F hS (show 70 < 191 by decide) (show shK 70 = 10 from rfl) (show shN 70 = 3 from rfl) rfl (Nat.le_of_ble_eq_true rfl) ing6 mw_347 (fv_sg rfl rfl rfl) d_Past_takeBack_71 ?_
    refine r_alen3 F hS (show 71 < 191 by decide) (show shK 71 = 3 from rfl) (show shN 71 = 20 from rfl) d_Past_takeBack_74 rfl ?_
    refine r_iconst F.hx F.hb d_Past_takeBack_75 ?_
    refine r_isub F.hx F.hb d_Past_takeBack_76 ?_
    exact k_Past_takeBack_L77 l hlo k1 hk1 F hlk hr M (w32 (20 - 1)) (inr_w32 _) _ _ _ hS (lv_sub hl [0] rfl) hT
  · replace hT := (if_neg c14).symm.trans hT
    refine lv_aload_n F.hx F.hb d_Past_takeBack_61 rfl (lv_at hl 0 rfl) ?_
    refine r_get (v := vI (M.1 70 1)) (N := 3) (T := T6) (j := 1) F hS (show 70 < 191 by decide) (show shK 70 = 10 from rfl) (show shN 70 = 3 from rfl) rfl (Nat.le_of_ble_eq_true rfl) ing6 mw_348 (fv_int rfl) d_Past_takeBack_62 ?_
    have i15 := hS.rng 70 1
    refine r_iconst F.hx F.hb d_Past_takeBack_65 ?_
    refine r_isub F.hx F.hb d_Past_takeBack_66 ?_
    refine lv_goto (tgt := 77) F.hx F.hb d_Past_takeBack_67 (by decide) ?_
    exact k_Past_takeBack_L77 l hlo k1 hk1 F hlk hr M (w32 ((M.1 70 1) - 1)) (inr_w32 _) _ _ _ hS (lv_sub hl [0] rfl) hT
set_option maxHeartbeats 4000000 in
set_option maxRecDepth 100000 in
theorem c_Past_takeBack (l : Launch) {b n : Nat} {C : CT} (hlo : 191 ≤ n) (M : Mem) (k1 : Nat) (hk1 : isScene k1) (res : Mem × Int) (hT : t_Past_takeBack M k1 = res) : CM l b C n 4 y_Past_takeBack b_Past_takeBack 2 (some .boolean) [.ref (b + 70), .ref (b + k1)] M (QZ b C n res.1 res.2) := by
  refine CM.of (lo := 191) (ow := "WardFalls$Past") (by decide) rfl (Nat.le_of_ble_eq_true rfl) hlo (fun p e s m below meth c F hlk hr hS ls hl => ?_)
  have hl : lv_has ls 2 [(0, .ref (b + 70)), (1, .ref (b + k1))] := hl
  unfold t_Past_takeBack at hT
  refine lv_aload_n F.hx F.hb d_Past_takeBack_0 rfl (lv_at hl 0 rfl) ?_
  refine r_get (v := vI (M.1 70 2)) (N := 3) (T := T6) (j := 2) F hS (show 70 < 191 by decide) (show shK 70 = 10 from rfl) (show shN 70 = 3 from rfl) rfl (Nat.le_of_ble_eq_true rfl) ing6 mw_349 (fv_int rfl) d_Past_takeBack_1 ?_
  have i1 := hS.rng 70 2
  refine r_if_ne (tgt := 9) F.hx F.hb i1 d_Past_takeBack_4 (by decide) (fun c2 => ?_) (fun c2 => ?_)
  · replace hT := (if_neg c2).symm.trans hT
    refine lv_aload_n F.hx F.hb d_Past_takeBack_9 rfl (lv_at hl 0 rfl) ?_
    refine r_get (v := vI (M.1 70 1)) (N := 3) (T := T6) (j := 1) F hS (show 70 < 191 by decide) (show shK 70 = 10 from rfl) (show shN 70 = 3 from rfl) rfl (Nat.le_of_ble_eq_true rfl) ing6 mw_348 (fv_int rfl) d_Past_takeBack_10 ?_
    have i3 := hS.rng 70 1
    refine r_if_lt (tgt := 53) F.hx F.hb i3 d_Past_takeBack_13 (by decide) (fun c4 => ?_) (fun c4 => ?_)
    · replace hT := (if_pos c4).symm.trans hT
      exact k_Past_takeBack_L53 l hlo k1 hk1 F hlk hr M _ _ _ hS (lv_sub hl [0] rfl) hT
    · replace hT := (if_neg c4).symm.trans hT
      refine lv_aload_n F.hx F.hb d_Past_takeBack_16 rfl (lv_at hl 0 rfl) ?_
      refine r_get (v := vI (M.1 70 1)) (N := 3) (T := T6) (j := 1) F hS (show 70 < 191 by decide) (show shK 70 = 10 from rfl) (show shN 70 = 3 from rfl) rfl (Nat.le_of_ble_eq_true rfl) ing6 mw_348 (fv_int rfl) d_Past_takeBack_17 ?_
      have i5 := hS.rng 70 1
      refine lv_aload_n F.hx F.hb d_Past_takeBack_20 rfl (lv_at hl 0 rfl) ?_
      refine r_get (v := .ref (b + 71)) (N := 3) (T := T6) (j := 0) F hS (show 70 < 191 by decide) (show shK 70 = 10 from rfl) (show shN 70 = 3 from rfl) rfl (Nat.le_of_ble_eq_true rfl) ing6 mw_347 (fv_sg rfl rfl rfl) d_Past_takeBack_21 ?_
      refine r_alen3 F hS (show 71 < 191 by decide) (show shK 71 = 3 from rfl) (show shN 71 = 20 from rfl) d_Past_takeBack_24 rfl ?_
      refine r_icmp_ge (tgt := 53) F.hx F.hb i5 (inr_c rfl) d_Past_takeBack_25 (by decide) (fun c6 => ?_) (fun c6 => ?_)
      · replace hT := (if_pos c6).symm.trans hT
        exact k_Past_takeBack_L53 l hlo k1 hk1 F hlk hr M _ _ _ hS (lv_sub hl [0] rfl) hT
      · replace hT := (if_neg c6).symm.trans hT
        refine lv_aload_n F.hx F.hb d_Past_takeBack_28 rfl (lv_at hl 0 rfl) ?_
        refine r_get (v := .ref (b + 71)) (N := 3) (T := T6) (j := 0) F hS (show 70 < 191 by decide) (show shK 70 = 10 from rfl) (show shN 70 = 3 from rfl) rfl (Nat.le_of_ble_eq_true rfl) ing6 mw_347 (fv_sg rfl rfl rfl) d_Past_takeBack_29 ?_
        refine lv_aload_n F.hx F.hb d_Past_takeBack_32 rfl (lv_at hl 0 rfl) ?_
        refine r_get (v := vI (M.1 70 1)) (N := 3) (T := T6) (j := 1) F hS (show 70 < 191 by decide) (show shK 70 = 10 from rfl) (show shN 70 = 3 from rfl) rfl (Nat.le_of_ble_eq_true rfl) ing6 mw_348 (fv_int rfl) d_Past_takeBack_33 ?_
        have i7 := hS.rng 70 1
        have h8 : isScene (72 + 5 * ((M.1 70 1)).toNat) := scenes_at (by omega) (by omega)
        refine r_scn F hS i7 (by omega) (by omega) d_Past_takeBack_36 ?_
        refine lv_ifnull F.hx F.hb d_Past_takeBack_37 ?_
        refine lv_aload_n F.hx F.hb d_Past_takeBack_40 rfl (lv_at hl 1 rfl) ?_
        refine lv_aload_n F.hx F.hb d_Past_takeBack_41 rfl (lv_at hl 0 rfl) ?_
        refine r_get (v := .ref (b + 71)) (N := 3) (T := T6) (j := 0) F hS (show 70 < 191 by decide) (show shK 70 = 10 from rfl) (show shN 70 = 3 from rfl) rfl (Nat.le_of_ble_eq_true rfl) ing6 mw_347 (fv_sg rfl rfl rfl) d_Past_takeBack_42 ?_
        refine lv_aload_n F.hx F.hb d_Past_takeBack_45 rfl (lv_at hl 0 rfl) ?_
        refine r_get (v := vI (M.1 70 1)) (N := 3) (T := T6) (j := 1) F hS (show 70 < 191 by decide) (show shK 70 = 10 from rfl) (show shN 70 = 3 from rfl) rfl (Nat.le_of_ble_eq_true rfl) ing6 mw_348 (fv_int rfl) d_Past_takeBack_46 ?_
        have i9 := hS.rng 70 1
        have h10 : isScene (72 + 5 * ((M.1 70 1)).toNat) := scenes_at (by omega) (by omega)
        refine r_scn F hS i9 (by omega) (by omega) d_Past_takeBack_49 ?_
        obtain ⟨q11, hq11⟩ : ∃ q, q = (t_Scene_copy M k1 (72 + 5 * ((M.1 70 1)).toNat)) := ⟨_, rfl⟩
        replace hT := qlet_eq hT hq11
        refine r_backV F hS (r_runV (k := k1) (N := 7) (T := T9) (As := [.ref (b + (72 + 5 * ((M.1 70 1)).toNat))]) F hS (Scene_lt hk1) (Scene_sh hk1) rfl (c_Scene_copy l F.2.2.1 M k1 (72 + 5 * ((M.1 70 1)).toNat) hk1 h10 _ hq11.symm) gs_Past_25 hd_Scene_copy ⟨Nat.le_of_ble_eq_true rfl, Nat.le_of_ble_eq_true rfl⟩ rfl hl.1 (Nat.le_of_ble_eq_true rfl) ⟨Nat.zero_le _, Nat.zero_le _⟩ rfl d_Past_takeBack_50) (fun H locs hS => ?_)
        exact k_Past_takeBack_L53 l hlo k1 hk1 F hlk hr q11 _ _ _ hS (lv_sub hl [0] rfl) hT
  · replace hT := (if_pos c2).symm.trans hT
    refine r_iconst F.hx F.hb d_Past_takeBack_7 ?_
    subst hT
    exact r_zret F hlk hr hS (Or.inl rfl) d_Past_takeBack_8
theorem d_WF_undo_0 : decode b_WF_undo 0 = .ok (.aload_n 0, 1) := dc_42 (by decide +kernel)
theorem d_WF_undo_1 : decode b_WF_undo 1 = .ok (.getfield 69, 3) := dc_180 (by decide +kernel)
theorem d_WF_undo_4 : decode b_WF_undo 4 = .ok (.aload_n 0, 1) := dc_42 (by decide +kernel)
theorem d_WF_undo_5 : decode b_WF_undo 5 = .ok (.getfield 46, 3) := dc_180 (by decide +kernel)
theorem d_WF_undo_8 : decode b_WF_undo 8 = .ok (.invokevirtual 403, 3) := dc_182 (by decide +kernel)
theorem d_WF_undo_11 : decode b_WF_undo 11 = .ok (.ifCond .ne 5, 3) := dc_154 (by decide +kernel)
theorem d_WF_undo_14 : decode b_WF_undo 14 = .ok (.iconst (-1), 1) := dc_2 (by decide +kernel)
theorem d_WF_undo_15 : decode b_WF_undo 15 = .ok (.ireturn, 1) := dc_172 (by decide +kernel)
theorem d_WF_undo_16 : decode b_WF_undo 16 = .ok (.aload_n 0, 1) := dc_42 (by decide +kernel)
theorem d_WF_undo_17 : decode b_WF_undo 17 = .ok (.getfield 83, 3) := dc_180 (by decide +kernel)
theorem d_WF_undo_20 : decode b_WF_undo 20 = .ok (.iconst 0, 1) := dc_3 (by decide +kernel)
theorem d_WF_undo_21 : decode b_WF_undo 21 = .ok (.putfield 280, 3) := dc_181 (by decide +kernel)
theorem d_WF_undo_24 : decode b_WF_undo 24 = .ok (.aload_n 0, 1) := dc_42 (by decide +kernel)
theorem d_WF_undo_25 : decode b_WF_undo 25 = .ok (.getfield 69, 3) := dc_180 (by decide +kernel)
theorem d_WF_undo_28 : decode b_WF_undo 28 = .ok (.getfield 407, 3) := dc_180 (by decide +kernel)
theorem d_WF_undo_31 : decode b_WF_undo 31 = .ok (.ireturn, 1) := dc_172 (by decide +kernel)
def t_WF_undo (M : Mem)  : Mem × Int := (qlet (t_Past_takeBack M 47) fun q1 => (if (q1.2) = 0 then ((q1.1), (-1)) else (qlet (setI (q1.1) 177 8 0) fun M4 => (M4, (M4.1 70 2)))))
set_option maxHeartbeats 4000000 in
set_option maxRecDepth 100000 in
theorem c_WF_undo (l : Launch) {b n : Nat} {C : CT} (hlo : 191 ≤ n) (M : Mem)   (res : Mem × Int) (hT : t_WF_undo M  = res) : CM l b C n 5 y_WF_undo b_WF_undo 1 (some .int) [.ref (b + 0)] M (QI b C n res.1 res.2) := by
  refine CM.of (lo := 191) (ow := "WardFalls") (by decide) rfl (Nat.le_of_ble_eq_true rfl) hlo (fun p e s m below meth c F hlk hr hS ls hl => ?_)
  have hl : lv_has ls 1 [(0, .ref (b + 0))] := hl
  unfold t_WF_undo at hT
  refine lv_aload_n F.hx F.hb d_WF_undo_0 rfl (lv_at hl 0 rfl) ?_
  refine r_get (v := .ref (b + 70)) (N := 19) (T := T0) (j := 14) F hS (show 0 < 191 by decide) (show shK 0 = 4 from rfl) (show shN 0 = 19 from rfl) rfl (Nat.le_of_ble_eq_true rfl) ing0 mw_564 (fv_sg rfl rfl rfl) d_WF_undo_1 ?_
  refine lv_aload_n F.hx F.hb d_WF_undo_4 rfl (lv_at hl 0 rfl) ?_
  refine r_get (v := .ref (b + 47)) (N := 19) (T := T0) (j := 8) F hS (show 0 < 191 by decide) (show shK 0 = 4 from rfl) (show shN 0 = 19 from rfl) rfl (Nat.le_of_ble_eq_true rfl) ing0 mw_558 (fv_sg rfl rfl rfl) d_WF_undo_5 ?_
  obtain ⟨q1, hq1⟩ : ∃ q, q = (t_Past_takeBack M 47) := ⟨_, rfl⟩
  replace hT := qlet_eq hT hq1
  refine r_backZ F hS (r_runV (k := 70) (N := 3) (T := T6) (As := [.ref (b + 47)]) F hS (show 70 < 191 by decide) (show shK 70 = 10 from rfl) rfl (c_Past_takeBack l F.2.2.1 M 47 (by decide : isScene 47) _ hq1.symm) gs_WF_403 hd_Past_takeBack ⟨Nat.le_of_ble_eq_true rfl, Nat.le_of_ble_eq_true rfl⟩ rfl hl.1 (Nat.le_of_ble_eq_true rfl) ⟨Nat.zero_le _, Nat.zero_le _⟩ rfl d_WF_undo_8) (fun H locs hS h2 => ?_)
  refine r_if_ne (tgt := 16) F.hx F.hb (inr_z h2) d_WF_undo_11 (by decide) (fun c3 => ?_) (fun c3 => ?_)
  · replace hT := (if_neg c3).symm.trans hT
    refine lv_aload_n F.hx F.hb d_WF_undo_16 rfl (lv_at hl 0 rfl) ?_
    refine r_get (v := .ref (b + 177)) (N := 19) (T := T0) (j := 16) F hS (show 0 < 191 by decide) (show shK 0 = 4 from rfl) (show shN 0 = 19 from rfl) rfl (Nat.le_of_ble_eq_true rfl) ing0 mw_566 (fv_sg rfl rfl rfl) d_WF_undo_17 ?_
    refine r_iconst F.hx F.hb d_WF_undo_20 ?_
    refine r_putI (N := 9) (T := T4) (j := 8) F hS (show 177 < 191 by decide) (show shK 177 = 8 from rfl) (show shN 177 = 9 from rfl) rfl (Nat.le_of_ble_eq_true rfl) ing4 tyok4 nm4 rfl rfl (nar_z (Or.inl rfl)) (fit_z (Or.inl rfl)) rfl rfl mw_448 (inr_c rfl) d_WF_undo_21 (fun H locs hS => ?_)
    obtain ⟨M4, eM4⟩ : ∃ q, q = (setI (q1.1) 177 8 0) := ⟨_, rfl⟩
    replace hS : St b C n M4 s H locs := by rw [eM4]; exact hS
    replace hT := qlet_eq hT eM4
    refine lv_aload_n F.hx F.hb d_WF_undo_24 rfl (lv_at hl 0 rfl) ?_
    refine r_get (v := .ref (b + 70)) (N := 19) (T := T0) (j := 14) F hS (show 0 < 191 by decide) (show shK 0 = 4 from rfl) (show shN 0 = 19 from rfl) rfl (Nat.le_of_ble_eq_true rfl) ing0 mw_564 (fv_sg rfl rfl rfl) d_WF_undo_25 ?_
    refine r_get (v := vI (M4.1 70 2)) (N := 3) (T := T6) (j := 2) F hS (show 70 < 191 by decide) (show shK 70 = 10 from rfl) (show shN 70 = 3 from rfl) rfl (Nat.le_of_ble_eq_true rfl) ing6 mw_350 (fv_int rfl) d_WF_undo_28 ?_
    have i5 := hS.rng 70 2
    subst hT
    exact r_iret F hlk hr rfl hS i5 d_WF_undo_31
  · replace hT := (if_pos c3).symm.trans hT
    refine r_iconst F.hx F.hb d_WF_undo_14 ?_
    subst hT
    exact r_iret F hlk hr rfl hS (inr_c rfl) d_WF_undo_15
theorem d_Chronicle_copy_0 : decode b_Chronicle_copy 0 = .ok (.aload_n 1, 1) := dc_43 (by decide +kernel)
theorem d_Chronicle_copy_1 : decode b_Chronicle_copy 1 = .ok (.getfield 9, 3) := dc_180 (by decide +kernel)
theorem d_Chronicle_copy_4 : decode b_Chronicle_copy 4 = .ok (.aload_n 0, 1) := dc_42 (by decide +kernel)
theorem d_Chronicle_copy_5 : decode b_Chronicle_copy 5 = .ok (.getfield 9, 3) := dc_180 (by decide +kernel)
theorem d_Chronicle_copy_8 : decode b_Chronicle_copy 8 = .ok (.invokestatic 37, 3) := dc_184 (by decide +kernel)
theorem d_Chronicle_copy_11 : decode b_Chronicle_copy 11 = .ok (.aload_n 1, 1) := dc_43 (by decide +kernel)
theorem d_Chronicle_copy_12 : decode b_Chronicle_copy 12 = .ok (.getfield 15, 3) := dc_180 (by decide +kernel)
theorem d_Chronicle_copy_15 : decode b_Chronicle_copy 15 = .ok (.aload_n 0, 1) := dc_42 (by decide +kernel)
theorem d_Chronicle_copy_16 : decode b_Chronicle_copy 16 = .ok (.getfield 15, 3) := dc_180 (by decide +kernel)
theorem d_Chronicle_copy_19 : decode b_Chronicle_copy 19 = .ok (.invokestatic 37, 3) := dc_184 (by decide +kernel)
theorem d_Chronicle_copy_22 : decode b_Chronicle_copy 22 = .ok (.aload_n 1, 1) := dc_43 (by decide +kernel)
theorem d_Chronicle_copy_23 : decode b_Chronicle_copy 23 = .ok (.getfield 18, 3) := dc_180 (by decide +kernel)
theorem d_Chronicle_copy_26 : decode b_Chronicle_copy 26 = .ok (.aload_n 0, 1) := dc_42 (by decide +kernel)
theorem d_Chronicle_copy_27 : decode b_Chronicle_copy 27 = .ok (.getfield 18, 3) := dc_180 (by decide +kernel)
theorem d_Chronicle_copy_30 : decode b_Chronicle_copy 30 = .ok (.invokestatic 37, 3) := dc_184 (by decide +kernel)
theorem d_Chronicle_copy_33 : decode b_Chronicle_copy 33 = .ok (.aload_n 0, 1) := dc_42 (by decide +kernel)
theorem d_Chronicle_copy_34 : decode b_Chronicle_copy 34 = .ok (.aload_n 1, 1) := dc_43 (by decide +kernel)
theorem d_Chronicle_copy_35 : decode b_Chronicle_copy 35 = .ok (.getfield 21, 3) := dc_180 (by decide +kernel)
theorem d_Chronicle_copy_38 : decode b_Chronicle_copy 38 = .ok (.putfield 21, 3) := dc_181 (by decide +kernel)
theorem d_Chronicle_copy_41 : decode b_Chronicle_copy 41 = .ok (.aload_n 0, 1) := dc_42 (by decide +kernel)
theorem d_Chronicle_copy_42 : decode b_Chronicle_copy 42 = .ok (.aload_n 1, 1) := dc_43 (by decide +kernel)
theorem d_Chronicle_copy_43 : decode b_Chronicle_copy 43 = .ok (.getfield 25, 3) := dc_180 (by decide +kernel)
theorem d_Chronicle_copy_46 : decode b_Chronicle_copy 46 = .ok (.putfield 25, 3) := dc_181 (by decide +kernel)
theorem d_Chronicle_copy_49 : decode b_Chronicle_copy 49 = .ok (.aload_n 0, 1) := dc_42 (by decide +kernel)
theorem d_Chronicle_copy_50 : decode b_Chronicle_copy 50 = .ok (.aload_n 1, 1) := dc_43 (by decide +kernel)
theorem d_Chronicle_copy_51 : decode b_Chronicle_copy 51 = .ok (.getfield 33, 3) := dc_180 (by decide +kernel)
theorem d_Chronicle_copy_54 : decode b_Chronicle_copy 54 = .ok (.putfield 33, 3) := dc_181 (by decide +kernel)
theorem d_Chronicle_copy_57 : decode b_Chronicle_copy 57 = .ok (.return_, 1) := dc_177 (by decide +kernel)
def t_Chronicle_copy (M : Mem) (k0 : Nat) (k1 : Nat) : Mem := (qlet (t_WF_copyRow M (k1 + 1) 99 (k0 + 1) 99) fun q1 => (qlet (t_WF_copyRow q1 (k1 + 2) 99 (k0 + 2) 99) fun q3 => (qlet (t_WF_copyRow q3 (k1 + 3) 99 (k0 + 3) 99) fun q5 => (qlet (setI q5 k0 3 (q5.1 k1 3)) fun M8 => (qlet (setI M8 k0 4 (M8.1 k1 4)) fun M10 => (qlet (setL M10 k0 5 (M10.2 k1 5)) fun M11 => M11))))))
set_option maxHeartbeats 4000000 in
set_option maxRecDepth 100000 in
theorem c_Chronicle_copy (l : Launch) {b n : Nat} {C : CT} (hlo : 191 ≤ n) (M : Mem) (k0 : Nat) (k1 : Nat) (hk0 : isChronicle k0) (hk1 : isChronicle k1) (res : Mem) (hT : t_Chronicle_copy M k0 k1 = res) : CM l b C n 3 y_Chronicle_copy b_Chronicle_copy 2 (none) [.ref (b + k0), .ref (b + k1)] M (QV b C n res) := by
  refine CM.of (lo := 191) (ow := "WardFalls$Chronicle") (by decide) rfl (Nat.le_of_ble_eq_true rfl) hlo (fun p e s m below meth c F hlk hr hS ls hl => ?_)
  have hl : lv_has ls 2 [(0, .ref (b + k0)), (1, .ref (b + k1))] := hl
  unfold t_Chronicle_copy at hT
  refine lv_aload_n F.hx F.hb d_Chronicle_copy_0 rfl (lv_at hl 1 rfl) ?_
  refine r_get (v := .ref (b + (k1 + 1))) (N := 6) (T := T2) (j := 0) F hS (Chronicle_lt hk1) (Chronicle_sh hk1) (Chronicle_N hk1) rfl (Nat.le_of_ble_eq_true rfl) ing2 mw_314 (Chronicle_g0 hk1 _) d_Chronicle_copy_1 ?_
  refine lv_aload_n F.hx F.hb d_Chronicle_copy_4 rfl (lv_at hl 0 rfl) ?_
  refine r_get (v := .ref (b + (k0 + 1))) (N := 6) (T := T2) (j := 0) F hS (Chronicle_lt hk0) (Chronicle_sh hk0) (Chronicle_N hk0) rfl (Nat.le_of_ble_eq_true rfl) ing2 mw_314 (Chronicle_g0 hk0 _) d_Chronicle_copy_5 ?_
  obtain ⟨q1, hq1⟩ : ∃ q, q = (t_WF_copyRow M (k1 + 1) 99 (k0 + 1) 99) := ⟨_, rfl⟩
  replace hT := qlet_eq hT hq1
  refine r_backV F hS (r_runSN (As := [.ref (b + (k1 + 1)), .ref (b + (k0 + 1))]) F hS (c_WF_copyRow l F.2.2.1 M (k1 + 1) 99 (k0 + 1) 99 (Chronicle_f0 hk1) (Chronicle_f0 hk0) _ hq1.symm) mw_530 mw_529 mw_1 gs_Chronicle_37 hd_WF_copyRow ⟨Nat.le_of_ble_eq_true rfl, Nat.le_of_ble_eq_true rfl⟩ rfl hl.1 (Nat.le_of_ble_eq_true rfl) ⟨Nat.zero_le _, Nat.zero_le _⟩ rfl d_Chronicle_copy_8) (fun H locs hS => ?_)
  refine lv_aload_n F.hx F.hb d_Chronicle_copy_11 rfl (lv_at hl 1 rfl) ?_
  refine r_get (v := .ref (b + (k1 + 2))) (N := 6) (T := T2) (j := 1) F hS (Chronicle_lt hk1) (Chronicle_sh hk1) (Chronicle_N hk1) rfl (Nat.le_of_ble_eq_true rfl) ing2 mw_316 (Chronicle_g1 hk1 _) d_Chronicle_copy_12 ?_
  refine lv_aload_n F.hx F.hb d_Chronicle_copy_15 rfl (lv_at hl 0 rfl) ?_
  refine r_get (v := .ref (b + (k0 + 2))) (N := 6) (T := T2) (j := 1) F hS (Chronicle_lt hk0) (Chronicle_sh hk0) (Chronicle_N hk0) rfl (Nat.le_of_ble_eq_true rfl) ing2 mw_316 (Chronicle_g1 hk0 _) d_Chronicle_copy_16 ?_
  obtain ⟨q3, hq3⟩ : ∃ q, q = (t_WF_copyRow q1 (k1 + 2) 99 (k0 + 2) 99) := ⟨_, rfl⟩
  replace hT := qlet_eq hT hq3
  refine r_backV F hS (r_runSN (As := [.ref (b + (k1 + 2)), .ref (b + (k0 + 2))]) F hS (c_WF_copyRow l F.2.2.1 q1 (k1 + 2) 99 (k0 + 2) 99 (Chronicle_f1 hk1) (Chronicle_f1 hk0) _ hq3.symm) mw_530 mw_529 mw_1 gs_Chronicle_37 hd_WF_copyRow ⟨Nat.le_of_ble_eq_true rfl, Nat.le_of_ble_eq_true rfl⟩ rfl hl.1 (Nat.le_of_ble_eq_true rfl) ⟨Nat.zero_le _, Nat.zero_le _⟩ rfl d_Chronicle_copy_19) (fun H locs hS => ?_)
  refine lv_aload_n F.hx F.hb d_Chronicle_copy_22 rfl (lv_at hl 1 rfl) ?_
  refine r_get (v := .ref (b + (k1 + 3))) (N := 6) (T := T2) (j := 2) F hS (Chronicle_lt hk1) (Chronicle_sh hk1) (Chronicle_N hk1) rfl (Nat.le_of_ble_eq_true rfl) ing2 mw_318 (Chronicle_g2 hk1 _) d_Chronicle_copy_23 ?_
  refine lv_aload_n F.hx F.hb d_Chronicle_copy_26 rfl (lv_at hl 0 rfl) ?_
  refine r_get (v := .ref (b + (k0 + 3))) (N := 6) (T := T2) (j := 2) F hS (Chronicle_lt hk0) (Chronicle_sh hk0) (Chronicle_N hk0) rfl (Nat.le_of_ble_eq_true rfl) ing2 mw_318 (Chronicle_g2 hk0 _) d_Chronicle_copy_27 ?_
  obtain ⟨q5, hq5⟩ : ∃ q, q = (t_WF_copyRow q3 (k1 + 3) 99 (k0 + 3) 99) := ⟨_, rfl⟩
  replace hT := qlet_eq hT hq5
  refine r_backV F hS (r_runSN (As := [.ref (b + (k1 + 3)), .ref (b + (k0 + 3))]) F hS (c_WF_copyRow l F.2.2.1 q3 (k1 + 3) 99 (k0 + 3) 99 (Chronicle_f2 hk1) (Chronicle_f2 hk0) _ hq5.symm) mw_530 mw_529 mw_1 gs_Chronicle_37 hd_WF_copyRow ⟨Nat.le_of_ble_eq_true rfl, Nat.le_of_ble_eq_true rfl⟩ rfl hl.1 (Nat.le_of_ble_eq_true rfl) ⟨Nat.zero_le _, Nat.zero_le _⟩ rfl d_Chronicle_copy_30) (fun H locs hS => ?_)
  refine lv_aload_n F.hx F.hb d_Chronicle_copy_33 rfl (lv_at hl 0 rfl) ?_
  refine lv_aload_n F.hx F.hb d_Chronicle_copy_34 rfl (lv_at hl 1 rfl) ?_
  refine r_get (v := vI (q5.1 k1 3)) (N := 6) (T := T2) (j := 3) F hS (Chronicle_lt hk1) (Chronicle_sh hk1) (Chronicle_N hk1) rfl (Nat.le_of_ble_eq_true rfl) ing2 mw_320 (fv_int rfl) d_Chronicle_copy_35 ?_
  have i7 := hS.rng k1 3
  refine r_putI (N := 6) (T := T2) (j := 3) F hS (Chronicle_lt hk0) (Chronicle_sh hk0) (Chronicle_N hk0) rfl (Nat.le_of_ble_eq_true rfl) ing2 tyok2 nm2 rfl rfl rfl rfl rfl (Chronicle_dyn hk0 _) mw_320 i7 d_Chronicle_copy_38 (fun H locs hS => ?_)
  obtain ⟨M8, eM8⟩ : ∃ q, q = (setI q5 k0 3 (q5.1 k1 3)) := ⟨_, rfl⟩
  replace hS : St b C n M8 s H locs := by rw [eM8]; exact hS
  replace hT := qlet_eq hT eM8
  refine lv_aload_n F.hx F.hb d_Chronicle_copy_41 rfl (lv_at hl 0 rfl) ?_
  refine lv_aload_n F.hx F.hb d_Chronicle_copy_42 rfl (lv_at hl 1 rfl) ?_
  refine r_get (v := vI (M8.1 k1 4)) (N := 6) (T := T2) (j := 4) F hS (Chronicle_lt hk1) (Chronicle_sh hk1) (Chronicle_N hk1) rfl (Nat.le_of_ble_eq_true rfl) ing2 mw_322 (fv_int rfl) d_Chronicle_copy_43 ?_
  have i9 := hS.rng k1 4
  refine r_putI (N := 6) (T := T2) (j := 4) F hS (Chronicle_lt hk0) (Chronicle_sh hk0) (Chronicle_N hk0) rfl (Nat.le_of_ble_eq_true rfl) ing2 tyok2 nm2 rfl rfl rfl rfl rfl (Chronicle_dyn hk0 _) mw_322 i9 d_Chronicle_copy_46 (fun H locs hS => ?_)
  obtain ⟨M10, eM10⟩ : ∃ q, q = (setI M8 k0 4 (M8.1 k1 4)) := ⟨_, rfl⟩
  replace hS : St b C n M10 s H locs := by rw [eM10]; exact hS
  replace hT := qlet_eq hT eM10
  refine lv_aload_n F.hx F.hb d_Chronicle_copy_49 rfl (lv_at hl 0 rfl) ?_
  refine lv_aload_n F.hx F.hb d_Chronicle_copy_50 rfl (lv_at hl 1 rfl) ?_
  refine r_get (v := .long (M10.2 k1 5)) (N := 6) (T := T2) (j := 5) F hS (Chronicle_lt hk1) (Chronicle_sh hk1) (Chronicle_N hk1) rfl (Nat.le_of_ble_eq_true rfl) ing2 mw_324 (fv_long rfl) d_Chronicle_copy_51 ?_
  refine r_putL (N := 6) (T := T2) (j := 5) F hS (Chronicle_lt hk0) (Chronicle_sh hk0) (Chronicle_N hk0) rfl (Nat.le_of_ble_eq_true rfl) ing2 tyok2 nm2 rfl rfl rfl mw_324 d_Chronicle_copy_54 (fun H locs hS => ?_)
  obtain ⟨M11, eM11⟩ : ∃ q, q = (setL M10 k0 5 (M10.2 k1 5)) := ⟨_, rfl⟩
  replace hS : St b C n M11 s H locs := by rw [eM11]; exact hS
  replace hT := qlet_eq hT eM11
  subst hT
  exact r_vret F hlk hr hS d_Chronicle_copy_57
theorem d_WF_keep_0 : decode b_WF_keep 0 = .ok (.aload_n 0, 1) := dc_42 (by decide +kernel)
theorem d_WF_keep_1 : decode b_WF_keep 1 = .ok (.getfield 53, 3) := dc_180 (by decide +kernel)
theorem d_WF_keep_4 : decode b_WF_keep 4 = .ok (.aload_n 0, 1) := dc_42 (by decide +kernel)
theorem d_WF_keep_5 : decode b_WF_keep 5 = .ok (.getfield 46, 3) := dc_180 (by decide +kernel)
theorem d_WF_keep_8 : decode b_WF_keep 8 = .ok (.invokevirtual 299, 3) := dc_182 (by decide +kernel)
theorem d_WF_keep_11 : decode b_WF_keep 11 = .ok (.aload_n 0, 1) := dc_42 (by decide +kernel)
theorem d_WF_keep_12 : decode b_WF_keep 12 = .ok (.getfield 63, 3) := dc_180 (by decide +kernel)
theorem d_WF_keep_15 : decode b_WF_keep 15 = .ok (.aload_n 0, 1) := dc_42 (by decide +kernel)
theorem d_WF_keep_16 : decode b_WF_keep 16 = .ok (.getfield 59, 3) := dc_180 (by decide +kernel)
theorem d_WF_keep_19 : decode b_WF_keep 19 = .ok (.invokevirtual 408, 3) := dc_182 (by decide +kernel)
theorem d_WF_keep_22 : decode b_WF_keep 22 = .ok (.aload_n 0, 1) := dc_42 (by decide +kernel)
theorem d_WF_keep_23 : decode b_WF_keep 23 = .ok (.iconst 1, 1) := dc_4 (by decide +kernel)
theorem d_WF_keep_24 : decode b_WF_keep 24 = .ok (.putfield 411, 3) := dc_181 (by decide +kernel)
theorem d_WF_keep_27 : decode b_WF_keep 27 = .ok (.aload_n 0, 1) := dc_42 (by decide +kernel)
theorem d_WF_keep_28 : decode b_WF_keep 28 = .ok (.getfield 59, 3) := dc_180 (by decide +kernel)
theorem d_WF_keep_31 : decode b_WF_keep 31 = .ok (.getfield 218, 3) := dc_180 (by decide +kernel)
theorem d_WF_keep_34 : decode b_WF_keep 34 = .ok (.ireturn, 1) := dc_172 (by decide +kernel)
def t_WF_keep (M : Mem)  : Mem × Int := (qlet (t_Scene_copy M 57 47) fun q1 => (qlet (t_Chronicle_copy q1 66 62) fun q3 => (qlet (setI q3 0 13 1) fun M5 => (M5, (M5.1 62 3)))))
set_option maxHeartbeats 4000000 in
set_option maxRecDepth 100000 in
theorem c_WF_keep (l : Launch) {b n : Nat} {C : CT} (hlo : 191 ≤ n) (M : Mem)   (res : Mem × Int) (hT : t_WF_keep M  = res) : CM l b C n 4 y_WF_keep b_WF_keep 1 (some .int) [.ref (b + 0)] M (QI b C n res.1 res.2) := by
  refine CM.of (lo := 191) (ow := "WardFalls") (by decide) rfl (Nat.le_of_ble_eq_true rfl) hlo (fun p e s m below meth c F hlk hr hS ls hl => ?_)
  have hl : lv_has ls 1 [(0, .ref (b + 0))] := hl
  unfold t_WF_keep at hT
  refine lv_aload_n F.hx F.hb d_WF_keep_0 rfl (lv_at hl 0 rfl) ?_
  refine r_get (v := .ref (b + 57)) (N := 19) (T := T0) (j := 10) F hS (show 0 < 191 by decide) (show shK 0 = 4 from rfl) (show shN 0 = 19 from rfl) rfl (Nat.le_of_ble_eq_true rfl) ing0 mw_560 (fv_sg rfl rfl rfl) d_WF_keep_1 ?_
  refine lv_aload_n F.hx F.hb d_WF_keep_4 rfl (lv_at hl 0 rfl) ?_
  refine r_get (v := .ref (b + 47)) (N := 19) (T := T0) (j := 8) F hS (show 0 < 191 by decide) (show shK 0 = 4 from rfl) (show shN 0 = 19 from rfl) rfl (Nat.le_of_ble_eq_true rfl) ing0 mw_558 (fv_sg rfl rfl rfl) d_WF_keep_5 ?_
  obtain ⟨q1, hq1⟩ : ∃ q, q = (t_Scene_copy M 57 47) := ⟨_, rfl⟩
  replace hT := qlet_eq hT hq1
  refine r_backV F hS (r_runV (k := 57) (N := 7) (T := T9) (As := [.ref (b + 47)]) F hS (show 57 < 191 by decide) (show shK 57 = 13 from rfl) rfl (c_Scene_copy l F.2.2.1 M 57 47 (by decide : isScene 57) (by decide : isScene 47) _ hq1.symm) gs_WF_299 hd_Scene_copy ⟨Nat.le_of_ble_eq_true rfl, Nat.le_of_ble_eq_true rfl⟩ rfl hl.1 (Nat.le_of_ble_eq_true rfl) ⟨Nat.zero_le _, Nat.zero_le _⟩ rfl d_WF_keep_8) (fun H locs hS => ?_)
  refine lv_aload_n F.hx F.hb d_WF_keep_11 rfl (lv_at hl 0 rfl) ?_
  refine r_get (v := .ref (b + 66)) (N := 19) (T := T0) (j := 12) F hS (show 0 < 191 by decide) (show shK 0 = 4 from rfl) (show shN 0 = 19 from rfl) rfl (Nat.le_of_ble_eq_true rfl) ing0 mw_562 (fv_sg rfl rfl rfl) d_WF_keep_12 ?_
  refine lv_aload_n F.hx F.hb d_WF_keep_15 rfl (lv_at hl 0 rfl) ?_
  refine r_get (v := .ref (b + 62)) (N := 19) (T := T0) (j := 11) F hS (show 0 < 191 by decide) (show shK 0 = 4 from rfl) (show shN 0 = 19 from rfl) rfl (Nat.le_of_ble_eq_true rfl) ing0 mw_561 (fv_sg rfl rfl rfl) d_WF_keep_16 ?_
  obtain ⟨q3, hq3⟩ : ∃ q, q = (t_Chronicle_copy q1 66 62) := ⟨_, rfl⟩
  replace hT := qlet_eq hT hq3
  refine r_backV F hS (r_runV (k := 66) (N := 6) (T := T2) (As := [.ref (b + 62)]) F hS (show 66 < 191 by decide) (show shK 66 = 6 from rfl) rfl (c_Chronicle_copy l F.2.2.1 q1 66 62 (by decide : isChronicle 66) (by decide : isChronicle 62) _ hq3.symm) gs_WF_408 hd_Chronicle_copy ⟨Nat.le_of_ble_eq_true rfl, Nat.le_of_ble_eq_true rfl⟩ rfl hl.1 (Nat.le_of_ble_eq_true rfl) ⟨Nat.zero_le _, Nat.zero_le _⟩ rfl d_WF_keep_19) (fun H locs hS => ?_)
  refine lv_aload_n F.hx F.hb d_WF_keep_22 rfl (lv_at hl 0 rfl) ?_
  refine r_iconst F.hx F.hb d_WF_keep_23 ?_
  refine r_putI (N := 19) (T := T0) (j := 13) F hS (show 0 < 191 by decide) (show shK 0 = 4 from rfl) (show shN 0 = 19 from rfl) rfl (Nat.le_of_ble_eq_true rfl) ing0 tyok0 nm0 rfl rfl (nar_z (Or.inr rfl)) (fit_z (Or.inr rfl)) rfl rfl mw_563 (inr_c rfl) d_WF_keep_24 (fun H locs hS => ?_)
  obtain ⟨M5, eM5⟩ : ∃ q, q = (setI q3 0 13 1) := ⟨_, rfl⟩
  replace hS : St b C n M5 s H locs := by rw [eM5]; exact hS
  replace hT := qlet_eq hT eM5
  refine lv_aload_n F.hx F.hb d_WF_keep_27 rfl (lv_at hl 0 rfl) ?_
  refine r_get (v := .ref (b + 62)) (N := 19) (T := T0) (j := 11) F hS (show 0 < 191 by decide) (show shK 0 = 4 from rfl) (show shN 0 = 19 from rfl) rfl (Nat.le_of_ble_eq_true rfl) ing0 mw_561 (fv_sg rfl rfl rfl) d_WF_keep_28 ?_
  refine r_get (v := vI (M5.1 62 3)) (N := 6) (T := T2) (j := 3) F hS (show 62 < 191 by decide) (show shK 62 = 6 from rfl) (show shN 62 = 6 from rfl) rfl (Nat.le_of_ble_eq_true rfl) ing2 mw_321 (fv_int rfl) d_WF_keep_31 ?_
  have i6 := hS.rng 62 3
  subst hT
  exact r_iret F hlk hr rfl hS i6 d_WF_keep_34
theorem d_WF_back_0 : decode b_WF_back 0 = .ok (.aload_n 0, 1) := dc_42 (by decide +kernel)
theorem d_WF_back_1 : decode b_WF_back 1 = .ok (.getfield 411, 3) := dc_180 (by decide +kernel)
theorem d_WF_back_4 : decode b_WF_back 4 = .ok (.ifCond .ne 5, 3) := dc_154 (by decide +kernel)
theorem d_WF_back_7 : decode b_WF_back 7 = .ok (.iconst (-1), 1) := dc_2 (by decide +kernel)
theorem d_WF_back_8 : decode b_WF_back 8 = .ok (.ireturn, 1) := dc_172 (by decide +kernel)
theorem d_WF_back_9 : decode b_WF_back 9 = .ok (.aload_n 0, 1) := dc_42 (by decide +kernel)
theorem d_WF_back_10 : decode b_WF_back 10 = .ok (.getfield 46, 3) := dc_180 (by decide +kernel)
theorem d_WF_back_13 : decode b_WF_back 13 = .ok (.aload_n 0, 1) := dc_42 (by decide +kernel)
theorem d_WF_back_14 : decode b_WF_back 14 = .ok (.getfield 53, 3) := dc_180 (by decide +kernel)
theorem d_WF_back_17 : decode b_WF_back 17 = .ok (.invokevirtual 299, 3) := dc_182 (by decide +kernel)
theorem d_WF_back_20 : decode b_WF_back 20 = .ok (.aload_n 0, 1) := dc_42 (by decide +kernel)
theorem d_WF_back_21 : decode b_WF_back 21 = .ok (.getfield 59, 3) := dc_180 (by decide +kernel)
theorem d_WF_back_24 : decode b_WF_back 24 = .ok (.aload_n 0, 1) := dc_42 (by decide +kernel)
theorem d_WF_back_25 : decode b_WF_back 25 = .ok (.getfield 63, 3) := dc_180 (by decide +kernel)
theorem d_WF_back_28 : decode b_WF_back 28 = .ok (.invokevirtual 408, 3) := dc_182 (by decide +kernel)
theorem d_WF_back_31 : decode b_WF_back 31 = .ok (.aload_n 0, 1) := dc_42 (by decide +kernel)
theorem d_WF_back_32 : decode b_WF_back 32 = .ok (.getfield 69, 3) := dc_180 (by decide +kernel)
theorem d_WF_back_35 : decode b_WF_back 35 = .ok (.invokevirtual 279, 3) := dc_182 (by decide +kernel)
theorem d_WF_back_38 : decode b_WF_back 38 = .ok (.aload_n 0, 1) := dc_42 (by decide +kernel)
theorem d_WF_back_39 : decode b_WF_back 39 = .ok (.getfield 83, 3) := dc_180 (by decide +kernel)
theorem d_WF_back_42 : decode b_WF_back 42 = .ok (.iconst 0, 1) := dc_3 (by decide +kernel)
theorem d_WF_back_43 : decode b_WF_back 43 = .ok (.putfield 280, 3) := dc_181 (by decide +kernel)
theorem d_WF_back_46 : decode b_WF_back 46 = .ok (.aload_n 0, 1) := dc_42 (by decide +kernel)
theorem d_WF_back_47 : decode b_WF_back 47 = .ok (.getfield 59, 3) := dc_180 (by decide +kernel)
theorem d_WF_back_50 : decode b_WF_back 50 = .ok (.getfield 218, 3) := dc_180 (by decide +kernel)
theorem d_WF_back_53 : decode b_WF_back 53 = .ok (.ireturn, 1) := dc_172 (by decide +kernel)
def t_WF_back (M : Mem)  : Mem × Int := (if (M.1 0 13) = 0 then (M, (-1)) else (qlet (t_Scene_copy M 47 57) fun q3 => (qlet (t_Chronicle_copy q3 62 66) fun q5 => (qlet (t_Past_clear q5) fun q7 => (qlet (setI q7 177 8 0) fun M9 => (M9, (M9.1 62 3)))))))
set_option maxHeartbeats 4000000 in
set_option maxRecDepth 100000 in
theorem c_WF_back (l : Launch) {b n : Nat} {C : CT} (hlo : 191 ≤ n) (M : Mem)   (res : Mem × Int) (hT : t_WF_back M  = res) : CM l b C n 4 y_WF_back b_WF_back 1 (some .int) [.ref (b + 0)] M (QI b C n res.1 res.2) := by
  refine CM.of (lo := 191) (ow := "WardFalls") (by decide) rfl (Nat.le_of_ble_eq_true rfl) hlo (fun p e s m below meth c F hlk hr hS ls hl => ?_)
  have hl : lv_has ls 1 [(0, .ref (b + 0))] := hl
  unfold t_WF_back at hT
  refine lv_aload_n F.hx F.hb d_WF_back_0 rfl (lv_at hl 0 rfl) ?_
  refine r_get (v := vI (M.1 0 13)) (N := 19) (T := T0) (j := 13) F hS (show 0 < 191 by decide) (show shK 0 = 4 from rfl) (show shN 0 = 19 from rfl) rfl (Nat.le_of_ble_eq_true rfl) ing0 mw_563 (fv_int rfl) d_WF_back_1 ?_
  have i1 := hS.rng 0 13
  refine r_if_ne (tgt := 9) F.hx F.hb i1 d_WF_back_4 (by decide) (fun c2 => ?_) (fun c2 => ?_)
  · replace hT := (if_neg c2).symm.trans hT
    refine lv_aload_n F.hx F.hb d_WF_back_9 rfl (lv_at hl 0 rfl) ?_
    refine r_get (v := .ref (b + 47)) (N := 19) (T := T0) (j := 8) F hS (show 0 < 191 by decide) (show shK 0 = 4 from rfl) (show shN 0 = 19 from rfl) rfl (Nat.le_of_ble_eq_true rfl) ing0 mw_558 (fv_sg rfl rfl rfl) d_WF_back_10 ?_
    refine lv_aload_n F.hx F.hb d_WF_back_13 rfl (lv_at hl 0 rfl) ?_
    refine r_get (v := .ref (b + 57)) (N := 19) (T := T0) (j := 10) F hS (show 0 < 191 by decide) (show shK 0 = 4 from rfl) (show shN 0 = 19 from rfl) rfl (Nat.le_of_ble_eq_true rfl) ing0 mw_560 (fv_sg rfl rfl rfl) d_WF_back_14 ?_
    obtain ⟨q3, hq3⟩ : ∃ q, q = (t_Scene_copy M 47 57) := ⟨_, rfl⟩
    replace hT := qlet_eq hT hq3
    refine r_backV F hS (r_runV (k := 47) (N := 7) (T := T9) (As := [.ref (b + 57)]) F hS (show 47 < 191 by decide) (show shK 47 = 13 from rfl) rfl (c_Scene_copy l F.2.2.1 M 47 57 (by decide : isScene 47) (by decide : isScene 57) _ hq3.symm) gs_WF_299 hd_Scene_copy ⟨Nat.le_of_ble_eq_true rfl, Nat.le_of_ble_eq_true rfl⟩ rfl hl.1 (Nat.le_of_ble_eq_true rfl) ⟨Nat.zero_le _, Nat.zero_le _⟩ rfl d_WF_back_17) (fun H locs hS => ?_)
    refine lv_aload_n F.hx F.hb d_WF_back_20 rfl (lv_at hl 0 rfl) ?_
    refine r_get (v := .ref (b + 62)) (N := 19) (T := T0) (j := 11) F hS (show 0 < 191 by decide) (show shK 0 = 4 from rfl) (show shN 0 = 19 from rfl) rfl (Nat.le_of_ble_eq_true rfl) ing0 mw_561 (fv_sg rfl rfl rfl) d_WF_back_21 ?_
    refine lv_aload_n F.hx F.hb d_WF_back_24 rfl (lv_at hl 0 rfl) ?_
    refine r_get (v := .ref (b + 66)) (N := 19) (T := T0) (j := 12) F hS (show 0 < 191 by decide) (show shK 0 = 4 from rfl) (show shN 0 = 19 from rfl) rfl (Nat.le_of_ble_eq_true rfl) ing0 mw_562 (fv_sg rfl rfl rfl) d_WF_back_25 ?_
    obtain ⟨q5, hq5⟩ : ∃ q, q = (t_Chronicle_copy q3 62 66) := ⟨_, rfl⟩
    replace hT := qlet_eq hT hq5
    refine r_backV F hS (r_runV (k := 62) (N := 6) (T := T2) (As := [.ref (b + 66)]) F hS (show 62 < 191 by decide) (show shK 62 = 6 from rfl) rfl (c_Chronicle_copy l F.2.2.1 q3 62 66 (by decide : isChronicle 62) (by decide : isChronicle 66) _ hq5.symm) gs_WF_408 hd_Chronicle_copy ⟨Nat.le_of_ble_eq_true rfl, Nat.le_of_ble_eq_true rfl⟩ rfl hl.1 (Nat.le_of_ble_eq_true rfl) ⟨Nat.zero_le _, Nat.zero_le _⟩ rfl d_WF_back_28) (fun H locs hS => ?_)
    refine lv_aload_n F.hx F.hb d_WF_back_31 rfl (lv_at hl 0 rfl) ?_
    refine r_get (v := .ref (b + 70)) (N := 19) (T := T0) (j := 14) F hS (show 0 < 191 by decide) (show shK 0 = 4 from rfl) (show shN 0 = 19 from rfl) rfl (Nat.le_of_ble_eq_true rfl) ing0 mw_564 (fv_sg rfl rfl rfl) d_WF_back_32 ?_
    obtain ⟨q7, hq7⟩ : ∃ q, q = (t_Past_clear q5) := ⟨_, rfl⟩
    replace hT := qlet_eq hT hq7
    refine r_backV F hS (r_runV (k := 70) (N := 3) (T := T6) (As := []) F hS (show 70 < 191 by decide) (show shK 70 = 10 from rfl) rfl (c_Past_clear l F.2.2.1 q5 _ hq7.symm) gs_WF_279 hd_Past_clear ⟨Nat.le_of_ble_eq_true rfl, Nat.le_of_ble_eq_true rfl⟩ rfl hl.1 (Nat.le_of_ble_eq_true rfl) ⟨Nat.zero_le _, Nat.zero_le _⟩ rfl d_WF_back_35) (fun H locs hS => ?_)
    refine lv_aload_n F.hx F.hb d_WF_back_38 rfl (lv_at hl 0 rfl) ?_
    refine r_get (v := .ref (b + 177)) (N := 19) (T := T0) (j := 16) F hS (show 0 < 191 by decide) (show shK 0 = 4 from rfl) (show shN 0 = 19 from rfl) rfl (Nat.le_of_ble_eq_true rfl) ing0 mw_566 (fv_sg rfl rfl rfl) d_WF_back_39 ?_
    refine r_iconst F.hx F.hb d_WF_back_42 ?_
    refine r_putI (N := 9) (T := T4) (j := 8) F hS (show 177 < 191 by decide) (show shK 177 = 8 from rfl) (show shN 177 = 9 from rfl) rfl (Nat.le_of_ble_eq_true rfl) ing4 tyok4 nm4 rfl rfl (nar_z (Or.inl rfl)) (fit_z (Or.inl rfl)) rfl rfl mw_448 (inr_c rfl) d_WF_back_43 (fun H locs hS => ?_)
    obtain ⟨M9, eM9⟩ : ∃ q, q = (setI q7 177 8 0) := ⟨_, rfl⟩
    replace hS : St b C n M9 s H locs := by rw [eM9]; exact hS
    replace hT := qlet_eq hT eM9
    refine lv_aload_n F.hx F.hb d_WF_back_46 rfl (lv_at hl 0 rfl) ?_
    refine r_get (v := .ref (b + 62)) (N := 19) (T := T0) (j := 11) F hS (show 0 < 191 by decide) (show shK 0 = 4 from rfl) (show shN 0 = 19 from rfl) rfl (Nat.le_of_ble_eq_true rfl) ing0 mw_561 (fv_sg rfl rfl rfl) d_WF_back_47 ?_
    refine r_get (v := vI (M9.1 62 3)) (N := 6) (T := T2) (j := 3) F hS (show 62 < 191 by decide) (show shK 62 = 6 from rfl) (show shN 62 = 6 from rfl) rfl (Nat.le_of_ble_eq_true rfl) ing2 mw_321 (fv_int rfl) d_WF_back_50 ?_
    have i10 := hS.rng 62 3
    subst hT
    exact r_iret F hlk hr rfl hS i10 d_WF_back_53
  · replace hT := (if_pos c2).symm.trans hT
    refine r_iconst F.hx F.hb d_WF_back_7 ?_
    subst hT
    exact r_iret F hlk hr rfl hS (inr_c rfl) d_WF_back_8
theorem d_Scene_thingsToGo_0 : decode b_Scene_thingsToGo 0 = .ok (.iconst 0, 1) := dc_3 (by decide +kernel)
theorem d_Scene_thingsToGo_1 : decode b_Scene_thingsToGo 1 = .ok (.istore_n 2, 1) := dc_61 (by decide +kernel)
theorem d_Scene_thingsToGo_2 : decode b_Scene_thingsToGo 2 = .ok (.iconst 0, 1) := dc_3 (by decide +kernel)
theorem d_Scene_thingsToGo_3 : decode b_Scene_thingsToGo 3 = .ok (.istore_n 3, 1) := dc_62 (by decide +kernel)
theorem d_Scene_thingsToGo_4 : decode b_Scene_thingsToGo 4 = .ok (.iload_n 3, 1) := dc_29 (by decide +kernel)
theorem d_Scene_thingsToGo_5 : decode b_Scene_thingsToGo 5 = .ok (.aload_n 1, 1) := dc_43 (by decide +kernel)
theorem d_Scene_thingsToGo_6 : decode b_Scene_thingsToGo 6 = .ok (.getfield 72, 3) := dc_180 (by decide +kernel)
theorem d_Scene_thingsToGo_9 : decode b_Scene_thingsToGo 9 = .ok (.if_icmp .ge 28, 3) := dc_162 (by decide +kernel)
theorem d_Scene_thingsToGo_12 : decode b_Scene_thingsToGo 12 = .ok (.aload_n 0, 1) := dc_42 (by decide +kernel)
theorem d_Scene_thingsToGo_13 : decode b_Scene_thingsToGo 13 = .ok (.aload_n 1, 1) := dc_43 (by decide +kernel)
theorem d_Scene_thingsToGo_14 : decode b_Scene_thingsToGo 14 = .ok (.aload_n 0, 1) := dc_42 (by decide +kernel)
theorem d_Scene_thingsToGo_15 : decode b_Scene_thingsToGo 15 = .ok (.getfield 15, 3) := dc_180 (by decide +kernel)
theorem d_Scene_thingsToGo_18 : decode b_Scene_thingsToGo 18 = .ok (.iload_n 3, 1) := dc_29 (by decide +kernel)
theorem d_Scene_thingsToGo_19 : decode b_Scene_thingsToGo 19 = .ok (.invokestatic 56, 3) := dc_184 (by decide +kernel)
theorem d_Scene_thingsToGo_22 : decode b_Scene_thingsToGo 22 = .ok (.invokevirtual 83, 3) := dc_182 (by decide +kernel)
theorem d_Scene_thingsToGo_25 : decode b_Scene_thingsToGo 25 = .ok (.ifCond .lt 6, 3) := dc_155 (by decide +kernel)
theorem d_Scene_thingsToGo_28 : decode b_Scene_thingsToGo 28 = .ok (.iinc 2 1, 3) := dc_132 (by decide +kernel)
theorem d_Scene_thingsToGo_31 : decode b_Scene_thingsToGo 31 = .ok (.iinc 3 1, 3) := dc_132 (by decide +kernel)
theorem d_Scene_thingsToGo_34 : decode b_Scene_thingsToGo 34 = .ok (.goto (-30), 3) := dc_167 (by decide +kernel)
theorem d_Scene_thingsToGo_37 : decode b_Scene_thingsToGo 37 = .ok (.iload_n 2, 1) := dc_28 (by decide +kernel)
theorem d_Scene_thingsToGo_38 : decode b_Scene_thingsToGo 38 = .ok (.ireturn, 1) := dc_172 (by decide +kernel)
def t_Scene_thingsToGo_L31 (k0 : Nat) (k1 : Nat) (bk4 : Mem → Int → Int → Option (Int)) (M : Mem) (v2_ : Int) (v3_ : Int) : Option (Int) := (bk4 M v2_ (w32 (v3_ + 1)))
def t_Scene_thingsToGo_L4 (k0 : Nat) (k1 : Nat)  : Nat → Mem → Int → Int → Option (Int)
  | 0, _, _, _ => none
  | fu + 1, M, v2_, v3_ => (if (M.1 k1 15) ≤ v3_ then (some v2_) else (qlet (t_WF_look M (k0 + 2) 8 v3_) fun q3 => (qlet (t_Scene_nextOf M k0 k1 q3) fun q5 => (if q5 < 0 then (t_Scene_thingsToGo_L31 k0 k1 (fun a0_ a1_ a2_ => t_Scene_thingsToGo_L4 k0 k1 fu a0_ a1_ a2_) M v2_ v3_) else (t_Scene_thingsToGo_L31 k0 k1 (fun a0_ a1_ a2_ => t_Scene_thingsToGo_L4 k0 k1 fu a0_ a1_ a2_) M (w32 (v2_ + 1)) v3_)))))
def t_Scene_thingsToGo (M : Mem) (k0 : Nat) (k1 : Nat) : Option (Int) := (t_Scene_thingsToGo_L4 k0 k1 FU M 0 0)
set_option maxHeartbeats 4000000 in
set_option maxRecDepth 100000 in
theorem k_Scene_thingsToGo_L31 (l : Launch) {p : Program} {e : Env} {s : State} {m : MethodId} {below : List Frame} {meth : Method} {c : Code} {b n : Nat} {C : CT} (hlo : 191 ≤ n) (k0 : Nat) (k1 : Nat) (hk0 : isScene k0) (hk1 : isTown k1) (F : Cx b p m c b_Scene_thingsToGo 4 s ([.ref (b + k0), .ref (b + k1)] : List Value).toArray "WardFalls$Scene" C n 191) (hlk : meth.locks = false) (hr : meth.sig.returnType = some .int) {res : Int} (bk4 : Mem → Int → Int → Option (Int)) (hbk4 : ∀ (M : Mem) (v2_ : Int) (hv2_ : InR v2_) (v3_ : Int) (hv3_ : InR v3_) (H : Heap) (locs : List Loc) (ls : Array Slot), St b C n M s H locs → lv_has ls 4 [(0, .ref (b + k0)), (1, .ref (b + k1)), (2, vI v2_), (3, vI v3_)] → bk4 M v2_ v3_ = some res → W p l e (headSpec (wsM y_Scene_thingsToGo b_Scene_thingsToGo 4 (some .int)) (rmD 3)).room s m ([.ref (b + k0), .ref (b + k1)] : List Value).toArray below meth c H locs 0 0 (MQ below (QI b C n M res) ([.ref (b + k0), .ref (b + k1)] : List Value).toArray s 0 0 (frb b)) (F0 m 4 ls [])) (M : Mem) (v2_ : Int) (hv2_ : InR v2_) (v3_ : Int) (hv3_ : InR v3_) (H : Heap) (locs : List Loc) (ls : Array Slot) (hS : St b C n M s H locs) (hl : lv_has ls 4 [(0, .ref (b + k0)), (1, .ref (b + k1)), (2, vI v2_), (3, vI v3_)]) (hT : t_Scene_thingsToGo_L31 k0 k1 bk4 M v2_ v3_ = some res) : W p l e (headSpec (wsM y_Scene_thingsToGo b_Scene_thingsToGo 4 (some .int)) (rmD 3)).room s m ([.ref (b + k0), .ref (b + k1)] : List Value).toArray below meth c H locs 0 0 (MQ below (QI b C n M res) ([.ref (b + k0), .ref (b + k1)] : List Value).toArray s 0 0 (frb b)) (F0 m 31 ls []) := by
  unfold t_Scene_thingsToGo_L31 at hT
  refine lv_iinc (v := Int32.ofInt (w32 (v3_ + 1))) (lv' := [(3, vI (w32 (v3_ + 1))), (0, .ref (b + k0)), (1, .ref (b + k1)), (2, vI v2_)]) F.hx F.hb d_Scene_thingsToGo_31 hl (k := 3) rfl (q_of_add _ _) (Nat.le_of_ble_eq_true rfl) rfl (fun ls hl => ?_)
  refine lv_goto (tgt := 4) F.hx F.hb d_Scene_thingsToGo_34 (by decide) ?_
  exact hbk4 M v2_ hv2_ (w32 (v3_ + 1)) (inr_w32 _) _ _ _ hS (lv_sub hl [1, 2, 3, 0] rfl) hT
set_option maxHeartbeats 4000000 in
set_option maxRecDepth 100000 in
theorem k_Scene_thingsToGo_L4 (l : Launch) {p : Program} {e : Env} {s : State} {m : MethodId} {below : List Frame} {meth : Method} {c : Code} {b n : Nat} {C : CT} (hlo : 191 ≤ n) (k0 : Nat) (k1 : Nat) (hk0 : isScene k0) (hk1 : isTown k1) (F : Cx b p m c b_Scene_thingsToGo 4 s ([.ref (b + k0), .ref (b + k1)] : List Value).toArray "WardFalls$Scene" C n 191) (hlk : meth.locks = false) (hr : meth.sig.returnType = some .int) {res : Int} : ∀ (fu : Nat) (M : Mem) (v2_ : Int) (hv2_ : InR v2_) (v3_ : Int) (hv3_ : InR v3_) (H : Heap) (locs : List Loc) (ls : Array Slot), St b C n M s H locs → lv_has ls 4 [(0, .ref (b + k0)), (1, .ref (b + k1)), (2, vI v2_), (3, vI v3_)] → t_Scene_thingsToGo_L4 k0 k1 fu M v2_ v3_ = some res → W p l e (headSpec (wsM y_Scene_thingsToGo b_Scene_thingsToGo 4 (some .int)) (rmD 3)).room s m ([.ref (b + k0), .ref (b + k1)] : List Value).toArray below meth c H locs 0 0 (MQ below (QI b C n M res) ([.ref (b + k0), .ref (b + k1)] : List Value).toArray s 0 0 (frb b)) (F0 m 4 ls []) := by
  intro fu
  induction fu with
  | zero => intro M v2_ hv2_ v3_ hv3_ H locs ls hS hl hT; exact absurd hT (by simp [t_Scene_thingsToGo_L4])
  | succ fu ih =>
    intro M v2_ hv2_ v3_ hv3_ H locs ls hS hl hT
    rw [t_Scene_thingsToGo_L4] at hT
    refine lv_iload_n F.hx F.hb d_Scene_thingsToGo_4 rfl (lv_at hl 3 rfl) ?_
    refine lv_aload_n F.hx F.hb d_Scene_thingsToGo_5 rfl (lv_at hl 1 rfl) ?_
    refine r_get (v := vI (M.1 k1 15)) (N := 20) (T := T11) (j := 15) F hS (Town_lt hk1) (Town_sh hk1) (Town_N hk1) rfl (Nat.le_of_ble_eq_true rfl) ing11 mw_144 (fv_int rfl) d_Scene_thingsToGo_6 ?_
    have i1 := hS.rng k1 15
    refine r_icmp_ge (tgt := 37) F.hx F.hb hv3_ i1 d_Scene_thingsToGo_9 (by decide) (fun c2 => ?_) (fun c2 => ?_)
    · replace hT := (if_pos c2).symm.trans hT
      refine lv_iload_n F.hx F.hb d_Scene_thingsToGo_37 rfl (lv_at hl 2 rfl) ?_
      cases hT
      exact r_iret F hlk hr rfl hS hv2_ d_Scene_thingsToGo_38
    · replace hT := (if_neg c2).symm.trans hT
      refine lv_aload_n F.hx F.hb d_Scene_thingsToGo_12 rfl (lv_at hl 0 rfl) ?_
      refine lv_aload_n F.hx F.hb d_Scene_thingsToGo_13 rfl (lv_at hl 1 rfl) ?_
      refine lv_aload_n F.hx F.hb d_Scene_thingsToGo_14 rfl (lv_at hl 0 rfl) ?_
      refine r_get (v := .ref (b + (k0 + 2))) (N := 7) (T := T9) (j := 1) F hS (Scene_lt hk0) (Scene_sh hk0) (Scene_N hk0) rfl (Nat.le_of_ble_eq_true rfl) ing9 mw_278 (Scene_g1 hk0 _) d_Scene_thingsToGo_15 ?_
      refine lv_iload_n F.hx F.hb d_Scene_thingsToGo_18 rfl (lv_at hl 3 rfl) ?_
      obtain ⟨q3, hq3⟩ : ∃ q, q = (t_WF_look M (k0 + 2) 8 v3_) := ⟨_, rfl⟩
      replace hT := qlet_eq hT hq3
      refine r_backI F hS (r_runSN (As := [.ref (b + (k0 + 2)), vI v3_]) F hS (c_WF_look l F.2.2.1 M (k0 + 2) 8 v3_ (Scene_f1 hk0) hv3_ _ hq3.symm) mw_519 mw_518 mw_1 gs_Scene_56 hd_WF_look ⟨Nat.le_of_ble_eq_true rfl, Nat.le_of_ble_eq_true rfl⟩ rfl hl.1 (Nat.le_of_ble_eq_true rfl) ⟨Nat.zero_le _, Nat.zero_le _⟩ rfl d_Scene_thingsToGo_19) (fun H locs hS h4 => ?_)
      obtain ⟨q5, hq5⟩ : ∃ q, q = (t_Scene_nextOf M k0 k1 q3) := ⟨_, rfl⟩
      replace hT := qlet_eq hT hq5
      refine r_backI F hS (r_runV (k := k0) (N := 7) (T := T9) (As := [.ref (b + k1), vI q3]) F hS (Scene_lt hk0) (Scene_sh hk0) rfl (c_Scene_nextOf l F.2.2.1 M k0 k1 q3 hk0 hk1 h4 _ hq5.symm) gs_Scene_83 hd_Scene_nextOf ⟨Nat.le_of_ble_eq_true rfl, Nat.le_of_ble_eq_true rfl⟩ rfl hl.1 (Nat.le_of_ble_eq_true rfl) ⟨Nat.zero_le _, Nat.zero_le _⟩ rfl d_Scene_thingsToGo_22) (fun H locs hS h6 => ?_)
      refine r_if_lt (tgt := 31) F.hx F.hb h6 d_Scene_thingsToGo_25 (by decide) (fun c7 => ?_) (fun c7 => ?_)
      · replace hT := (if_pos c7).symm.trans hT
        exact k_Scene_thingsToGo_L31 l hlo k0 k1 hk0 hk1 F hlk hr (fun a0_ a1_ a2_ => t_Scene_thingsToGo_L4 k0 k1 fu a0_ a1_ a2_) ih M v2_ hv2_ v3_ hv3_ _ _ _ hS (lv_sub hl [0, 1, 2, 3] rfl) hT
      · replace hT := (if_neg c7).symm.trans hT
        refine lv_iinc (v := Int32.ofInt (w32 (v2_ + 1))) (lv' := [(2, vI (w32 (v2_ + 1))), (0, .ref (b + k0)), (1, .ref (b + k1)), (3, vI v3_)]) F.hx F.hb d_Scene_thingsToGo_28 hl (k := 2) rfl (q_of_add _ _) (Nat.le_of_ble_eq_true rfl) rfl (fun ls hl => ?_)
        exact k_Scene_thingsToGo_L31 l hlo k0 k1 hk0 hk1 F hlk hr (fun a0_ a1_ a2_ => t_Scene_thingsToGo_L4 k0 k1 fu a0_ a1_ a2_) ih M (w32 (v2_ + 1)) (inr_w32 _) v3_ hv3_ _ _ _ hS (lv_sub hl [1, 2, 0, 3] rfl) hT
set_option maxHeartbeats 4000000 in
set_option maxRecDepth 100000 in
theorem c_Scene_thingsToGo (l : Launch) {b n : Nat} {C : CT} (hlo : 191 ≤ n) (M : Mem) (k0 : Nat) (k1 : Nat) (hk0 : isScene k0) (hk1 : isTown k1) (res : Int) (hT : t_Scene_thingsToGo M k0 k1 = some res) : CM l b C n 3 y_Scene_thingsToGo b_Scene_thingsToGo 4 (some .int) [.ref (b + k0), .ref (b + k1)] M (QI b C n M res) := by
  refine CM.of (lo := 191) (ow := "WardFalls$Scene") (by decide) rfl (Nat.le_of_ble_eq_true rfl) hlo (fun p e s m below meth c F hlk hr hS ls hl => ?_)
  have hl : lv_has ls 4 [(0, .ref (b + k0)), (1, .ref (b + k1))] := hl
  unfold t_Scene_thingsToGo at hT
  refine r_iconst F.hx F.hb d_Scene_thingsToGo_0 ?_
  refine lv_istore_n (lv' := [(2, vI 0), (0, .ref (b + k0)), (1, .ref (b + k1))]) F.hx F.hb d_Scene_thingsToGo_1 rfl hl (Nat.le_of_ble_eq_true rfl) rfl (fun ls hl => ?_)
  refine r_iconst F.hx F.hb d_Scene_thingsToGo_2 ?_
  refine lv_istore_n (lv' := [(3, vI 0), (2, vI 0), (0, .ref (b + k0)), (1, .ref (b + k1))]) F.hx F.hb d_Scene_thingsToGo_3 rfl hl (Nat.le_of_ble_eq_true rfl) rfl (fun ls hl => ?_)
  exact k_Scene_thingsToGo_L4 l hlo k0 k1 hk0 hk1 F hlk hr FU M 0 (inr_c rfl) 0 (inr_c rfl) _ _ _ hS (lv_sub hl [2, 3, 1, 0] rfl) hT
theorem wn_WF_count_0 : ∀ i, i < 1 → bA b_WF_count (0 + i) = wB [27] i := wB_of (by decide +kernel)
theorem d_WF_count_0 : decode b_WF_count 0 = .ok (.iload_n 1, 1) := dc_27 (q0_win (r := 0) wn_WF_count_0 (by decide +kernel))
theorem d_WF_count_1 : decode b_WF_count 1 = .ok (.tableswitch 181 0 12 #[67, 75, 83, 91, 99, 107, 115, 123, 131, 139, 147, 158, 169], 67) := by decide +kernel
theorem wn_WF_count_68 : ∀ i, i < 95 → bA b_WF_count (68 + i) = wB [42, 180, 0, 22, 180, 1, 158, 172, 42, 180, 0, 22, 180, 1, 161, 172, 42, 180, 0, 22, 180, 0, 137, 172, 42, 180, 0, 22, 180, 0, 147, 172, 42, 180, 0, 22, 180, 1, 164, 172, 42, 180, 0, 59, 180, 0, 218, 172, 42, 180, 0, 59, 180, 1, 20, 172, 42, 180, 0, 76, 180, 1, 119, 172, 42, 180, 0, 76, 182, 1, 167, 172, 42, 180, 0, 69, 180, 1, 151, 172, 42, 180, 0, 46, 180, 0, 179, 184, 1, 49, 172, 42, 180, 0, 46] i := wB_of (by decide +kernel)
theorem d_WF_count_68 : decode b_WF_count 68 = .ok (.aload_n 0, 1) := dc_42 (q0_win (r := 0) wn_WF_count_68 (by decide +kernel))
theorem d_WF_count_69 : decode b_WF_count 69 = .ok (.getfield 22, 3) := dc_180 (qU2_win (r := 1) wn_WF_count_68 (by decide +kernel))
theorem d_WF_count_72 : decode b_WF_count 72 = .ok (.getfield 414, 3) := dc_180 (qU2_win (r := 4) wn_WF_count_68 (by decide +kernel))
theorem d_WF_count_75 : decode b_WF_count 75 = .ok (.ireturn, 1) := dc_172 (q0_win (r := 7) wn_WF_count_68 (by decide +kernel))
theorem d_WF_count_76 : decode b_WF_count 76 = .ok (.aload_n 0, 1) := dc_42 (q0_win (r := 8) wn_WF_count_68 (by decide +kernel))
theorem d_WF_count_77 : decode b_WF_count 77 = .ok (.getfield 22, 3) := dc_180 (qU2_win (r := 9) wn_WF_count_68 (by decide +kernel))
theorem d_WF_count_80 : decode b_WF_count 80 = .ok (.getfield 417, 3) := dc_180 (qU2_win (r := 12) wn_WF_count_68 (by decide +kernel))
theorem d_WF_count_83 : decode b_WF_count 83 = .ok (.ireturn, 1) := dc_172 (q0_win (r := 15) wn_WF_count_68 (by decide +kernel))
theorem d_WF_count_84 : decode b_WF_count 84 = .ok (.aload_n 0, 1) := dc_42 (q0_win (r := 16) wn_WF_count_68 (by decide +kernel))
theorem d_WF_count_85 : decode b_WF_count 85 = .ok (.getfield 22, 3) := dc_180 (qU2_win (r := 17) wn_WF_count_68 (by decide +kernel))
theorem d_WF_count_88 : decode b_WF_count 88 = .ok (.getfield 137, 3) := dc_180 (qU2_win (r := 20) wn_WF_count_68 (by decide +kernel))
theorem d_WF_count_91 : decode b_WF_count 91 = .ok (.ireturn, 1) := dc_172 (q0_win (r := 23) wn_WF_count_68 (by decide +kernel))
theorem d_WF_count_92 : decode b_WF_count 92 = .ok (.aload_n 0, 1) := dc_42 (q0_win (r := 24) wn_WF_count_68 (by decide +kernel))
theorem d_WF_count_93 : decode b_WF_count 93 = .ok (.getfield 22, 3) := dc_180 (qU2_win (r := 25) wn_WF_count_68 (by decide +kernel))
theorem d_WF_count_96 : decode b_WF_count 96 = .ok (.getfield 147, 3) := dc_180 (qU2_win (r := 28) wn_WF_count_68 (by decide +kernel))
theorem d_WF_count_99 : decode b_WF_count 99 = .ok (.ireturn, 1) := dc_172 (q0_win (r := 31) wn_WF_count_68 (by decide +kernel))
theorem d_WF_count_100 : decode b_WF_count 100 = .ok (.aload_n 0, 1) := dc_42 (q0_win (r := 32) wn_WF_count_68 (by decide +kernel))
theorem d_WF_count_101 : decode b_WF_count 101 = .ok (.getfield 22, 3) := dc_180 (qU2_win (r := 33) wn_WF_count_68 (by decide +kernel))
theorem d_WF_count_104 : decode b_WF_count 104 = .ok (.getfield 420, 3) := dc_180 (qU2_win (r := 36) wn_WF_count_68 (by decide +kernel))
theorem d_WF_count_107 : decode b_WF_count 107 = .ok (.ireturn, 1) := dc_172 (q0_win (r := 39) wn_WF_count_68 (by decide +kernel))
theorem d_WF_count_108 : decode b_WF_count 108 = .ok (.aload_n 0, 1) := dc_42 (q0_win (r := 40) wn_WF_count_68 (by decide +kernel))
theorem d_WF_count_109 : decode b_WF_count 109 = .ok (.getfield 59, 3) := dc_180 (qU2_win (r := 41) wn_WF_count_68 (by decide +kernel))
theorem d_WF_count_112 : decode b_WF_count 112 = .ok (.getfield 218, 3) := dc_180 (qU2_win (r := 44) wn_WF_count_68 (by decide +kernel))
theorem d_WF_count_115 : decode b_WF_count 115 = .ok (.ireturn, 1) := dc_172 (q0_win (r := 47) wn_WF_count_68 (by decide +kernel))
theorem d_WF_count_116 : decode b_WF_count 116 = .ok (.aload_n 0, 1) := dc_42 (q0_win (r := 48) wn_WF_count_68 (by decide +kernel))
theorem d_WF_count_117 : decode b_WF_count 117 = .ok (.getfield 59, 3) := dc_180 (qU2_win (r := 49) wn_WF_count_68 (by decide +kernel))
theorem d_WF_count_120 : decode b_WF_count 120 = .ok (.getfield 276, 3) := dc_180 (qU2_win (r := 52) wn_WF_count_68 (by decide +kernel))
theorem d_WF_count_123 : decode b_WF_count 123 = .ok (.ireturn, 1) := dc_172 (q0_win (r := 55) wn_WF_count_68 (by decide +kernel))
theorem d_WF_count_124 : decode b_WF_count 124 = .ok (.aload_n 0, 1) := dc_42 (q0_win (r := 56) wn_WF_count_68 (by decide +kernel))
theorem d_WF_count_125 : decode b_WF_count 125 = .ok (.getfield 76, 3) := dc_180 (qU2_win (r := 57) wn_WF_count_68 (by decide +kernel))
theorem d_WF_count_128 : decode b_WF_count 128 = .ok (.getfield 375, 3) := dc_180 (qU2_win (r := 60) wn_WF_count_68 (by decide +kernel))
theorem d_WF_count_131 : decode b_WF_count 131 = .ok (.ireturn, 1) := dc_172 (q0_win (r := 63) wn_WF_count_68 (by decide +kernel))
theorem d_WF_count_132 : decode b_WF_count 132 = .ok (.aload_n 0, 1) := dc_42 (q0_win (r := 64) wn_WF_count_68 (by decide +kernel))
theorem d_WF_count_133 : decode b_WF_count 133 = .ok (.getfield 76, 3) := dc_180 (qU2_win (r := 65) wn_WF_count_68 (by decide +kernel))
theorem d_WF_count_136 : decode b_WF_count 136 = .ok (.invokevirtual 423, 3) := dc_182 (qU2_win (r := 68) wn_WF_count_68 (by decide +kernel))
theorem d_WF_count_139 : decode b_WF_count 139 = .ok (.ireturn, 1) := dc_172 (q0_win (r := 71) wn_WF_count_68 (by decide +kernel))
theorem d_WF_count_140 : decode b_WF_count 140 = .ok (.aload_n 0, 1) := dc_42 (q0_win (r := 72) wn_WF_count_68 (by decide +kernel))
theorem d_WF_count_141 : decode b_WF_count 141 = .ok (.getfield 69, 3) := dc_180 (qU2_win (r := 73) wn_WF_count_68 (by decide +kernel))
theorem d_WF_count_144 : decode b_WF_count 144 = .ok (.getfield 407, 3) := dc_180 (qU2_win (r := 76) wn_WF_count_68 (by decide +kernel))
theorem d_WF_count_147 : decode b_WF_count 147 = .ok (.ireturn, 1) := dc_172 (q0_win (r := 79) wn_WF_count_68 (by decide +kernel))
theorem d_WF_count_148 : decode b_WF_count 148 = .ok (.aload_n 0, 1) := dc_42 (q0_win (r := 80) wn_WF_count_68 (by decide +kernel))
theorem d_WF_count_149 : decode b_WF_count 149 = .ok (.getfield 46, 3) := dc_180 (qU2_win (r := 81) wn_WF_count_68 (by decide +kernel))
theorem d_WF_count_152 : decode b_WF_count 152 = .ok (.getfield 179, 3) := dc_180 (qU2_win (r := 84) wn_WF_count_68 (by decide +kernel))
theorem d_WF_count_155 : decode b_WF_count 155 = .ok (.invokestatic 305, 3) := dc_184 (qU2_win (r := 87) wn_WF_count_68 (by decide +kernel))
theorem d_WF_count_158 : decode b_WF_count 158 = .ok (.ireturn, 1) := dc_172 (q0_win (r := 90) wn_WF_count_68 (by decide +kernel))
theorem d_WF_count_159 : decode b_WF_count 159 = .ok (.aload_n 0, 1) := dc_42 (q0_win (r := 91) wn_WF_count_68 (by decide +kernel))
theorem d_WF_count_160 : decode b_WF_count 160 = .ok (.getfield 46, 3) := dc_180 (qU2_win (r := 92) wn_WF_count_68 (by decide +kernel))
theorem wn_WF_count_163 : ∀ i, i < 21 → bA b_WF_count (163 + i) = wB [180, 0, 176, 184, 1, 49, 172, 42, 180, 0, 46, 42, 180, 0, 22, 182, 1, 170, 172, 2, 172] i := wB_of (by decide +kernel)
theorem d_WF_count_163 : decode b_WF_count 163 = .ok (.getfield 176, 3) := dc_180 (qU2_win (r := 0) wn_WF_count_163 (by decide +kernel))
theorem d_WF_count_166 : decode b_WF_count 166 = .ok (.invokestatic 305, 3) := dc_184 (qU2_win (r := 3) wn_WF_count_163 (by decide +kernel))
theorem d_WF_count_169 : decode b_WF_count 169 = .ok (.ireturn, 1) := dc_172 (q0_win (r := 6) wn_WF_count_163 (by decide +kernel))
theorem d_WF_count_170 : decode b_WF_count 170 = .ok (.aload_n 0, 1) := dc_42 (q0_win (r := 7) wn_WF_count_163 (by decide +kernel))
theorem d_WF_count_171 : decode b_WF_count 171 = .ok (.getfield 46, 3) := dc_180 (qU2_win (r := 8) wn_WF_count_163 (by decide +kernel))
theorem d_WF_count_174 : decode b_WF_count 174 = .ok (.aload_n 0, 1) := dc_42 (q0_win (r := 11) wn_WF_count_163 (by decide +kernel))
theorem d_WF_count_175 : decode b_WF_count 175 = .ok (.getfield 22, 3) := dc_180 (qU2_win (r := 12) wn_WF_count_163 (by decide +kernel))
theorem d_WF_count_178 : decode b_WF_count 178 = .ok (.invokevirtual 426, 3) := dc_182 (qU2_win (r := 15) wn_WF_count_163 (by decide +kernel))
theorem d_WF_count_181 : decode b_WF_count 181 = .ok (.ireturn, 1) := dc_172 (q0_win (r := 18) wn_WF_count_163 (by decide +kernel))
theorem d_WF_count_182 : decode b_WF_count 182 = .ok (.iconst (-1), 1) := dc_2 (q0_win (r := 19) wn_WF_count_163 (by decide +kernel))
theorem d_WF_count_183 : decode b_WF_count 183 = .ok (.ireturn, 1) := dc_172 (q0_win (r := 20) wn_WF_count_163 (by decide +kernel))
def t_WF_count (M : Mem) (x1 : Int) : Option (Int) := (if x1 = 0 then (some (M.1 ((M.1 0 4).toNat) 11)) else (if x1 = 1 then (some (M.1 ((M.1 0 4).toNat) 12)) else (if x1 = 2 then (some (M.1 ((M.1 0 4).toNat) 14)) else (if x1 = 3 then (some (M.1 ((M.1 0 4).toNat) 15)) else (if x1 = 4 then (some (M.1 ((M.1 0 4).toNat) 16)) else (if x1 = 5 then (some (M.1 62 3)) else (if x1 = 6 then (some (M.1 62 4)) else (if x1 = 7 then (some (M.1 172 5)) else (if x1 = 8 then (qlet (t_Notes_knownBy M) fun q23 => (some q23)) else (if x1 = 9 then (some (M.1 70 2)) else (if x1 = 10 then (qlet (t_Long_bitCount M (M.2 47 6)) fun q28 => (some q28)) else (if x1 = 11 then (qlet (t_Long_bitCount M (M.2 47 5)) fun q31 => (some q31)) else (if x1 = 12 then (obind (t_Scene_thingsToGo M 47 ((M.1 0 4).toNat)) fun q35 => (some q35)) else (some (-1)))))))))))))))
set_option maxHeartbeats 4000000 in
set_option maxRecDepth 100000 in
theorem c_WF_count (l : Launch) {b n : Nat} {C : CT} (hlo : 191 ≤ n) (M : Mem) (x1 : Int) (hx1 : InR x1) (res : Int) (hT : t_WF_count M x1 = some res) : CM l b C n 4 y_WF_count b_WF_count 2 (some .int) [.ref (b + 0), vI x1] M (QI b C n M res) := by
  refine CM.of (lo := 191) (ow := "WardFalls") (by decide) rfl (Nat.le_of_ble_eq_true rfl) hlo (fun p e s m below meth c F hlk hr hS ls hl => ?_)
  have hl : lv_has ls 2 [(0, .ref (b + 0)), (1, vI x1)] := hl
  unfold t_WF_count at hT
  refine lv_iload_n F.hx F.hb d_WF_count_0 rfl (lv_at hl 1 rfl) ?_
  rcases q_ite hT with ⟨c1, hT⟩ | ⟨c1, hT⟩
  · refine r_tableIn (i := 0) (tgt := 68) F.hx F.hb hx1 c1 d_WF_count_1 (by decide) (by decide) rfl (by decide) ?_
    refine lv_aload_n F.hx F.hb d_WF_count_68 rfl (lv_at hl 0 rfl) ?_
    have h2 := St_town hS
    refine r_get (v := .ref (b + ((M.1 0 4).toNat))) (N := 19) (T := T0) (j := 4) F hS (show 0 < 191 by decide) (show shK 0 = 4 from rfl) (show shN 0 = 19 from rfl) rfl (Nat.le_of_ble_eq_true rfl) ing0 mw_554 (fv_town hS) d_WF_count_69 ?_
    refine r_get (v := vI (M.1 ((M.1 0 4).toNat) 11)) (N := 20) (T := T11) (j := 11) F hS (Town_lt h2) (Town_sh h2) (Town_N h2) rfl (Nat.le_of_ble_eq_true rfl) ing11 mw_123 (fv_int rfl) d_WF_count_72 ?_
    have i3 := hS.rng ((M.1 0 4).toNat) 11
    cases hT
    exact r_iret F hlk hr rfl hS i3 d_WF_count_75
  ·
    rcases q_ite hT with ⟨c4, hT⟩ | ⟨c4, hT⟩
    · refine r_tableIn (i := 1) (tgt := 76) F.hx F.hb hx1 c4 d_WF_count_1 (by decide) (by decide) rfl (by decide) ?_
      refine lv_aload_n F.hx F.hb d_WF_count_76 rfl (lv_at hl 0 rfl) ?_
      have h5 := St_town hS
      refine r_get (v := .ref (b + ((M.1 0 4).toNat))) (N := 19) (T := T0) (j := 4) F hS (show 0 < 191 by decide) (show shK 0 = 4 from rfl) (show shN 0 = 19 from rfl) rfl (Nat.le_of_ble_eq_true rfl) ing0 mw_554 (fv_town hS) d_WF_count_77 ?_
      refine r_get (v := vI (M.1 ((M.1 0 4).toNat) 12)) (N := 20) (T := T11) (j := 12) F hS (Town_lt h5) (Town_sh h5) (Town_N h5) rfl (Nat.le_of_ble_eq_true rfl) ing11 mw_126 (fv_int rfl) d_WF_count_80 ?_
      have i6 := hS.rng ((M.1 0 4).toNat) 12
      cases hT
      exact r_iret F hlk hr rfl hS i6 d_WF_count_83
    ·
      rcases q_ite hT with ⟨c7, hT⟩ | ⟨c7, hT⟩
      · refine r_tableIn (i := 2) (tgt := 84) F.hx F.hb hx1 c7 d_WF_count_1 (by decide) (by decide) rfl (by decide) ?_
        refine lv_aload_n F.hx F.hb d_WF_count_84 rfl (lv_at hl 0 rfl) ?_
        have h8 := St_town hS
        refine r_get (v := .ref (b + ((M.1 0 4).toNat))) (N := 19) (T := T0) (j := 4) F hS (show 0 < 191 by decide) (show shK 0 = 4 from rfl) (show shN 0 = 19 from rfl) rfl (Nat.le_of_ble_eq_true rfl) ing0 mw_554 (fv_town hS) d_WF_count_85 ?_
        refine r_get (v := vI (M.1 ((M.1 0 4).toNat) 14)) (N := 20) (T := T11) (j := 14) F hS (Town_lt h8) (Town_sh h8) (Town_N h8) rfl (Nat.le_of_ble_eq_true rfl) ing11 mw_137 (fv_int rfl) d_WF_count_88 ?_
        have i9 := hS.rng ((M.1 0 4).toNat) 14
        cases hT
        exact r_iret F hlk hr rfl hS i9 d_WF_count_91
      ·
        rcases q_ite hT with ⟨c10, hT⟩ | ⟨c10, hT⟩
        · refine r_tableIn (i := 3) (tgt := 92) F.hx F.hb hx1 c10 d_WF_count_1 (by decide) (by decide) rfl (by decide) ?_
          refine lv_aload_n F.hx F.hb d_WF_count_92 rfl (lv_at hl 0 rfl) ?_
          have h11 := St_town hS
          refine r_get (v := .ref (b + ((M.1 0 4).toNat))) (N := 19) (T := T0) (j := 4) F hS (show 0 < 191 by decide) (show shK 0 = 4 from rfl) (show shN 0 = 19 from rfl) rfl (Nat.le_of_ble_eq_true rfl) ing0 mw_554 (fv_town hS) d_WF_count_93 ?_
          refine r_get (v := vI (M.1 ((M.1 0 4).toNat) 15)) (N := 20) (T := T11) (j := 15) F hS (Town_lt h11) (Town_sh h11) (Town_N h11) rfl (Nat.le_of_ble_eq_true rfl) ing11 mw_143 (fv_int rfl) d_WF_count_96 ?_
          have i12 := hS.rng ((M.1 0 4).toNat) 15
          cases hT
          exact r_iret F hlk hr rfl hS i12 d_WF_count_99
        ·
          rcases q_ite hT with ⟨c13, hT⟩ | ⟨c13, hT⟩
          · refine r_tableIn (i := 4) (tgt := 100) F.hx F.hb hx1 c13 d_WF_count_1 (by decide) (by decide) rfl (by decide) ?_
            refine lv_aload_n F.hx F.hb d_WF_count_100 rfl (lv_at hl 0 rfl) ?_
            have h14 := St_town hS
            refine r_get (v := .ref (b + ((M.1 0 4).toNat))) (N := 19) (T := T0) (j := 4) F hS (show 0 < 191 by decide) (show shK 0 = 4 from rfl) (show shN 0 = 19 from rfl) rfl (Nat.le_of_ble_eq_true rfl) ing0 mw_554 (fv_town hS) d_WF_count_101 ?_
            refine r_get (v := vI (M.1 ((M.1 0 4).toNat) 16)) (N := 20) (T := T11) (j := 16) F hS (Town_lt h14) (Town_sh h14) (Town_N h14) rfl (Nat.le_of_ble_eq_true rfl) ing11 mw_147 (fv_int rfl) d_WF_count_104 ?_
            have i15 := hS.rng ((M.1 0 4).toNat) 16
            cases hT
            exact r_iret F hlk hr rfl hS i15 d_WF_count_107
          ·
            rcases q_ite hT with ⟨c16, hT⟩ | ⟨c16, hT⟩
            · refine r_tableIn (i := 5) (tgt := 108) F.hx F.hb hx1 c16 d_WF_count_1 (by decide) (by decide) rfl (by decide) ?_
              refine lv_aload_n F.hx F.hb d_WF_count_108 rfl (lv_at hl 0 rfl) ?_
              refine r_get (v := .ref (b + 62)) (N := 19) (T := T0) (j := 11) F hS (show 0 < 191 by decide) (show shK 0 = 4 from rfl) (show shN 0 = 19 from rfl) rfl (Nat.le_of_ble_eq_true rfl) ing0 mw_561 (fv_sg rfl rfl rfl) d_WF_count_109 ?_
              refine r_get (v := vI (M.1 62 3)) (N := 6) (T := T2) (j := 3) F hS (show 62 < 191 by decide) (show shK 62 = 6 from rfl) (show shN 62 = 6 from rfl) rfl (Nat.le_of_ble_eq_true rfl) ing2 mw_321 (fv_int rfl) d_WF_count_112 ?_
              have i17 := hS.rng 62 3
              cases hT
              exact r_iret F hlk hr rfl hS i17 d_WF_count_115
            ·
              rcases q_ite hT with ⟨c18, hT⟩ | ⟨c18, hT⟩
              · refine r_tableIn (i := 6) (tgt := 116) F.hx F.hb hx1 c18 d_WF_count_1 (by decide) (by decide) rfl (by decide) ?_
                refine lv_aload_n F.hx F.hb d_WF_count_116 rfl (lv_at hl 0 rfl) ?_
                refine r_get (v := .ref (b + 62)) (N := 19) (T := T0) (j := 11) F hS (show 0 < 191 by decide) (show shK 0 = 4 from rfl) (show shN 0 = 19 from rfl) rfl (Nat.le_of_ble_eq_true rfl) ing0 mw_561 (fv_sg rfl rfl rfl) d_WF_count_117 ?_
                refine r_get (v := vI (M.1 62 4)) (N := 6) (T := T2) (j := 4) F hS (show 62 < 191 by decide) (show shK 62 = 6 from rfl) (show shN 62 = 6 from rfl) rfl (Nat.le_of_ble_eq_true rfl) ing2 mw_323 (fv_int rfl) d_WF_count_120 ?_
                have i19 := hS.rng 62 4
                cases hT
                exact r_iret F hlk hr rfl hS i19 d_WF_count_123
              ·
                rcases q_ite hT with ⟨c20, hT⟩ | ⟨c20, hT⟩
                · refine r_tableIn (i := 7) (tgt := 124) F.hx F.hb hx1 c20 d_WF_count_1 (by decide) (by decide) rfl (by decide) ?_
                  refine lv_aload_n F.hx F.hb d_WF_count_124 rfl (lv_at hl 0 rfl) ?_
                  refine r_get (v := .ref (b + 172)) (N := 19) (T := T0) (j := 15) F hS (show 0 < 191 by decide) (show shK 0 = 4 from rfl) (show shN 0 = 19 from rfl) rfl (Nat.le_of_ble_eq_true rfl) ing0 mw_565 (fv_sg rfl rfl rfl) d_WF_count_125 ?_
                  refine r_get (v := vI (M.1 172 5)) (N := 7) (T := T5) (j := 5) F hS (show 172 < 191 by decide) (show shK 172 = 9 from rfl) (show shN 172 = 7 from rfl) rfl (Nat.le_of_ble_eq_true rfl) ing5 mw_372 (fv_int rfl) d_WF_count_128 ?_
                  have i21 := hS.rng 172 5
                  cases hT
                  exact r_iret F hlk hr rfl hS i21 d_WF_count_131
                ·
                  rcases q_ite hT with ⟨c22, hT⟩ | ⟨c22, hT⟩
                  · refine r_tableIn (i := 8) (tgt := 132) F.hx F.hb hx1 c22 d_WF_count_1 (by decide) (by decide) rfl (by decide) ?_
                    refine lv_aload_n F.hx F.hb d_WF_count_132 rfl (lv_at hl 0 rfl) ?_
                    refine r_get (v := .ref (b + 172)) (N := 19) (T := T0) (j := 15) F hS (show 0 < 191 by decide) (show shK 0 = 4 from rfl) (show shN 0 = 19 from rfl) rfl (Nat.le_of_ble_eq_true rfl) ing0 mw_565 (fv_sg rfl rfl rfl) d_WF_count_133 ?_
                    obtain ⟨q23, hq23⟩ : ∃ q, q = (t_Notes_knownBy M) := ⟨_, rfl⟩
                    replace hT := qlet_eq hT hq23
                    refine r_backI F hS (r_runV (k := 172) (N := 7) (T := T5) (As := []) F hS (show 172 < 191 by decide) (show shK 172 = 9 from rfl) rfl (c_Notes_knownBy l F.2.2.1 M _ hq23.symm) gs_WF_423 hd_Notes_knownBy ⟨Nat.le_of_ble_eq_true rfl, Nat.le_of_ble_eq_true rfl⟩ rfl hl.1 (Nat.le_of_ble_eq_true rfl) ⟨Nat.zero_le _, Nat.zero_le _⟩ rfl d_WF_count_136) (fun H locs hS h24 => ?_)
                    cases hT
                    exact r_iret F hlk hr rfl hS h24 d_WF_count_139
                  ·
                    rcases q_ite hT with ⟨c25, hT⟩ | ⟨c25, hT⟩
                    · refine r_tableIn (i := 9) (tgt := 140) F.hx F.hb hx1 c25 d_WF_count_1 (by decide) (by decide) rfl (by decide) ?_
                      refine lv_aload_n F.hx F.hb d_WF_count_140 rfl (lv_at hl 0 rfl) ?_
                      refine r_get (v := .ref (b + 70)) (N := 19) (T := T0) (j := 14) F hS (show 0 < 191 by decide) (show shK 0 = 4 from rfl) (show shN 0 = 19 from rfl) rfl (Nat.le_of_ble_eq_true rfl) ing0 mw_564 (fv_sg rfl rfl rfl) d_WF_count_141 ?_
                      refine r_get (v := vI (M.1 70 2)) (N := 3) (T := T6) (j := 2) F hS (show 70 < 191 by decide) (show shK 70 = 10 from rfl) (show shN 70 = 3 from rfl) rfl (Nat.le_of_ble_eq_true rfl) ing6 mw_350 (fv_int rfl) d_WF_count_144 ?_
                      have i26 := hS.rng 70 2
                      cases hT
                      exact r_iret F hlk hr rfl hS i26 d_WF_count_147
                    ·
                      rcases q_ite hT with ⟨c27, hT⟩ | ⟨c27, hT⟩
                      · refine r_tableIn (i := 10) (tgt := 148) F.hx F.hb hx1 c27 d_WF_count_1 (by decide) (by decide) rfl (by decide) ?_
                        refine lv_aload_n F.hx F.hb d_WF_count_148 rfl (lv_at hl 0 rfl) ?_
                        refine r_get (v := .ref (b + 47)) (N := 19) (T := T0) (j := 8) F hS (show 0 < 191 by decide) (show shK 0 = 4 from rfl) (show shN 0 = 19 from rfl) rfl (Nat.le_of_ble_eq_true rfl) ing0 mw_558 (fv_sg rfl rfl rfl) d_WF_count_149 ?_
                        refine r_get (v := .long (M.2 47 6)) (N := 7) (T := T9) (j := 6) F hS (show 47 < 191 by decide) (show shK 47 = 13 from rfl) (show shN 47 = 7 from rfl) rfl (Nat.le_of_ble_eq_true rfl) ing9 mw_292 (fv_long rfl) d_WF_count_152 ?_
                        obtain ⟨q28, hq28⟩ : ∃ q, q = (t_Long_bitCount M (M.2 47 6)) := ⟨_, rfl⟩
                        replace hT := qlet_eq hT hq28
                        refine r_backI F hS (r_runS (As := [.long (M.2 47 6)]) F hS (c_Long_bitCount l (Nat.zero_le _) M (M.2 47 6) _ hq28.symm) gs_WF_305 hd_Long_bitCount ⟨Nat.le_of_ble_eq_true rfl, Nat.le_of_ble_eq_true rfl⟩ rfl hl.1 (Nat.le_of_ble_eq_true rfl) ⟨Nat.zero_le _, Nat.zero_le _⟩ rfl d_WF_count_155) (fun H locs hS h29 => ?_)
                        cases hT
                        exact r_iret F hlk hr rfl hS h29 d_WF_count_158
                      ·
                        rcases q_ite hT with ⟨c30, hT⟩ | ⟨c30, hT⟩
                        · refine r_tableIn (i := 11) (tgt := 159) F.hx F.hb hx1 c30 d_WF_count_1 (by decide) (by decide) rfl (by decide) ?_
                          refine lv_aload_n F.hx F.hb d_WF_count_159 rfl (lv_at hl 0 rfl) ?_
                          refine r_get (v := .ref (b + 47)) (N := 19) (T := T0) (j := 8) F hS (show 0 < 191 by decide) (show shK 0 = 4 from rfl) (show shN 0 = 19 from rfl) rfl (Nat.le_of_ble_eq_true rfl) ing0 mw_558 (fv_sg rfl rfl rfl) d_WF_count_160 ?_
                          refine r_get (v := .long (M.2 47 5)) (N := 7) (T := T9) (j := 5) F hS (show 47 < 191 by decide) (show shK 47 = 13 from rfl) (show shN 47 = 7 from rfl) rfl (Nat.le_of_ble_eq_true rfl) ing9 mw_290 (fv_long rfl) d_WF_count_163 ?_
                          obtain ⟨q31, hq31⟩ : ∃ q, q = (t_Long_bitCount M (M.2 47 5)) := ⟨_, rfl⟩
                          replace hT := qlet_eq hT hq31
                          refine r_backI F hS (r_runS (As := [.long (M.2 47 5)]) F hS (c_Long_bitCount l (Nat.zero_le _) M (M.2 47 5) _ hq31.symm) gs_WF_305 hd_Long_bitCount ⟨Nat.le_of_ble_eq_true rfl, Nat.le_of_ble_eq_true rfl⟩ rfl hl.1 (Nat.le_of_ble_eq_true rfl) ⟨Nat.zero_le _, Nat.zero_le _⟩ rfl d_WF_count_166) (fun H locs hS h32 => ?_)
                          cases hT
                          exact r_iret F hlk hr rfl hS h32 d_WF_count_169
                        ·
                          rcases q_ite hT with ⟨c33, hT⟩ | ⟨c33, hT⟩
                          · refine r_tableIn (i := 12) (tgt := 170) F.hx F.hb hx1 c33 d_WF_count_1 (by decide) (by decide) rfl (by decide) ?_
                            refine lv_aload_n F.hx F.hb d_WF_count_170 rfl (lv_at hl 0 rfl) ?_
                            refine r_get (v := .ref (b + 47)) (N := 19) (T := T0) (j := 8) F hS (show 0 < 191 by decide) (show shK 0 = 4 from rfl) (show shN 0 = 19 from rfl) rfl (Nat.le_of_ble_eq_true rfl) ing0 mw_558 (fv_sg rfl rfl rfl) d_WF_count_171 ?_
                            refine lv_aload_n F.hx F.hb d_WF_count_174 rfl (lv_at hl 0 rfl) ?_
                            have h34 := St_town hS
                            refine r_get (v := .ref (b + ((M.1 0 4).toNat))) (N := 19) (T := T0) (j := 4) F hS (show 0 < 191 by decide) (show shK 0 = 4 from rfl) (show shN 0 = 19 from rfl) rfl (Nat.le_of_ble_eq_true rfl) ing0 mw_554 (fv_town hS) d_WF_count_175 ?_
                            obtain ⟨q35, hq35, hT⟩ := q_obind hT
                            refine r_backI F hS (r_runV (k := 47) (N := 7) (T := T9) (As := [.ref (b + ((M.1 0 4).toNat))]) F hS (show 47 < 191 by decide) (show shK 47 = 13 from rfl) rfl (c_Scene_thingsToGo l F.2.2.1 M 47 ((M.1 0 4).toNat) (by decide : isScene 47) h34 _ hq35) gs_WF_426 hd_Scene_thingsToGo ⟨Nat.le_of_ble_eq_true rfl, Nat.le_of_ble_eq_true rfl⟩ rfl hl.1 (Nat.le_of_ble_eq_true rfl) ⟨Nat.zero_le _, Nat.zero_le _⟩ rfl d_WF_count_178) (fun H locs hS h36 => ?_)
                            cases hT
                            exact r_iret F hlk hr rfl hS h36 d_WF_count_181
                          ·
                            refine r_tableOut (tgt := 182) F.hx F.hb hx1 (by omega) d_WF_count_1 (by decide) ?_
                            refine r_iconst F.hx F.hb d_WF_count_182 ?_
                            cases hT
                            exact r_iret F hlk hr rfl hS (inr_c rfl) d_WF_count_183
theorem wn_MO_begins_0 : ∀ i, i < 95 → bA b_MO_begins (0 + i) = wB [42, 180, 0, 60, 3, 3, 79, 42, 180, 0, 63, 3, 3, 79, 42, 180, 0, 66, 3, 42, 180, 0, 13, 16, 7, 46, 79, 42, 180, 0, 69, 3, 9, 80, 42, 180, 0, 73, 3, 9, 80, 3, 60, 27, 7, 162, 0, 35, 42, 180, 0, 76, 27, 27, 42, 180, 0, 13, 5, 46, 162, 0, 12, 42, 180, 0, 19, 27, 46, 167, 0, 4, 7, 79, 132, 1, 1, 167, 255, 222, 3, 60, 27, 16, 8, 162, 0, 50, 42, 180, 0, 79, 27, 27, 42] i := wB_of (by decide +kernel)
theorem d_MO_begins_0 : decode b_MO_begins 0 = .ok (.aload_n 0, 1) := dc_42 (q0_win (r := 0) wn_MO_begins_0 (by decide +kernel))
theorem d_MO_begins_1 : decode b_MO_begins 1 = .ok (.getfield 60, 3) := dc_180 (qU2_win (r := 1) wn_MO_begins_0 (by decide +kernel))
theorem d_MO_begins_4 : decode b_MO_begins 4 = .ok (.iconst 0, 1) := dc_3 (q0_win (r := 4) wn_MO_begins_0 (by decide +kernel))
theorem d_MO_begins_5 : decode b_MO_begins 5 = .ok (.iconst 0, 1) := dc_3 (q0_win (r := 5) wn_MO_begins_0 (by decide +kernel))
theorem d_MO_begins_6 : decode b_MO_begins 6 = .ok (.iastore, 1) := dc_79 (q0_win (r := 6) wn_MO_begins_0 (by decide +kernel))
theorem d_MO_begins_7 : decode b_MO_begins 7 = .ok (.aload_n 0, 1) := dc_42 (q0_win (r := 7) wn_MO_begins_0 (by decide +kernel))
theorem d_MO_begins_8 : decode b_MO_begins 8 = .ok (.getfield 63, 3) := dc_180 (qU2_win (r := 8) wn_MO_begins_0 (by decide +kernel))
theorem d_MO_begins_11 : decode b_MO_begins 11 = .ok (.iconst 0, 1) := dc_3 (q0_win (r := 11) wn_MO_begins_0 (by decide +kernel))
theorem d_MO_begins_12 : decode b_MO_begins 12 = .ok (.iconst 0, 1) := dc_3 (q0_win (r := 12) wn_MO_begins_0 (by decide +kernel))
theorem d_MO_begins_13 : decode b_MO_begins 13 = .ok (.iastore, 1) := dc_79 (q0_win (r := 13) wn_MO_begins_0 (by decide +kernel))
theorem d_MO_begins_14 : decode b_MO_begins 14 = .ok (.aload_n 0, 1) := dc_42 (q0_win (r := 14) wn_MO_begins_0 (by decide +kernel))
theorem d_MO_begins_15 : decode b_MO_begins 15 = .ok (.getfield 66, 3) := dc_180 (qU2_win (r := 15) wn_MO_begins_0 (by decide +kernel))
theorem d_MO_begins_18 : decode b_MO_begins 18 = .ok (.iconst 0, 1) := dc_3 (q0_win (r := 18) wn_MO_begins_0 (by decide +kernel))
theorem d_MO_begins_19 : decode b_MO_begins 19 = .ok (.aload_n 0, 1) := dc_42 (q0_win (r := 19) wn_MO_begins_0 (by decide +kernel))
theorem d_MO_begins_20 : decode b_MO_begins 20 = .ok (.getfield 13, 3) := dc_180 (qU2_win (r := 20) wn_MO_begins_0 (by decide +kernel))
theorem d_MO_begins_23 : decode b_MO_begins 23 = .ok (.bipush 7, 2) := dc_16 (qS1_win (r := 23) wn_MO_begins_0 (by decide +kernel))
theorem d_MO_begins_25 : decode b_MO_begins 25 = .ok (.iaload, 1) := dc_46 (q0_win (r := 25) wn_MO_begins_0 (by decide +kernel))
theorem d_MO_begins_26 : decode b_MO_begins 26 = .ok (.iastore, 1) := dc_79 (q0_win (r := 26) wn_MO_begins_0 (by decide +kernel))
theorem d_MO_begins_27 : decode b_MO_begins 27 = .ok (.aload_n 0, 1) := dc_42 (q0_win (r := 27) wn_MO_begins_0 (by decide +kernel))
theorem d_MO_begins_28 : decode b_MO_begins 28 = .ok (.getfield 69, 3) := dc_180 (qU2_win (r := 28) wn_MO_begins_0 (by decide +kernel))
theorem d_MO_begins_31 : decode b_MO_begins 31 = .ok (.iconst 0, 1) := dc_3 (q0_win (r := 31) wn_MO_begins_0 (by decide +kernel))
theorem d_MO_begins_32 : decode b_MO_begins 32 = .ok (.lconst 0, 1) := dc_9 (q0_win (r := 32) wn_MO_begins_0 (by decide +kernel))
theorem d_MO_begins_33 : decode b_MO_begins 33 = .ok (.lastore, 1) := dc_80 (q0_win (r := 33) wn_MO_begins_0 (by decide +kernel))
theorem d_MO_begins_34 : decode b_MO_begins 34 = .ok (.aload_n 0, 1) := dc_42 (q0_win (r := 34) wn_MO_begins_0 (by decide +kernel))
theorem d_MO_begins_35 : decode b_MO_begins 35 = .ok (.getfield 73, 3) := dc_180 (qU2_win (r := 35) wn_MO_begins_0 (by decide +kernel))
theorem d_MO_begins_38 : decode b_MO_begins 38 = .ok (.iconst 0, 1) := dc_3 (q0_win (r := 38) wn_MO_begins_0 (by decide +kernel))
theorem d_MO_begins_39 : decode b_MO_begins 39 = .ok (.lconst 0, 1) := dc_9 (q0_win (r := 39) wn_MO_begins_0 (by decide +kernel))
theorem d_MO_begins_40 : decode b_MO_begins 40 = .ok (.lastore, 1) := dc_80 (q0_win (r := 40) wn_MO_begins_0 (by decide +kernel))
theorem d_MO_begins_41 : decode b_MO_begins 41 = .ok (.iconst 0, 1) := dc_3 (q0_win (r := 41) wn_MO_begins_0 (by decide +kernel))
theorem d_MO_begins_42 : decode b_MO_begins 42 = .ok (.istore_n 1, 1) := dc_60 (q0_win (r := 42) wn_MO_begins_0 (by decide +kernel))
theorem d_MO_begins_43 : decode b_MO_begins 43 = .ok (.iload_n 1, 1) := dc_27 (q0_win (r := 43) wn_MO_begins_0 (by decide +kernel))
theorem d_MO_begins_44 : decode b_MO_begins 44 = .ok (.iconst 4, 1) := dc_7 (q0_win (r := 44) wn_MO_begins_0 (by decide +kernel))
theorem d_MO_begins_45 : decode b_MO_begins 45 = .ok (.if_icmp .ge 35, 3) := dc_162 (qS2_win (r := 45) wn_MO_begins_0 (by decide +kernel))
theorem d_MO_begins_48 : decode b_MO_begins 48 = .ok (.aload_n 0, 1) := dc_42 (q0_win (r := 48) wn_MO_begins_0 (by decide +kernel))
theorem d_MO_begins_49 : decode b_MO_begins 49 = .ok (.getfield 76, 3) := dc_180 (qU2_win (r := 49) wn_MO_begins_0 (by decide +kernel))
theorem d_MO_begins_52 : decode b_MO_begins 52 = .ok (.iload_n 1, 1) := dc_27 (q0_win (r := 52) wn_MO_begins_0 (by decide +kernel))
theorem d_MO_begins_53 : decode b_MO_begins 53 = .ok (.iload_n 1, 1) := dc_27 (q0_win (r := 53) wn_MO_begins_0 (by decide +kernel))
theorem d_MO_begins_54 : decode b_MO_begins 54 = .ok (.aload_n 0, 1) := dc_42 (q0_win (r := 54) wn_MO_begins_0 (by decide +kernel))
theorem d_MO_begins_55 : decode b_MO_begins 55 = .ok (.getfield 13, 3) := dc_180 (qU2_win (r := 55) wn_MO_begins_0 (by decide +kernel))
theorem d_MO_begins_58 : decode b_MO_begins 58 = .ok (.iconst 2, 1) := dc_5 (q0_win (r := 58) wn_MO_begins_0 (by decide +kernel))
theorem d_MO_begins_59 : decode b_MO_begins 59 = .ok (.iaload, 1) := dc_46 (q0_win (r := 59) wn_MO_begins_0 (by decide +kernel))
theorem d_MO_begins_60 : decode b_MO_begins 60 = .ok (.if_icmp .ge 12, 3) := dc_162 (qS2_win (r := 60) wn_MO_begins_0 (by decide +kernel))
theorem d_MO_begins_63 : decode b_MO_begins 63 = .ok (.aload_n 0, 1) := dc_42 (q0_win (r := 63) wn_MO_begins_0 (by decide +kernel))
theorem d_MO_begins_64 : decode b_MO_begins 64 = .ok (.getfield 19, 3) := dc_180 (qU2_win (r := 64) wn_MO_begins_0 (by decide +kernel))
theorem d_MO_begins_67 : decode b_MO_begins 67 = .ok (.iload_n 1, 1) := dc_27 (q0_win (r := 67) wn_MO_begins_0 (by decide +kernel))
theorem d_MO_begins_68 : decode b_MO_begins 68 = .ok (.iaload, 1) := dc_46 (q0_win (r := 68) wn_MO_begins_0 (by decide +kernel))
theorem d_MO_begins_69 : decode b_MO_begins 69 = .ok (.goto 4, 3) := dc_167 (qS2_win (r := 69) wn_MO_begins_0 (by decide +kernel))
theorem d_MO_begins_72 : decode b_MO_begins 72 = .ok (.iconst 4, 1) := dc_7 (q0_win (r := 72) wn_MO_begins_0 (by decide +kernel))
theorem d_MO_begins_73 : decode b_MO_begins 73 = .ok (.iastore, 1) := dc_79 (q0_win (r := 73) wn_MO_begins_0 (by decide +kernel))
theorem d_MO_begins_74 : decode b_MO_begins 74 = .ok (.iinc 1 1, 3) := dc_132 (qI_win (r := 74) wn_MO_begins_0 (by decide +kernel))
theorem d_MO_begins_77 : decode b_MO_begins 77 = .ok (.goto (-34), 3) := dc_167 (qS2_win (r := 77) wn_MO_begins_0 (by decide +kernel))
theorem d_MO_begins_80 : decode b_MO_begins 80 = .ok (.iconst 0, 1) := dc_3 (q0_win (r := 80) wn_MO_begins_0 (by decide +kernel))
theorem d_MO_begins_81 : decode b_MO_begins 81 = .ok (.istore_n 1, 1) := dc_60 (q0_win (r := 81) wn_MO_begins_0 (by decide +kernel))
theorem d_MO_begins_82 : decode b_MO_begins 82 = .ok (.iload_n 1, 1) := dc_27 (q0_win (r := 82) wn_MO_begins_0 (by decide +kernel))
theorem d_MO_begins_83 : decode b_MO_begins 83 = .ok (.bipush 8, 2) := dc_16 (qS1_win (r := 83) wn_MO_begins_0 (by decide +kernel))
theorem d_MO_begins_85 : decode b_MO_begins 85 = .ok (.if_icmp .ge 50, 3) := dc_162 (qS2_win (r := 85) wn_MO_begins_0 (by decide +kernel))
theorem d_MO_begins_88 : decode b_MO_begins 88 = .ok (.aload_n 0, 1) := dc_42 (q0_win (r := 88) wn_MO_begins_0 (by decide +kernel))
theorem d_MO_begins_89 : decode b_MO_begins 89 = .ok (.getfield 79, 3) := dc_180 (qU2_win (r := 89) wn_MO_begins_0 (by decide +kernel))
theorem d_MO_begins_92 : decode b_MO_begins 92 = .ok (.iload_n 1, 1) := dc_27 (q0_win (r := 92) wn_MO_begins_0 (by decide +kernel))
theorem d_MO_begins_93 : decode b_MO_begins 93 = .ok (.iload_n 1, 1) := dc_27 (q0_win (r := 93) wn_MO_begins_0 (by decide +kernel))
theorem d_MO_begins_94 : decode b_MO_begins 94 = .ok (.aload_n 0, 1) := dc_42 (q0_win (r := 94) wn_MO_begins_0 (by decide +kernel))
theorem wn_MO_begins_95 : ∀ i, i < 41 → bA b_MO_begins (95 + i) = wB [180, 0, 13, 16, 6, 46, 162, 0, 12, 42, 180, 0, 41, 27, 46, 167, 0, 4, 2, 79, 42, 180, 0, 82, 27, 3, 79, 42, 180, 0, 85, 27, 3, 79, 132, 1, 1, 167, 255, 206, 177] i := wB_of (by decide +kernel)
theorem d_MO_begins_95 : decode b_MO_begins 95 = .ok (.getfield 13, 3) := dc_180 (qU2_win (r := 0) wn_MO_begins_95 (by decide +kernel))
theorem d_MO_begins_98 : decode b_MO_begins 98 = .ok (.bipush 6, 2) := dc_16 (qS1_win (r := 3) wn_MO_begins_95 (by decide +kernel))
theorem d_MO_begins_100 : decode b_MO_begins 100 = .ok (.iaload, 1) := dc_46 (q0_win (r := 5) wn_MO_begins_95 (by decide +kernel))
theorem d_MO_begins_101 : decode b_MO_begins 101 = .ok (.if_icmp .ge 12, 3) := dc_162 (qS2_win (r := 6) wn_MO_begins_95 (by decide +kernel))
theorem d_MO_begins_104 : decode b_MO_begins 104 = .ok (.aload_n 0, 1) := dc_42 (q0_win (r := 9) wn_MO_begins_95 (by decide +kernel))
theorem d_MO_begins_105 : decode b_MO_begins 105 = .ok (.getfield 41, 3) := dc_180 (qU2_win (r := 10) wn_MO_begins_95 (by decide +kernel))
theorem d_MO_begins_108 : decode b_MO_begins 108 = .ok (.iload_n 1, 1) := dc_27 (q0_win (r := 13) wn_MO_begins_95 (by decide +kernel))
theorem d_MO_begins_109 : decode b_MO_begins 109 = .ok (.iaload, 1) := dc_46 (q0_win (r := 14) wn_MO_begins_95 (by decide +kernel))
theorem d_MO_begins_110 : decode b_MO_begins 110 = .ok (.goto 4, 3) := dc_167 (qS2_win (r := 15) wn_MO_begins_95 (by decide +kernel))
theorem d_MO_begins_113 : decode b_MO_begins 113 = .ok (.iconst (-1), 1) := dc_2 (q0_win (r := 18) wn_MO_begins_95 (by decide +kernel))
theorem d_MO_begins_114 : decode b_MO_begins 114 = .ok (.iastore, 1) := dc_79 (q0_win (r := 19) wn_MO_begins_95 (by decide +kernel))
theorem d_MO_begins_115 : decode b_MO_begins 115 = .ok (.aload_n 0, 1) := dc_42 (q0_win (r := 20) wn_MO_begins_95 (by decide +kernel))
theorem d_MO_begins_116 : decode b_MO_begins 116 = .ok (.getfield 82, 3) := dc_180 (qU2_win (r := 21) wn_MO_begins_95 (by decide +kernel))
theorem d_MO_begins_119 : decode b_MO_begins 119 = .ok (.iload_n 1, 1) := dc_27 (q0_win (r := 24) wn_MO_begins_95 (by decide +kernel))
theorem d_MO_begins_120 : decode b_MO_begins 120 = .ok (.iconst 0, 1) := dc_3 (q0_win (r := 25) wn_MO_begins_95 (by decide +kernel))
theorem d_MO_begins_121 : decode b_MO_begins 121 = .ok (.iastore, 1) := dc_79 (q0_win (r := 26) wn_MO_begins_95 (by decide +kernel))
theorem d_MO_begins_122 : decode b_MO_begins 122 = .ok (.aload_n 0, 1) := dc_42 (q0_win (r := 27) wn_MO_begins_95 (by decide +kernel))
theorem d_MO_begins_123 : decode b_MO_begins 123 = .ok (.getfield 85, 3) := dc_180 (qU2_win (r := 28) wn_MO_begins_95 (by decide +kernel))
theorem d_MO_begins_126 : decode b_MO_begins 126 = .ok (.iload_n 1, 1) := dc_27 (q0_win (r := 31) wn_MO_begins_95 (by decide +kernel))
theorem d_MO_begins_127 : decode b_MO_begins 127 = .ok (.iconst 0, 1) := dc_3 (q0_win (r := 32) wn_MO_begins_95 (by decide +kernel))
theorem d_MO_begins_128 : decode b_MO_begins 128 = .ok (.iastore, 1) := dc_79 (q0_win (r := 33) wn_MO_begins_95 (by decide +kernel))
theorem d_MO_begins_129 : decode b_MO_begins 129 = .ok (.iinc 1 1, 3) := dc_132 (qI_win (r := 34) wn_MO_begins_95 (by decide +kernel))
theorem d_MO_begins_132 : decode b_MO_begins 132 = .ok (.goto (-50), 3) := dc_167 (qS2_win (r := 37) wn_MO_begins_95 (by decide +kernel))
theorem d_MO_begins_135 : decode b_MO_begins 135 = .ok (.return_, 1) := dc_177 (q0_win (r := 40) wn_MO_begins_95 (by decide +kernel))
def t_MO_begins_L73  (bk43 : Mem → Int → Option (Mem)) (M : Mem) (v1_ : Int) (v3_ : Int) (v4_ : Int) : Option (Mem) := (qguard (0 ≤ v3_ ∧ v3_ < 92) (qlet (setI M 212 v3_ v4_) fun M18 => (bk43 M18 (w32 (v1_ + 1)))))
def t_MO_begins_L114  (bk82 : Mem → Int → Option (Mem)) (M : Mem) (v1_ : Int) (v3_ : Int) (v4_ : Int) : Option (Mem) := (qguard (0 ≤ v3_ ∧ v3_ < 184) (qlet (setI M 213 v3_ v4_) fun M20 => (qguard (0 ≤ v1_ ∧ v1_ < 184) (qlet (setI M20 214 v1_ 0) fun M22 => (qguard (0 ≤ v1_ ∧ v1_ < 184) (qlet (setI M22 215 v1_ 0) fun M24 => (bk82 M24 (w32 (v1_ + 1)))))))))
def t_MO_begins_L82   : Nat → Mem → Int → Option (Mem)
  | 0, _, _ => none
  | fu + 1, M, v1_ => (if 8 ≤ v1_ then (some M) else (if (M.1 193 6) ≤ v1_ then (t_MO_begins_L114 (fun a0_ a1_ => t_MO_begins_L82 fu a0_ a1_) M v1_ v1_ (-1)) else (qguard (0 ≤ v1_ ∧ v1_ < 16) (t_MO_begins_L114 (fun a0_ a1_ => t_MO_begins_L82 fu a0_ a1_) M v1_ v1_ (M.1 202 v1_)))))
def t_MO_begins_L43   : Nat → Mem → Int → Option (Mem)
  | 0, _, _ => none
  | fu + 1, M, v1_ => (if 4 ≤ v1_ then (t_MO_begins_L82 FU M 0) else (if (M.1 193 2) ≤ v1_ then (t_MO_begins_L73 (fun a0_ a1_ => t_MO_begins_L43 fu a0_ a1_) M v1_ v1_ 4) else (qguard (0 ≤ v1_ ∧ v1_ < 8) (t_MO_begins_L73 (fun a0_ a1_ => t_MO_begins_L43 fu a0_ a1_) M v1_ v1_ (M.1 195 v1_)))))
def t_MO_begins (M : Mem)  : Option (Mem) := (qlet (setI M 207 0 0) fun M1 => (qlet (setI M1 208 0 0) fun M2 => (qlet (setI M2 209 0 (M2.1 193 7)) fun M4 => (qlet (setL M4 210 0 0) fun M5 => (qlet (setL M5 211 0 0) fun M6 => (t_MO_begins_L43 FU M6 0))))))
set_option maxHeartbeats 4000000 in
set_option maxRecDepth 100000 in
theorem k_MO_begins_L73 (l : Launch) {p : Program} {e : Env} {s : State} {m : MethodId} {below : List Frame} {meth : Method} {c : Code} {b n : Nat} {C : CT} (hlo : 231 ≤ n)   (F : Cx b p m c b_MO_begins 2 s ([.ref (b + 191)] : List Value).toArray "WardFallsModel" C n 231) (hlk : meth.locks = false) (hr : meth.sig.returnType = none) {res : Mem} (bk43 : Mem → Int → Option (Mem)) (hbk43 : ∀ (M : Mem) (v1_ : Int) (hv1_ : InR v1_) (H : Heap) (locs : List Loc) (ls : Array Slot), St b C n M s H locs → lv_has ls 2 [(0, .ref (b + 191)), (1, vI v1_)] → bk43 M v1_ = some res → W p l e (headSpec (wsM y_MO_begins b_MO_begins 2 (none)) (rmD 0)).room s m ([.ref (b + 191)] : List Value).toArray below meth c H locs 0 0 (MQ below (QV b C n res) ([.ref (b + 191)] : List Value).toArray s 0 0 (frb b)) (F0 m 43 ls [])) (M : Mem) (v1_ : Int) (hv1_ : InR v1_) (v3_ : Int) (hv3_ : InR v3_) (v4_ : Int) (hv4_ : InR v4_) (H : Heap) (locs : List Loc) (ls : Array Slot) (hS : St b C n M s H locs) (hl : lv_has ls 2 [(0, .ref (b + 191)), (1, vI v1_)]) (hT : t_MO_begins_L73 bk43 M v1_ v3_ v4_ = some res) : W p l e (headSpec (wsM y_MO_begins b_MO_begins 2 (none)) (rmD 0)).room s m ([.ref (b + 191)] : List Value).toArray below meth c H locs 0 0 (MQ below (QV b C n res) ([.ref (b + 191)] : List Value).toArray s 0 0 (frb b)) (F0 m 73 ls [vI v4_, vI v3_, .ref (b + 212)]) := by
  unfold t_MO_begins_L73 at hT
  obtain ⟨⟨g17a, g17b⟩, hT⟩ := q_guard hT
  refine r_iast F hS (show 212 < 231 by decide) (show shK 212 = 0 from rfl) (show shN 212 = 92 from rfl) hv3_ hv4_ g17a g17b d_MO_begins_73 (fun H locs hS => ?_)
  obtain ⟨M18, eM18⟩ : ∃ q, q = (setI M 212 v3_ v4_) := ⟨_, rfl⟩
  replace hS : St b C n M18 s H locs := by rw [eM18]; exact hS
  replace hT := qlet_eq hT eM18
  refine lv_iinc (v := Int32.ofInt (w32 (v1_ + 1))) (lv' := [(1, vI (w32 (v1_ + 1))), (0, .ref (b + 191))]) F.hx F.hb d_MO_begins_74 hl (k := 1) rfl (q_of_add _ _) (Nat.le_of_ble_eq_true rfl) rfl (fun ls hl => ?_)
  refine lv_goto (tgt := 43) F.hx F.hb d_MO_begins_77 (by decide) ?_
  exact hbk43 M18 (w32 (v1_ + 1)) (inr_w32 _) _ _ _ hS (lv_sub hl [1, 0] rfl) hT
set_option maxHeartbeats 4000000 in
set_option maxRecDepth 100000 in
theorem k_MO_begins_L114 (l : Launch) {p : Program} {e : Env} {s : State} {m : MethodId} {below : List Frame} {meth : Method} {c : Code} {b n : Nat} {C : CT} (hlo : 231 ≤ n)   (F : Cx b p m c b_MO_begins 2 s ([.ref (b + 191)] : List Value).toArray "WardFallsModel" C n 231) (hlk : meth.locks = false) (hr : meth.sig.returnType = none) {res : Mem} (bk82 : Mem → Int → Option (Mem)) (hbk82 : ∀ (M : Mem) (v1_ : Int) (hv1_ : InR v1_) (H : Heap) (locs : List Loc) (ls : Array Slot), St b C n M s H locs → lv_has ls 2 [(0, .ref (b + 191)), (1, vI v1_)] → bk82 M v1_ = some res → W p l e (headSpec (wsM y_MO_begins b_MO_begins 2 (none)) (rmD 0)).room s m ([.ref (b + 191)] : List Value).toArray below meth c H locs 0 0 (MQ below (QV b C n res) ([.ref (b + 191)] : List Value).toArray s 0 0 (frb b)) (F0 m 82 ls [])) (M : Mem) (v1_ : Int) (hv1_ : InR v1_) (v3_ : Int) (hv3_ : InR v3_) (v4_ : Int) (hv4_ : InR v4_) (H : Heap) (locs : List Loc) (ls : Array Slot) (hS : St b C n M s H locs) (hl : lv_has ls 2 [(0, .ref (b + 191)), (1, vI v1_)]) (hT : t_MO_begins_L114 bk82 M v1_ v3_ v4_ = some res) : W p l e (headSpec (wsM y_MO_begins b_MO_begins 2 (none)) (rmD 0)).room s m ([.ref (b + 191)] : List Value).toArray below meth c H locs 0 0 (MQ below (QV b C n res) ([.ref (b + 191)] : List Value).toArray s 0 0 (frb b)) (F0 m 114 ls [vI v4_, vI v3_, .ref (b + 213)]) := by
  unfold t_MO_begins_L114 at hT
  obtain ⟨⟨g19a, g19b⟩, hT⟩ := q_guard hT
  refine r_iast F hS (show 213 < 231 by decide) (show shK 213 = 0 from rfl) (show shN 213 = 184 from rfl) hv3_ hv4_ g19a g19b d_MO_begins_114 (fun H locs hS => ?_)
  obtain ⟨M20, eM20⟩ : ∃ q, q = (setI M 213 v3_ v4_) := ⟨_, rfl⟩
  replace hS : St b C n M20 s H locs := by rw [eM20]; exact hS
  replace hT := qlet_eq hT eM20
  refine lv_aload_n F.hx F.hb d_MO_begins_115 rfl (lv_at hl 0 rfl) ?_
  refine r_get (v := .ref (b + 214)) (N := 68) (T := T1) (j := 37) F hS (show 191 < 231 by decide) (show shK 191 = 5 from rfl) (show shN 191 = 68 from rfl) rfl (Nat.le_of_ble_eq_true rfl) ing1 mw_1426 (fv_sg rfl rfl rfl) d_MO_begins_116 ?_
  refine lv_iload_n F.hx F.hb d_MO_begins_119 rfl (lv_at hl 1 rfl) ?_
  refine r_iconst F.hx F.hb d_MO_begins_120 ?_
  obtain ⟨⟨g21a, g21b⟩, hT⟩ := q_guard hT
  refine r_iast F hS (show 214 < 231 by decide) (show shK 214 = 0 from rfl) (show shN 214 = 184 from rfl) hv1_ (inr_c rfl) g21a g21b d_MO_begins_121 (fun H locs hS => ?_)
  obtain ⟨M22, eM22⟩ : ∃ q, q = (setI M20 214 v1_ 0) := ⟨_, rfl⟩
  replace hS : St b C n M22 s H locs := by rw [eM22]; exact hS
  replace hT := qlet_eq hT eM22
  refine lv_aload_n F.hx F.hb d_MO_begins_122 rfl (lv_at hl 0 rfl) ?_
  refine r_get (v := .ref (b + 215)) (N := 68) (T := T1) (j := 38) F hS (show 191 < 231 by decide) (show shK 191 = 5 from rfl) (show shN 191 = 68 from rfl) rfl (Nat.le_of_ble_eq_true rfl) ing1 mw_1427 (fv_sg rfl rfl rfl) d_MO_begins_123 ?_
  refine lv_iload_n F.hx F.hb d_MO_begins_126 rfl (lv_at hl 1 rfl) ?_
  refine r_iconst F.hx F.hb d_MO_begins_127 ?_
  obtain ⟨⟨g23a, g23b⟩, hT⟩ := q_guard hT
  refine r_iast F hS (show 215 < 231 by decide) (show shK 215 = 0 from rfl) (show shN 215 = 184 from rfl) hv1_ (inr_c rfl) g23a g23b d_MO_begins_128 (fun H locs hS => ?_)
  obtain ⟨M24, eM24⟩ : ∃ q, q = (setI M22 215 v1_ 0) := ⟨_, rfl⟩
  replace hS : St b C n M24 s H locs := by rw [eM24]; exact hS
  replace hT := qlet_eq hT eM24
  refine lv_iinc (v := Int32.ofInt (w32 (v1_ + 1))) (lv' := [(1, vI (w32 (v1_ + 1))), (0, .ref (b + 191))]) F.hx F.hb d_MO_begins_129 hl (k := 1) rfl (q_of_add _ _) (Nat.le_of_ble_eq_true rfl) rfl (fun ls hl => ?_)
  refine lv_goto (tgt := 82) F.hx F.hb d_MO_begins_132 (by decide) ?_
  exact hbk82 M24 (w32 (v1_ + 1)) (inr_w32 _) _ _ _ hS (lv_sub hl [1, 0] rfl) hT
set_option maxHeartbeats 4000000 in
set_option maxRecDepth 100000 in
theorem k_MO_begins_L82 (l : Launch) {p : Program} {e : Env} {s : State} {m : MethodId} {below : List Frame} {meth : Method} {c : Code} {b n : Nat} {C : CT} (hlo : 231 ≤ n)   (F : Cx b p m c b_MO_begins 2 s ([.ref (b + 191)] : List Value).toArray "WardFallsModel" C n 231) (hlk : meth.locks = false) (hr : meth.sig.returnType = none) {res : Mem} : ∀ (fu : Nat) (M : Mem) (v1_ : Int) (hv1_ : InR v1_) (H : Heap) (locs : List Loc) (ls : Array Slot), St b C n M s H locs → lv_has ls 2 [(0, .ref (b + 191)), (1, vI v1_)] → t_MO_begins_L82 fu M v1_ = some res → W p l e (headSpec (wsM y_MO_begins b_MO_begins 2 (none)) (rmD 0)).room s m ([.ref (b + 191)] : List Value).toArray below meth c H locs 0 0 (MQ below (QV b C n res) ([.ref (b + 191)] : List Value).toArray s 0 0 (frb b)) (F0 m 82 ls []) := by
  intro fu
  induction fu with
  | zero => intro M v1_ hv1_ H locs ls hS hl hT; exact absurd hT (by simp [t_MO_begins_L82])
  | succ fu ih =>
    intro M v1_ hv1_ H locs ls hS hl hT
    rw [t_MO_begins_L82] at hT
    refine lv_iload_n F.hx F.hb d_MO_begins_82 rfl (lv_at hl 1 rfl) ?_
    refine r_bipush F.hx F.hb d_MO_begins_83 rfl ?_
    refine r_icmp_ge (tgt := 135) F.hx F.hb hv1_ (inr_c rfl) d_MO_begins_85 (by decide) (fun c12 => ?_) (fun c12 => ?_)
    · replace hT := (if_pos c12).symm.trans hT
      cases hT
      exact r_vret F hlk hr hS d_MO_begins_135
    · replace hT := (if_neg c12).symm.trans hT
      refine lv_aload_n F.hx F.hb d_MO_begins_88 rfl (lv_at hl 0 rfl) ?_
      refine r_get (v := .ref (b + 213)) (N := 68) (T := T1) (j := 36) F hS (show 191 < 231 by decide) (show shK 191 = 5 from rfl) (show shN 191 = 68 from rfl) rfl (Nat.le_of_ble_eq_true rfl) ing1 mw_1425 (fv_sg rfl rfl rfl) d_MO_begins_89 ?_
      refine lv_iload_n F.hx F.hb d_MO_begins_92 rfl (lv_at hl 1 rfl) ?_
      refine lv_iload_n F.hx F.hb d_MO_begins_93 rfl (lv_at hl 1 rfl) ?_
      refine lv_aload_n F.hx F.hb d_MO_begins_94 rfl (lv_at hl 0 rfl) ?_
      refine r_get (v := .ref (b + 193)) (N := 68) (T := T1) (j := 3) F hS (show 191 < 231 by decide) (show shK 191 = 5 from rfl) (show shN 191 = 68 from rfl) rfl (Nat.le_of_ble_eq_true rfl) ing1 mw_1392 (fv_sg rfl rfl rfl) d_MO_begins_95 ?_
      refine r_bipush F.hx F.hb d_MO_begins_98 rfl ?_
      refine r_iald F hS (show 193 < 231 by decide) (show shK 193 = 0 from rfl) (show shN 193 = 18 from rfl) (inr_c rfl) (by omega) (by omega) d_MO_begins_100 ?_
      have i13 := hS.rng 193 6
      refine r_icmp_ge (tgt := 113) F.hx F.hb hv1_ i13 d_MO_begins_101 (by decide) (fun c14 => ?_) (fun c14 => ?_)
      · replace hT := (if_pos c14).symm.trans hT
        refine r_iconst F.hx F.hb d_MO_begins_113 ?_
        exact k_MO_begins_L114 l hlo F hlk hr (fun a0_ a1_ => t_MO_begins_L82 fu a0_ a1_) ih M v1_ hv1_ v1_ hv1_ (-1) (inr_c rfl) _ _ _ hS (lv_sub hl [0, 1] rfl) hT
      · replace hT := (if_neg c14).symm.trans hT
        refine lv_aload_n F.hx F.hb d_MO_begins_104 rfl (lv_at hl 0 rfl) ?_
        refine r_get (v := .ref (b + 202)) (N := 68) (T := T1) (j := 12) F hS (show 191 < 231 by decide) (show shK 191 = 5 from rfl) (show shN 191 = 68 from rfl) rfl (Nat.le_of_ble_eq_true rfl) ing1 mw_1401 (fv_sg rfl rfl rfl) d_MO_begins_105 ?_
        refine lv_iload_n F.hx F.hb d_MO_begins_108 rfl (lv_at hl 1 rfl) ?_
        obtain ⟨⟨g15a, g15b⟩, hT⟩ := q_guard hT
        refine r_iald F hS (show 202 < 231 by decide) (show shK 202 = 0 from rfl) (show shN 202 = 16 from rfl) hv1_ g15a g15b d_MO_begins_109 ?_
        have i16 := hS.rng 202 v1_
        refine lv_goto (tgt := 114) F.hx F.hb d_MO_begins_110 (by decide) ?_
        exact k_MO_begins_L114 l hlo F hlk hr (fun a0_ a1_ => t_MO_begins_L82 fu a0_ a1_) ih M v1_ hv1_ v1_ hv1_ (M.1 202 v1_) i16 _ _ _ hS (lv_sub hl [0, 1] rfl) hT
set_option maxHeartbeats 4000000 in
set_option maxRecDepth 100000 in
theorem k_MO_begins_L43 (l : Launch) {p : Program} {e : Env} {s : State} {m : MethodId} {below : List Frame} {meth : Method} {c : Code} {b n : Nat} {C : CT} (hlo : 231 ≤ n)   (F : Cx b p m c b_MO_begins 2 s ([.ref (b + 191)] : List Value).toArray "WardFallsModel" C n 231) (hlk : meth.locks = false) (hr : meth.sig.returnType = none) {res : Mem} : ∀ (fu : Nat) (M : Mem) (v1_ : Int) (hv1_ : InR v1_) (H : Heap) (locs : List Loc) (ls : Array Slot), St b C n M s H locs → lv_has ls 2 [(0, .ref (b + 191)), (1, vI v1_)] → t_MO_begins_L43 fu M v1_ = some res → W p l e (headSpec (wsM y_MO_begins b_MO_begins 2 (none)) (rmD 0)).room s m ([.ref (b + 191)] : List Value).toArray below meth c H locs 0 0 (MQ below (QV b C n res) ([.ref (b + 191)] : List Value).toArray s 0 0 (frb b)) (F0 m 43 ls []) := by
  intro fu
  induction fu with
  | zero => intro M v1_ hv1_ H locs ls hS hl hT; exact absurd hT (by simp [t_MO_begins_L43])
  | succ fu ih =>
    intro M v1_ hv1_ H locs ls hS hl hT
    rw [t_MO_begins_L43] at hT
    refine lv_iload_n F.hx F.hb d_MO_begins_43 rfl (lv_at hl 1 rfl) ?_
    refine r_iconst F.hx F.hb d_MO_begins_44 ?_
    refine r_icmp_ge (tgt := 80) F.hx F.hb hv1_ (inr_c rfl) d_MO_begins_45 (by decide) (fun c7 => ?_) (fun c7 => ?_)
    · replace hT := (if_pos c7).symm.trans hT
      refine r_iconst F.hx F.hb d_MO_begins_80 ?_
      refine lv_istore_n (lv' := [(1, vI 0), (0, .ref (b + 191))]) F.hx F.hb d_MO_begins_81 rfl hl (Nat.le_of_ble_eq_true rfl) rfl (fun ls hl => ?_)
      exact k_MO_begins_L82 l hlo F hlk hr FU M 0 (inr_c rfl) _ _ _ hS (lv_sub hl [1, 0] rfl) hT
    · replace hT := (if_neg c7).symm.trans hT
      refine lv_aload_n F.hx F.hb d_MO_begins_48 rfl (lv_at hl 0 rfl) ?_
      refine r_get (v := .ref (b + 212)) (N := 68) (T := T1) (j := 35) F hS (show 191 < 231 by decide) (show shK 191 = 5 from rfl) (show shN 191 = 68 from rfl) rfl (Nat.le_of_ble_eq_true rfl) ing1 mw_1424 (fv_sg rfl rfl rfl) d_MO_begins_49 ?_
      refine lv_iload_n F.hx F.hb d_MO_begins_52 rfl (lv_at hl 1 rfl) ?_
      refine lv_iload_n F.hx F.hb d_MO_begins_53 rfl (lv_at hl 1 rfl) ?_
      refine lv_aload_n F.hx F.hb d_MO_begins_54 rfl (lv_at hl 0 rfl) ?_
      refine r_get (v := .ref (b + 193)) (N := 68) (T := T1) (j := 3) F hS (show 191 < 231 by decide) (show shK 191 = 5 from rfl) (show shN 191 = 68 from rfl) rfl (Nat.le_of_ble_eq_true rfl) ing1 mw_1392 (fv_sg rfl rfl rfl) d_MO_begins_55 ?_
      refine r_iconst F.hx F.hb d_MO_begins_58 ?_
      refine r_iald F hS (show 193 < 231 by decide) (show shK 193 = 0 from rfl) (show shN 193 = 18 from rfl) (inr_c rfl) (by omega) (by omega) d_MO_begins_59 ?_
      have i8 := hS.rng 193 2
      refine r_icmp_ge (tgt := 72) F.hx F.hb hv1_ i8 d_MO_begins_60 (by decide) (fun c9 => ?_) (fun c9 => ?_)
      · replace hT := (if_pos c9).symm.trans hT
        refine r_iconst F.hx F.hb d_MO_begins_72 ?_
        exact k_MO_begins_L73 l hlo F hlk hr (fun a0_ a1_ => t_MO_begins_L43 fu a0_ a1_) ih M v1_ hv1_ v1_ hv1_ 4 (inr_c rfl) _ _ _ hS (lv_sub hl [0, 1] rfl) hT
      · replace hT := (if_neg c9).symm.trans hT
        refine lv_aload_n F.hx F.hb d_MO_begins_63 rfl (lv_at hl 0 rfl) ?_
        refine r_get (v := .ref (b + 195)) (N := 68) (T := T1) (j := 5) F hS (show 191 < 231 by decide) (show shK 191 = 5 from rfl) (show shN 191 = 68 from rfl) rfl (Nat.le_of_ble_eq_true rfl) ing1 mw_1394 (fv_sg rfl rfl rfl) d_MO_begins_64 ?_
        refine lv_iload_n F.hx F.hb d_MO_begins_67 rfl (lv_at hl 1 rfl) ?_
        obtain ⟨⟨g10a, g10b⟩, hT⟩ := q_guard hT
        refine r_iald F hS (show 195 < 231 by decide) (show shK 195 = 0 from rfl) (show shN 195 = 8 from rfl) hv1_ g10a g10b d_MO_begins_68 ?_
        have i11 := hS.rng 195 v1_
        refine lv_goto (tgt := 73) F.hx F.hb d_MO_begins_69 (by decide) ?_
        exact k_MO_begins_L73 l hlo F hlk hr (fun a0_ a1_ => t_MO_begins_L43 fu a0_ a1_) ih M v1_ hv1_ v1_ hv1_ (M.1 195 v1_) i11 _ _ _ hS (lv_sub hl [0, 1] rfl) hT
set_option maxHeartbeats 4000000 in
set_option maxRecDepth 100000 in
theorem c_MO_begins (l : Launch) {b n : Nat} {C : CT} (hlo : 231 ≤ n) (M : Mem)   (res : Mem) (hT : t_MO_begins M  = some res) : CM l b C n 0 y_MO_begins b_MO_begins 2 (none) [.ref (b + 191)] M (QV b C n res) := by
  refine CM.of (lo := 231) (ow := "WardFallsModel") (by decide) rfl (Nat.le_of_ble_eq_true rfl) hlo (fun p e s m below meth c F hlk hr hS ls hl => ?_)
  have hl : lv_has ls 2 [(0, .ref (b + 191))] := hl
  unfold t_MO_begins at hT
  refine lv_aload_n F.hx F.hb d_MO_begins_0 rfl (lv_at hl 0 rfl) ?_
  refine r_get (v := .ref (b + 207)) (N := 68) (T := T1) (j := 30) F hS (show 191 < 231 by decide) (show shK 191 = 5 from rfl) (show shN 191 = 68 from rfl) rfl (Nat.le_of_ble_eq_true rfl) ing1 mw_1419 (fv_sg rfl rfl rfl) d_MO_begins_1 ?_
  refine r_iconst F.hx F.hb d_MO_begins_4 ?_
  refine r_iconst F.hx F.hb d_MO_begins_5 ?_
  refine r_iast F hS (show 207 < 231 by decide) (show shK 207 = 0 from rfl) (show shN 207 = 23 from rfl) (inr_c rfl) (inr_c rfl) (by omega) (by omega) d_MO_begins_6 (fun H locs hS => ?_)
  obtain ⟨M1, eM1⟩ : ∃ q, q = (setI M 207 0 0) := ⟨_, rfl⟩
  replace hS : St b C n M1 s H locs := by rw [eM1]; exact hS
  replace hT := qlet_eq hT eM1
  refine lv_aload_n F.hx F.hb d_MO_begins_7 rfl (lv_at hl 0 rfl) ?_
  refine r_get (v := .ref (b + 208)) (N := 68) (T := T1) (j := 31) F hS (show 191 < 231 by decide) (show shK 191 = 5 from rfl) (show shN 191 = 68 from rfl) rfl (Nat.le_of_ble_eq_true rfl) ing1 mw_1420 (fv_sg rfl rfl rfl) d_MO_begins_8 ?_
  refine r_iconst F.hx F.hb d_MO_begins_11 ?_
  refine r_iconst F.hx F.hb d_MO_begins_12 ?_
  refine r_iast F hS (show 208 < 231 by decide) (show shK 208 = 0 from rfl) (show shN 208 = 23 from rfl) (inr_c rfl) (inr_c rfl) (by omega) (by omega) d_MO_begins_13 (fun H locs hS => ?_)
  obtain ⟨M2, eM2⟩ : ∃ q, q = (setI M1 208 0 0) := ⟨_, rfl⟩
  replace hS : St b C n M2 s H locs := by rw [eM2]; exact hS
  replace hT := qlet_eq hT eM2
  refine lv_aload_n F.hx F.hb d_MO_begins_14 rfl (lv_at hl 0 rfl) ?_
  refine r_get (v := .ref (b + 209)) (N := 68) (T := T1) (j := 32) F hS (show 191 < 231 by decide) (show shK 191 = 5 from rfl) (show shN 191 = 68 from rfl) rfl (Nat.le_of_ble_eq_true rfl) ing1 mw_1421 (fv_sg rfl rfl rfl) d_MO_begins_15 ?_
  refine r_iconst F.hx F.hb d_MO_begins_18 ?_
  refine lv_aload_n F.hx F.hb d_MO_begins_19 rfl (lv_at hl 0 rfl) ?_
  refine r_get (v := .ref (b + 193)) (N := 68) (T := T1) (j := 3) F hS (show 191 < 231 by decide) (show shK 191 = 5 from rfl) (show shN 191 = 68 from rfl) rfl (Nat.le_of_ble_eq_true rfl) ing1 mw_1392 (fv_sg rfl rfl rfl) d_MO_begins_20 ?_
  refine r_bipush F.hx F.hb d_MO_begins_23 rfl ?_
  refine r_iald F hS (show 193 < 231 by decide) (show shK 193 = 0 from rfl) (show shN 193 = 18 from rfl) (inr_c rfl) (by omega) (by omega) d_MO_begins_25 ?_
  have i3 := hS.rng 193 7
  refine r_iast F hS (show 209 < 231 by decide) (show shK 209 = 0 from rfl) (show shN 209 = 23 from rfl) (inr_c rfl) i3 (by omega) (by omega) d_MO_begins_26 (fun H locs hS => ?_)
  obtain ⟨M4, eM4⟩ : ∃ q, q = (setI M2 209 0 (M2.1 193 7)) := ⟨_, rfl⟩
  replace hS : St b C n M4 s H locs := by rw [eM4]; exact hS
  replace hT := qlet_eq hT eM4
  refine lv_aload_n F.hx F.hb d_MO_begins_27 rfl (lv_at hl 0 rfl) ?_
  refine r_get (v := .ref (b + 210)) (N := 68) (T := T1) (j := 33) F hS (show 191 < 231 by decide) (show shK 191 = 5 from rfl) (show shN 191 = 68 from rfl) rfl (Nat.le_of_ble_eq_true rfl) ing1 mw_1422 (fv_sg rfl rfl rfl) d_MO_begins_28 ?_
  refine r_iconst F.hx F.hb d_MO_begins_31 ?_
  refine lv_lconst (v := 0) F.hx F.hb d_MO_begins_32 rfl ?_
  refine r_last F hS (show 210 < 231 by decide) (show shK 210 = 2 from rfl) (show shN 210 = 23 from rfl) (inr_c rfl) (by omega) (by omega) d_MO_begins_33 (fun H locs hS => ?_)
  obtain ⟨M5, eM5⟩ : ∃ q, q = (setL M4 210 0 0) := ⟨_, rfl⟩
  replace hS : St b C n M5 s H locs := by rw [eM5]; exact hS
  replace hT := qlet_eq hT eM5
  refine lv_aload_n F.hx F.hb d_MO_begins_34 rfl (lv_at hl 0 rfl) ?_
  refine r_get (v := .ref (b + 211)) (N := 68) (T := T1) (j := 34) F hS (show 191 < 231 by decide) (show shK 191 = 5 from rfl) (show shN 191 = 68 from rfl) rfl (Nat.le_of_ble_eq_true rfl) ing1 mw_1423 (fv_sg rfl rfl rfl) d_MO_begins_35 ?_
  refine r_iconst F.hx F.hb d_MO_begins_38 ?_
  refine lv_lconst (v := 0) F.hx F.hb d_MO_begins_39 rfl ?_
  refine r_last F hS (show 211 < 231 by decide) (show shK 211 = 2 from rfl) (show shN 211 = 23 from rfl) (inr_c rfl) (by omega) (by omega) d_MO_begins_40 (fun H locs hS => ?_)
  obtain ⟨M6, eM6⟩ : ∃ q, q = (setL M5 211 0 0) := ⟨_, rfl⟩
  replace hS : St b C n M6 s H locs := by rw [eM6]; exact hS
  replace hT := qlet_eq hT eM6
  refine r_iconst F.hx F.hb d_MO_begins_41 ?_
  refine lv_istore_n (lv' := [(1, vI 0), (0, .ref (b + 191))]) F.hx F.hb d_MO_begins_42 rfl hl (Nat.le_of_ble_eq_true rfl) rfl (fun ls hl => ?_)
  exact k_MO_begins_L43 l hlo F hlk hr FU M6 0 (inr_c rfl) _ _ _ hS (lv_sub hl [1, 0] rfl) hT
