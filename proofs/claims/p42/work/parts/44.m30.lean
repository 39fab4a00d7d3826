theorem wn_WF_cell_0 : ∀ i, i < 22 → bA b_WF_cell (0 + i) = wB [42, 180, 0, 22, 27, 182, 0, 150, 154, 0, 13, 187, 0, 154, 89, 18, 156, 183, 0, 158, 191, 28] i := wB_of (by decide +kernel)
theorem d_WF_cell_0 : decode b_WF_cell 0 = .ok (.aload_n 0, 1) := dc_42 (q0_win (r := 0) wn_WF_cell_0 (by decide +kernel))
theorem d_WF_cell_1 : decode b_WF_cell 1 = .ok (.getfield 22, 3) := dc_180 (qU2_win (r := 1) wn_WF_cell_0 (by decide +kernel))
theorem d_WF_cell_4 : decode b_WF_cell 4 = .ok (.iload_n 1, 1) := dc_27 (q0_win (r := 4) wn_WF_cell_0 (by decide +kernel))
theorem d_WF_cell_5 : decode b_WF_cell 5 = .ok (.invokevirtual 150, 3) := dc_182 (qU2_win (r := 5) wn_WF_cell_0 (by decide +kernel))
theorem d_WF_cell_8 : decode b_WF_cell 8 = .ok (.ifCond .ne 13, 3) := dc_154 (qS2_win (r := 8) wn_WF_cell_0 (by decide +kernel))
theorem d_WF_cell_11 : decode b_WF_cell 11 = .ok (.new 154, 3) := dc_187 (qU2_win (r := 11) wn_WF_cell_0 (by decide +kernel))
theorem d_WF_cell_14 : decode b_WF_cell 14 = .ok (.dup, 1) := dc_89 (q0_win (r := 14) wn_WF_cell_0 (by decide +kernel))
theorem d_WF_cell_15 : decode b_WF_cell 15 = .ok (.ldc 156, 2) := dc_18 (qU1_win (r := 15) wn_WF_cell_0 (by decide +kernel))
theorem d_WF_cell_17 : decode b_WF_cell 17 = .ok (.invokespecial 158, 3) := dc_183 (qU2_win (r := 17) wn_WF_cell_0 (by decide +kernel))
theorem d_WF_cell_20 : decode b_WF_cell 20 = .ok (.athrow, 1) := dc_191 (q0_win (r := 20) wn_WF_cell_0 (by decide +kernel))
theorem d_WF_cell_21 : decode b_WF_cell 21 = .ok (.iload_n 2, 1) := dc_28 (q0_win (r := 21) wn_WF_cell_0 (by decide +kernel))
theorem d_WF_cell_22 : decode b_WF_cell 22 = .ok (.tableswitch 150 0 7 #[46, 55, 67, 79, 91, 103, 116, 129], 46) := by decide +kernel
theorem wn_WF_cell_68 : ∀ i, i < 95 → bA b_WF_cell (68 + i) = wB [42, 180, 0, 22, 27, 182, 0, 161, 172, 42, 180, 0, 46, 180, 0, 165, 27, 184, 0, 169, 172, 42, 180, 0, 22, 180, 0, 173, 27, 184, 0, 169, 172, 42, 180, 0, 46, 180, 0, 176, 27, 184, 0, 169, 172, 42, 180, 0, 46, 180, 0, 179, 27, 184, 0, 169, 172, 42, 180, 0, 46, 42, 180, 0, 22, 27, 182, 0, 182, 172, 42, 180, 0, 46, 42, 180, 0, 22, 27, 182, 0, 186, 172, 42, 180, 0, 46, 42, 180, 0, 22, 27, 182, 0, 189] i := wB_of (by decide +kernel)
theorem d_WF_cell_68 : decode b_WF_cell 68 = .ok (.aload_n 0, 1) := dc_42 (q0_win (r := 0) wn_WF_cell_68 (by decide +kernel))
theorem d_WF_cell_69 : decode b_WF_cell 69 = .ok (.getfield 22, 3) := dc_180 (qU2_win (r := 1) wn_WF_cell_68 (by decide +kernel))
theorem d_WF_cell_72 : decode b_WF_cell 72 = .ok (.iload_n 1, 1) := dc_27 (q0_win (r := 4) wn_WF_cell_68 (by decide +kernel))
theorem d_WF_cell_73 : decode b_WF_cell 73 = .ok (.invokevirtual 161, 3) := dc_182 (qU2_win (r := 5) wn_WF_cell_68 (by decide +kernel))
theorem d_WF_cell_76 : decode b_WF_cell 76 = .ok (.ireturn, 1) := dc_172 (q0_win (r := 8) wn_WF_cell_68 (by decide +kernel))
theorem d_WF_cell_77 : decode b_WF_cell 77 = .ok (.aload_n 0, 1) := dc_42 (q0_win (r := 9) wn_WF_cell_68 (by decide +kernel))
theorem d_WF_cell_78 : decode b_WF_cell 78 = .ok (.getfield 46, 3) := dc_180 (qU2_win (r := 10) wn_WF_cell_68 (by decide +kernel))
theorem d_WF_cell_81 : decode b_WF_cell 81 = .ok (.getfield 165, 3) := dc_180 (qU2_win (r := 13) wn_WF_cell_68 (by decide +kernel))
theorem d_WF_cell_84 : decode b_WF_cell 84 = .ok (.iload_n 1, 1) := dc_27 (q0_win (r := 16) wn_WF_cell_68 (by decide +kernel))
theorem d_WF_cell_85 : decode b_WF_cell 85 = .ok (.invokestatic 169, 3) := dc_184 (qU2_win (r := 17) wn_WF_cell_68 (by decide +kernel))
theorem d_WF_cell_88 : decode b_WF_cell 88 = .ok (.ireturn, 1) := dc_172 (q0_win (r := 20) wn_WF_cell_68 (by decide +kernel))
theorem d_WF_cell_89 : decode b_WF_cell 89 = .ok (.aload_n 0, 1) := dc_42 (q0_win (r := 21) wn_WF_cell_68 (by decide +kernel))
theorem d_WF_cell_90 : decode b_WF_cell 90 = .ok (.getfield 22, 3) := dc_180 (qU2_win (r := 22) wn_WF_cell_68 (by decide +kernel))
theorem d_WF_cell_93 : decode b_WF_cell 93 = .ok (.getfield 173, 3) := dc_180 (qU2_win (r := 25) wn_WF_cell_68 (by decide +kernel))
theorem d_WF_cell_96 : decode b_WF_cell 96 = .ok (.iload_n 1, 1) := dc_27 (q0_win (r := 28) wn_WF_cell_68 (by decide +kernel))
theorem d_WF_cell_97 : decode b_WF_cell 97 = .ok (.invokestatic 169, 3) := dc_184 (qU2_win (r := 29) wn_WF_cell_68 (by decide +kernel))
theorem d_WF_cell_100 : decode b_WF_cell 100 = .ok (.ireturn, 1) := dc_172 (q0_win (r := 32) wn_WF_cell_68 (by decide +kernel))
theorem d_WF_cell_101 : decode b_WF_cell 101 = .ok (.aload_n 0, 1) := dc_42 (q0_win (r := 33) wn_WF_cell_68 (by decide +kernel))
theorem d_WF_cell_102 : decode b_WF_cell 102 = .ok (.getfield 46, 3) := dc_180 (qU2_win (r := 34) wn_WF_cell_68 (by decide +kernel))
theorem d_WF_cell_105 : decode b_WF_cell 105 = .ok (.getfield 176, 3) := dc_180 (qU2_win (r := 37) wn_WF_cell_68 (by decide +kernel))
theorem d_WF_cell_108 : decode b_WF_cell 108 = .ok (.iload_n 1, 1) := dc_27 (q0_win (r := 40) wn_WF_cell_68 (by decide +kernel))
theorem d_WF_cell_109 : decode b_WF_cell 109 = .ok (.invokestatic 169, 3) := dc_184 (qU2_win (r := 41) wn_WF_cell_68 (by decide +kernel))
theorem d_WF_cell_112 : decode b_WF_cell 112 = .ok (.ireturn, 1) := dc_172 (q0_win (r := 44) wn_WF_cell_68 (by decide +kernel))
theorem d_WF_cell_113 : decode b_WF_cell 113 = .ok (.aload_n 0, 1) := dc_42 (q0_win (r := 45) wn_WF_cell_68 (by decide +kernel))
theorem d_WF_cell_114 : decode b_WF_cell 114 = .ok (.getfield 46, 3) := dc_180 (qU2_win (r := 46) wn_WF_cell_68 (by decide +kernel))
theorem d_WF_cell_117 : decode b_WF_cell 117 = .ok (.getfield 179, 3) := dc_180 (qU2_win (r := 49) wn_WF_cell_68 (by decide +kernel))
theorem d_WF_cell_120 : decode b_WF_cell 120 = .ok (.iload_n 1, 1) := dc_27 (q0_win (r := 52) wn_WF_cell_68 (by decide +kernel))
theorem d_WF_cell_121 : decode b_WF_cell 121 = .ok (.invokestatic 169, 3) := dc_184 (qU2_win (r := 53) wn_WF_cell_68 (by decide +kernel))
theorem d_WF_cell_124 : decode b_WF_cell 124 = .ok (.ireturn, 1) := dc_172 (q0_win (r := 56) wn_WF_cell_68 (by decide +kernel))
theorem d_WF_cell_125 : decode b_WF_cell 125 = .ok (.aload_n 0, 1) := dc_42 (q0_win (r := 57) wn_WF_cell_68 (by decide +kernel))
theorem d_WF_cell_126 : decode b_WF_cell 126 = .ok (.getfield 46, 3) := dc_180 (qU2_win (r := 58) wn_WF_cell_68 (by decide +kernel))
theorem d_WF_cell_129 : decode b_WF_cell 129 = .ok (.aload_n 0, 1) := dc_42 (q0_win (r := 61) wn_WF_cell_68 (by decide +kernel))
theorem d_WF_cell_130 : decode b_WF_cell 130 = .ok (.getfield 22, 3) := dc_180 (qU2_win (r := 62) wn_WF_cell_68 (by decide +kernel))
theorem d_WF_cell_133 : decode b_WF_cell 133 = .ok (.iload_n 1, 1) := dc_27 (q0_win (r := 65) wn_WF_cell_68 (by decide +kernel))
theorem d_WF_cell_134 : decode b_WF_cell 134 = .ok (.invokevirtual 182, 3) := dc_182 (qU2_win (r := 66) wn_WF_cell_68 (by decide +kernel))
theorem d_WF_cell_137 : decode b_WF_cell 137 = .ok (.ireturn, 1) := dc_172 (q0_win (r := 69) wn_WF_cell_68 (by decide +kernel))
theorem d_WF_cell_138 : decode b_WF_cell 138 = .ok (.aload_n 0, 1) := dc_42 (q0_win (r := 70) wn_WF_cell_68 (by decide +kernel))
theorem d_WF_cell_139 : decode b_WF_cell 139 = .ok (.getfield 46, 3) := dc_180 (qU2_win (r := 71) wn_WF_cell_68 (by decide +kernel))
theorem d_WF_cell_142 : decode b_WF_cell 142 = .ok (.aload_n 0, 1) := dc_42 (q0_win (r := 74) wn_WF_cell_68 (by decide +kernel))
theorem d_WF_cell_143 : decode b_WF_cell 143 = .ok (.getfield 22, 3) := dc_180 (qU2_win (r := 75) wn_WF_cell_68 (by decide +kernel))
theorem d_WF_cell_146 : decode b_WF_cell 146 = .ok (.iload_n 1, 1) := dc_27 (q0_win (r := 78) wn_WF_cell_68 (by decide +kernel))
theorem d_WF_cell_147 : decode b_WF_cell 147 = .ok (.invokevirtual 186, 3) := dc_182 (qU2_win (r := 79) wn_WF_cell_68 (by decide +kernel))
theorem d_WF_cell_150 : decode b_WF_cell 150 = .ok (.ireturn, 1) := dc_172 (q0_win (r := 82) wn_WF_cell_68 (by decide +kernel))
theorem d_WF_cell_151 : decode b_WF_cell 151 = .ok (.aload_n 0, 1) := dc_42 (q0_win (r := 83) wn_WF_cell_68 (by decide +kernel))
theorem d_WF_cell_152 : decode b_WF_cell 152 = .ok (.getfield 46, 3) := dc_180 (qU2_win (r := 84) wn_WF_cell_68 (by decide +kernel))
theorem d_WF_cell_155 : decode b_WF_cell 155 = .ok (.aload_n 0, 1) := dc_42 (q0_win (r := 87) wn_WF_cell_68 (by decide +kernel))
theorem d_WF_cell_156 : decode b_WF_cell 156 = .ok (.getfield 22, 3) := dc_180 (qU2_win (r := 88) wn_WF_cell_68 (by decide +kernel))
theorem d_WF_cell_159 : decode b_WF_cell 159 = .ok (.iload_n 1, 1) := dc_27 (q0_win (r := 91) wn_WF_cell_68 (by decide +kernel))
theorem d_WF_cell_160 : decode b_WF_cell 160 = .ok (.invokevirtual 189, 3) := dc_182 (qU2_win (r := 92) wn_WF_cell_68 (by decide +kernel))
theorem wn_WF_cell_163 : ∀ i, i < 19 → bA b_WF_cell (163 + i) = wB [153, 0, 7, 4, 167, 0, 4, 3, 172, 187, 0, 193, 89, 18, 195, 183, 0, 197, 191] i := wB_of (by decide +kernel)
theorem d_WF_cell_163 : decode b_WF_cell 163 = .ok (.ifCond .eq 7, 3) := dc_153 (qS2_win (r := 0) wn_WF_cell_163 (by decide +kernel))
theorem d_WF_cell_166 : decode b_WF_cell 166 = .ok (.iconst 1, 1) := dc_4 (q0_win (r := 3) wn_WF_cell_163 (by decide +kernel))
theorem d_WF_cell_167 : decode b_WF_cell 167 = .ok (.goto 4, 3) := dc_167 (qS2_win (r := 4) wn_WF_cell_163 (by decide +kernel))
theorem d_WF_cell_170 : decode b_WF_cell 170 = .ok (.iconst 0, 1) := dc_3 (q0_win (r := 7) wn_WF_cell_163 (by decide +kernel))
theorem d_WF_cell_171 : decode b_WF_cell 171 = .ok (.ireturn, 1) := dc_172 (q0_win (r := 8) wn_WF_cell_163 (by decide +kernel))
theorem d_WF_cell_172 : decode b_WF_cell 172 = .ok (.new 193, 3) := dc_187 (qU2_win (r := 9) wn_WF_cell_163 (by decide +kernel))
theorem d_WF_cell_175 : decode b_WF_cell 175 = .ok (.dup, 1) := dc_89 (q0_win (r := 12) wn_WF_cell_163 (by decide +kernel))
theorem d_WF_cell_176 : decode b_WF_cell 176 = .ok (.ldc 195, 2) := dc_18 (qU1_win (r := 13) wn_WF_cell_163 (by decide +kernel))
theorem d_WF_cell_178 : decode b_WF_cell 178 = .ok (.invokespecial 197, 3) := dc_183 (qU2_win (r := 15) wn_WF_cell_163 (by decide +kernel))
theorem d_WF_cell_181 : decode b_WF_cell 181 = .ok (.athrow, 1) := dc_191 (q0_win (r := 18) wn_WF_cell_163 (by decide +kernel))
def t_WF_cell (M : Mem) (x1 x2 : Int) : Option (Int × Int) := (qlet (t_Town_hasCell M ((M.1 0 4).toNat) x1) fun q2 => (if q2 = 0 then (some ((1 : Int), (0 : Int))) else (if x2 = 0 then (qlet (t_Town_ownerOf M ((M.1 0 4).toNat) x1) fun q7 => (some ((0 : Int), q7))) else (if x2 = 1 then (qlet (t_WF_bitOf M (M.2 47 4) x1) fun q10 => (some ((0 : Int), q10))) else (if x2 = 2 then (qlet (t_WF_bitOf M (M.2 ((M.1 0 4).toNat) 19) x1) fun q14 => (some ((0 : Int), q14))) else (if x2 = 3 then (qlet (t_WF_bitOf M (M.2 47 5) x1) fun q17 => (some ((0 : Int), q17))) else (if x2 = 4 then (qlet (t_WF_bitOf M (M.2 47 6) x1) fun q20 => (some ((0 : Int), q20))) else (if x2 = 5 then (obind (t_Scene_thingIn M 47 ((M.1 0 4).toNat) x1) fun q24 => (some ((0 : Int), q24))) else (if x2 = 6 then (qlet (t_Scene_nextOf M 47 ((M.1 0 4).toNat) x1) fun q28 => (some ((0 : Int), q28))) else (if x2 = 7 then (qlet (t_Scene_standsIn M 47 ((M.1 0 4).toNat) x1) fun q32 => (if q32 = 0 then (some ((0 : Int), 0)) else (some ((0 : Int), 1)))) else (some ((2 : Int), (0 : Int)))))))))))))
set_option maxHeartbeats 4000000 in
set_option maxRecDepth 100000 in
theorem c_WF_cell (l : Launch) (hlf : l.stackTraces = false) {b n : Nat} {C : CT} (hlo : 191 ≤ n) (M : Mem) (x1 x2 : Int) (hx1 : InR x1) (hx2 : InR x2) (res : Int × Int) (hT : t_WF_cell M x1 x2 = some res) : CXm l b C n 6 y_WF_cell b_WF_cell 3 (some .int) [.ref (b + 0), vI x1, vI x2] M res := by
  refine CXm.of (lo := 191) (ow := "WardFalls") (by decide) rfl (Nat.le_of_ble_eq_true rfl) hlo (fun p e s m below meth c F hlk hr hex hX hS ls hl => ?_)
  have hl : lv_has ls 3 [(0, .ref (b + 0)), (1, vI x1), (2, vI x2)] := hl
  unfold t_WF_cell at hT
  refine lv_aload_n F.hx F.hb d_WF_cell_0 rfl (lv_at hl 0 rfl) ?_
  have h1 := St_town hS
  refine r_get (v := .ref (b + ((M.1 0 4).toNat))) (N := 19) (T := T0) (j := 4) F hS (show 0 < 191 by decide) (show shK 0 = 4 from rfl) (show shN 0 = 19 from rfl) rfl (Nat.le_of_ble_eq_true rfl) ing0 mw_554 (fv_town hS) d_WF_cell_1 ?_
  refine lv_iload_n F.hx F.hb d_WF_cell_4 rfl (lv_at hl 1 rfl) ?_
  obtain ⟨q2, hq2⟩ : ∃ q, q = (t_Town_hasCell M ((M.1 0 4).toNat) x1) := ⟨_, rfl⟩
  replace hT := qlet_eq hT hq2
  refine r_backZ F hS (r_runV (k := ((M.1 0 4).toNat)) (N := 20) (T := T11) (As := [vI x1]) F hS (Town_lt h1) (Town_sh h1) rfl (c_Town_hasCell l F.2.2.1 M ((M.1 0 4).toNat) x1 h1 hx1 _ hq2.symm) gs_WF_150 hd_Town_hasCell ⟨Nat.le_of_ble_eq_true rfl, Nat.le_of_ble_eq_true rfl⟩ rfl hl.1 (Nat.le_of_ble_eq_true rfl) ⟨Nat.zero_le _, Nat.zero_le _⟩ rfl d_WF_cell_5) (fun H locs hS h3 => ?_)
  refine r_if_ne (tgt := 21) F.hx F.hb (inr_z h3) d_WF_cell_8 (by decide) (fun c4 => ?_) (fun c4 => ?_)
  · replace hT := (if_neg c4).symm.trans hT
    refine lv_iload_n F.hx F.hb d_WF_cell_21 rfl (lv_at hl 2 rfl) ?_
    rcases q_ite hT with ⟨c5, hT⟩ | ⟨c5, hT⟩
    · refine r_tableIn (i := 0) (tgt := 68) F.hx F.hb hx2 c5 d_WF_cell_22 (by decide) (by decide) rfl (by decide) ?_
      refine lv_aload_n F.hx F.hb d_WF_cell_68 rfl (lv_at hl 0 rfl) ?_
      have h6 := St_town hS
      refine r_get (v := .ref (b + ((M.1 0 4).toNat))) (N := 19) (T := T0) (j := 4) F hS (show 0 < 191 by decide) (show shK 0 = 4 from rfl) (show shN 0 = 19 from rfl) rfl (Nat.le_of_ble_eq_true rfl) ing0 mw_554 (fv_town hS) d_WF_cell_69 ?_
      refine lv_iload_n F.hx F.hb d_WF_cell_72 rfl (lv_at hl 1 rfl) ?_
      obtain ⟨q7, hq7⟩ : ∃ q, q = (t_Town_ownerOf M ((M.1 0 4).toNat) x1) := ⟨_, rfl⟩
      replace hT := qlet_eq hT hq7
      refine r_backI F hS (r_runV (k := ((M.1 0 4).toNat)) (N := 20) (T := T11) (As := [vI x1]) F hS (Town_lt h6) (Town_sh h6) rfl (c_Town_ownerOf l F.2.2.1 M ((M.1 0 4).toNat) x1 h6 hx1 _ hq7.symm) gs_WF_161 hd_Town_ownerOf ⟨Nat.le_of_ble_eq_true rfl, Nat.le_of_ble_eq_true rfl⟩ rfl hl.1 (Nat.le_of_ble_eq_true rfl) ⟨Nat.zero_le _, Nat.zero_le _⟩ rfl d_WF_cell_73) (fun H locs hS h8 => ?_)
      cases hT
      exact r_xret F hlk hr hS h8 d_WF_cell_76
    ·
      rcases q_ite hT with ⟨c9, hT⟩ | ⟨c9, hT⟩
      · refine r_tableIn (i := 1) (tgt := 77) F.hx F.hb hx2 c9 d_WF_cell_22 (by decide) (by decide) rfl (by decide) ?_
        refine lv_aload_n F.hx F.hb d_WF_cell_77 rfl (lv_at hl 0 rfl) ?_
        refine r_get (v := .ref (b + 47)) (N := 19) (T := T0) (j := 8) F hS (show 0 < 191 by decide) (show shK 0 = 4 from rfl) (show shN 0 = 19 from rfl) rfl (Nat.le_of_ble_eq_true rfl) ing0 mw_558 (fv_sg rfl rfl rfl) d_WF_cell_78 ?_
        refine r_get (v := .long (M.2 47 4)) (N := 7) (T := T9) (j := 4) F hS (show 47 < 191 by decide) (show shK 47 = 13 from rfl) (show shN 47 = 7 from rfl) rfl (Nat.le_of_ble_eq_true rfl) ing9 mw_287 (fv_long rfl) d_WF_cell_81 ?_
        refine lv_iload_n F.hx F.hb d_WF_cell_84 rfl (lv_at hl 1 rfl) ?_
        obtain ⟨q10, hq10⟩ : ∃ q, q = (t_WF_bitOf M (M.2 47 4) x1) := ⟨_, rfl⟩
        replace hT := qlet_eq hT hq10
        refine r_backI F hS (r_runS (As := [.long (M.2 47 4), vI x1]) F hS (c_WF_bitOf l F.2.2.1 M (M.2 47 4) x1 hx1 _ hq10.symm) gs_WF_169 hd_WF_bitOf ⟨Nat.le_of_ble_eq_true rfl, Nat.le_of_ble_eq_true rfl⟩ rfl hl.1 (Nat.le_of_ble_eq_true rfl) ⟨Nat.zero_le _, Nat.zero_le _⟩ rfl d_WF_cell_85) (fun H locs hS h11 => ?_)
        cases hT
        exact r_xret F hlk hr hS h11 d_WF_cell_88
      ·
        rcases q_ite hT with ⟨c12, hT⟩ | ⟨c12, hT⟩
        · refine r_tableIn (i := 2) (tgt := 89) F.hx F.hb hx2 c12 d_WF_cell_22 (by decide) (by decide) rfl (by decide) ?_
          refine lv_aload_n F.hx F.hb d_WF_cell_89 rfl (lv_at hl 0 rfl) ?_
          have h13 := St_town hS
          refine r_get (v := .ref (b + ((M.1 0 4).toNat))) (N := 19) (T := T0) (j := 4) F hS (show 0 < 191 by decide) (show shK 0 = 4 from rfl) (show shN 0 = 19 from rfl) rfl (Nat.le_of_ble_eq_true rfl) ing0 mw_554 (fv_town hS) d_WF_cell_90 ?_
          refine r_get (v := .long (M.2 ((M.1 0 4).toNat) 19)) (N := 20) (T := T11) (j := 19) F hS (Town_lt h13) (Town_sh h13) (Town_N h13) rfl (Nat.le_of_ble_eq_true rfl) ing11 mw_157 (fv_long rfl) d_WF_cell_93 ?_
          refine lv_iload_n F.hx F.hb d_WF_cell_96 rfl (lv_at hl 1 rfl) ?_
          obtain ⟨q14, hq14⟩ : ∃ q, q = (t_WF_bitOf M (M.2 ((M.1 0 4).toNat) 19) x1) := ⟨_, rfl⟩
          replace hT := qlet_eq hT hq14
          refine r_backI F hS (r_runS (As := [.long (M.2 ((M.1 0 4).toNat) 19), vI x1]) F hS (c_WF_bitOf l F.2.2.1 M (M.2 ((M.1 0 4).toNat) 19) x1 hx1 _ hq14.symm) gs_WF_169 hd_WF_bitOf ⟨Nat.le_of_ble_eq_true rfl, Nat.le_of_ble_eq_true rfl⟩ rfl hl.1 (Nat.le_of_ble_eq_true rfl) ⟨Nat.zero_le _, Nat.zero_le _⟩ rfl d_WF_cell_97) (fun H locs hS h15 => ?_)
          cases hT
          exact r_xret F hlk hr hS h15 d_WF_cell_100
        ·
          rcases q_ite hT with ⟨c16, hT⟩ | ⟨c16, hT⟩
          · refine r_tableIn (i := 3) (tgt := 101) F.hx F.hb hx2 c16 d_WF_cell_22 (by decide) (by decide) rfl (by decide) ?_
            refine lv_aload_n F.hx F.hb d_WF_cell_101 rfl (lv_at hl 0 rfl) ?_
            refine r_get (v := .ref (b + 47)) (N := 19) (T := T0) (j := 8) F hS (show 0 < 191 by decide) (show shK 0 = 4 from rfl) (show shN 0 = 19 from rfl) rfl (Nat.le_of_ble_eq_true rfl) ing0 mw_558 (fv_sg rfl rfl rfl) d_WF_cell_102 ?_
            refine r_get (v := .long (M.2 47 5)) (N := 7) (T := T9) (j := 5) F hS (show 47 < 191 by decide) (show shK 47 = 13 from rfl) (show shN 47 = 7 from rfl) rfl (Nat.le_of_ble_eq_true rfl) ing9 mw_290 (fv_long rfl) d_WF_cell_105 ?_
            refine lv_iload_n F.hx F.hb d_WF_cell_108 rfl (lv_at hl 1 rfl) ?_
            obtain ⟨q17, hq17⟩ : ∃ q, q = (t_WF_bitOf M (M.2 47 5) x1) := ⟨_, rfl⟩
            replace hT := qlet_eq hT hq17
            refine r_backI F hS (r_runS (As := [.long (M.2 47 5), vI x1]) F hS (c_WF_bitOf l F.2.2.1 M (M.2 47 5) x1 hx1 _ hq17.symm) gs_WF_169 hd_WF_bitOf ⟨Nat.le_of_ble_eq_true rfl, Nat.le_of_ble_eq_true rfl⟩ rfl hl.1 (Nat.le_of_ble_eq_true rfl) ⟨Nat.zero_le _, Nat.zero_le _⟩ rfl d_WF_cell_109) (fun H locs hS h18 => ?_)
            cases hT
            exact r_xret F hlk hr hS h18 d_WF_cell_112
          ·
            rcases q_ite hT with ⟨c19, hT⟩ | ⟨c19, hT⟩
            · refine r_tableIn (i := 4) (tgt := 113) F.hx F.hb hx2 c19 d_WF_cell_22 (by decide) (by decide) rfl (by decide) ?_
              refine lv_aload_n F.hx F.hb d_WF_cell_113 rfl (lv_at hl 0 rfl) ?_
              refine r_get (v := .ref (b + 47)) (N := 19) (T := T0) (j := 8) F hS (show 0 < 191 by decide) (show shK 0 = 4 from rfl) (show shN 0 = 19 from rfl) rfl (Nat.le_of_ble_eq_true rfl) ing0 mw_558 (fv_sg rfl rfl rfl) d_WF_cell_114 ?_
              refine r_get (v := .long (M.2 47 6)) (N := 7) (T := T9) (j := 6) F hS (show 47 < 191 by decide) (show shK 47 = 13 from rfl) (show shN 47 = 7 from rfl) rfl (Nat.le_of_ble_eq_true rfl) ing9 mw_292 (fv_long rfl) d_WF_cell_117 ?_
              refine lv_iload_n F.hx F.hb d_WF_cell_120 rfl (lv_at hl 1 rfl) ?_
              obtain ⟨q20, hq20⟩ : ∃ q, q = (t_WF_bitOf M (M.2 47 6) x1) := ⟨_, rfl⟩
              replace hT := qlet_eq hT hq20
              refine r_backI F hS (r_runS (As := [.long (M.2 47 6), vI x1]) F hS (c_WF_bitOf l F.2.2.1 M (M.2 47 6) x1 hx1 _ hq20.symm) gs_WF_169 hd_WF_bitOf ⟨Nat.le_of_ble_eq_true rfl, Nat.le_of_ble_eq_true rfl⟩ rfl hl.1 (Nat.le_of_ble_eq_true rfl) ⟨Nat.zero_le _, Nat.zero_le _⟩ rfl d_WF_cell_121) (fun H locs hS h21 => ?_)
              cases hT
              exact r_xret F hlk hr hS h21 d_WF_cell_124
            ·
              rcases q_ite hT with ⟨c22, hT⟩ | ⟨c22, hT⟩
              · refine r_tableIn (i := 5) (tgt := 125) F.hx F.hb hx2 c22 d_WF_cell_22 (by decide) (by decide) rfl (by decide) ?_
                refine lv_aload_n F.hx F.hb d_WF_cell_125 rfl (lv_at hl 0 rfl) ?_
                refine r_get (v := .ref (b + 47)) (N := 19) (T := T0) (j := 8) F hS (show 0 < 191 by decide) (show shK 0 = 4 from rfl) (show shN 0 = 19 from rfl) rfl (Nat.le_of_ble_eq_true rfl) ing0 mw_558 (fv_sg rfl rfl rfl) d_WF_cell_126 ?_
                refine lv_aload_n F.hx F.hb d_WF_cell_129 rfl (lv_at hl 0 rfl) ?_
                have h23 := St_town hS
                refine r_get (v := .ref (b + ((M.1 0 4).toNat))) (N := 19) (T := T0) (j := 4) F hS (show 0 < 191 by decide) (show shK 0 = 4 from rfl) (show shN 0 = 19 from rfl) rfl (Nat.le_of_ble_eq_true rfl) ing0 mw_554 (fv_town hS) d_WF_cell_130 ?_
                refine lv_iload_n F.hx F.hb d_WF_cell_133 rfl (lv_at hl 1 rfl) ?_
                obtain ⟨q24, hq24, hT⟩ := q_obind hT
                refine r_backI F hS (r_runV (k := 47) (N := 7) (T := T9) (As := [.ref (b + ((M.1 0 4).toNat)), vI x1]) F hS (show 47 < 191 by decide) (show shK 47 = 13 from rfl) rfl (c_Scene_thingIn l F.2.2.1 M 47 ((M.1 0 4).toNat) x1 (by decide : isScene 47) h23 hx1 _ hq24) gs_WF_182 hd_Scene_thingIn ⟨Nat.le_of_ble_eq_true rfl, Nat.le_of_ble_eq_true rfl⟩ rfl hl.1 (Nat.le_of_ble_eq_true rfl) ⟨Nat.zero_le _, Nat.zero_le _⟩ rfl d_WF_cell_134) (fun H locs hS h25 => ?_)
                cases hT
                exact r_xret F hlk hr hS h25 d_WF_cell_137
              ·
                rcases q_ite hT with ⟨c26, hT⟩ | ⟨c26, hT⟩
                · refine r_tableIn (i := 6) (tgt := 138) F.hx F.hb hx2 c26 d_WF_cell_22 (by decide) (by decide) rfl (by decide) ?_
                  refine lv_aload_n F.hx F.hb d_WF_cell_138 rfl (lv_at hl 0 rfl) ?_
                  refine r_get (v := .ref (b + 47)) (N := 19) (T := T0) (j := 8) F hS (show 0 < 191 by decide) (show shK 0 = 4 from rfl) (show shN 0 = 19 from rfl) rfl (Nat.le_of_ble_eq_true rfl) ing0 mw_558 (fv_sg rfl rfl rfl) d_WF_cell_139 ?_
                  refine lv_aload_n F.hx F.hb d_WF_cell_142 rfl (lv_at hl 0 rfl) ?_
                  have h27 := St_town hS
                  refine r_get (v := .ref (b + ((M.1 0 4).toNat))) (N := 19) (T := T0) (j := 4) F hS (show 0 < 191 by decide) (show shK 0 = 4 from rfl) (show shN 0 = 19 from rfl) rfl (Nat.le_of_ble_eq_true rfl) ing0 mw_554 (fv_town hS) d_WF_cell_143 ?_
                  refine lv_iload_n F.hx F.hb d_WF_cell_146 rfl (lv_at hl 1 rfl) ?_
                  obtain ⟨q28, hq28⟩ : ∃ q, q = (t_Scene_nextOf M 47 ((M.1 0 4).toNat) x1) := ⟨_, rfl⟩
                  replace hT := qlet_eq hT hq28
                  refine r_backI F hS (r_runV (k := 47) (N := 7) (T := T9) (As := [.ref (b + ((M.1 0 4).toNat)), vI x1]) F hS (show 47 < 191 by decide) (show shK 47 = 13 from rfl) rfl (c_Scene_nextOf l F.2.2.1 M 47 ((M.1 0 4).toNat) x1 (by decide : isScene 47) h27 hx1 _ hq28.symm) gs_WF_186 hd_Scene_nextOf ⟨Nat.le_of_ble_eq_true rfl, Nat.le_of_ble_eq_true rfl⟩ rfl hl.1 (Nat.le_of_ble_eq_true rfl) ⟨Nat.zero_le _, Nat.zero_le _⟩ rfl d_WF_cell_147) (fun H locs hS h29 => ?_)
                  cases hT
                  exact r_xret F hlk hr hS h29 d_WF_cell_150
                ·
                  rcases q_ite hT with ⟨c30, hT⟩ | ⟨c30, hT⟩
                  · refine r_tableIn (i := 7) (tgt := 151) F.hx F.hb hx2 c30 d_WF_cell_22 (by decide) (by decide) rfl (by decide) ?_
                    refine lv_aload_n F.hx F.hb d_WF_cell_151 rfl (lv_at hl 0 rfl) ?_
                    refine r_get (v := .ref (b + 47)) (N := 19) (T := T0) (j := 8) F hS (show 0 < 191 by decide) (show shK 0 = 4 from rfl) (show shN 0 = 19 from rfl) rfl (Nat.le_of_ble_eq_true rfl) ing0 mw_558 (fv_sg rfl rfl rfl) d_WF_cell_152 ?_
                    refine lv_aload_n F.hx F.hb d_WF_cell_155 rfl (lv_at hl 0 rfl) ?_
                    have h31 := St_town hS
                    refine r_get (v := .ref (b + ((M.1 0 4).toNat))) (N := 19) (T := T0) (j := 4) F hS (show 0 < 191 by decide) (show shK 0 = 4 from rfl) (show shN 0 = 19 from rfl) rfl (Nat.le_of_ble_eq_true rfl) ing0 mw_554 (fv_town hS) d_WF_cell_156 ?_
                    refine lv_iload_n F.hx F.hb d_WF_cell_159 rfl (lv_at hl 1 rfl) ?_
                    obtain ⟨q32, hq32⟩ : ∃ q, q = (t_Scene_standsIn M 47 ((M.1 0 4).toNat) x1) := ⟨_, rfl⟩
                    replace hT := qlet_eq hT hq32
                    refine r_backZ F hS (r_runV (k := 47) (N := 7) (T := T9) (As := [.ref (b + ((M.1 0 4).toNat)), vI x1]) F hS (show 47 < 191 by decide) (show shK 47 = 13 from rfl) rfl (c_Scene_standsIn l F.2.2.1 M 47 ((M.1 0 4).toNat) x1 (by decide : isScene 47) h31 hx1 _ hq32.symm) gs_WF_189 hd_Scene_standsIn ⟨Nat.le_of_ble_eq_true rfl, Nat.le_of_ble_eq_true rfl⟩ rfl hl.1 (Nat.le_of_ble_eq_true rfl) ⟨Nat.zero_le _, Nat.zero_le _⟩ rfl d_WF_cell_160) (fun H locs hS h33 => ?_)
                    refine r_if_eq (tgt := 170) F.hx F.hb (inr_z h33) d_WF_cell_163 (by decide) (fun c34 => ?_) (fun c34 => ?_)
                    · replace hT := (if_pos c34).symm.trans hT
                      refine r_iconst F.hx F.hb d_WF_cell_170 ?_
                      cases hT
                      exact r_xret F hlk hr hS (inr_c rfl) d_WF_cell_171
                    · replace hT := (if_neg c34).symm.trans hT
                      refine r_iconst F.hx F.hb d_WF_cell_166 ?_
                      refine lv_goto (tgt := 171) F.hx F.hb d_WF_cell_167 (by decide) ?_
                      cases hT
                      exact r_xret F hlk hr hS (inr_c rfl) d_WF_cell_171
                  ·
                    refine r_tableOut (tgt := 172) F.hx F.hb hx2 (by omega) d_WF_cell_22 (by decide) ?_
                    cases hT
                    exact r_throw2 F hlf hlk hex hX hS rfl hl.1 mw_1363 mw_26 d_WF_cell_172 d_WF_cell_175 d_WF_cell_176 d_WF_cell_178 d_WF_cell_181 (Nat.le_of_ble_eq_true rfl) (Nat.le_of_ble_eq_true rfl) (Nat.le_of_ble_eq_true rfl) (Nat.le_of_ble_eq_true rfl)
  · replace hT := (if_pos c4).symm.trans hT
    cases hT
    exact r_throw1 (is := 0) F hlf hlk hex hX hS rfl hl.1 mw_1297 mw_25 d_WF_cell_11 d_WF_cell_14 d_WF_cell_15 d_WF_cell_17 d_WF_cell_20 (Nat.le_of_ble_eq_true rfl) (Nat.le_of_ble_eq_true rfl) (Nat.le_of_ble_eq_true rfl) (Nat.le_of_ble_eq_true rfl)
/-! ===== the law's own rows ===== -/
section RLW
variable {p : Program} {l : Launch} {e : Env} {R : Room} {s : State} {m : MethodId} {args : Array Value} {below : List Frame} {meth : Method} {c : Code} {H : Heap} {locs : List Loc} {cells slots : Nat} {Q : State → Prop}
variable {cc : ByteArray} {pc nL lo : Nat} {ls : Array Slot} {rest : List Value} {own : String} {b n : Nat} {C : CT} {M : Mem}
theorem r_backIg {mc ms : Nat} {M' : Mem} {r : Int} {st0 : List Value} {a : Array Value} (F : Cx b p m c cc nL s args own C n lo) (hS : St b C n M s H locs) (hr : va_Run p l e R s m args below meth c H locs cells slots mc ms (F0 m pc ls st0) rest (QI b C n M' r a) (frb b))
    (kk : ∀ (H1 : Heap) (locs1 : List Loc), St b C n M' s H1 locs1 → InR r → W p l e R s m args below meth c H1 locs1 (cells + mc) (slots + ms) Q (F0 m (pc + 3) ls (vI r :: rest))) : W p l e R s m args below meth c H locs cells slots Q (F0 m pc ls st0) := by
  refine va_calli hr hS.2.2.2.2 (fun q _ h => h) (fun q h => h) (fun x u t H1 locs1 ht hvm hp hB hz ho hS1 => ?_)
  obtain ⟨rfl, hR⟩ := hp
  subst ht
  exact kk _ _ ⟨hB.1, hB.2.1, hB.2.2.1, hB.2.2.2.1, hS1⟩ hR
theorem good_SH {o2 : String} {ix : Nat} {y : MethodName} {by_ : ByteArray} {mL : Nat} {ret : Option FieldType} {hh : List (Nat × Nat × Nat × Nat)} (h0 : Cond.codeWith y by_ mL ret hh ∈ lw_good) (h1 : Cond.methodLink o2 ix y ∈ lw_good) (h2 : Cond.static y ∈ lw_good) (h4 : Cond.initialized y.cls ∈ lw_good) : GoodIn lw_good (va_wsS o2 ix y (Cond.codeWith y by_ mL ret hh :: lw_good)) := by
  intro w hw
  unfold va_wsS at hw
  rcases List.mem_append.mp hw with h | h
  · simp only [List.mem_cons, List.not_mem_nil, or_false] at h
    rcases h with rfl | rfl | rfl
    · exact good_w h1
    · exact good_w h2
    · exact good_w h4
  · rcases List.mem_cons.mp h with rfl | h
    · exact good_w h0
    · exact good_w h
theorem r_runH {d mL index na : Nat} {y : MethodName} {by_ : ByteArray} {ret : Option FieldType} {As : List Value} {Qc : Array Value → State → Outcome → State → Prop} {hh : List (Nat × Nat × Nat × Nat)} (F : Cx b p m c cc nL s args own C n lo) (hX : EX b s) (hS : St b C n M s H locs)
    (hM : Met l y (Cond.codeWith y by_ mL ret hh :: lw_good) (rmX d 1 6) (va_Pc As (HSX b C n M)) Qc 1 6 (frb b)) (hG : GoodIn lw_good (va_wsS own index y (Cond.codeWith y by_ mL ret hh :: lw_good))) (hd : y.cls ≠ "java/lang/invoke/MethodHandle" ∧ y.cls ≠ "java/lang/invoke/VarHandle" ∧ (parseMethodDescriptor y.desc).map (fun d => d.parameters.length) = some na) (hR : d + 1 ≤ R.frames ∧ 8 + (mL + 11) + 48 * d ≤ R.locals)
    (hn : As.length = na) (hsz : ls.size = nL) (hrest : (rest.map fun v => v.category).sum ≤ 8) (hcs : cells + 1 ≤ R.cells ∧ slots + 6 ≤ R.slots) {st0 : List Value} (hst : st0 = As.reverse ++ rest) (hdg : decode cc pc = .ok (.invokestatic index, 3)) :
    va_Run p l e R s m args below meth c H locs cells slots 1 6 (F0 m pc ls st0) rest (Qc As.toArray) (frb b) :=
  vx_runSW F.1 hM (vx_cwSW na F.1.2.2.2.2 hG rfl rfl rfl hd hR) ⟨HSX_blind, fun U hU hW => ⟨rfl, hS.hs F.2.1 F.2.2.2 hU hW, hX.move hW (fun a h1 h2 => by rw [hU]; exact hS.2.2.2.2.2.1 a h1 h2)⟩⟩ rfl hn hsz hst (lv_room hrest) hdg hcs
theorem r_slen {scr L : Nat} {xs : Nat → Int32} (F : Cx b p m c cc nL s args own C n lo) (hS : St b C n M s H locs) (hXs : va_X scr L xs s s.heap) (hsl : scr < s.heap.size) (hb : b = s.heap.size) (hdg : decode cc pc = .ok (.arraylength, 1))
    (kk : W p l e R s m args below meth c H locs cells slots Q (F0 m (pc + 1) ls (vI (L : Int) :: rest))) : W p l e R s m args below meth c H locs cells slots Q (F0 m pc ls (.ref scr :: rest)) :=
  va_slen F.hx F.hb hXs hsl (fun h => by have h2 : b ≤ scr := h; omega) hS.2.2.2.2 hdg kk
theorem r_sld {scr L : Nat} {xs : Nat → Int32} {i : Int} (F : Cx b p m c cc nL s args own C n lo) (hS : St b C n M s H locs) (hXs : va_X scr L xs s s.heap) (hsl : scr < s.heap.size) (hb : b = s.heap.size) (hr : InR i) (h0 : 0 ≤ i) (h1 : i < (L : Int)) (hdg : decode cc pc = .ok (.iaload, 1))
    (kk : W p l e R s m args below meth c H locs cells slots Q (F0 m (pc + 1) ls (vI (xs i.toNat).toInt :: rest))) : W p l e R s m args below meth c H locs cells slots Q (F0 m pc ls (vI i :: .ref scr :: rest)) := by
  refine va_sld F.hx F.hb hXs hsl (fun h => by have h2 : b ≤ scr := h; omega) hS.2.2.2.2 (q_vp_in_of hr h0 h1) hdg ?_
  rw [q_nn_of hr]
  have e9 : vI (xs i.toNat).toInt = .int (xs i.toNat) := congrArg Value.int (q_of_toInt _)
  rw [← e9]
  exact kk
end RLW

abbrev b_Law_cell : ByteArray := method_3_code
def y_Law_cell : MethodName := ⟨"WardFallsLaw", "cell", "(LWardFalls;II[J)I"⟩
theorem d_Law_cell_0 : decode b_Law_cell 0 = .ok (.aload_n 3, 1) := dc_45 (by decide +kernel)
theorem d_Law_cell_1 : decode b_Law_cell 1 = .ok (.iconst 0, 1) := dc_3 (by decide +kernel)
theorem d_Law_cell_2 : decode b_Law_cell 2 = .ok (.aload_n 0, 1) := dc_42 (by decide +kernel)
theorem d_Law_cell_3 : decode b_Law_cell 3 = .ok (.iload_n 1, 1) := dc_27 (by decide +kernel)
theorem d_Law_cell_4 : decode b_Law_cell 4 = .ok (.iload_n 2, 1) := dc_28 (by decide +kernel)
theorem d_Law_cell_5 : decode b_Law_cell 5 = .ok (.invokevirtual 7, 3) := dc_182 (by decide +kernel)
theorem d_Law_cell_8 : decode b_Law_cell 8 = .ok (.i2l, 1) := dc_133 (by decide +kernel)
theorem d_Law_cell_9 : decode b_Law_cell 9 = .ok (.lastore, 1) := dc_80 (by decide +kernel)
theorem d_Law_cell_10 : decode b_Law_cell 10 = .ok (.goto 11, 3) := dc_167 (by decide +kernel)
theorem d_Law_cell_13 : decode b_Law_cell 13 = .ok (.astore 4, 2) := dc_58 (by decide +kernel)
theorem d_Law_cell_15 : decode b_Law_cell 15 = .ok (.iconst 1, 1) := dc_4 (by decide +kernel)
theorem d_Law_cell_16 : decode b_Law_cell 16 = .ok (.ireturn, 1) := dc_172 (by decide +kernel)
theorem d_Law_cell_17 : decode b_Law_cell 17 = .ok (.astore 4, 2) := dc_58 (by decide +kernel)
theorem d_Law_cell_19 : decode b_Law_cell 19 = .ok (.iconst 2, 1) := dc_5 (by decide +kernel)
theorem d_Law_cell_20 : decode b_Law_cell 20 = .ok (.ireturn, 1) := dc_172 (by decide +kernel)
theorem d_Law_cell_21 : decode b_Law_cell 21 = .ok (.iconst 0, 1) := dc_3 (by decide +kernel)
theorem d_Law_cell_22 : decode b_Law_cell 22 = .ok (.ireturn, 1) := dc_172 (by decide +kernel)
abbrev hh9 : List (Nat × Nat × Nat × Nat) := [(0, 10, 13, 13), (0, 10, 17, 15)]
def t_Law_cell (M : Mem) (x1 x2 : Int) : Option (Mem × Int) := obind (t_WF_cell M x1 x2) fun q => some (if q.1 = 0 then (setL M 231 0 (q_i2l q.2), 0) else (M, q.1))
set_option maxHeartbeats 4000000 in
set_option maxRecDepth 100000 in
theorem c_Law_cell (l : Launch) (hlf : l.stackTraces = false) {b n : Nat} {C : CT} (hlo : 232 ≤ n) (M : Mem) (x1 x2 : Int) (hx1 : InR x1) (hx2 : InR x2) (res : Mem × Int) (hT : t_Law_cell M x1 x2 = some res) : Met l y_Law_cell (Cond.codeWith y_Law_cell b_Law_cell 5 (some .int) hh9 :: lw_good) (rmX 7 1 6) (va_Pc [.ref (b + 0), vI x1, vI x2, .ref (b + 231)] (HSX b C n M)) (QI b C n res.1 res.2) 1 6 (frb b) := by
  have h : vx_Met l y_Law_cell (Cond.codeWith y_Law_cell b_Law_cell 5 (some .int) hh9 :: lw_good) (rmX 7 1 6) (va_Pc [.ref (b + 0), vI x1, vI x2, .ref (b + 231)] (HSX b C n M)) (QI b C n res.1 res.2) (fun _ _ _ => False) 1 6 (frb b) := by
    refine vx_ofWH (cc := b_Law_cell) (maxL := 5) (ret := some .int) (by decide) rfl ?_
    intro p e s m args below meth c s₁ B hml hv
    obtain ⟨rfl, hHS, hX⟩ := hv
    have hts := atoms_spec (ws := (Cond.codeWith y_Law_cell b_Law_cell 5 (some .int) hh9 :: lw_good)) B.pre
    have hown : s.vm.findClass "WardFallsLaw" = some m.cls := findClass_of_methodNamed B.named
    have htab := vx_table (x := y_Law_cell) B (hts _ List.mem_cons_self)
    have hl := lv_entry [.ref (b + 0), vI x1, vI x2, .ref (b + 231)] (n := 5) (Nat.le_of_ble_eq_true rfl)
    rw [lg_entry_eq]
    generalize (lg_sl ([.ref (b + 0), vI x1, vI x2, .ref (b + 231)] : List Value) ++ List.replicate (5 - (lg_sl ([.ref (b + 0), vI x1, vI x2, .ref (b + 231)] : List Value)).length) Slot.unset).toArray = ls at hl ⊢
    have hl : lv_has ls 5 [(0, .ref (b + 0)), (1, vI x1), (2, vI x2), (3, .ref (b + 231))] := hl
    have F : Cx b p m c b_Law_cell 5 s ([.ref (b + 0), vI x1, vI x2, .ref (b + 231)] : List Value).toArray "WardFallsLaw" C n 232 := ⟨⟨B.exec, B.bytes, hml, hown, fun w hw => hts w (List.mem_cons_of_mem _ hw)⟩, hHS.2.2.2.2.1, hlo, hHS.2.2.2.2.2⟩
    have hlk := B.notSynchronized
    have hr := B.returns
    have hS := hHS.st
    unfold t_Law_cell at hT
    obtain ⟨⟨q1, q2⟩, hq, hT⟩ := q_obind hT
    refine lv_aload_n F.hx F.hb d_Law_cell_0 rfl (lv_at hl 3 rfl) ?_
    refine r_iconst F.hx F.hb d_Law_cell_1 ?_
    refine lv_aload_n F.hx F.hb d_Law_cell_2 rfl (lv_at hl 0 rfl) ?_
    refine lv_iload_n F.hx F.hb d_Law_cell_3 rfl (lv_at hl 1 rfl) ?_
    refine lv_iload_n F.hx F.hb d_Law_cell_4 rfl (lv_at hl 2 rfl) ?_
    refine vx_calli (vx_runV (As := [vI x1, vI x2]) (rest := [vI 0, .ref (b + 231)]) F.1 (c_WF_cell l hlf (Nat.le_trans (by decide) hlo) M x1 x2 hx1 hx2 (q1, q2) hq) (cwV 2 F.1.2.2.2.2 gs_WardFallsLaw_7 rfl rfl rfl ⟨rfl, hd_WF_cell⟩ ⟨Nat.le_of_ble_eq_true rfl, Nat.le_of_ble_eq_true rfl⟩) (r_preVX (k := 0) (ci := 0) (N := 19) F hX hS (by decide) rfl rfl) rfl rfl hl.1 rfl (lv_room (Nat.le_of_ble_eq_true rfl)) d_Law_cell_5 ⟨Nat.le_of_ble_eq_true rfl, Nat.le_of_ble_eq_true rfl⟩) hS.2.2.2.2 (fun q _ h => h) (fun q h => h) (fun q _ h => h) (fun E ce q9 u t H1 locs1 ht hvm hpx hBX hz hkeep hS1 hcell hcv hcl => ?_) (fun r u t H1 locs1 ht hvm hp hB hz hkeep hS1 => ?_)
    · subst ht
      have hS9 : St b C n M s t.heap locs1 := ⟨hBX.2.1, hBX.2.2.1, hBX.2.2.2.1, hBX.2.2.2.2, hS1⟩
      rcases hBX.1 with ⟨hk, rfl⟩ | ⟨hk, rfl⟩
      · refine vx_catch (name := ioN) F.hown [] ⟨0, 10, 13, 13⟩ [⟨0, 10, 17, 15⟩] (by rw [htab]; rfl) (fun z hz => absurd hz List.not_mem_nil) rfl (by decide) (F.hts mw_1291) (va_Nw.use rfl hX.2.2.1) hcell hcv hcl ?_
        refine lv_astore (lv' := [(4, .ref q9), (0, .ref (b + 0)), (1, vI x1), (2, vI x2), (3, .ref (b + 231))]) F.hx F.hb d_Law_cell_13 hl (Nat.le_of_ble_eq_true rfl) rfl (fun ls hl => ?_)
        refine r_iconst F.hx F.hb d_Law_cell_15 ?_
        have hk : q1 = 1 := hk
        subst hk
        cases hT
        exact vx_ret (r_iret F hlk hr rfl hS9 (inr_c rfl) d_Law_cell_16)
      · refine vx_catch (name := nsN) F.hown [⟨0, 10, 13, 13⟩] ⟨0, 10, 17, 15⟩ [] (by rw [htab]; rfl) (fun z hz => Or.inr (by rw [List.mem_singleton.mp hz]; exact ⟨by decide, ioN, F.hts mw_1291, hX.2.2.2.2.1⟩)) rfl (by decide) (F.hts mw_1292) (va_Nw.use rfl hX.2.2.2.1) hcell hcv hcl ?_
        refine lv_astore (lv' := [(4, .ref q9), (0, .ref (b + 0)), (1, vI x1), (2, vI x2), (3, .ref (b + 231))]) F.hx F.hb d_Law_cell_17 hl (Nat.le_of_ble_eq_true rfl) rfl (fun ls hl => ?_)
        refine r_iconst F.hx F.hb d_Law_cell_19 ?_
        have hk : q1 = 2 := hk
        subst hk
        cases hT
        exact vx_ret (r_iret F hlk hr rfl hS9 (inr_c rfl) d_Law_cell_20)
    · subst ht
      obtain ⟨hk, rfl, hv⟩ := hp
      have hS9 : St b C n M s t.heap locs1 := ⟨hB.1, hB.2.1, hB.2.2.1, hB.2.2.2.1, hS1⟩
      refine r_i2l F.hx F.hb d_Law_cell_8 ?_
      refine r_last (N := 1) F hS9 (show 231 < 232 by decide) rfl rfl (inr_c rfl) (by decide) (by decide) d_Law_cell_9 (fun H locs hS => ?_)
      refine lv_goto (tgt := 21) F.hx F.hb d_Law_cell_10 (by decide) ?_
      refine r_iconst F.hx F.hb d_Law_cell_21 ?_
      have hk : q1 = 0 := hk
      subst hk
      cases hT
      exact vx_ret (r_iret F hlk hr rfl hS (inr_c rfl) d_Law_cell_22)
  exact MetFree.mono h (fun _ _ h => h) (fun _ _ _ _ _ h => h) (fun a s o t _ hq => by
    rcases hq with hq | ⟨q, -, E, ce, L, hx, -⟩
    · exact hq
    · exact hx.elim)
