theorem d_Str_coder_0 : decode b_Str_coder 0 = .ok (.getstatic 38, 3) := by decide +kernel
theorem d_Str_coder_3 : decode b_Str_coder 3 = .ok (.ifCond .eq 10, 3) := by decide +kernel
theorem d_Str_coder_6 : decode b_Str_coder 6 = .ok (.aload_n 0, 1) := by decide +kernel
theorem d_Str_coder_7 : decode b_Str_coder 7 = .ok (.getfield 15, 3) := by decide +kernel
theorem d_Str_coder_10 : decode b_Str_coder 10 = .ok (.goto 4, 3) := by decide +kernel
theorem d_Str_coder_13 : decode b_Str_coder 13 = .ok (.iconst 1, 1) := by decide +kernel
theorem d_Str_coder_14 : decode b_Str_coder 14 = .ok (.ireturn, 1) := by decide +kernel
theorem d_Str_length_0 : decode b_Str_length 0 = .ok (.aload_n 0, 1) := by decide +kernel
theorem d_Str_length_1 : decode b_Str_length 1 = .ok (.getfield 9, 3) := by decide +kernel
theorem d_Str_length_4 : decode b_Str_length 4 = .ok (.arraylength, 1) := by decide +kernel
theorem d_Str_length_5 : decode b_Str_length 5 = .ok (.aload_n 0, 1) := by decide +kernel
theorem d_Str_length_6 : decode b_Str_length 6 = .ok (.invokevirtual 335, 3) := by decide +kernel
theorem d_Str_length_9 : decode b_Str_length 9 = .ok (.ishr, 1) := by decide +kernel
theorem d_Str_length_10 : decode b_Str_length 10 = .ok (.ireturn, 1) := by decide +kernel
theorem d_Str_isLatin1_0 : decode b_Str_isLatin1 0 = .ok (.getstatic 38, 3) := by decide +kernel
theorem d_Str_isLatin1_3 : decode b_Str_isLatin1 3 = .ok (.ifCond .eq 14, 3) := by decide +kernel
theorem d_Str_isLatin1_6 : decode b_Str_isLatin1 6 = .ok (.aload_n 0, 1) := by decide +kernel
theorem d_Str_isLatin1_7 : decode b_Str_isLatin1 7 = .ok (.getfield 15, 3) := by decide +kernel
theorem d_Str_isLatin1_10 : decode b_Str_isLatin1 10 = .ok (.ifCond .ne 7, 3) := by decide +kernel
theorem d_Str_isLatin1_13 : decode b_Str_isLatin1 13 = .ok (.iconst 1, 1) := by decide +kernel
theorem d_Str_isLatin1_14 : decode b_Str_isLatin1 14 = .ok (.goto 4, 3) := by decide +kernel
theorem d_Str_isLatin1_17 : decode b_Str_isLatin1 17 = .ok (.iconst 0, 1) := by decide +kernel
theorem d_Str_isLatin1_18 : decode b_Str_isLatin1 18 = .ok (.ireturn, 1) := by decide +kernel
theorem d_Str_charAt_0 : decode b_Str_charAt 0 = .ok (.aload_n 0, 1) := by decide +kernel
theorem d_Str_charAt_1 : decode b_Str_charAt 1 = .ok (.invokevirtual 492, 3) := by decide +kernel
theorem d_Str_charAt_4 : decode b_Str_charAt 4 = .ok (.ifCond .eq 12, 3) := by decide +kernel
theorem d_Str_charAt_7 : decode b_Str_charAt 7 = .ok (.aload_n 0, 1) := by decide +kernel
theorem d_Str_charAt_8 : decode b_Str_charAt 8 = .ok (.getfield 9, 3) := by decide +kernel
theorem d_Str_charAt_11 : decode b_Str_charAt 11 = .ok (.iload_n 1, 1) := by decide +kernel
theorem d_Str_charAt_12 : decode b_Str_charAt 12 = .ok (.invokestatic 495, 3) := by decide +kernel
theorem d_Str_charAt_15 : decode b_Str_charAt 15 = .ok (.ireturn, 1) := by decide +kernel
theorem d_Str_charAt_16 : decode b_Str_charAt 16 = .ok (.aload_n 0, 1) := by decide +kernel
theorem d_Str_charAt_17 : decode b_Str_charAt 17 = .ok (.getfield 9, 3) := by decide +kernel
theorem d_Str_charAt_20 : decode b_Str_charAt 20 = .ok (.iload_n 1, 1) := by decide +kernel
theorem d_Str_charAt_21 : decode b_Str_charAt 21 = .ok (.invokestatic 498, 3) := by decide +kernel
theorem d_Str_charAt_24 : decode b_Str_charAt 24 = .ok (.ireturn, 1) := by decide +kernel
theorem d_Pre_checkIndex_0 : decode b_Pre_checkIndex 0 = .ok (.iload_n 0, 1) := by decide +kernel
theorem d_Pre_checkIndex_1 : decode b_Pre_checkIndex 1 = .ok (.ifCond .lt 8, 3) := by decide +kernel
theorem d_Pre_checkIndex_4 : decode b_Pre_checkIndex 4 = .ok (.iload_n 0, 1) := by decide +kernel
theorem d_Pre_checkIndex_5 : decode b_Pre_checkIndex 5 = .ok (.iload_n 1, 1) := by decide +kernel
theorem d_Pre_checkIndex_6 : decode b_Pre_checkIndex 6 = .ok (.if_icmp .lt 10, 3) := by decide +kernel
theorem d_Pre_checkIndex_9 : decode b_Pre_checkIndex 9 = .ok (.aload_n 2, 1) := by decide +kernel
theorem d_Pre_checkIndex_10 : decode b_Pre_checkIndex 10 = .ok (.iload_n 0, 1) := by decide +kernel
theorem d_Pre_checkIndex_11 : decode b_Pre_checkIndex 11 = .ok (.iload_n 1, 1) := by decide +kernel
theorem d_Pre_checkIndex_12 : decode b_Pre_checkIndex 12 = .ok (.invokestatic 95, 3) := by decide +kernel
theorem d_Pre_checkIndex_15 : decode b_Pre_checkIndex 15 = .ok (.athrow, 1) := by decide +kernel
theorem d_Pre_checkIndex_16 : decode b_Pre_checkIndex 16 = .ok (.iload_n 0, 1) := by decide +kernel
theorem d_Pre_checkIndex_17 : decode b_Pre_checkIndex 17 = .ok (.ireturn, 1) := by decide +kernel
theorem d_Str_checkIndex_0 : decode b_Str_checkIndex 0 = .ok (.iload_n 0, 1) := by decide +kernel
theorem d_Str_checkIndex_1 : decode b_Str_checkIndex 1 = .ok (.iload_n 1, 1) := by decide +kernel
theorem d_Str_checkIndex_2 : decode b_Str_checkIndex 2 = .ok (.getstatic 1053, 3) := by decide +kernel
theorem d_Str_checkIndex_5 : decode b_Str_checkIndex 5 = .ok (.invokestatic 1059, 3) := by decide +kernel
theorem d_Str_checkIndex_8 : decode b_Str_checkIndex 8 = .ok (.pop, 1) := by decide +kernel
theorem d_Str_checkIndex_9 : decode b_Str_checkIndex 9 = .ok (.return_, 1) := by decide +kernel
theorem d_SL1_charAt_0 : decode b_SL1_charAt 0 = .ok (.iload_n 1, 1) := by decide +kernel
theorem d_SL1_charAt_1 : decode b_SL1_charAt 1 = .ok (.aload_n 0, 1) := by decide +kernel
theorem d_SL1_charAt_2 : decode b_SL1_charAt 2 = .ok (.arraylength, 1) := by decide +kernel
theorem d_SL1_charAt_3 : decode b_SL1_charAt 3 = .ok (.invokestatic 9, 3) := by decide +kernel
theorem d_SL1_charAt_6 : decode b_SL1_charAt 6 = .ok (.aload_n 0, 1) := by decide +kernel
theorem d_SL1_charAt_7 : decode b_SL1_charAt 7 = .ok (.iload_n 1, 1) := by decide +kernel
theorem d_SL1_charAt_8 : decode b_SL1_charAt 8 = .ok (.baload, 1) := by decide +kernel
theorem d_SL1_charAt_9 : decode b_SL1_charAt 9 = .ok (.sipush 255, 3) := by decide +kernel
theorem d_SL1_charAt_12 : decode b_SL1_charAt 12 = .ok (.iand, 1) := by decide +kernel
theorem d_SL1_charAt_13 : decode b_SL1_charAt 13 = .ok (.i2c, 1) := by decide +kernel
theorem d_SL1_charAt_14 : decode b_SL1_charAt 14 = .ok (.ireturn, 1) := by decide +kernel
/-! ===== the words' text: length and charAt ===== -/
def TXI : List Int := [116, 111, 119, 110, 32, 119, 97, 114, 100, 32, 112, 97, 114, 116, 32, 119, 97, 108, 108, 32, 115, 116, 97, 105, 114, 32, 116, 104, 105, 110, 103, 32, 115, 101, 101, 100, 32, 108, 97, 119, 32, 117, 112, 32, 114, 105, 103, 104, 116, 32, 100, 111, 119, 110, 32, 108, 101, 102, 116, 32, 115, 116, 105, 108, 108, 32, 112, 117, 115, 104, 32, 106, 111, 121, 32, 111, 114, 32, 97, 110, 100, 32, 110, 111, 116, 32, 114, 105, 99, 104, 32, 115, 105, 122, 101, 32, 104, 101, 114, 101, 32, 119, 111, 114, 116, 104, 32, 99, 114, 111, 115, 115, 32, 97, 103, 97, 105, 110, 115, 116, 32, 121, 101, 97, 114, 32]
def chW (i : Int) : Int := TXI.getD i.toNat 0
theorem chW_all : ∀ k : Nat, k < 126 → (Int32.ofInt (q_and (TXB.getD k 0).toInt 255)).toUInt32 % 65536 = (Int32.ofInt (TXI.getD k 0)).toUInt32 ∧ ((Int32.ofInt (TXI.getD k 0)).toUInt32.toInt32 = Int32.ofInt (TXI.getD k 0)) ∧ narrow .char (vI (TXI.getD k 0)) = vI (TXI.getD k 0) ∧ (0 ≤ TXI.getD k 0 ∧ TXI.getD k 0 ≤ 255) := by decide +kernel
theorem chW_rng {i : Int} (h0 : 0 ≤ i) (h1 : i < 126) : 0 ≤ chW i ∧ chW i ≤ 255 := (chW_all i.toNat (by omega)).2.2.2
theorem inr_chW {i : Int} (h0 : 0 ≤ i) (h1 : i < 126) : InR (chW i) := by
  have := chW_rng h0 h1
  unfold InR
  omega
def isStr (C : CT) (S V : Nat) : Prop := (S = C.2.2.1 10 ∧ V = C.2.2.1 11) ∨ (S = C.2.2.1 12 ∧ V = C.2.2.1 13)
theorem isStr1 {C : CT} : isStr C (C.2.2.1 10) (C.2.2.1 11) := Or.inl ⟨rfl, rfl⟩
theorem isStr2 {C : CT} : isStr C (C.2.2.1 12) (C.2.2.1 13) := Or.inr ⟨rfl, rfl⟩
section RST
variable {p : Program} {l : Launch} {e : Env} {R : Room} {s : State} {m : MethodId} {args : Array Value} {below : List Frame} {meth : Method} {c : Code} {H : Heap} {locs : List Loc} {cells slots : Nat} {Q : State → Prop}
variable {cc : ByteArray} {pc nL lo : Nat} {ls : Array Slot} {rest : List Value} {own : String} {b n : Nat} {C : CT} {M : Mem}
theorem St.old (hS : St b C n M s H locs) : ∀ a : Nat, a < C.2.2.2.size → ¬ frb b a → H[a]? = C.2.2.2[a]? := fun a _ h => hS.2.2.1 a (Nat.not_le.mp h)
theorem Cx.str {S V : Nat} (F : Cx b p m c cc nL s args own C n lo) (hS : St b C n M s H locs) (hs : isStr C S V) : STR b S V s H := by
  rcases hs with ⟨rfl, rfl⟩ | ⟨rfl, rfl⟩
  · exact F.2.2.2.2.1.2.kept hS.old
  · exact F.2.2.2.2.2.1.2.kept hS.old
theorem r_gets {Cn nm d : String} {v : Value} {index : Nat} (F : Cx b p m c cc nL s args own C n lo) (hS : St b C n M s H locs) (hZ : va_Z Cn nm d v (frb b) s C.2.2.2) (hlink : Cond.fieldLink own index Cn nm d ∈ lw_good) (hdg : decode cc pc = .ok (.getstatic index, 3))
    (kk : W p l e R s m args below meth c H locs cells slots Q (F0 m (pc + 3) ls (v :: rest))) : W p l e R s m args below meth c H locs cells slots Q (F0 m pc ls rest) := by
  obtain ⟨cf, kf, fi, f, a, cell, h1, h2, h3, h4, h5, h6, h7, h8⟩ := hZ.kept hS.old
  exact W.gets F.hx F.hb F.hown (F.hts hlink) h1 h2 h3 h4 h5 (fun e => by rw [e] at h6; cases h6) h7 rfl hdg kk
theorem r_getS {q : Nat} {o nm d : String} {v : Value} {index : Nat} (F : Cx b p m c cc nL s args own C n lo) (hE : va_OF o nm d v q (frb b) s H) (hlink : Cond.fieldLink own index o nm d ∈ lw_good) (hdg : decode cc pc = .ok (.getfield index, 3))
    (kk : W p l e R s m args below meth c H locs cells slots Q (F0 m (pc + 3) ls (v :: rest))) : W p l e R s m args below meth c H locs cells slots Q (F0 m pc ls (.ref q :: rest)) := by
  obtain ⟨cf, k, fi, f, cell, h1, h2, h3, h4, h5, h6⟩ := hE
  exact W.getf F.hx F.hb F.hown (F.hts hlink) h1 h2 h3 h4 (v := v) h5 rfl rfl hdg kk
theorem r_alenS {V : Nat} {f : Nat → Value} (F : Cx b p m c cc nL s args own C n lo) (hT : va_T .byte V 126 f (frb b) s H) (hdg : decode cc pc = .ok (.arraylength, 1))
    (kk : W p l e R s m args below meth c H locs cells slots Q (F0 m (pc + 1) ls (vI 126 :: rest))) : W p l e R s m args below meth c H locs cells slots Q (F0 m pc ls (.ref V :: rest)) := by
  obtain ⟨cell, h1, h2, h3, h4, h5, h6⟩ := hT
  exact W.alen (n := Int32.ofInt 126) F.hx F.hb h1 h2 (by rw [h5]; rfl) rfl rfl hdg kk
theorem r_baldS {V : Nat} {f : Nat → Value} {i : Int} (F : Cx b p m c cc nL s args own C n lo) (hT : va_T .byte V 126 f (frb b) s H) (hr : InR i) (h0 : 0 ≤ i) (h1 : i < 126) (hdg : decode cc pc = .ok (.baload, 1))
    (kk : W p l e R s m args below meth c H locs cells slots Q (F0 m (pc + 1) ls (f i.toNat :: rest))) : W p l e R s m args below meth c H locs cells slots Q (F0 m pc ls (vI i :: .ref V :: rest)) := by
  obtain ⟨cell, g1, g2, g3, g4, g5, g6, g7⟩ := hT
  have en : (Int32.ofInt i).toNatClampNeg = i.toNat := q_nn_of hr
  have hin := q_vp_in_of (n := 126) hr h0 h1
  refine W.bald (v := f i.toNat) F.hx F.hb g1 g2 g3 (fun q => hin (q.elim Or.inl (fun z => Or.inr (Nat.le_trans g4 z)))) (by rw [en]; exact g6 _ (by omega)) rfl rfl hdg kk
/-- a call on the words' text -/
theorem r_runVT {S V d mL index na : Nat} {y : MethodName} {by_ : ByteArray} {ret : Option FieldType} {As : List Value} {Qc : Array Value → State → Outcome → State → Prop} (F : Cx b p m c cc nL s args own C n lo) (hS : St b C n M s H locs) (hs : isStr C S V) (hy : y.cls = "java/lang/String")
    (hM : CM l b C n d y by_ mL ret (.ref S :: As) M Qc) (hG : GoodIn lw_good (wsV own index y.cls y (wsM y by_ mL ret))) (hd : y.cls ≠ "java/lang/invoke/MethodHandle" ∧ y.cls ≠ "java/lang/invoke/VarHandle" ∧ (parseMethodDescriptor y.desc).map (fun d => d.parameters.length) = some na) (hR : d + 1 ≤ R.frames ∧ 8 + (mL + 11) + 48 * d ≤ R.locals)
    (hn : As.length = na) (hsz : ls.size = nL) (hrest : (rest.map fun v => v.category).sum ≤ 8) (hcs : cells ≤ R.cells ∧ slots ≤ R.slots) {st0 : List Value} (hst : st0 = As.reverse ++ .ref S :: rest) (hdg : decode cc pc = .ok (.invokevirtual index, 3)) :
    va_Run p l e R s m args below meth c H locs cells slots 0 0 (F0 m pc ls st0) rest (Qc (Value.ref S :: As).toArray) (frb b) := by
  refine va_runV F.1 hM (cwV na F.1.2.2.2.2 hG rfl rfl rfl ⟨rfl, hd⟩ hR) ⟨HS_blind, ?_, fun U hU hW => ⟨rfl, hS.hs F.2.1 F.2.2.2 hU hW⟩⟩ rfl hn hsz hst (lv_room hrest) hdg hcs
  obtain ⟨cell, q1, q2, q3, -⟩ := (F.str hS hs).1
  exact ⟨cell, q1, q2, by rw [hy]; exact q3⟩
end RST
theorem c_Str_coder (l : Launch) {b n : Nat} {C : CT} (M : Mem) {S V : Nat} (hs : isStr C S V) : CM l b C n 0 y_Str_coder b_Str_coder 1 (some .byte) [.ref S] M (QI b C n M 0) := by
  refine CM.of (lo := 0) (ow := "java/lang/String") (by decide) rfl (Nat.le_of_ble_eq_true rfl) (Nat.zero_le _) (fun p e s m below meth c F hlk hr hS ls hl => ?_)
  have hl : lv_has ls 1 [(0, .ref S)] := hl
  have hT := F.str hS hs
  refine r_gets F hS F.2.2.2.2.2.2.1 mw_645 d_Str_coder_0 ?_
  refine r_if_eq (tgt := 13) F.hx F.hb (inr_c rfl) d_Str_coder_3 (by decide) (fun q => absurd q (by decide)) (fun _ => ?_)
  refine lv_aload_n F.hx F.hb d_Str_coder_6 rfl (lv_at hl 0 rfl) ?_
  refine r_getS F hT.2.1 mw_2116 d_Str_coder_7 ?_
  refine lv_goto (tgt := 14) F.hx F.hb d_Str_coder_10 (by decide) ?_
  exact r_iret F hlk hr rfl hS (inr_c rfl) d_Str_coder_14
theorem c_Str_isLatin1 (l : Launch) {b n : Nat} {C : CT} (M : Mem) {S V : Nat} (hs : isStr C S V) : CM l b C n 0 y_Str_isLatin1 b_Str_isLatin1 1 (some .boolean) [.ref S] M (QZ b C n M 1) := by
  refine CM.of (lo := 0) (ow := "java/lang/String") (by decide) rfl (Nat.le_of_ble_eq_true rfl) (Nat.zero_le _) (fun p e s m below meth c F hlk hr hS ls hl => ?_)
  have hl : lv_has ls 1 [(0, .ref S)] := hl
  have hT := F.str hS hs
  refine r_gets F hS F.2.2.2.2.2.2.1 mw_645 d_Str_isLatin1_0 ?_
  refine r_if_eq (tgt := 17) F.hx F.hb (inr_c rfl) d_Str_isLatin1_3 (by decide) (fun q => absurd q (by decide)) (fun _ => ?_)
  refine lv_aload_n F.hx F.hb d_Str_isLatin1_6 rfl (lv_at hl 0 rfl) ?_
  refine r_getS F hT.2.1 mw_2116 d_Str_isLatin1_7 ?_
  refine r_if_ne (tgt := 17) F.hx F.hb (inr_c rfl) d_Str_isLatin1_10 (by decide) (fun q => absurd rfl q) (fun _ => ?_)
  refine r_iconst F.hx F.hb d_Str_isLatin1_13 ?_
  refine lv_goto (tgt := 18) F.hx F.hb d_Str_isLatin1_14 (by decide) ?_
  exact r_zret F hlk hr hS (Or.inr rfl) d_Str_isLatin1_18
theorem c_Str_length (l : Launch) {b n : Nat} {C : CT} (M : Mem) {S V : Nat} (hs : isStr C S V) : CM l b C n 1 y_Str_length b_Str_length 1 (some .int) [.ref S] M (QI b C n M 126) := by
  refine CM.of (lo := 0) (ow := "java/lang/String") (by decide) rfl (Nat.le_of_ble_eq_true rfl) (Nat.zero_le _) (fun p e s m below meth c F hlk hr hS ls hl => ?_)
  have hl : lv_has ls 1 [(0, .ref S)] := hl
  have hT := F.str hS hs
  refine lv_aload_n F.hx F.hb d_Str_length_0 rfl (lv_at hl 0 rfl) ?_
  refine r_getS F hT.2.2.1 mw_2115 d_Str_length_1 ?_
  refine r_alenS F hT.2.2.2 d_Str_length_4 ?_
  refine lv_aload_n F.hx F.hb d_Str_length_5 rfl (lv_at hl 0 rfl) ?_
  refine r_backI F hS (r_runVT (As := []) F hS hs rfl (c_Str_coder l M hs) gs_java_lang_String_335 hd_Str_coder ⟨Nat.le_of_ble_eq_true rfl, Nat.le_of_ble_eq_true rfl⟩ rfl hl.1 (Nat.le_of_ble_eq_true rfl) ⟨Nat.zero_le _, Nat.zero_le _⟩ rfl d_Str_length_6) (fun H locs hS _ => ?_)
  refine r_ishr F.hx F.hb d_Str_length_9 ?_
  rw [show q_shr 126 0 = 126 from by decide +kernel]
  exact r_iret F hlk hr rfl hS (inr_c rfl) d_Str_length_10
theorem c_Pre_checkIndex (l : Launch) {b n : Nat} {C : CT} (M : Mem) {i k : Int} {t : Nat} (hi : InR i) (hk : InR k) (h0 : 0 ≤ i) (h1 : i < k) : CM l b C n 0 y_Pre_checkIndex b_Pre_checkIndex 3 (some .int) [vI i, vI k, .ref t] M (QI b C n M i) := by
  refine CM.of (lo := 0) (ow := "jdk/internal/util/Preconditions") (by decide) rfl (Nat.le_of_ble_eq_true rfl) (Nat.zero_le _) (fun p e s m below meth c F hlk hr hS ls hl => ?_)
  have hl : lv_has ls 3 [(0, vI i), (1, vI k), (2, .ref t)] := hl
  refine lv_iload_n F.hx F.hb d_Pre_checkIndex_0 rfl (lv_at hl 0 rfl) ?_
  refine r_if_lt (tgt := 9) F.hx F.hb hi d_Pre_checkIndex_1 (by decide) (fun q => absurd q (by omega)) (fun _ => ?_)
  refine lv_iload_n F.hx F.hb d_Pre_checkIndex_4 rfl (lv_at hl 0 rfl) ?_
  refine lv_iload_n F.hx F.hb d_Pre_checkIndex_5 rfl (lv_at hl 1 rfl) ?_
  refine r_icmp_lt (tgt := 16) F.hx F.hb hi hk d_Pre_checkIndex_6 (by decide) (fun _ => ?_) (fun q => absurd h1 q)
  refine lv_iload_n F.hx F.hb d_Pre_checkIndex_16 rfl (lv_at hl 0 rfl) ?_
  exact r_iret F hlk hr rfl hS hi d_Pre_checkIndex_17
theorem c_Pre_checkIndexN (l : Launch) {b n : Nat} {C : CT} (M : Mem) {i k : Int} (hi : InR i) (hk : InR k) (h0 : 0 ≤ i) (h1 : i < k) : CM l b C n 0 y_Pre_checkIndex b_Pre_checkIndex 3 (some .int) [vI i, vI k, .null] M (QI b C n M i) := by
  refine CM.of (lo := 0) (ow := "jdk/internal/util/Preconditions") (by decide) rfl (Nat.le_of_ble_eq_true rfl) (Nat.zero_le _) (fun p e s m below meth c F hlk hr hS ls hl => ?_)
  have hl : lv_has ls 3 [(0, vI i), (1, vI k), (2, .null)] := hl
  refine lv_iload_n F.hx F.hb d_Pre_checkIndex_0 rfl (lv_at hl 0 rfl) ?_
  refine r_if_lt (tgt := 9) F.hx F.hb hi d_Pre_checkIndex_1 (by decide) (fun q => absurd q (by omega)) (fun _ => ?_)
  refine lv_iload_n F.hx F.hb d_Pre_checkIndex_4 rfl (lv_at hl 0 rfl) ?_
  refine lv_iload_n F.hx F.hb d_Pre_checkIndex_5 rfl (lv_at hl 1 rfl) ?_
  refine r_icmp_lt (tgt := 16) F.hx F.hb hi hk d_Pre_checkIndex_6 (by decide) (fun _ => ?_) (fun q => absurd h1 q)
  refine lv_iload_n F.hx F.hb d_Pre_checkIndex_16 rfl (lv_at hl 0 rfl) ?_
  exact r_iret F hlk hr rfl hS hi d_Pre_checkIndex_17
theorem c_Str_checkIndex (l : Launch) {b n : Nat} {C : CT} (M : Mem) {i k : Int} (hi : InR i) (hk : InR k) (h0 : 0 ≤ i) (h1 : i < k) : CM l b C n 1 y_Str_checkIndex b_Str_checkIndex 2 (none) [vI i, vI k] M (QV b C n M) := by
  refine CM.of (lo := 0) (ow := "java/lang/String") (by decide) rfl (Nat.le_of_ble_eq_true rfl) (Nat.zero_le _) (fun p e s m below meth c F hlk hr hS ls hl => ?_)
  have hl : lv_has ls 2 [(0, vI i), (1, vI k)] := hl
  refine lv_iload_n F.hx F.hb d_Str_checkIndex_0 rfl (lv_at hl 0 rfl) ?_
  refine lv_iload_n F.hx F.hb d_Str_checkIndex_1 rfl (lv_at hl 1 rfl) ?_
  rcases F.2.2.2.2.2.2.2 with hZ | ⟨t, hZ⟩
  · refine r_gets F hS hZ mw_661 d_Str_checkIndex_2 ?_
    refine r_backI F hS (r_runS (As := [vI i, vI k, .null]) F hS (c_Pre_checkIndexN l M hi hk h0 h1) gs_java_lang_String_1059 hd_Pre_checkIndex ⟨Nat.le_of_ble_eq_true rfl, Nat.le_of_ble_eq_true rfl⟩ rfl hl.1 (Nat.le_of_ble_eq_true rfl) ⟨Nat.zero_le _, Nat.zero_le _⟩ rfl d_Str_checkIndex_5) (fun H locs hS _ => ?_)
    refine lv_pop F.hx F.hb d_Str_checkIndex_8 rfl ?_
    exact r_vret F hlk hr hS d_Str_checkIndex_9
  · refine r_gets F hS hZ mw_661 d_Str_checkIndex_2 ?_
    refine r_backI F hS (r_runS (As := [vI i, vI k, .ref t]) F hS (c_Pre_checkIndex l M hi hk h0 h1) gs_java_lang_String_1059 hd_Pre_checkIndex ⟨Nat.le_of_ble_eq_true rfl, Nat.le_of_ble_eq_true rfl⟩ rfl hl.1 (Nat.le_of_ble_eq_true rfl) ⟨Nat.zero_le _, Nat.zero_le _⟩ rfl d_Str_checkIndex_5) (fun H locs hS _ => ?_)
    refine lv_pop F.hx F.hb d_Str_checkIndex_8 rfl ?_
    exact r_vret F hlk hr hS d_Str_checkIndex_9
theorem c_SL1_charAt (l : Launch) {b n : Nat} {C : CT} (M : Mem) {S V : Nat} (hs : isStr C S V) {i : Int} (hi : InR i) (h0 : 0 ≤ i) (h1 : i < 126) : CM l b C n 2 y_SL1_charAt b_SL1_charAt 2 (some .char) [.ref V, vI i] M (QI b C n M (chW i)) := by
  refine CM.of (lo := 0) (ow := "java/lang/StringLatin1") (by decide) rfl (Nat.le_of_ble_eq_true rfl) (Nat.zero_le _) (fun p e s m below meth c F hlk hr hS ls hl => ?_)
  have hl : lv_has ls 2 [(0, .ref V), (1, vI i)] := hl
  refine lv_iload_n F.hx F.hb d_SL1_charAt_0 rfl (lv_at hl 1 rfl) ?_
  refine lv_aload_n F.hx F.hb d_SL1_charAt_1 rfl (lv_at hl 0 rfl) ?_
  refine r_alenS F (F.str hS hs).2.2.2 d_SL1_charAt_2 ?_
  refine r_backV F hS (r_runS (As := [vI i, vI 126]) F hS (c_Str_checkIndex l M hi (inr_c rfl) h0 h1) gs_java_lang_StringLatin1_9 hd_Str_checkIndex ⟨Nat.le_of_ble_eq_true rfl, Nat.le_of_ble_eq_true rfl⟩ rfl hl.1 (Nat.le_of_ble_eq_true rfl) ⟨Nat.zero_le _, Nat.zero_le _⟩ rfl d_SL1_charAt_3) (fun H locs hS => ?_)
  refine lv_aload_n F.hx F.hb d_SL1_charAt_6 rfl (lv_at hl 0 rfl) ?_
  refine lv_iload_n F.hx F.hb d_SL1_charAt_7 rfl (lv_at hl 1 rfl) ?_
  refine r_baldS F (F.str hS hs).2.2.2 hi h0 h1 d_SL1_charAt_8 ?_
  show W p l e _ s m _ below meth c H locs 0 0 _ (F0 m (8 + 1) ls [.int (TXB.getD i.toNat 0)])
  rw [← q_of_toInt (TXB.getD i.toNat 0)]
  refine r_sipush F.hx F.hb d_SL1_charAt_9 rfl ?_
  refine r_iand F.hx F.hb d_SL1_charAt_12 ?_
  have hc := chW_all i.toNat (by omega)
  refine lv_i2c (v := Int32.ofInt (chW i)) F.hx F.hb d_SL1_charAt_13 (by rw [hc.1]; exact hc.2.1) ?_
  exact r_iret F hlk hr hc.2.2.1 hS (inr_chW h0 h1) d_SL1_charAt_14
theorem c_Str_charAt (l : Launch) {b n : Nat} {C : CT} (M : Mem) {S V : Nat} (hs : isStr C S V) {i : Int} (hi : InR i) (h0 : 0 ≤ i) (h1 : i < 126) : CM l b C n 3 y_Str_charAt b_Str_charAt 2 (some .char) [.ref S, vI i] M (QI b C n M (chW i)) := by
  refine CM.of (lo := 0) (ow := "java/lang/String") (by decide) rfl (Nat.le_of_ble_eq_true rfl) (Nat.zero_le _) (fun p e s m below meth c F hlk hr hS ls hl => ?_)
  have hl : lv_has ls 2 [(0, .ref S), (1, vI i)] := hl
  refine lv_aload_n F.hx F.hb d_Str_charAt_0 rfl (lv_at hl 0 rfl) ?_
  refine r_backZ F hS (r_runVT (As := []) F hS hs rfl (c_Str_isLatin1 l M hs) gs_java_lang_String_492 hd_Str_isLatin1 ⟨Nat.le_of_ble_eq_true rfl, Nat.le_of_ble_eq_true rfl⟩ rfl hl.1 (Nat.le_of_ble_eq_true rfl) ⟨Nat.zero_le _, Nat.zero_le _⟩ rfl d_Str_charAt_1) (fun H locs hS _ => ?_)
  refine r_if_eq (tgt := 16) F.hx F.hb (inr_c rfl) d_Str_charAt_4 (by decide) (fun q => absurd q (by decide)) (fun _ => ?_)
  refine lv_aload_n F.hx F.hb d_Str_charAt_7 rfl (lv_at hl 0 rfl) ?_
  refine r_getS F (F.str hS hs).2.2.1 mw_2115 d_Str_charAt_8 ?_
  refine lv_iload_n F.hx F.hb d_Str_charAt_11 rfl (lv_at hl 1 rfl) ?_
  refine r_backI F hS (r_runS (As := [.ref V, vI i]) F hS (c_SL1_charAt l M hs hi h0 h1) gs_java_lang_String_495 hd_SL1_charAt ⟨Nat.le_of_ble_eq_true rfl, Nat.le_of_ble_eq_true rfl⟩ rfl hl.1 (Nat.le_of_ble_eq_true rfl) ⟨Nat.zero_le _, Nat.zero_le _⟩ rfl d_Str_charAt_12) (fun H locs hS _ => ?_)
  exact r_iret F hlk hr (chW_all i.toNat (by omega)).2.2.1 hS (inr_chW h0 h1) d_Str_charAt_15
