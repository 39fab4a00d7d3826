/-! ===== the two exceptions of WardFalls.cell ===== -/
abbrev supN : List String := ["java/lang/RuntimeException", "java/lang/Exception"]
def EX (b : Nat) (U : State) : Prop :=
  (∃ a, vk_R "WardFalls" 156 "no such cell" a U) ∧ (∃ a, vk_R "WardFalls" 195 "no such what" a U) ∧ va_Nw (.castable ioN ioN) U ∧ va_Nw (.castable nsN nsN) U ∧ va_Nc nsN ioN U ∧ (va_Nw (.declares (Bundle.initS rtN)) U ∧ va_Nw (.declares (Bundle.initS "java/lang/Exception")) U ∧ va_Nw (.declares (Bundle.initS Bundle.tN)) U) ∧
  vx_Zq Bundle.tN "UNASSIGNED_STACK" Bundle.steD (frb b) U U.heap ∧ vx_Zq Bundle.tN "SUPPRESSED_SENTINEL" Bundle.listD (frb b) U U.heap
theorem EX.move {b : Nat} {s U : State} (h : EX b s) (hW : s.WarmedH U.vm) (hq : ∀ a : Nat, a < s.heap.size → ¬ frb b a → U.heap[a]? = s.heap[a]?) : EX b U := by
  obtain ⟨⟨a1, h1⟩, ⟨a2, h2⟩, h3, h4, h5, ⟨e1, e2, e3⟩, h6, h7⟩ := h
  exact ⟨⟨a1, h1.warm hW⟩, ⟨a2, h2.warm hW⟩, h3.warmC hW, h4.warmC hW, h5.moved hW.alike, ⟨e1.warmD hW, e2.warmD hW, e3.warmD hW⟩, (h6.moved hW.alike).kept hq, (h7.moved hW.alike).kept hq⟩
/-- what of a state is the heap's alone -/
def HB (b : Nat) (C : CT) (n : Nat) (M : Mem) (H : Heap) : Prop := b + n ≤ H.size ∧ HP b C n (GM M) M H ∧ (∀ q : Nat, q < b → H[q]? = C.2.2.2[q]?) ∧ RngOK n M
theorem HB.more {b : Nat} {C : CT} {n : Nat} {M : Mem} {H H1 : Heap} (h : HB b C n M H) (h1 : H.size ≤ H1.size) (h2 : ∀ q : Nat, q < H.size → H1[q]? = H[q]?) : HB b C n M H1 := by
  obtain ⟨g1, g2, g3, g4⟩ := h
  exact ⟨by omega, fun k hk => cellOK_congr (g2 k hk) (h2 _ (by omega)) (fun _ => rfl) (fun _ => rfl) (fun _ => rfl), fun q hq => (h2 q (by omega)).trans (g3 q hq), g4⟩
def HSX (b : Nat) (C : CT) (n : Nat) (M : Mem) (U : State) : Prop := HS b C n M U ∧ EX b U
theorem HSX_blind {b : Nat} {C : CT} {n : Nat} {M : Mem} {As : List Value} : FrameBlind (va_Pc As (HSX b C n M)) := by
  intro a U g mk h
  have h1 : va_Pc As (HS b C n M) a (U.calling g mk a) := HS_blind a U g mk ⟨h.1, h.2.1⟩
  refine ⟨h1.1, h1.2, ?_⟩
  obtain ⟨⟨a1, h1⟩, ⟨a2, h2⟩, h3, h4, h5, ⟨e1, e2, e3⟩, h6, h7⟩ := h.2.2
  have hv : (U.calling g mk a).vm = U.vm := rfl
  exact ⟨⟨a1, h1.same hv⟩, ⟨a2, h2.same hv⟩, va_tabs rfl (rfl : U.vm = (U.calling g mk a).vm) h3, va_tabs rfl (rfl : U.vm = (U.calling g mk a).vm) h4, va_Nc.moved (u := U) (Vm.Alike.refl U.vm) h5, ⟨va_tabs rfl (rfl : U.vm = (U.calling g mk a).vm) e1, va_tabs rfl (rfl : U.vm = (U.calling g mk a).vm) e2, va_tabs rfl (rfl : U.vm = (U.calling g mk a).vm) e3⟩, vx_Zq.moved (u := U) (U := U.calling g mk a) (Vm.Alike.refl U.vm) h6, vx_Zq.moved (u := U) (U := U.calling g mk a) (Vm.Alike.refl U.vm) h7⟩
def XCx (b : Nat) (C : CT) (n : Nat) (M : Mem) (k : Int) : String → State → State → Prop := vx_X (fun _ : Unit => True) (fun E _ t => ((k = 1 ∧ E = ioN) ∨ (k = 2 ∧ E = nsN)) ∧ HB b C n M t.heap) (frb b)
def QX (b : Nat) (C : CT) (n : Nat) (M : Mem) (k r : Int) : Array Value → State → Outcome → State → Prop := va_Qi (fun x (_ : Unit) => k = 0 ∧ x = Int32.ofInt r ∧ InR r) (fun _ t => HS b C n M t) (frb b)
def exNG (X : String) : List Cond := [.castable X X, .declares (Bundle.initS rtN), .declares (Bundle.initS "java/lang/Exception"), .declares (Bundle.initS Bundle.tN)]
theorem atS_io : ∀ w ∈ (vx_atS "WardFalls" 158 ioN supN).filter goodWord, w ∈ lw_tbl := of_places [138, 139, 140, 141, 148, 149, 150, 156, 162, 321, 345, 387, 429, 459, 479, 511, 517, 589, 1407, 1413, 1414, 1415, 1416, 1417, 1418, 1419, 1420, 1421, 1422, 1423, 1424, 1425, 1426, 1427, 1428, 1429, 1430, 1431, 1432, 1433, 1434, 1435, 1436, 1437, 1438, 1439, 1440, 1441, 1442, 1443, 1444, 1445, 1447, 1448, 1449, 1450, 1451, 1452, 1454, 1455, 1456, 1457, 1458, 1459, 1460, 1461, 1462, 1463, 1464, 1465, 1466, 1467, 1468, 1469, 1470, 1471, 1472, 1473, 1474, 1475, 1476, 1477, 1478, 1500, 2213, 2227, 2229] (by decide +kernel)
theorem atS_ns : ∀ w ∈ ((nsAtoms "WardFalls" 197).filter vx_no).filter goodWord, w ∈ lw_tbl := of_places [138, 139, 140, 142, 148, 149, 150, 156, 162, 321, 345, 387, 429, 459, 479, 511, 517, 589, 1408, 1416, 1417, 1418, 1419, 1420, 1421, 1425, 1427, 1429, 1431, 1433, 1434, 1435, 1436, 1437, 1438, 1439, 1440, 1441, 1442, 1443, 1444, 1445, 1446, 1447, 1448, 1449, 1450, 1451, 1452, 1458, 1459, 1460, 1461, 1462, 1463, 1464, 1465, 1466, 1467, 1468, 1469, 1470, 1471, 1472, 1473, 1474, 1476, 1477, 1479, 1480, 1481, 1482, 1483, 1484, 1485, 1486, 1487, 1489, 1490, 1491, 1492, 1493, 1494, 1500, 2213, 2228, 2229] (by decide +kernel)
theorem atN_io : ∀ w ∈ (vx_atS "WardFalls" 158 ioN supN).filter (fun w => !goodWord w), w ∈ exNG ioN := by decide +kernel
theorem atN_ns : ∀ w ∈ ((nsAtoms "WardFalls" 197).filter vx_no).filter (fun w => !goodWord w), w ∈ exNG nsN := by decide +kernel
theorem atO_io : ∀ w ∈ Cond.classLink "WardFalls" 154 ioN :: Cond.initialized ioN :: vx_atS "WardFalls" 158 ioN supN, vx_ot w = true := by decide +kernel
theorem atO_ns : ∀ w ∈ Cond.classLink "WardFalls" 193 nsN :: Cond.initialized nsN :: (nsAtoms "WardFalls" 197).filter vx_no, vx_ot w = true := by decide +kernel
section RXX
variable {p : Program} {l : Launch} {e : Env} {R : Room} {s : State} {m : MethodId} {args : Array Value} {below : List Frame} {meth : Method} {c : Code} {H : Heap} {locs : List Loc} {cells slots : Nat} {Q : State → Prop}
variable {cc : ByteArray} {pc nL lo : Nat} {ls : Array Slot} {rest : List Value} {own : String} {b n : Nat} {C : CT} {M : Mem}
theorem St.hb (h : St b C n M s H locs) : HB b C n M H := ⟨h.1, h.2.1, h.2.2.1, h.2.2.2.1⟩
theorem r_hat (F : Cx b p m c cc nL s args own C n lo) {L : List Cond} {X : String} (h1 : ∀ w ∈ L.filter goodWord, w ∈ lw_tbl) (h2 : ∀ w ∈ L.filter (fun w => !goodWord w), w ∈ exNG X) (h3 : va_Nw (.castable X X) s) (h4 : va_Nw (.declares (Bundle.initS rtN)) s ∧ va_Nw (.declares (Bundle.initS "java/lang/Exception")) s ∧ va_Nw (.declares (Bundle.initS Bundle.tN)) s) : ∀ w ∈ L, w.before args s = true :=
  vx_hat (fun w hw => F.hts (List.mem_filter.mpr ⟨h1 w hw, (List.mem_filter.mp hw).2⟩)) h2 (fun w hw => by
    simp only [exNG, List.mem_cons, List.not_mem_nil, or_false] at hw
    rcases hw with rfl | rfl | rfl | rfl
    · exact va_Nw.use rfl h3
    · exact va_Nw.use rfl h4.1
    · exact va_Nw.use rfl h4.2.1
    · exact va_Nw.use rfl h4.2.2)
theorem r_throw1 {is : Nat} {k : Int} {Qc : Array Value → State → Outcome → State → Prop} (F : Cx b p m c cc nL s args "WardFalls" C n lo) (hlf : l.stackTraces = false) (hlk : meth.locks = false) (hex : ∀ x ∈ c.exceptionTable.toList, False) (hX : EX b s) (hS : St b C n M s H locs) (hk : k = 1) (hsz : ls.size = nL) (h1 : Cond.classLink "WardFalls" 154 ioN ∈ lw_good) (h2 : Cond.initialized ioN ∈ lw_good)
    (d0 : decode cc pc = .ok (.new 154, 3)) (d3 : decode cc (pc + 3) = .ok (.dup, 1)) (d4 : decode cc (pc + 4) = .ok (.ldc 156, 2)) (d6 : decode cc (pc + 6) = .ok (.invokespecial 158, 3)) (d9 : decode cc (pc + 9) = .ok (.athrow, 1))
    (hRf : 5 < R.frames) (hRl : (rest.map fun v => v.category).sum + 82 ≤ R.locals) (hRc : cells + 1 ≤ R.cells) (hRs : slots + 6 ≤ R.slots) :
    W p l e R s m args below meth c H locs cells slots (vx_MQ below Qc (XCx b C n M k) args s (cells + 1) (slots + 6) (frb b)) (F0 m pc ls rest) := by
  obtain ⟨⟨sa, x1⟩, -, x3, -, -, x5, x6, x7⟩ := hX
  exact vx_throwS (names := supN) (text := "no such cell") F.hx F.hb hlf F.hown (by decide) (by decide) (F.hts h1) (F.hts h2) x1 (r_hat F atS_io atN_io x3 x5) atO_io x6 x7 hS.2.2.2.2 (hsz.trans F.hml.symm) d0 d3 d4 d6 d9 (fun x hx => (hex x hx).elim) hRf hRl hRc hRs hlk
    (fun t _ z1 z2 => ⟨(), trivial, ⟨Or.inl ⟨hk, rfl⟩, hS.hb.more z1 z2⟩, ⟨Nat.le_trans hS.2.2.2.2.1 z1, fun q q1 q2 => (z2 q (Nat.lt_of_lt_of_le q1 hS.2.2.2.2.1)).trans (hS.2.2.2.2.2.1 q q1 q2)⟩⟩) hS.2.2.2.2.2.2 (Nat.le_refl _) (Nat.le_refl _)
theorem r_throw2 {k : Int} {Qc : Array Value → State → Outcome → State → Prop} (F : Cx b p m c cc nL s args "WardFalls" C n lo) (hlf : l.stackTraces = false) (hlk : meth.locks = false) (hex : ∀ x ∈ c.exceptionTable.toList, False) (hX : EX b s) (hS : St b C n M s H locs) (hk : k = 2) (hsz : ls.size = nL) (h1 : Cond.classLink "WardFalls" 193 nsN ∈ lw_good) (h2 : Cond.initialized nsN ∈ lw_good)
    (d0 : decode cc pc = .ok (.new 193, 3)) (d3 : decode cc (pc + 3) = .ok (.dup, 1)) (d4 : decode cc (pc + 4) = .ok (.ldc 195, 2)) (d6 : decode cc (pc + 6) = .ok (.invokespecial 197, 3)) (d9 : decode cc (pc + 9) = .ok (.athrow, 1))
    (hRf : 5 < R.frames) (hRl : (rest.map fun v => v.category).sum + 82 ≤ R.locals) (hRc : cells + 1 ≤ R.cells) (hRs : slots + 6 ≤ R.slots) :
    W p l e R s m args below meth c H locs cells slots (vx_MQ below Qc (XCx b C n M k) args s (cells + 1) (slots + 6) (frb b)) (F0 m pc ls rest) := by
  obtain ⟨-, ⟨sa, x1⟩, -, x3, -, x5, x6, x7⟩ := hX
  exact ns_throwS (text := "no such what") F.hx F.hb hlf F.hown (F.hts h1) (F.hts h2) x1 (r_hat F atS_ns atN_ns x3 x5) atO_ns x6 x7 hS.2.2.2.2 (hsz.trans F.hml.symm) d0 d3 d4 d6 d9 (fun x hx => (hex x hx).elim) hRf hRl hRc hRs hlk
    (fun t _ z1 z2 => ⟨(), trivial, ⟨Or.inr ⟨hk, rfl⟩, hS.hb.more z1 z2⟩, ⟨Nat.le_trans hS.2.2.2.2.1 z1, fun q q1 q2 => (z2 q (Nat.lt_of_lt_of_le q1 hS.2.2.2.2.1)).trans (hS.2.2.2.2.2.1 q q1 q2)⟩⟩) hS.2.2.2.2.2.2 (Nat.le_refl _) (Nat.le_refl _)
theorem r_xret {XC : String → State → State → Prop} {v : Int} (F : Cx b p m c cc nL s args own C n lo) (hlk : meth.locks = false) (hr : meth.sig.returnType = some .int) (hS : St b C n M s H locs) (hv : InR v) (hdg : decode cc pc = .ok (.ireturn, 1)) : W p l e R s m args below meth c H locs cells slots (vx_MQ below (QX b C n M 0 v) XC args s (cells + 1) (slots + 6) (frb b)) (F0 m pc ls [vI v]) :=
  W.widen (Nat.le_succ _) (Nat.le_add_right _ 6) (vx_ret (W.zret F.hx F.hb hr rfl (fun t ht hW => ⟨⟨Int32.ofInt v, (), rfl, ⟨rfl, rfl, hv⟩, hS.hs F.2.1 F.2.2.2 ht hW⟩, hS.2.2.2.2.F ht⟩) hS.2.2.2.2.2.2 hdg hlk))
abbrev rmX (d mc ms : Nat) : Room := { frames := d, cells := mc, slots := ms, locals := 48 * d }
abbrev CXm (l : Launch) (b : Nat) (C : CT) (n d : Nat) (y : MethodName) (by_ : ByteArray) (mL : Nat) (ret : Option FieldType) (As : List Value) (M : Mem) (res : Int × Int) : Prop := vx_Met l y (wsM y by_ mL ret) (rmX d 1 6) (va_Pc As (HSX b C n M)) (QX b C n M res.1 res.2) (XCx b C n M res.1) 1 6 (frb b)
theorem CXm.of {y : MethodName} {by_ : ByteArray} {mL d : Nat} {ret : Option FieldType} {As : List Value} {res : Int × Int} {ow : String} (hy : plainName y.cls = true) (ho : y.cls = ow) (hlen : (lg_sl As).length ≤ mL) (hlo : lo ≤ n)
    (body : ∀ (p : Program) (e : Env) (s : State) (m : MethodId) (below : List Frame) (meth : Method) (c : Code), Cx b p m c by_ mL s As.toArray ow C n lo → meth.locks = false → meth.sig.returnType = ret → (∀ x ∈ c.exceptionTable.toList, False) → EX b s → St b C n M s s.heap [] →
      ∀ ls : Array Slot, lv_has ls mL (lv_args 0 As) → W p l e (headSpec (wsM y by_ mL ret) (rmX d 1 6)).room s m As.toArray below meth c s.heap [] 0 0 (vx_MQ below (QX b C n M res.1 res.2) (XCx b C n M res.1) As.toArray s (0 + 1) (0 + 6) (frb b)) (F0 m 0 ls [])) : CXm l b C n d y by_ mL ret As M res := by
  refine vx_ofW (cc := by_) (maxL := mL) (ret := ret) hy rfl ?_
  intro p e s m args below meth c s₁ B hml hex hv
  obtain ⟨rfl, hHS, hEX⟩ := hv
  have hts := atoms_spec (ws := wsM y by_ mL ret) B.pre
  have hown : s.vm.findClass ow = some m.cls := ho ▸ findClass_of_methodNamed B.named
  have hl := lv_entry As (n := mL) hlen
  rw [lg_entry_eq]
  exact body p e s m below meth c ⟨⟨B.exec, B.bytes, hml, hown, fun w hw => hts w (List.mem_cons_of_mem _ hw)⟩, hHS.2.2.2.2.1, hlo, hHS.2.2.2.2.2⟩ B.notSynchronized B.returns hex hEX hHS.st _ hl
/-- the call of such a method -/
theorem r_preVX {k ci N : Nat} {q : vw_C} {As : List Value} (F : Cx b p m c cc nL s args own C n lo) (hX : EX b s) (hS : St b C n M s H locs) (hk : k < lo) (hsh : shK k = ci + 4) (hc : classes[ci]? = some q) : PreV s H q.1 (b + k) (va_Pc (.ref (b + k) :: As) (HSX b C n M)) As := by
  refine ⟨HSX_blind, (r_preV (N := N) (As := As) F hS hk hsh hc).2.1, fun U hU hW => ⟨rfl, hS.hs F.2.1 F.2.2.2 hU hW, hX.move hW (fun a h1 h2 => by rw [hU]; exact hS.2.2.2.2.2.1 a h1 h2)⟩⟩
end RXX
