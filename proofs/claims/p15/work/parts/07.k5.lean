section RC
variable {p : Program} {l : Launch} {e : Env} {R : Room} {s : State} {m : MethodId} {args : Array Value} {below : List Frame} {meth : Method} {c : Code} {H : Heap} {locs : List Loc} {cells slots : Nat} {Q : State → Prop}
variable {cc : ByteArray} {pc nL lo : Nat} {ls : Array Slot} {rest : List Value} {own : String} {b n : Nat} {C : CT} {M : Mem}
theorem r_lcmp_if (hx : p.tables.exec = Jvm.exec) (hb : c.code = cc) {x y : Int64} {g : JFrame} (hdg : decode cc pc = .ok (.lcmp, 1)) (k : W p l e R s m args below meth c H locs cells slots Q (F0 m (pc + 1) ls (.int (lg_cmp x y) :: rest))) : W p l e R s m args below meth c H locs cells slots Q (F0 m pc ls (.long y :: .long x :: rest)) := W.lcmp hx hb hdg k
/-- a contract of a method that makes nothing: the memory M before, M' behind -/
abbrev rmD (d : Nat) : Room := { frames := d, cells := 0, slots := 0, locals := 48 * d }
abbrev wsM (y : MethodName) (by_ : ByteArray) (mL : Nat) (ret : Option FieldType) : List Cond := Cond.code y by_ mL ret :: lw_good
def QI (b : Nat) (C : CT) (n : Nat) (M' : Mem) (r : Int) : Array Value → State → Outcome → State → Prop := va_Qi (fun x (_ : Unit) => x = Int32.ofInt r ∧ InR r) (fun _ t => HS b C n M' t) (frb b)
def QZ (b : Nat) (C : CT) (n : Nat) (M' : Mem) (r : Int) : Array Value → State → Outcome → State → Prop := va_Qi (fun x (_ : Unit) => x = Int32.ofInt r ∧ (r = 0 ∨ r = 1)) (fun _ t => HS b C n M' t) (frb b)
def QL (b : Nat) (C : CT) (n : Nat) (M' : Mem) (r : Int64) : Array Value → State → Outcome → State → Prop := va_Ql (fun x (_ : Unit) => x = r) (fun _ t => HS b C n M' t) (frb b)
def QV (b : Nat) (C : CT) (n : Nat) (M' : Mem) : Array Value → State → Outcome → State → Prop := va_Qv (fun (_ : Unit) => True) (fun _ t => HS b C n M' t) (frb b)
def QR (b : Nat) (C : CT) (n : Nat) (M' : Mem) (k : Nat) : Array Value → State → Outcome → State → Prop := va_Qr (fun (_ : Unit) => True) (fun _ a t => a = b + k ∧ HS b C n M' t) (frb b)
abbrev CM (l : Launch) (b : Nat) (C : CT) (n d : Nat) (y : MethodName) (by_ : ByteArray) (mL : Nat) (ret : Option FieldType) (As : List Value) (M : Mem) (Qc : Array Value → State → Outcome → State → Prop) : Prop := Met l y (wsM y by_ mL ret) (rmD d) (va_Pc As (HS b C n M)) Qc 0 0 (frb b)
theorem good_M {y : MethodName} {by_ : ByteArray} {mL : Nat} {ret : Option FieldType} (h : Cond.code y by_ mL ret ∈ lw_good) : GoodIn lw_good (wsM y by_ mL ret) := by
  have hg : ∀ w ∈ lw_good, w ∈ lw_good ∧ ((w.onTables && w.keeps) = true ∨ ∃ ty, w = .arrayClass ty) := fun w hw => ⟨hw, good_of_word (List.mem_filter.mp hw).2⟩
  intro w hw
  rcases List.mem_cons.mp hw with rfl | hw
  · exact hg _ h
  · exact hg _ hw
theorem good_w {w : Cond} (h : w ∈ lw_good) : w ∈ lw_good ∧ ((w.onTables && w.keeps) = true ∨ ∃ ty, w = .arrayClass ty) := ⟨h, good_of_word (List.mem_filter.mp h).2⟩
theorem good_V {o2 : String} {ix : Nat} {Cn : String} {y : MethodName} {by_ : ByteArray} {mL : Nat} {ret : Option FieldType} (h0 : Cond.code y by_ mL ret ∈ lw_good) (h1 : Cond.methodLink o2 ix y ∈ lw_good) (h2 : Cond.instanceMethod y ∈ lw_good) (h3 : Cond.selects Cn y y ∈ lw_good) (h4 : Cond.initialized Cn ∈ lw_good) : GoodIn lw_good (wsV o2 ix Cn y (wsM y by_ mL ret)) := by
  intro w hw
  unfold wsV at hw
  rcases List.mem_append.mp hw with h | h
  · simp only [List.mem_cons, List.not_mem_nil, or_false] at h
    rcases h with rfl | rfl | rfl | rfl
    · exact good_w h1
    · exact good_w h2
    · exact good_w h3
    · exact good_w h4
  · exact good_M h0 w h
theorem good_S {o2 : String} {ix : Nat} {y : MethodName} {by_ : ByteArray} {mL : Nat} {ret : Option FieldType} (h0 : Cond.code y by_ mL ret ∈ lw_good) (h1 : Cond.methodLink o2 ix y ∈ lw_good) (h2 : Cond.static y ∈ lw_good) (h4 : Cond.initialized y.cls ∈ lw_good) : GoodIn lw_good (va_wsS o2 ix y (wsM y by_ mL ret)) := by
  intro w hw
  unfold va_wsS at hw
  rcases List.mem_append.mp hw with h | h
  · simp only [List.mem_cons, List.not_mem_nil, or_false] at h
    rcases h with rfl | rfl | rfl
    · exact good_w h1
    · exact good_w h2
    · exact good_w h4
  · exact good_M h0 w h
/-- the beginning of a walk of such a method -/
theorem CM.of {y : MethodName} {by_ : ByteArray} {mL d : Nat} {ret : Option FieldType} {As : List Value} {Qc : Array Value → State → Outcome → State → Prop} {ow : String} (hy : plainName y.cls = true) (ho : y.cls = ow) (hlen : (lg_sl As).length ≤ mL) (hlo : lo ≤ n)
    (body : ∀ (p : Program) (e : Env) (s : State) (m : MethodId) (below : List Frame) (meth : Method) (c : Code), Cx b p m c by_ mL s As.toArray ow C n lo → meth.locks = false → meth.sig.returnType = ret → St b C n M s s.heap [] →
      ∀ ls : Array Slot, lv_has ls mL (lv_args 0 As) → W p l e (headSpec (wsM y by_ mL ret) (rmD d)).room s m As.toArray below meth c s.heap [] 0 0 (MQ below Qc As.toArray s 0 0 (frb b)) (F0 m 0 ls [])) : CM l b C n d y by_ mL ret As M Qc := by
  refine Met.ofW (cc := by_) (maxL := mL) (ret := ret) hy rfl ?_
  intro p e s m args below meth c s₁ B hml hv
  obtain ⟨rfl, hHS⟩ := hv
  have hts := atoms_spec (ws := wsM y by_ mL ret) B.pre
  have hown : s.vm.findClass ow = some m.cls := ho ▸ findClass_of_methodNamed B.named
  have hl := lv_entry As (n := mL) hlen
  rw [lg_entry_eq]
  exact body p e s m below meth c ⟨⟨B.exec, B.bytes, hml, hown, fun w hw => hts w (List.mem_cons_of_mem _ hw)⟩, hHS.2.2.2.2.1, hlo, hHS.2.2.2.2.2⟩ B.notSynchronized B.returns hHS.st _ hl
/-- the ends -/
theorem r_iret {ty : FieldType} {v : Int} (F : Cx b p m c cc nL s args own C n lo) (hlk : meth.locks = false) (hr : meth.sig.returnType = some ty) (hn : narrow ty (vI v) = vI v) (hS : St b C n M s H locs) (hv : InR v) (hdg : decode cc pc = .ok (.ireturn, 1)) : W p l e R s m args below meth c H locs cells slots (MQ below (QI b C n M v) args s cells slots (frb b)) (F0 m pc ls [vI v]) :=
  W.zret F.hx F.hb hr hn (fun t ht hW => ⟨⟨Int32.ofInt v, (), rfl, ⟨rfl, hv⟩, hS.hs F.2.1 F.2.2.2 ht hW⟩, hS.2.2.2.2.F ht⟩) hS.2.2.2.2.2.2 hdg hlk
theorem r_zret {v : Int} (F : Cx b p m c cc nL s args own C n lo) (hlk : meth.locks = false) (hr : meth.sig.returnType = some .boolean) (hS : St b C n M s H locs) (hv : v = 0 ∨ v = 1) (hdg : decode cc pc = .ok (.ireturn, 1)) : W p l e R s m args below meth c H locs cells slots (MQ below (QZ b C n M v) args s cells slots (frb b)) (F0 m pc ls [vI v]) :=
  W.zret F.hx F.hb hr (nar_z hv) (fun t ht hW => ⟨⟨Int32.ofInt v, (), rfl, ⟨rfl, hv⟩, hS.hs F.2.1 F.2.2.2 ht hW⟩, hS.2.2.2.2.F ht⟩) hS.2.2.2.2.2.2 hdg hlk
theorem r_lret {v : Int64} (F : Cx b p m c cc nL s args own C n lo) (hlk : meth.locks = false) (hr : meth.sig.returnType = some .long) (hS : St b C n M s H locs) (hdg : decode cc pc = .ok (.lreturn, 1)) : W p l e R s m args below meth c H locs cells slots (MQ below (QL b C n M v) args s cells slots (frb b)) (F0 m pc ls [.long v]) :=
  W.lret F.hx F.hb hr (fun t ht hW => ⟨⟨v, (), rfl, rfl, hS.hs F.2.1 F.2.2.2 ht hW⟩, hS.2.2.2.2.F ht⟩) hS.2.2.2.2.2.2 hdg hlk
theorem r_vret (F : Cx b p m c cc nL s args own C n lo) (hlk : meth.locks = false) (hr : meth.sig.returnType = none) (hS : St b C n M s H locs) (hdg : decode cc pc = .ok (.return_, 1)) : W p l e R s m args below meth c H locs cells slots (MQ below (QV b C n M) args s cells slots (frb b)) (F0 m pc ls []) :=
  W.vret F.hx F.hb hr (fun t ht hW => ⟨⟨(), rfl, trivial, hS.hs F.2.1 F.2.2.2 ht hW⟩, hS.2.2.2.2.F ht⟩) hS.2.2.2.2.2.2 hdg hlk
/-- what came back of a call -/
theorem r_backI {M' : Mem} {r : Int} {st0 : List Value} {a : Array Value} (F : Cx b p m c cc nL s args own C n lo) (hS : St b C n M s H locs) (hr : va_Run p l e R s m args below meth c H locs cells slots 0 0 (F0 m pc ls st0) rest (QI b C n M' r a) (frb b))
    (kk : ∀ (H1 : Heap) (locs1 : List Loc), St b C n M' s H1 locs1 → InR r → W p l e R s m args below meth c H1 locs1 cells slots Q (F0 m (pc + 3) ls (vI r :: rest))) : W p l e R s m args below meth c H locs cells slots Q (F0 m pc ls st0) := by
  refine va_calli hr hS.2.2.2.2 (fun q _ h => h) (fun q h => h) (fun x u t H1 locs1 ht hvm hp hB hz ho hS1 => ?_)
  obtain ⟨rfl, hR⟩ := hp
  subst ht
  exact kk _ _ ⟨hB.1, hB.2.1, hB.2.2.1, hB.2.2.2.1, hS1⟩ hR
theorem r_backZ {M' : Mem} {r : Int} {st0 : List Value} {a : Array Value} (F : Cx b p m c cc nL s args own C n lo) (hS : St b C n M s H locs) (hr : va_Run p l e R s m args below meth c H locs cells slots 0 0 (F0 m pc ls st0) rest (QZ b C n M' r a) (frb b))
    (kk : ∀ (H1 : Heap) (locs1 : List Loc), St b C n M' s H1 locs1 → (r = 0 ∨ r = 1) → W p l e R s m args below meth c H1 locs1 cells slots Q (F0 m (pc + 3) ls (vI r :: rest))) : W p l e R s m args below meth c H locs cells slots Q (F0 m pc ls st0) := by
  refine va_calli hr hS.2.2.2.2 (fun q _ h => h) (fun q h => h) (fun x u t H1 locs1 ht hvm hp hB hz ho hS1 => ?_)
  obtain ⟨rfl, hR⟩ := hp
  subst ht
  exact kk _ _ ⟨hB.1, hB.2.1, hB.2.2.1, hB.2.2.2.1, hS1⟩ hR
theorem r_backL {M' : Mem} {r : Int64} {st0 : List Value} {a : Array Value} (F : Cx b p m c cc nL s args own C n lo) (hS : St b C n M s H locs) (hr : va_Run p l e R s m args below meth c H locs cells slots 0 0 (F0 m pc ls st0) rest (QL b C n M' r a) (frb b))
    (kk : ∀ (H1 : Heap) (locs1 : List Loc), St b C n M' s H1 locs1 → W p l e R s m args below meth c H1 locs1 cells slots Q (F0 m (pc + 3) ls (.long r :: rest))) : W p l e R s m args below meth c H locs cells slots Q (F0 m pc ls st0) := by
  refine va_calll hr hS.2.2.2.2 (fun q _ h => h) (fun q h => h) (fun x u t H1 locs1 ht hvm hp hB hz ho hS1 => ?_)
  subst hp
  subst ht
  exact kk _ _ ⟨hB.1, hB.2.1, hB.2.2.1, hB.2.2.2.1, hS1⟩
theorem r_backV {M' : Mem} {st0 : List Value} {a : Array Value} (F : Cx b p m c cc nL s args own C n lo) (hS : St b C n M s H locs) (hr : va_Run p l e R s m args below meth c H locs cells slots 0 0 (F0 m pc ls st0) rest (QV b C n M' a) (frb b))
    (kk : ∀ (H1 : Heap) (locs1 : List Loc), St b C n M' s H1 locs1 → W p l e R s m args below meth c H1 locs1 cells slots Q (F0 m (pc + 3) ls rest)) : W p l e R s m args below meth c H locs cells slots Q (F0 m pc ls st0) := by
  refine va_callv hr hS.2.2.2.2 (fun q _ h => h) (fun q h => h) (fun u t H1 locs1 ht hvm hp hB hz ho hS1 => ?_)
  subst ht
  exact kk _ _ ⟨hB.1, hB.2.1, hB.2.2.1, hB.2.2.2.1, hS1⟩
/-- the start of a call, virtual: the receiver is an object of its class -/
theorem r_preV {k ci N : Nat} {q : vw_C} {As : List Value} (F : Cx b p m c cc nL s args own C n lo) (hS : St b C n M s H locs) (hk : k < lo) (hsh : shK k = ci + 4) (hc : classes[ci]? = some q) : PreV s H q.1 (b + k) (va_Pc (.ref (b + k) :: As) (HS b C n M)) As := by
  refine ⟨HS_blind, ?_, fun U hU hW => ⟨rfl, hS.hs F.2.1 F.2.2.2 hU hW⟩⟩
  obtain ⟨cell, q1, q2, q3, -⟩ := (hS.2.1 k (F.lt hk)).2.2.2.2 ci hsh
  refine ⟨cell, q1, by rw [q3]; rfl, ?_⟩
  rw [q2]
  exact (F.2.1.1 ci _ hc).2.1
theorem r_preS {As : List Value} (F : Cx b p m c cc nL s args own C n lo) (hS : St b C n M s H locs) : PreS s H (va_Pc As (HS b C n M)) As := ⟨HS_blind, fun U hU hW => ⟨rfl, hS.hs F.2.1 F.2.2.2 hU hW⟩⟩
theorem r_runV {k ci d mL index na : Nat} {T : u_T} {N : Nat} {y : MethodName} {by_ : ByteArray} {ret : Option FieldType} {As : List Value} {Qc : Array Value → State → Outcome → State → Prop} (F : Cx b p m c cc nL s args own C n lo) (hS : St b C n M s H locs) (hk : k < lo) (hsh : shK k = ci + 4) (hc : classes[ci]? = some (y.cls, T, N))
    (hM : CM l b C n d y by_ mL ret (.ref (b + k) :: As) M Qc) (hG : GoodIn lw_good (wsV own index y.cls y (wsM y by_ mL ret))) (hd : y.cls ≠ "java/lang/invoke/MethodHandle" ∧ y.cls ≠ "java/lang/invoke/VarHandle" ∧ (parseMethodDescriptor y.desc).map (fun d => d.parameters.length) = some na) (hR : d + 1 ≤ R.frames ∧ 8 + (mL + 11) + 48 * d ≤ R.locals)
    (hn : As.length = na) (hsz : ls.size = nL) (hrest : (rest.map fun v => v.category).sum ≤ 8) (hcs : cells ≤ R.cells ∧ slots ≤ R.slots) {st0 : List Value} (hst : st0 = As.reverse ++ .ref (b + k) :: rest) (hdg : decode cc pc = .ok (.invokevirtual index, 3)) :
    va_Run p l e R s m args below meth c H locs cells slots 0 0 (F0 m pc ls st0) rest (Qc (Value.ref (b + k) :: As).toArray) (frb b) :=
  va_runV F.1 hM (cwV na F.1.2.2.2.2 hG rfl rfl rfl ⟨rfl, hd⟩ hR) (r_preV (N := N) F hS hk hsh hc) rfl hn hsz hst (lv_room hrest) hdg hcs
theorem r_runS {d mL index na : Nat} {y : MethodName} {by_ : ByteArray} {ret : Option FieldType} {As : List Value} {Qc : Array Value → State → Outcome → State → Prop} (F : Cx b p m c cc nL s args own C n lo) (hS : St b C n M s H locs)
    (hM : CM l b C n d y by_ mL ret As M Qc) (hG : GoodIn lw_good (va_wsS own index y (wsM y by_ mL ret))) (hd : y.cls ≠ "java/lang/invoke/MethodHandle" ∧ y.cls ≠ "java/lang/invoke/VarHandle" ∧ (parseMethodDescriptor y.desc).map (fun d => d.parameters.length) = some na) (hR : d + 1 ≤ R.frames ∧ 8 + (mL + 11) + 48 * d ≤ R.locals)
    (hn : As.length = na) (hsz : ls.size = nL) (hrest : (rest.map fun v => v.category).sum ≤ 8) (hcs : cells ≤ R.cells ∧ slots ≤ R.slots) {st0 : List Value} (hst : st0 = As.reverse ++ rest) (hdg : decode cc pc = .ok (.invokestatic index, 3)) :
    va_Run p l e R s m args below meth c H locs cells slots 0 0 (F0 m pc ls st0) rest (Qc As.toArray) (frb b) :=
  va_runS F.1 hM (va_cwS na F.1.2.2.2.2 hG rfl rfl rfl hd hR) (r_preS F hS) rfl hn hsz hst (lv_room hrest) hdg hcs
theorem r_runSN {d mL index na : Nat} {y : MethodName} {by_ : ByteArray} {ret : Option FieldType} {As : List Value} {Qc : Array Value → State → Outcome → State → Prop} {host : String} (F : Cx b p m c cc nL s args own C n lo) (hS : St b C n M s H locs)
    (hM : CM l b C n d y by_ mL ret As M Qc) (h0 : Cond.code y by_ mL ret ∈ lw_good) (h2 : Cond.static y ∈ lw_good) (h4 : Cond.initialized y.cls ∈ lw_good) (hl : (own, index, y, host) ∈ nests) (hd : y.cls ≠ "java/lang/invoke/MethodHandle" ∧ y.cls ≠ "java/lang/invoke/VarHandle" ∧ (parseMethodDescriptor y.desc).map (fun d => d.parameters.length) = some na) (hR : d + 1 ≤ R.frames ∧ 8 + (mL + 11) + 48 * d ≤ R.locals)
    (hn : As.length = na) (hsz : ls.size = nL) (hrest : (rest.map fun v => v.category).sum ≤ 8) (hcs : cells ≤ R.cells ∧ slots ≤ R.slots) {st0 : List Value} (hst : st0 = As.reverse ++ rest) (hdg : decode cc pc = .ok (.invokestatic index, 3)) :
    va_Run p l e R s m args below meth c H locs cells slots 0 0 (F0 m pc ls st0) rest (Qc As.toArray) (frb b) :=
  va_runSN F.1 hM ⟨va_cnB na F.1.2.2.2.2 (good_M h0) rfl rfl rfl (F.2.2.2.1 _ hl) (F.hts h4) hd hR, F.hts h2, trivial⟩ (r_preS F hS) rfl hn hsz hst (lv_room hrest) hdg hcs
end RC
