/-! ===== the picture: the cells b + k, k < n, hold what the memory says ===== -/
abbrev CT : Type := (Nat → ClassId) × (Nat → Nat → Nat) × (Nat → ClassId) × Heap
def rv (b : Nat) (g : Int) : Value := if g < 0 then .null else .ref (b + g.toNat)
theorem rv_pos {b : Nat} {g : Int} (t : Nat) (h : g = (t : Int)) : rv b g = .ref (b + t) := by
  subst h
  unfold rv
  rw [if_neg (by omega)]
  rfl
theorem rv_neg {b : Nat} {g : Int} (h : g < 0) : rv b g = .null := if_pos h
def fv (b : Nat) (G : Nat → Int → Int) (M : Mem) (ci k j : Nat) : Value := if fk ci j = 0 then vI (M.1 k j) else if fk ci j = 1 then .long (M.2 k j) else rv b (G k j)
def cellOK (b : Nat) (C : CT) (G : Nat → Int → Int) (M : Mem) (H : Heap) (k : Nat) : Prop :=
  (shK k = 0 → H[b + k]? = some (arrV (C.2.2.1 0) (shN k) (fun j => vI (M.1 k j)))) ∧
  (shK k = 1 → H[b + k]? = some (arrV (C.2.2.1 1) (shN k) (fun j => vI (M.1 k j)))) ∧
  (shK k = 2 → H[b + k]? = some (arrV (C.2.2.1 2) (shN k) (fun j => .long (M.2 k j)))) ∧
  (shK k = 3 → H[b + k]? = some (arrV (C.2.2.1 3) (shN k) (fun j => rv b (G k j)))) ∧
  (∀ ci : Nat, shK k = ci + 4 → t_OB (b + k) (C.1 ci) (shN k) (C.2.1 ci) H (fv b G M ci k))
def HP (b : Nat) (C : CT) (n : Nat) (G : Nat → Int → Int) (M : Mem) (H : Heap) : Prop := ∀ k, k < n → cellOK b C G M H k
def dyn (k : Nat) (j : Int) : Bool := (k == 0 && (j == 4 || j == 5)) || (k == 46 && j == 0)
def GM (M : Mem) (k : Nat) (j : Int) : Int := if dyn k j = true then M.1 k j else GF k j
/-- the three moving references -/
def DynOK (M : Mem) : Prop := (M.1 0 4 = 2 ∨ M.1 0 4 = 22) ∧ (M.1 0 5 = 2 ∨ M.1 0 5 = 22) ∧ (M.1 46 0 = -1 ∨ M.1 46 0 = 42)
/-- the cells of boolean arrays hold 0 or 1 -/
def BoolOK (M : Mem) : Prop := ∀ k j, shK k = 1 → M.1 k j = 0 ∨ M.1 k j = 1
/-- what isn't made yet is 0 -/
def Zm (n : Nat) (M : Mem) : Prop := ∀ (k : Nat) (j : Int), n ≤ k → dyn k j = false → M.1 k j = 0 ∧ M.2 k j = 0
def RngOK (n : Nat) (M : Mem) : Prop := (∀ k j, InR (M.1 k j)) ∧ DynOK M ∧ BoolOK M ∧ Zm n M
theorem Zm_uI {n : Nat} {M : Mem} {k : Nat} {j v : Int} (h : Zm n M) (hk : k < n) : Zm n (setI M k j v) := fun k' j' h1 h2 => ⟨(uI_ne _ _ (fun q => by omega)).trans (h k' j' h1 h2).1, (h k' j' h1 h2).2⟩
theorem Zm_uL {n : Nat} {M : Mem} {k : Nat} {j : Int} {v : Int64} (h : Zm n M) (hk : k < n) : Zm n (setL M k j v) := fun k' j' h1 h2 => ⟨(h k' j' h1 h2).1, (uL_ne _ _ (fun q => by omega)).trans (h k' j' h1 h2).2⟩
abbrev tysC (C : CT) : List (ClassId × FieldType) := [(C.2.2.1 0, .int), (C.2.2.1 1, .boolean), (C.2.2.1 2, .long), (C.2.2.1 3, .object "WardFalls$Scene")]
abbrev KK (C : CT) (U : State) : Prop := va_K (C.1, C.2.1) classes (tysC C) U
abbrev frb (b : Nat) : Nat → Prop := fun q => b ≤ q
/-! the text of the words: a literal of the class and one of the reference, in the old heap -/
def TXS : String := "town ward part wall stair thing seed law up right down left still push joy or and not rich size here worth cross against year "
def TXB : List Int32 := [116, 111, 119, 110, 32, 119, 97, 114, 100, 32, 112, 97, 114, 116, 32, 119, 97, 108, 108, 32, 115, 116, 97, 105, 114, 32, 116, 104, 105, 110, 103, 32, 115, 101, 101, 100, 32, 108, 97, 119, 32, 117, 112, 32, 114, 105, 103, 104, 116, 32, 100, 111, 119, 110, 32, 108, 101, 102, 116, 32, 115, 116, 105, 108, 108, 32, 112, 117, 115, 104, 32, 106, 111, 121, 32, 111, 114, 32, 97, 110, 100, 32, 110, 111, 116, 32, 114, 105, 99, 104, 32, 115, 105, 122, 101, 32, 104, 101, 114, 101, 32, 119, 111, 114, 116, 104, 32, 99, 114, 111, 115, 115, 32, 97, 103, 97, 105, 110, 115, 116, 32, 121, 101, 97, 114, 32]
def STR (b : Nat) (S V : Nat) (U : State) (H : Heap) : Prop := va_O "java/lang/String" S (frb b) U H ∧ va_OF "java/lang/String" "coder" "B" (vI 0) S (frb b) U H ∧ va_OF "java/lang/String" "value" "[B" (.ref V) S (frb b) U H ∧ va_T .byte V 126 (fun j => .int (TXB.getD j 0)) (frb b) U H
theorem STR.moved {b S V : Nat} {u U : State} {H : Heap} (hvm : u.vm.Alike U.vm) (h : STR b S V u H) : STR b S V U H := ⟨h.1.moved hvm, h.2.1.moved hvm, h.2.2.1.moved hvm, h.2.2.2.moved hvm⟩
theorem STR.kept {b S V : Nat} {U : State} {H H1 : Heap} (h : STR b S V U H) (hq : ∀ a : Nat, a < H.size → ¬ frb b a → H1[a]? = H[a]?) : STR b S V U H1 := ⟨h.1.kept hq, h.2.1.kept hq, h.2.2.1.kept hq, h.2.2.2.kept hq⟩
abbrev sioob : String := "Ljava/util/function/BiFunction;"
def SX (b : Nat) (C : CT) (U : State) : Prop := (vk_R "WardFalls$Tokens" 69 TXS (C.2.2.1 10) U ∧ STR b (C.2.2.1 10) (C.2.2.1 11) U C.2.2.2) ∧ (vk_R "WardFallsModel" 188 TXS (C.2.2.1 12) U ∧ STR b (C.2.2.1 12) (C.2.2.1 13) U C.2.2.2) ∧ va_Z "java/lang/String" "COMPACT_STRINGS" "Z" (vI 1) (frb b) U C.2.2.2 ∧ va_Zq "jdk/internal/util/Preconditions" "SIOOBE_FORMATTER" sioob (frb b) U C.2.2.2
theorem SX.warm {b : Nat} {C : CT} {s U : State} (h : SX b C s) (hW : s.WarmedH U.vm) : SX b C U := by
  obtain ⟨⟨a1, a2⟩, ⟨b1, b2⟩, c1, c2⟩ := h
  exact ⟨⟨a1.warm hW, a2.moved hW.alike⟩, ⟨b1.warm hW, b2.moved hW.alike⟩, c1.moved hW.alike, c2.moved hW.alike⟩
theorem SX.calling {b : Nat} {C : CT} {U : State} (h : SX b C U) (g : JFrame) (mk : MethodId) (a : Array Value) : SX b C (U.calling g mk a) := by
  obtain ⟨⟨a1, a2⟩, ⟨b1, b2⟩, c1, c2⟩ := h
  exact ⟨⟨vk_R.same (u := U) rfl a1, STR.moved (u := U) (U := U.calling g mk a) (Vm.Alike.refl U.vm) a2⟩, ⟨vk_R.same (u := U) rfl b1, STR.moved (u := U) (U := U.calling g mk a) (Vm.Alike.refl U.vm) b2⟩, va_Z.moved (u := U) (U := U.calling g mk a) (Vm.Alike.refl U.vm) c1, va_Zq.moved (u := U) (U := U.calling g mk a) (Vm.Alike.refl U.vm) c2⟩
/-- the links to private members of nest mates, and the words' text -/
def NN (b : Nat) (C : CT) (U : State) : Prop := (∀ q ∈ nests, va_Nw (.methodLinkNest q.1 q.2.1 q.2.2.1 q.2.2.2) U) ∧ SX b C U
theorem NN.warm {b : Nat} {C : CT} {s U : State} (h : NN b C s) (hW : s.WarmedH U.vm) : NN b C U := ⟨fun q hq => va_Nw.warmM hW (h.1 q hq), h.2.warm hW⟩
theorem NN.calling {b : Nat} {C : CT} {U : State} (h : NN b C U) (g : JFrame) (mk : MethodId) (a : Array Value) : NN b C (U.calling g mk a) := ⟨fun q hq => va_tabs rfl (rfl : U.vm = (U.calling g mk a).vm) (h.1 q hq), h.2.calling g mk a⟩
/-- a state between calls -/
def HS (b : Nat) (C : CT) (n : Nat) (M : Mem) (U : State) : Prop :=
  b + n ≤ U.heap.size ∧ HP b C n (GM M) M U.heap ∧ (∀ q : Nat, q < b → U.heap[q]? = C.2.2.2[q]?) ∧ RngOK n M ∧ KK C U ∧ NN b C U
/-- a heap within a method that began in s -/
def St (b : Nat) (C : CT) (n : Nat) (M : Mem) (s : State) (H : Heap) (locs : List Loc) : Prop :=
  b + n ≤ H.size ∧ HP b C n (GM M) M H ∧ (∀ q : Nat, q < b → H[q]? = C.2.2.2[q]?) ∧ RngOK n M ∧ va_S (frb b) s.heap H locs
theorem St.rng {b : Nat} {C : CT} {n : Nat} {M : Mem} {s : State} {H : Heap} {locs : List Loc} (h : St b C n M s H locs) (k : Nat) (j : Int) : InR (M.1 k j) := h.2.2.2.1.1 k j
theorem St.bool {b : Nat} {C : CT} {n : Nat} {M : Mem} {s : State} {H : Heap} {locs : List Loc} (h : St b C n M s H locs) {k : Nat} (hk : shK k = 1) (j : Int) : M.1 k j = 0 ∨ M.1 k j = 1 := h.2.2.2.1.2.2.1 k j hk
theorem HS.st {b : Nat} {C : CT} {n : Nat} {M : Mem} {s : State} (h : HS b C n M s) : St b C n M s s.heap [] := ⟨h.1, h.2.1, h.2.2.1, h.2.2.2.1, va_S.rf⟩
theorem St.hs {b : Nat} {C : CT} {n : Nat} {M : Mem} {s U : State} {H : Heap} {locs : List Loc} (h : St b C n M s H locs) (hK : KK C s) (hN : NN b C s) (hU : U.heap = H) (hW : s.WarmedH U.vm) : HS b C n M U := by
  subst hU
  exact ⟨h.1, h.2.1, h.2.2.1, h.2.2.2.1, va_K.moved hW.alike hK, hN.warm hW⟩
theorem HS_blind {b : Nat} {C : CT} {n : Nat} {M : Mem} {As : List Value} : FrameBlind (va_Pc As (HS b C n M)) := by
  intro a U g mk h
  exact ⟨h.1, h.2.1, h.2.2.1, h.2.2.2.1, h.2.2.2.2.1, va_K.moved (u := U) (U := U.calling g mk a) (Vm.Alike.refl U.vm) h.2.2.2.2.2.1, h.2.2.2.2.2.2.calling g mk a⟩
theorem GM_uI {M : Mem} {k : Nat} {j v : Int} (h : dyn k j = false) : GM (setI M k j v) = GM M := by
  funext k' j'
  unfold GM
  by_cases hd : dyn k' j' = true
  · rw [if_pos hd, if_pos hd]
    exact uI_ne _ _ (fun q => by rw [q.1, q.2, h] at hd; cases hd)
  · rw [if_neg hd, if_neg hd]
theorem GM_uL {M : Mem} {k : Nat} {j : Int} {v : Int64} : GM (setL M k j v) = GM M := rfl
theorem DynOK_uI {M : Mem} {k : Nat} {j v : Int} (hD : DynOK M) (h : dyn k j = false) : DynOK (setI M k j v) := by
  have e : ∀ k' j', dyn k' j' = true → (setI M k j v).1 k' j' = M.1 k' j' := fun k' j' hd => uI_ne _ _ (fun q => by rw [q.1, q.2, h] at hd; cases hd)
  unfold DynOK
  rw [e 0 4 rfl, e 0 5 rfl, e 46 0 rfl]
  exact hD
theorem BoolOK_uI {M : Mem} {k : Nat} {j v : Int} (hB : BoolOK M) (h : shK k = 1 → v = 0 ∨ v = 1) : BoolOK (setI M k j v) := by
  intro k' j' hk'
  show uI M.1 k j v k' j' = 0 ∨ uI M.1 k j v k' j' = 1
  unfold uI
  split
  · split
    · rename_i e _
      subst e
      exact h hk'
    · exact hB _ _ hk'
  · exact hB _ _ hk'
theorem dyn_lo {k : Nat} {j : Int} (h : shK k < 4) : dyn k j = false := by
  unfold dyn
  have h0 : (k == 0) = false := by
    cases e : (k == 0) with
    | false => rfl
    | true =>
      rw [beq_iff_eq] at e
      subst e
      exact absurd h (by decide)
  have h1 : (k == 46) = false := by
    cases e : (k == 46) with
    | false => rfl
    | true =>
      rw [beq_iff_eq] at e
      subst e
      exact absurd h (by decide)
  rw [h0, h1]
  rfl
theorem cellOK_congr {b : Nat} {C : CT} {k : Nat} {G G' : Nat → Int → Int} {M M' : Mem} {H H1 : Heap} (h : cellOK b C G M H k) (hq : H1[b + k]? = H[b + k]?) (e1 : ∀ j, M'.1 k j = M.1 k j) (e2 : ∀ j, M'.2 k j = M.2 k j) (e3 : ∀ j, G' k j = G k j) : cellOK b C G' M' H1 k := by
  obtain ⟨c0, c1, c2, c3, c4⟩ := h
  refine ⟨fun z => ?_, fun z => ?_, fun z => ?_, fun z => ?_, fun ci z => ?_⟩
  · rw [hq, c0 z]; simp only [e1]
  · rw [hq, c1 z]; simp only [e1]
  · rw [hq, c2 z]; simp only [e2]
  · rw [hq, c3 z]; simp only [e3]
  · obtain ⟨cell, q1, q2, q3, q4⟩ := c4 ci z
    refine ⟨cell, by rw [hq]; exact q1, q2, q3, fun j hj => ?_⟩
    rw [q4 j hj]
    unfold fv
    rw [e1, e2, e3]
/-- one cell written: the others stay, this one as said -/
theorem HP_put {b : Nat} {C : CT} {n k : Nat} {G G' : Nat → Int → Int} {M M' : Mem} {H H1 : Heap} (h : HP b C n G M H) (hM : ∀ k' j, k' ≠ k → M'.1 k' j = M.1 k' j ∧ M'.2 k' j = M.2 k' j) (hG : ∀ k' j, k' ≠ k → G' k' j = G k' j) (oq : ∀ q : Nat, q ≠ b + k → H1[q]? = H[q]?) (hc : k < n → cellOK b C G' M' H1 k) : HP b C n G' M' H1 := by
  intro k' hk'
  by_cases e : k' = k
  · subst e
    exact hc hk'
  · exact cellOK_congr (h k' hk') (oq _ (by omega)) (fun j => (hM k' j e).1) (fun j => (hM k' j e).2) (fun j => hG k' j e)
theorem HP_lt {b : Nat} {C : CT} {n k : Nat} {G : Nat → Int → Int} {M : Mem} {H : Heap} (h : b + n ≤ H.size) (hk : k < n) : b + k < H.size := by omega
section RW
variable {p : Program} {l : Launch} {e : Env} {R : Room} {s : State} {m : MethodId} {args : Array Value} {below : List Frame} {meth : Method} {c : Code} {H : Heap} {locs : List Loc} {cells slots : Nat} {Q : State → Prop}
variable {cc : ByteArray} {pc nL : Nat} {ls : Array Slot} {rest : List Value} {own : String} {b n : Nat} {C : CT} {M : Mem}
/-- what a walk stands on -/
def Cx (b : Nat) (p : Program) (m : MethodId) (c : Code) (cc : ByteArray) (nL : Nat) (s : State) (args : Array Value) (own : String) (C : CT) (n lo : Nat) : Prop := CallFix p m c cc nL s args lw_good own ∧ KK C s ∧ lo ≤ n ∧ NN b C s
variable {lo : Nat}
theorem Cx.hx (F : Cx b p m c cc nL s args own C n lo) : p.tables.exec = Jvm.exec := F.1.1
theorem Cx.hb (F : Cx b p m c cc nL s args own C n lo) : c.code = cc := F.1.2.1
theorem Cx.hml (F : Cx b p m c cc nL s args own C n lo) : c.maxLocals = nL := F.1.2.2.1
theorem Cx.hown (F : Cx b p m c cc nL s args own C n lo) : s.vm.findClass own = some m.cls := F.1.2.2.2.1
theorem Cx.hts (F : Cx b p m c cc nL s args own C n lo) {w : Cond} (h : w ∈ lw_good) : w.before args s = true := F.1.2.2.2.2 w h
theorem Cx.lt (F : Cx b p m c cc nL s args own C n lo) {k : Nat} (h : k < lo) : k < n := Nat.lt_of_lt_of_le h F.2.2.1
/-- reading a field -/
theorem r_get {k ci j N index : Nat} {Cn : String} {T : u_T} {v : Value} (F : Cx b p m c cc nL s args own C n lo) (hS : St b C n M s H locs) (hk : k < lo) (hsh : shK k = ci + 4) (hN : shN k = N) (hc : classes[ci]? = some (Cn, T, N)) (hj : j < N) (hin : ∀ w ∈ u_ws Cn T N, w ∈ lw_good)
    (hlink : Cond.fieldLink own index (T j).1 (T j).2.1 (T j).2.2.1 ∈ lw_good) (hv : fv b (GM M) M ci k j = v) (hdg : decode cc pc = .ok (.getfield index, 3))
    (kk : W p l e R s m args below meth c H locs cells slots Q (F0 m (pc + 3) ls (v :: rest))) : W p l e R s m args below meth c H locs cells slots Q (F0 m pc ls (.ref (b + k) :: rest)) := by
  obtain ⟨cell, q1, q2, q3, q4⟩ := (hS.2.1 k (F.lt hk)).2.2.2.2 ci hsh
  obtain ⟨hSl, hfc, kC, hkC, hkind⟩ := F.2.1.1 ci _ hc
  obtain ⟨cf, kf, fi, f, hi, hsl⟩ := hSl j hj
  refine W.getf F.hx F.hb F.hown (F.hts hlink) hi (u_facts hfc hkC (u_lays F.1.2.2.2.2 hin hj) hi).1 q1 (by rw [q3]; exact fun h => by cases h) (v := v) ?_ rfl rfl hdg kk
  rw [hsl, q4 j (by omega), hv]
/-- writing a field (not a final one): the cell as it is then -/
theorem r_put {k ci j N index : Nat} {Cn : String} {T : u_T} {v : Value} {ty : FieldType} {ty0 : Nat → FieldType} (M' : Mem) (F : Cx b p m c cc nL s args own C n lo) (hS : St b C n M s H locs) (hk : k < lo) (hsh : shK k = ci + 4) (hN : shN k = N) (hc : classes[ci]? = some (Cn, T, N)) (hj : j < N) (hin : ∀ w ∈ u_ws Cn T N, w ∈ lw_good)
    (hty : ∀ k, k < N → parseFieldDescriptor (T k).2.2.1 = some (ty0 k)) (hnm : ∀ a, a < N → ∀ b, b < N → a ≠ b → (T a).2.1 ≠ (T b).2.1) (hfin : (T j).2.2.2 = false) (hd : parseFieldDescriptor (T j).2.2.1 = some ty) (hn : narrow ty v = v) (hfit : fits ty v = true)
    (hlink : Cond.fieldLink own index (T j).1 (T j).2.1 (T j).2.2.1 ∈ lw_good)
    (hM : ∀ k' j, k' ≠ k → M'.1 k' j = M.1 k' j ∧ M'.2 k' j = M.2 k' j) (hG : ∀ k' j, k' ≠ k → GM M' k' j = GM M k' j) (hR : RngOK n M') (hv : fv b (GM M') M' ci k j = v) (ho : ∀ i, i < N → i ≠ j → fv b (GM M') M' ci k i = fv b (GM M) M ci k i) (hdg : decode cc pc = .ok (.putfield index, 3))
    (kk : ∀ (H1 : Heap) (locs1 : List Loc), St b C n M' s H1 locs1 → W p l e R s m args below meth c H1 locs1 cells slots Q (F0 m (pc + 3) ls rest)) : W p l e R s m args below meth c H locs cells slots Q (F0 m pc ls (v :: .ref (b + k) :: rest)) := by
  obtain ⟨h1, h2, h3, h4, h5⟩ := hS
  obtain ⟨cell, q1, q2, q3, q4⟩ := (h2 k (F.lt hk)).2.2.2.2 ci hsh
  have hap := va_apart (own := own) F.1.2.2.2.2 hin ty0 hty hnm F.2.1 hc
  obtain ⟨hSl, hfc, kC, hkC, hkind⟩ := F.2.1.1 ci _ hc
  obtain ⟨cf, kf, fi, f, hi, hsl⟩ := hSl j hj
  have hlay := F.hts (hin _ (u_in_lay hj))
  unfold u_lay at hlay
  rw [if_neg (by rw [hfin]; decide)] at hlay
  have hst := (u_facts hfc hkC (u_lays F.1.2.2.2.2 hin hj) hi).1
  have h6 := u_store hfc hkC hkind hlay hi hd hn hfit
  refine W.putK F.hx F.hb (f := f) ⟨F.hown, F.hts hlink, ⟨_, _, _, hi⟩, hst⟩ (by rw [q2]; exact h6) q1 q3 (by rw [hsl]; exact k2_hasslot (q4 j (by omega))) rfl rfl hdg fun H' e1 e2 e3 => ?_
  rw [hsl] at e1 ⊢
  refine kk H' _ ⟨by rw [e2]; exact h1, HP_put h2 hM hG e3 (fun _ => ?_), fun q hq => (e3 q (Nat.ne_of_lt (Nat.lt_of_lt_of_le hq (Nat.le_add_right b k)))).trans (h3 q hq), hR, h5.put e2 e3 (by show b ≤ b + k; omega)⟩
  refine ⟨fun z => absurd z (by omega), fun z => absurd z (by omega), fun z => absurd z (by omega), fun z => absurd z (by omega), fun ci' z => ?_⟩
  have ez : ci' = ci := by omega
  subst ez
  refine t_OB.to (V := updV (fv b (GM M) M ci' k) j v) ⟨_, e1, q2, q3, t_set q4 (by rw [hN]; exact hap) (by omega) v⟩ (fun i hi2 => ?_)
  by_cases ei : i = j
  · subst ei
    rw [hv]
    simp [updV]
  · rw [ho i (by omega) ei]
    simp [updV, ei]
theorem fv_int {b : Nat} {G : Nat → Int → Int} {M : Mem} {ci k j : Nat} (h : fk ci j = 0) : fv b G M ci k j = vI (M.1 k j) := if_pos h
theorem fv_long {b : Nat} {G : Nat → Int → Int} {M : Mem} {ci k j : Nat} (h : fk ci j = 1) : fv b G M ci k j = .long (M.2 k j) := by
  unfold fv
  rw [if_neg (by rw [h]; decide), if_pos h]
theorem fv_ref {b : Nat} {G : Nat → Int → Int} {M : Mem} {ci k j : Nat} (h : fk ci j = 2) : fv b G M ci k j = rv b (G k j) := by
  unfold fv
  rw [if_neg (by rw [h]; decide), if_neg (by rw [h]; decide)]
/-- an int field, not one of the moving references -/
theorem r_putI {k ci j N index : Nat} {Cn : String} {T : u_T} {v : Int} {ty : FieldType} {ty0 : Nat → FieldType} (F : Cx b p m c cc nL s args own C n lo) (hS : St b C n M s H locs) (hk : k < lo) (hsh : shK k = ci + 4) (hN : shN k = N) (hc : classes[ci]? = some (Cn, T, N)) (hj : j < N) (hin : ∀ w ∈ u_ws Cn T N, w ∈ lw_good)
    (hty : ∀ k, k < N → parseFieldDescriptor (T k).2.2.1 = some (ty0 k)) (hnm : ∀ a, a < N → ∀ b, b < N → a ≠ b → (T a).2.1 ≠ (T b).2.1) (hfin : (T j).2.2.2 = false) (hd : parseFieldDescriptor (T j).2.2.1 = some ty) (hn : narrow ty (vI v) = vI v) (hfit : fits ty (vI v) = true) (hfk : fk ci j = 0) (hdy : dyn k j = false)
    (hlink : Cond.fieldLink own index (T j).1 (T j).2.1 (T j).2.2.1 ∈ lw_good) (hr : InR v) (hdg : decode cc pc = .ok (.putfield index, 3))
    (kk : ∀ (H1 : Heap) (locs1 : List Loc), St b C n (setI M k j v) s H1 locs1 → W p l e R s m args below meth c H1 locs1 cells slots Q (F0 m (pc + 3) ls rest)) : W p l e R s m args below meth c H locs cells slots Q (F0 m pc ls (vI v :: .ref (b + k) :: rest)) := by
  have hR0 := hS.2.2.2.1
  refine r_put (setI M k j v) F hS hk hsh hN hc hj hin hty hnm hfin hd hn hfit hlink (fun k' j' h => ⟨uI_ne _ _ (fun q => h q.1), rfl⟩) (fun k' j' _ => by rw [GM_uI hdy]) ⟨inr_uI hR0.1 hr, DynOK_uI hR0.2.1 hdy, BoolOK_uI hR0.2.2.1 (fun z => absurd z (by omega)), Zm_uI hR0.2.2.2 (F.lt hk)⟩ ?_ (fun i hi hij => ?_) hdg kk
  · rw [fv_int hfk]
    show vI (uI M.1 k j v k j) = _
    rw [uI_self]
  · unfold fv
    rw [GM_uI hdy]
    show (if fk ci i = 0 then vI (uI M.1 k j v k i) else _) = _
    rw [uI_ne _ _ (fun q => hij (by have := q.2; omega))]
theorem r_putL {k ci j N index : Nat} {Cn : String} {T : u_T} {v : Int64} {ty0 : Nat → FieldType} (F : Cx b p m c cc nL s args own C n lo) (hS : St b C n M s H locs) (hk : k < lo) (hsh : shK k = ci + 4) (hN : shN k = N) (hc : classes[ci]? = some (Cn, T, N)) (hj : j < N) (hin : ∀ w ∈ u_ws Cn T N, w ∈ lw_good)
    (hty : ∀ k, k < N → parseFieldDescriptor (T k).2.2.1 = some (ty0 k)) (hnm : ∀ a, a < N → ∀ b, b < N → a ≠ b → (T a).2.1 ≠ (T b).2.1) (hfin : (T j).2.2.2 = false) (hd : parseFieldDescriptor (T j).2.2.1 = some .long) (hfk : fk ci j = 1)
    (hlink : Cond.fieldLink own index (T j).1 (T j).2.1 (T j).2.2.1 ∈ lw_good) (hdg : decode cc pc = .ok (.putfield index, 3))
    (kk : ∀ (H1 : Heap) (locs1 : List Loc), St b C n (setL M k j v) s H1 locs1 → W p l e R s m args below meth c H1 locs1 cells slots Q (F0 m (pc + 3) ls rest)) : W p l e R s m args below meth c H locs cells slots Q (F0 m pc ls (.long v :: .ref (b + k) :: rest)) := by
  have hR0 := hS.2.2.2.1
  refine r_put (setL M k j v) F hS hk hsh hN hc hj hin hty hnm hfin hd rfl rfl hlink (fun k' j' h => ⟨rfl, uL_ne _ _ (fun q => h q.1)⟩) (fun k' j' _ => rfl) ⟨hR0.1, hR0.2.1, hR0.2.2.1, Zm_uL hR0.2.2.2 (F.lt hk)⟩ ?_ (fun i hi hij => ?_) hdg kk
  · rw [fv_long hfk]
    show Value.long (uL M.2 k j v k j) = _
    rw [uL_self]
  · unfold fv
    show (if fk ci i = 0 then vI (M.1 k i) else if fk ci i = 1 then Value.long (uL M.2 k j v k i) else _) = _
    rw [uL_ne _ _ (fun q => hij (by have := q.2; omega))]
    rfl
end RW
