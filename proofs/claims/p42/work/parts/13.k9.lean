/-! ===== while the objects are made: n cells are there, G says which references are set ===== -/
def ZG (n : Nat) (G : Nat → Int → Int) : Prop := ∀ (k : Nat) (j : Int), n ≤ k → G k j = -1
def HS0 (b : Nat) (C : CT) (n : Nat) (G : Nat → Int → Int) (M : Mem) (U : State) : Prop :=
  U.heap.size = b + n ∧ HP b C n G M U.heap ∧ (∀ q : Nat, q < b → U.heap[q]? = C.2.2.2[q]?) ∧ (RngOK n M ∧ ZG n G) ∧ KK C U ∧ NN b C U ∧ va_AO "WardFalls$Scene" U
def St0 (b : Nat) (C : CT) (n : Nat) (G : Nat → Int → Int) (M : Mem) (s : State) (H : Heap) (locs : List Loc) : Prop :=
  H.size = b + n ∧ HP b C n G M H ∧ (∀ q : Nat, q < b → H[q]? = C.2.2.2[q]?) ∧ (RngOK n M ∧ ZG n G) ∧ va_S (frb b) s.heap H locs
theorem HS0.st {b : Nat} {C : CT} {n : Nat} {G : Nat → Int → Int} {M : Mem} {s : State} (h : HS0 b C n G M s) : St0 b C n G M s s.heap [] := ⟨h.1, h.2.1, h.2.2.1, h.2.2.2.1, va_S.rf⟩
theorem St0.hs {b : Nat} {C : CT} {n : Nat} {G : Nat → Int → Int} {M : Mem} {s U : State} {H : Heap} {locs : List Loc} (h : St0 b C n G M s H locs) (hK : KK C s) (hN : NN b C s) (hA : va_AO "WardFalls$Scene" s) (hU : U.heap = H) (hW : s.WarmedH U.vm) : HS0 b C n G M U := by
  subst hU
  exact ⟨h.1, h.2.1, h.2.2.1, h.2.2.2.1, va_K.moved hW.alike hK, hN.warm hW, hA.moved hW.alike⟩
theorem HS0_blind {b : Nat} {C : CT} {n : Nat} {G : Nat → Int → Int} {M : Mem} {As : List Value} : FrameBlind (va_Pc As (HS0 b C n G M)) := by
  intro a U g mk h
  exact ⟨h.1, h.2.1, h.2.2.1, h.2.2.2.1, h.2.2.2.2.1, va_K.moved (u := U) (U := U.calling g mk a) (Vm.Alike.refl U.vm) h.2.2.2.2.2.1, h.2.2.2.2.2.2.1.calling g mk a, va_AO.moved (u := U) (U := U.calling g mk a) (Vm.Alike.refl U.vm) h.2.2.2.2.2.2.2⟩
theorem HP_push {b : Nat} {C : CT} {n : Nat} {G : Nat → Int → Int} {M : Mem} {H H1 : Heap} (h : HP b C n G M H) (hz : H.size = b + n) (o1 : ∀ q : Nat, q < b + n → H1[q]? = H[q]?) (hc : cellOK b C G M H1 n) : HP b C (n + 1) G M H1 := by
  intro k hk
  by_cases e : k = n
  · subst e; exact hc
  · exact cellOK_congr (h k (by omega)) (o1 _ (by omega)) (fun _ => rfl) (fun _ => rfl) (fun _ => rfl)
theorem ZG.succ {n : Nat} {G : Nat → Int → Int} (h : ZG n G) : ZG (n + 1) G := fun k j hk => h k j (by omega)
theorem RngOK.succ {n : Nat} {M : Mem} (h : RngOK n M) : RngOK (n + 1) M := ⟨h.1, h.2.1, h.2.2.1, fun k j hk => h.2.2.2 k j (by omega)⟩
section RK
variable {p : Program} {l : Launch} {e : Env} {R : Room} {s : State} {m : MethodId} {args : Array Value} {below : List Frame} {meth : Method} {c : Code} {H : Heap} {locs : List Loc} {cells slots : Nat} {Q : State → Prop}
variable {cc : ByteArray} {pc nL : Nat} {ls : Array Slot} {rest : List Value} {own : String} {b n : Nat} {C : CT} {M : Mem} {G : Nat → Int → Int}
abbrev C0 (b : Nat) (p : Program) (m : MethodId) (c : Code) (cc : ByteArray) (nL : Nat) (s : State) (args : Array Value) (own : String) (C : CT) : Prop := Cx b p m c cc nL s args own C 0 0 ∧ va_AO "WardFalls$Scene" s
theorem St0_push {H1 : Heap} (hS : St0 b C n G M s H locs) (z1 : H1.size = b + n + 1) (o1 : ∀ q : Nat, q < b + n → H1[q]? = H[q]?) (hc : cellOK b C G M H1 n) : St0 b C (n + 1) G M s H1 locs := by
  obtain ⟨g1, g2, g3, g4, g5⟩ := hS
  exact ⟨by omega, HP_push g2 g1 o1 hc, fun q hq => (o1 q (by omega)).trans (g3 q hq), ⟨g4.1.succ, g4.2.succ⟩, ⟨by have := g5.1; omega, fun q q1 q2 => (o1 q (by have := g5.1; omega)).trans (g5.2.1 q q1 q2), g5.2.2⟩⟩
theorem aC_eq {a : Nat} {ty : FieldType} (F : C0 b p m c cc nL s args own C) (ha : (tysC C)[a]? = some (C.2.2.1 a, ty)) (hp : refKind ty = false) {cA : ClassId} (h : s.vm.findClass ("[" ++ ty.toString) = some cA) : cA = C.2.2.1 a := by
  have h2 := (F.1.2.1.2 a _ ha).2
  cases ty with
  | object => cases hp
  | _ => exact Option.some.inj (h.symm.trans h2)
/-- a new row of ints, booleans or longs -/
theorem r0_newa {a N : Nat} {ty : FieldType} {atype : ArrayType} {x : Int} (F : C0 b p m c cc nL s args own C) (hS : St0 b C n G M s H locs) (hsh : shK n = a) (hN : shN n = N) (ha3 : a < 3) (hty : newarray.typeOf atype = ty) (ha : (tysC C)[a]? = some (C.2.2.1 a, ty)) (hp : refKind ty = false) (hdv : defaultValue ty = if a = 2 then .long 0 else vI 0) (harr : Cond.arrayClass ty ∈ lw_good) (hx : x = (N : Int)) (hxr : N ≤ 4096)
    (hbytes : N * componentBytes ty ≤ 536870912) (hcells : cells + 1 ≤ R.cells) (hslots : slots + N ≤ R.slots) (hdg : decode cc pc = .ok (.newarray atype, 2))
    (kk : ∀ H1 : Heap, St0 b C (n + 1) G M s H1 locs → W p l e R s m args below meth c H1 locs (cells + 1) (slots + N) Q (F0 m (pc + 2) ls (.ref (b + n) :: rest))) : W p l e R s m args below meth c H locs cells slots Q (F0 m pc ls (vI x :: rest)) := by
  subst hty
  have hxi : InR x := by unfold InR; omega
  have en : (Int32.ofInt x).toNatClampNeg = N := (q_nn_of hxi).trans (by omega)
  have hn : ¬ Int32.ofInt x < 0 := fun q => by
    rw [show (0 : Int32) = Int32.ofInt 0 from rfl, q_of_lt hxi (inr_c rfl)] at q
    omega
  refine va_newaK F.1.hx F.1.hb (F.1.hts harr) rfl hdg rfl hn en hbytes hcells hslots rfl fun H1 cA e1 z1 o1 hAr hNm => ?_
  have hz := hS.1
  have eA := aC_eq F ha hp (cA := cA) (by cases atype <;> exact hNm)
  subst eA
  rw [hz] at e1 z1 o1 ⊢
  refine kk H1 (St0_push hS z1 o1 (cell_lo (a := a) ha3 hsh ?_))
  rw [e1, hN, hdv]
  congr 2
  funext j
  have zz := hS.2.2.2.1.1.2.2.2 n j (Nat.le_refl n) (dyn_lo (by omega))
  rw [zz.1, zz.2]
/-- a new object -/
theorem r0_new {ci N index : Nat} {Cn : String} {T : u_T} {ty0 : Nat → FieldType} (F : C0 b p m c cc nL s args own C) (hS : St0 b C n G M s H locs) (hsh : shK n = ci + 4) (hN : shN n = N) (hc : classes[ci]? = some (Cn, T, N)) (hin : ∀ w ∈ u_ws Cn T N, w ∈ lw_good) (hty : ∀ k, k < N → parseFieldDescriptor (T k).2.2.1 = some (ty0 k))
    (hfk : ∀ j, j < N → (fk ci j = 0 ∧ defaultValue (ty0 j) = .int 0 ∧ dyn n (j : Int) = false) ∨ (fk ci j = 1 ∧ defaultValue (ty0 j) = .long 0 ∧ dyn n (j : Int) = false) ∨ (fk ci j = 2 ∧ defaultValue (ty0 j) = .null))
    (hcl : Cond.classLink own index Cn ∈ lw_good) (hinst : Cond.instantiable Cn N ∈ lw_good) (hini : Cond.initialized Cn ∈ lw_good) (hcells : cells + 1 ≤ R.cells) (hslots : slots + N ≤ R.slots) (hdg : decode cc pc = .ok (.new index, 3))
    (kk : ∀ H1 : Heap, St0 b C (n + 1) G M s H1 locs → W p l e R s m args below meth c H1 locs (cells + 1) (slots + N) Q (F0 m (pc + 3) ls (.ref (b + n) :: rest))) : W p l e R s m args below meth c H locs cells slots Q (F0 m pc ls rest) := by
  have hKn := F.1.2.1.1 ci _ hc
  refine W.newcK F.1.hx F.1.hb F.1.hown (F.1.hts hcl) (F.1.hts hinst) (F.1.hts hini) rfl hdg hcells hslots hKn.2.1 rfl fun H1 kC hkC e1 z1 o1 => ?_
  have hz := hS.1
  rw [hz] at e1 z1 o1 ⊢
  refine kk H1 (St0_push hS z1 o1 ⟨fun z => absurd z (by omega), fun z => absurd z (by omega), fun z => absurd z (by omega), fun z => absurd z (by omega), fun ci' z => ?_⟩)
  have ez : ci' = ci := by omega
  subst ez
  rw [hN]
  refine (u_born ty0 F.1.1.2.2.2.2 hin hKn hkC e1 hty).to (fun j hj => ?_)
  have zz := hS.2.2.2.1.1.2.2.2 n j (Nat.le_refl n)
  rcases hfk j hj with ⟨h1, h2, h3⟩ | ⟨h1, h2, h3⟩ | ⟨h1, h2⟩
  · rw [h2, fv_int h1, (zz h3).1]; rfl
  · rw [h2, fv_long h1, (zz h3).2]
  · rw [h2, fv_ref h1, hS.2.2.2.1.2 n j (Nat.le_refl n)]; rfl
theorem cell_sc {k : Nat} (hsh : shK k = 3) (h : H[b + k]? = some (arrV (C.2.2.1 3) (shN k) (fun j => rv b (G k j)))) : cellOK b C G M H k :=
  ⟨fun z => absurd z (by omega), fun z => absurd z (by omega), fun z => absurd z (by omega), fun _ => h, fun ci z => absurd z (by omega)⟩
/-- the new row of Scenes -/
theorem r0_newq {N index : Nat} {x : Int} (F : C0 b p m c cc nL s args own C) (hS : St0 b C n G M s H locs) (hsh : shK n = 3) (hN : shN n = N) (hx : x = (N : Int)) (hxr : N ≤ 4096) (hcl : Cond.classLink own index "WardFalls$Scene" ∈ lw_good) (hcells : cells + 1 ≤ R.cells) (hslots : slots + N ≤ R.slots) (hdg : decode cc pc = .ok (.anewarray index, 3))
    (kk : ∀ H1 : Heap, St0 b C (n + 1) G M s H1 locs → W p l e R s m args below meth c H1 locs (cells + 1) (slots + N) Q (F0 m (pc + 3) ls (.ref (b + n) :: rest))) : W p l e R s m args below meth c H locs cells slots Q (F0 m pc ls (vI x :: rest)) := by
  have hxi : InR x := by unfold InR; omega
  have en : (Int32.ofInt x).toNatClampNeg = N := (q_nn_of hxi).trans (by omega)
  have hn : ¬ Int32.ofInt x < 0 := fun q => by
    rw [show (0 : Int32) = Int32.ofInt 0 from rfl, q_of_lt hxi (inr_c rfl)] at q
    omega
  refine W.anew F.1.hx F.1.hb F.1.hown (F.1.hts hcl) (va_AO.use F.2) rfl hdg rfl hn (by omega) hcells (by rw [en]; exact hslots) fun cA kA comp f1 f2 f3 f4 => ?_
  have hz := hS.1
  generalize hH1 : H.push ({ cls := cA, slots := Array.replicate (Int32.ofInt x).toNatClampNeg .null, vm := .none } : Cell) = H1
  have z1 : H1.size = H.size + 1 := by rw [← hH1, Array.size_push]
  have e1 : H1[H.size]? = some (arrV cA (Int32.ofInt x).toNatClampNeg (fun _ => .null)) := by rw [← hH1, Array.getElem?_push_size, ← arrV_new]
  have o1 : ∀ q : Nat, q < H.size → H1[q]? = H[q]? := fun q hq => by rw [← hH1, Array.getElem?_push, if_neg (Nat.ne_of_lt hq)]
  obtain ⟨kA2, comp2, g1, g2, g3, g4⟩ := (F.1.2.1.2 3 _ rfl).2
  have eA : cA = C.2.2.1 3 := Option.some.inj (f1.symm.trans g4)
  subst eA
  rw [en] at e1 ⊢
  rw [hz] at e1 z1 o1 ⊢
  refine kk H1 (St0_push hS z1 o1 (cell_sc hsh ?_))
  rw [e1, hN]
  congr 2
  funext j
  rw [hS.2.2.2.1.2 n j (Nat.le_refl n)]
  rfl
theorem St0_put {k : Nat} {H1 : Heap} {G' : Nat → Int → Int} {M' : Mem} (hS : St0 b C n G M s H locs) (hk : k < n) (hM : ∀ k' j, k' ≠ k → M'.1 k' j = M.1 k' j ∧ M'.2 k' j = M.2 k' j) (hG : ∀ k' j, k' ≠ k → G' k' j = G k' j) (hR : RngOK n M') (z : H1.size = H.size) (oq : ∀ q : Nat, q ≠ b + k → H1[q]? = H[q]?) (hc : cellOK b C G' M' H1 k) {idx : Nat} : St0 b C n G' M' s H1 (locs ++ [⟨b + k, idx⟩]) := by
  obtain ⟨g1, g2, g3, g4, g5⟩ := hS
  refine ⟨z.trans g1, HP_put g2 hM hG oq (fun _ => hc), fun q hq => (oq q (Nat.ne_of_lt (Nat.lt_of_lt_of_le hq (Nat.le_add_right b k)))).trans (g3 q hq), ⟨hR, fun k' j hk' => ?_⟩, g5.put z oq (by show b ≤ b + k; omega)⟩
  rw [hG k' j (by omega)]
  exact g4.2 k' j hk'
/-- a field is set, final or not -/
theorem r0_put {k ci j N index : Nat} {Cn : String} {T : u_T} {v : Value} {ty : FieldType} {ty0 : Nat → FieldType} (G' : Nat → Int → Int) (M' : Mem) (F : C0 b p m c cc nL s args own C) (hin9 : meth.name = "<init>") (hS : St0 b C n G M s H locs) (hk : k < n) (hsh : shK k = ci + 4) (hN : shN k = N) (hc : classes[ci]? = some (Cn, T, N)) (hj : j < N) (hin : ∀ w ∈ u_ws Cn T N, w ∈ lw_good)
    (hty : ∀ k, k < N → parseFieldDescriptor (T k).2.2.1 = some (ty0 k)) (hnm : ∀ a, a < N → ∀ b, b < N → a ≠ b → (T a).2.1 ≠ (T b).2.1) (hdecl : (T j).1 = own) (hd : parseFieldDescriptor (T j).2.2.1 = some ty) (hn : narrow ty v = v) (hfit : fits ty v = true)
    (hlink : Cond.fieldLink own index (T j).1 (T j).2.1 (T j).2.2.1 ∈ lw_good)
    (hM : ∀ k' j, k' ≠ k → M'.1 k' j = M.1 k' j ∧ M'.2 k' j = M.2 k' j) (hG : ∀ k' j, k' ≠ k → G' k' j = G k' j) (hR : RngOK n M') (hv : fv b G' M' ci k j = v) (ho : ∀ i, i < N → i ≠ j → fv b G' M' ci k i = fv b G M ci k i) (hdg : decode cc pc = .ok (.putfield index, 3))
    (kk : ∀ (H1 : Heap) (locs1 : List Loc), St0 b C n G' M' s H1 locs1 → W p l e R s m args below meth c H1 locs1 cells slots Q (F0 m (pc + 3) ls rest)) : W p l e R s m args below meth c H locs cells slots Q (F0 m pc ls (v :: .ref (b + k) :: rest)) := by
  obtain ⟨cell, q1, q2, q3, q4⟩ := (hS.2.1 k hk).2.2.2.2 ci hsh
  have hap := va_apart (own := own) F.1.1.2.2.2.2 hin ty0 hty hnm F.1.2.1 hc
  obtain ⟨hSl, hfc, kC, hkC, hkind⟩ := F.1.2.1.1 ci _ hc
  obtain ⟨cf, kf, fi, f, hi, hsl⟩ := hSl j hj
  have hlay := F.1.hts (hin _ (u_in_lay hj))
  have hst := (u_facts hfc hkC (u_lays F.1.1.2.2.2.2 hin hj) hi).1
  have fin : ∀ (H' : Heap), H'[b + k]? = some (cell.setSlot f.slot v) → H'.size = H.size → (∀ q : Nat, q ≠ b + k → H'[q]? = H[q]?) → W p l e R s m args below meth c H' (locs ++ [⟨b + k, f.slot⟩]) cells slots Q (F0 m (pc + 3) ls rest) := by
    intro H' e1 e2 e3
    rw [hsl] at e1 ⊢
    refine kk H' _ (St0_put hS hk hM hG hR e2 e3 ⟨fun z => absurd z (by omega), fun z => absurd z (by omega), fun z => absurd z (by omega), fun z => absurd z (by omega), fun ci' z => ?_⟩)
    have ez : ci' = ci := by omega
    subst ez
    refine t_OB.to (V := updV (fv b G M ci' k) j v) ⟨_, e1, q2, q3, t_set q4 (by rw [hN]; exact hap) (by omega) v⟩ (fun i hi2 => ?_)
    by_cases ei : i = j
    · subst ei
      rw [hv]
      simp [updV]
    · rw [ho i (by omega) ei]
      simp [updV, ei]
  unfold u_lay at hlay
  by_cases hfin : (T j).2.2.2 = true
  · rw [if_pos hfin] at hlay
    have hcf : m.cls = cf := by
      obtain ⟨_, _, c', _, _, _, -, -, hf', -, -, -, hown2, -⟩ := Cond.laysFinal_spec hlay
      have e1 : c' = cf := by have := hi.symm.trans hf'; simp at this; exact this.1.symm
      rw [hdecl] at hown2
      rw [← e1]; exact Option.some.inj (F.1.hown.symm.trans hown2)
    have h6 := u_fits hfc hkC hkind (Or.inr hlay) hi hd hn hfit
    exact W.putFinK F.1.hx F.1.hb F.1.hown (F.1.hts hlink) hi hst hcf hin9 (by rw [q2]; exact h6) q1 q3 (by rw [hsl]; exact k2_hasslot (q4 j (by omega))) rfl rfl hdg fun H' e1 e2 e3 => fin H' e1 e2 e3
  · rw [if_neg hfin] at hlay
    have h6 := u_store hfc hkC hkind hlay hi hd hn hfit
    exact W.putK F.1.hx F.1.hb (f := f) ⟨F.1.hown, F.1.hts hlink, ⟨_, _, _, hi⟩, hst⟩ (by rw [q2]; exact h6) q1 q3 (by rw [hsl]; exact k2_hasslot (q4 j (by omega))) rfl rfl hdg fun H' e1 e2 e3 => fin H' e1 e2 e3
theorem r0_putR {k ci j N index t : Nat} {Cn : String} {T : u_T} {ty : FieldType} {ty0 : Nat → FieldType} (F : C0 b p m c cc nL s args own C) (hin9 : meth.name = "<init>") (hS : St0 b C n G M s H locs) (hk : k < n) (hsh : shK k = ci + 4) (hN : shN k = N) (hc : classes[ci]? = some (Cn, T, N)) (hj : j < N) (hin : ∀ w ∈ u_ws Cn T N, w ∈ lw_good)
    (hty : ∀ k, k < N → parseFieldDescriptor (T k).2.2.1 = some (ty0 k)) (hnm : ∀ a, a < N → ∀ b, b < N → a ≠ b → (T a).2.1 ≠ (T b).2.1) (hdecl : (T j).1 = own) (hd : parseFieldDescriptor (T j).2.2.1 = some ty) (hn : narrow ty (.ref (b + t)) = .ref (b + t)) (hfit : fits ty (.ref (b + t)) = true) (hfk : fk ci j = 2)
    (hlink : Cond.fieldLink own index (T j).1 (T j).2.1 (T j).2.2.1 ∈ lw_good) (hdg : decode cc pc = .ok (.putfield index, 3))
    (kk : ∀ (H1 : Heap) (locs1 : List Loc), St0 b C n (uI G k j (t : Nat)) M s H1 locs1 → W p l e R s m args below meth c H1 locs1 cells slots Q (F0 m (pc + 3) ls rest)) : W p l e R s m args below meth c H locs cells slots Q (F0 m pc ls (.ref (b + t) :: .ref (b + k) :: rest)) := by
  refine r0_put (uI G k j (t : Nat)) M F hin9 hS hk hsh hN hc hj hin hty hnm hdecl hd hn hfit hlink (fun _ _ _ => ⟨rfl, rfl⟩) (fun k' j' h => uI_ne _ _ (fun q => h q.1)) hS.2.2.2.1.1 ((fv_ref hfk).trans (rv_pos t (uI_self _ _ _ _))) (fun i hi hij => ?_) hdg kk
  unfold fv
  rw [uI_ne _ _ (fun q => hij (by have := q.2; omega))]
theorem r0_putI {k ci j N index : Nat} {v : Int} {Cn : String} {T : u_T} {ty : FieldType} {ty0 : Nat → FieldType} (F : C0 b p m c cc nL s args own C) (hin9 : meth.name = "<init>") (hS : St0 b C n G M s H locs) (hk : k < n) (hsh : shK k = ci + 4) (hN : shN k = N) (hc : classes[ci]? = some (Cn, T, N)) (hj : j < N) (hin : ∀ w ∈ u_ws Cn T N, w ∈ lw_good)
    (hty : ∀ k, k < N → parseFieldDescriptor (T k).2.2.1 = some (ty0 k)) (hnm : ∀ a, a < N → ∀ b, b < N → a ≠ b → (T a).2.1 ≠ (T b).2.1) (hdecl : (T j).1 = own) (hd : parseFieldDescriptor (T j).2.2.1 = some ty) (hn : narrow ty (vI v) = vI v) (hfit : fits ty (vI v) = true) (hfk : fk ci j = 0) (hdy : dyn k j = false) (hr : InR v)
    (hlink : Cond.fieldLink own index (T j).1 (T j).2.1 (T j).2.2.1 ∈ lw_good) (hdg : decode cc pc = .ok (.putfield index, 3))
    (kk : ∀ (H1 : Heap) (locs1 : List Loc), St0 b C n G (setI M k j v) s H1 locs1 → W p l e R s m args below meth c H1 locs1 cells slots Q (F0 m (pc + 3) ls rest)) : W p l e R s m args below meth c H locs cells slots Q (F0 m pc ls (vI v :: .ref (b + k) :: rest)) := by
  have hR0 := hS.2.2.2.1.1
  refine r0_put G (setI M k j v) F hin9 hS hk hsh hN hc hj hin hty hnm hdecl hd hn hfit hlink (fun k' j' h => ⟨uI_ne _ _ (fun q => h q.1), rfl⟩) (fun _ _ _ => rfl) ⟨inr_uI hR0.1 hr, DynOK_uI hR0.2.1 hdy, BoolOK_uI hR0.2.2.1 (fun z => absurd z (by omega)), Zm_uI hR0.2.2.2 hk⟩ ?_ (fun i hi hij => ?_) hdg kk
  · rw [fv_int hfk]
    show vI (uI M.1 k j v k j) = _
    rw [uI_self]
  · unfold fv
    show (if fk ci i = 0 then vI (uI M.1 k j v k i) else _) = _
    rw [uI_ne _ _ (fun q => hij (by have := q.2; omega))]
/-- a place of a new int row -/
theorem r0_iast {k N : Nat} {i v : Int} (F : C0 b p m c cc nL s args own C) (hS : St0 b C n G M s H locs) (hk : k < n) (hsh : shK k = 0) (hN : shN k = N) (hr : InR i) (hv : InR v) (h0 : 0 ≤ i) (h1 : i < (N : Int)) (hdg : decode cc pc = .ok (.iastore, 1))
    (kk : ∀ (H1 : Heap) (locs1 : List Loc), St0 b C n G (setI M k i v) s H1 locs1 → W p l e R s m args below meth c H1 locs1 cells slots Q (F0 m (pc + 1) ls rest)) : W p l e R s m args below meth c H locs cells slots Q (F0 m pc ls (vI v :: vI i :: .ref (b + k) :: rest)) := by
  have c0 := (hS.2.1 k hk).1 hsh
  have hR0 := hS.2.2.2.1.1
  have hin := q_vp_in_of (n := shN k) hr h0 (by rw [hN]; exact h1)
  have en : (Int32.ofInt i).toNatClampNeg = i.toNat := q_nn_of hr
  refine W.iast F.1.hx F.1.hb c0 ((F.1.2.1.2 0 _ rfl).1 (shN k) _) (fun q => by cases q) (by rw [arrV_size]; exact hin) rfl rfl hdg fun H1 e1 z oq => ?_
  refine kk H1 _ (St0_put (M' := setI M k i v) hS hk (fun k' j' h => ⟨uI_ne _ _ (fun q => h q.1), rfl⟩) (fun _ _ _ => rfl) ⟨inr_uI hR0.1 hv, DynOK_uI hR0.2.1 (dyn_lo (by omega)), BoolOK_uI hR0.2.2.1 (fun z => absurd z (by omega)), Zm_uI hR0.2.2.2 hk⟩ z oq (cell_lo (a := 0) (by omega) hsh ?_))
  rw [e1, arrV_store, en, uf_arr (fun j => vI (M.1 k j)) i h0 (fun j => vI (M.1 k j)) (fun _ => rfl)]
  congr 2
  funext j
  rw [if_neg (show ¬ ((0 : Nat) = 2) by decide)]
  simp only [uI, if_true]
  split <;> rfl
/-- a place of the row of Scenes -/
theorem r0_aast {k N t : Nat} {i : Int} (F : C0 b p m c cc nL s args own C) (hS : St0 b C n G M s H locs) (hk : k < n) (ht : t < n) (hsh : shK k = 3) (hst : shK t = 13) (hN : shN k = N) (hr : InR i) (h0 : 0 ≤ i) (h1 : i < (N : Int)) (hdg : decode cc pc = .ok (.aastore, 1))
    (kk : ∀ (H1 : Heap) (locs1 : List Loc), St0 b C n (uI G k i (t : Nat)) M s H1 locs1 → W p l e R s m args below meth c H1 locs1 cells slots Q (F0 m (pc + 1) ls rest)) : W p l e R s m args below meth c H locs cells slots Q (F0 m pc ls (.ref (b + t) :: vI i :: .ref (b + k) :: rest)) := by
  have c0 := (hS.2.1 k hk).2.2.2.1 hsh
  have en : (Int32.ofInt i).toNatClampNeg = i.toNat := q_nn_of hr
  have hin := q_vp_in_of (n := shN k) hr h0 (by rw [hN]; exact h1)
  obtain ⟨cellV, g1, g2, g3, -⟩ := (hS.2.1 t ht).2.2.2.2 9 hst
  have hcls := (F.1.2.1.1 9 _ rfl).2
  obtain ⟨kA, comp, k1, k2, k3, -⟩ := (F.1.2.1.2 3 _ rfl).2
  have hcomp : comp = C.1 9 := Option.some.inj (k3.symm.trans hcls.1)
  subst hcomp
  obtain ⟨kC, hkC, -⟩ := hcls.2
  refine W.aast F.1.hx F.1.hb c0 (fun q h => by cases h) (fun h => by cases h) k1 k2 rfl hkC ⟨fun q => hin (Or.inl q), by rw [arrV_size, en, hN]; omega⟩ g1 (fun q h => by rw [g3] at h; cases h) (by rw [g2]; exact hkC) (by rw [g2]; exact va_assign hcls) rfl rfl hdg fun H1 e1 z oq => ?_
  refine kk H1 _ (St0_put hS hk (fun _ _ _ => ⟨rfl, rfl⟩) (fun k' j' h => uI_ne _ _ (fun q => h q.1)) hS.2.2.2.1.1 z oq (cell_sc hsh ?_))
  rw [e1, arrV_store, en, uf_arr (fun j => rv b (G k j)) i h0 (fun j => rv b (G k j)) (fun _ => rfl)]
  congr 2
  funext j
  by_cases hj : (j : Int) = i
  · rw [if_pos hj]
    rw [hj, uI_self]
    exact (rv_pos t rfl).symm
  · rw [if_neg hj, uI_ne _ _ (fun q => hj q.2)]
/-- a constructor's contract -/
abbrev rmC (d mc ms : Nat) : Room := { frames := d, cells := mc, slots := ms, locals := 48 * d }
def Q0 (b : Nat) (C : CT) (n : Nat) (G : Nat → Int → Int) (M : Mem) : Array Value → State → Outcome → State → Prop := va_Qv (fun (_ : Unit) => True) (fun _ t => HS0 b C n G M t) (frb b)
abbrev CC (l : Launch) (b : Nat) (C : CT) (d mc ms : Nat) (y : MethodName) (by_ : ByteArray) (mL : Nat) (As : List Value) (n : Nat) (G : Nat → Int → Int) (M : Mem) (Qc : Array Value → State → Outcome → State → Prop) : Prop := Met l y (wsM y by_ mL none) (rmC d mc ms) (va_Pc As (HS0 b C n G M)) Qc mc ms (frb b)
theorem CC.of {y : MethodName} {by_ : ByteArray} {mL d mc ms : Nat} {As : List Value} {Qc : Array Value → State → Outcome → State → Prop} {ow : String} (hy : plainName y.cls = true) (ho : y.cls = ow) (hnm : y.name = "<init>") (hlen : (lg_sl As).length ≤ mL)
    (body : ∀ (p : Program) (e : Env) (s : State) (m : MethodId) (below : List Frame) (meth : Method) (c : Code), C0 b p m c by_ mL s As.toArray ow C → meth.locks = false → meth.sig.returnType = none → meth.name = "<init>" → St0 b C n G M s s.heap [] →
      ∀ ls : Array Slot, lv_has ls mL (lv_args 0 As) → W p l e (headSpec (wsM y by_ mL none) (rmC d mc ms)).room s m As.toArray below meth c s.heap [] 0 0 (MQ below Qc As.toArray s mc ms (frb b)) (F0 m 0 ls [])) : CC l b C d mc ms y by_ mL As n G M Qc := by
  refine Met.ofW (cc := by_) (maxL := mL) (ret := none) hy rfl ?_
  intro p e s m args below meth c s₁ B hml hv
  obtain ⟨rfl, hHS⟩ := hv
  have hts := atoms_spec (ws := wsM y by_ mL none) B.pre
  have hown : s.vm.findClass ow = some m.cls := ho ▸ findClass_of_methodNamed B.named
  have hl := lv_entry As (n := mL) hlen
  have hin := (name_of_methodNamed B.named B.method).1.trans hnm
  rw [lg_entry_eq]
  exact body p e s m below meth c ⟨⟨⟨B.exec, B.bytes, hml, hown, fun w hw => hts w (List.mem_cons_of_mem _ hw)⟩, hHS.2.2.2.2.1, Nat.le_refl 0, hHS.2.2.2.2.2.1⟩, hHS.2.2.2.2.2.2⟩ B.notSynchronized B.returns hin hHS.st _ hl
theorem r0_ret (F : C0 b p m c cc nL s args own C) (hlk : meth.locks = false) (hr : meth.sig.returnType = none) (hS : St0 b C n G M s H locs) (hdg : decode cc pc = .ok (.return_, 1)) : W p l e R s m args below meth c H locs cells slots (MQ below (Q0 b C n G M) args s cells slots (frb b)) (F0 m pc ls []) :=
  W.vret F.1.hx F.1.hb hr (fun t ht hW => ⟨⟨(), rfl, trivial, hS.hs F.1.2.1 F.1.2.2.2 F.2 ht hW⟩, hS.2.2.2.2.F ht⟩) hS.2.2.2.2.2.2 hdg hlk
theorem r0_back {mc ms n' : Nat} {G' : Nat → Int → Int} {M' : Mem} {st0 : List Value} {a : Array Value} (hS : St0 b C n G M s H locs) (hr : va_Run p l e R s m args below meth c H locs cells slots mc ms (F0 m pc ls st0) rest (Q0 b C n' G' M' a) (frb b))
    (kk : ∀ (H1 : Heap) (locs1 : List Loc), St0 b C n' G' M' s H1 locs1 → W p l e R s m args below meth c H1 locs1 (cells + mc) (slots + ms) Q (F0 m (pc + 3) ls rest)) : W p l e R s m args below meth c H locs cells slots Q (F0 m pc ls st0) := by
  refine va_callv hr hS.2.2.2.2 (fun q _ h => h) (fun q h => h) (fun u t H1 locs1 ht hvm hp hB hz ho hS1 => ?_)
  subst ht
  exact kk _ _ ⟨hB.1, hB.2.1, hB.2.2.1, hB.2.2.2.1, hS1⟩
theorem r0_pre {As : List Value} (F : C0 b p m c cc nL s args own C) (hS : St0 b C n G M s H locs) : PreS s H (va_Pc As (HS0 b C n G M)) As := ⟨HS0_blind, fun U hU hW => ⟨rfl, hS.hs F.1.2.1 F.1.2.2.2 F.2 hU hW⟩⟩
/-- a constructor of a nest mate is called; of another class (the law's) by r0_runI -/
theorem r0_runIN {k d mc ms mL index : Nat} {y : MethodName} {by_ : ByteArray} {Qc : Array Value → State → Outcome → State → Prop} {host : String} (F : C0 b p m c cc nL s args own C) (hS : St0 b C n G M s H locs) (hM : CC l b C d mc ms y by_ mL [.ref (b + k)] n G M Qc) (h0 : Cond.code y by_ mL none ∈ lw_good) (h2 : Cond.instanceMethod y ∈ lw_good) (h4 : Cond.initialized y.cls ∈ lw_good) (hl : (own, index, y, host) ∈ nests) (hy1 : y.name = "<init>")
    (hd : y.cls ≠ "java/lang/invoke/MethodHandle" ∧ y.cls ≠ "java/lang/invoke/VarHandle" ∧ (parseMethodDescriptor y.desc).map (fun d => d.parameters.length) = some 0) (hR : d + 1 ≤ R.frames ∧ 8 + (mL + 11) + 48 * d ≤ R.locals) (hsz : ls.size = nL) (hrest : (rest.map fun v => v.category).sum ≤ 8) (hcs : cells + mc ≤ R.cells ∧ slots + ms ≤ R.slots) (hdg : decode cc pc = .ok (.invokespecial index, 3)) :
    va_Run p l e R s m args below meth c H locs cells slots mc ms (F0 m pc ls (.ref (b + k) :: rest)) rest (Qc (Value.ref (b + k) :: []).toArray) (frb b) :=
  va_runIN (As := []) F.1.1 hM ⟨va_cnB 0 F.1.1.2.2.2.2 (good_M h0) rfl rfl rfl (F.1.2.2.2.1 _ hl) (F.1.hts h4) hd hR, hy1, F.1.hts h2⟩ (r0_pre F hS) rfl rfl hsz rfl (lv_room hrest) hdg hcs
theorem r0_runI {k d mc ms mL index : Nat} {y : MethodName} {by_ : ByteArray} {Qc : Array Value → State → Outcome → State → Prop} (F : C0 b p m c cc nL s args own C) (hS : St0 b C n G M s H locs) (hM : CC l b C d mc ms y by_ mL [.ref (b + k)] n G M Qc) (h0 : Cond.code y by_ mL none ∈ lw_good) (h1 : Cond.methodLink own index y ∈ lw_good) (h2 : Cond.instanceMethod y ∈ lw_good) (h4 : Cond.initialized y.cls ∈ lw_good) (hy1 : y.name = "<init>")
    (hd : y.cls ≠ "java/lang/invoke/MethodHandle" ∧ y.cls ≠ "java/lang/invoke/VarHandle" ∧ (parseMethodDescriptor y.desc).map (fun d => d.parameters.length) = some 0) (hR : d + 1 ≤ R.frames ∧ 8 + (mL + 11) + 48 * d ≤ R.locals) (hsz : ls.size = nL) (hrest : (rest.map fun v => v.category).sum ≤ 8) (hcs : cells + mc ≤ R.cells ∧ slots + ms ≤ R.slots) (hdg : decode cc pc = .ok (.invokespecial index, 3)) :
    va_Run p l e R s m args below meth c H locs cells slots mc ms (F0 m pc ls (.ref (b + k) :: rest)) rest (Qc (Value.ref (b + k) :: []).toArray) (frb b) :=
  va_runI (As := []) F.1.1 hM (cwI 0 F.1.1.2.2.2.2 (good_M h0) rfl rfl rfl (F.1.hts h4) (F.1.hts h1) (F.1.hts h2) hy1 hd hR) (r0_pre F hS) rfl rfl hsz rfl (lv_room hrest) hdg hcs
/-- the machine books what is made: so the heap's size is known -/
theorem r_size (kk : H.size ≤ s.heap.size + cells → W p l e R s m args below meth c H locs cells slots Q (F0 m pc ls rest)) : W p l e R s m args below meth c H locs cells slots Q (F0 m pc ls rest) := by
  intro T hT X
  have h := X.same.2.2.1
  refine kk ?_ T hT X
  rw [← hT]
  exact h
/-- all is made: the other way of saying it -/
theorem St0.toSt (hS : St0 b C n G M s H locs) (h : ∀ k, k < n → ∀ j : Nat, j < shN k → (shK k = 3 ∨ ∃ ci, shK k = ci + 4 ∧ ¬ fk ci j = 0 ∧ ¬ fk ci j = 1) → GM M k j = G k j) : St b C n M s H locs := by
  obtain ⟨g1, g2, g3, g4, g5⟩ := hS
  refine ⟨by omega, fun k hk => ?_, g3, g4.1, g5⟩
  obtain ⟨c0, c1, c2, c3, c4⟩ := g2 k hk
  refine ⟨c0, c1, c2, fun z => ?_, fun ci z => ?_⟩
  · rw [c3 z]
    refine congrArg some ?_
    unfold arrV
    congr 2
    funext j
    show rv b (G k (j.1 : Nat)) = rv b (GM M k (j.1 : Nat))
    rw [h k hk j.1 j.2 (Or.inl z)]
  · obtain ⟨cell, q1, q2, q3, q4⟩ := c4 ci z
    refine ⟨cell, q1, q2, q3, fun j hj => ?_⟩
    rw [q4 j hj]
    unfold fv
    by_cases e0 : fk ci j = 0
    · rw [if_pos e0, if_pos e0]
    · by_cases e1 : fk ci j = 1
      · rw [if_neg e0, if_neg e0, if_pos e1, if_pos e1]
      · rw [if_neg e0, if_neg e0, if_neg e1, if_neg e1, h k hk j hj (Or.inr ⟨ci, z, e0, e1⟩)]
end RK
section RK2
variable {p : Program} {l : Launch} {e : Env} {R : Room} {s : State} {m : MethodId} {args : Array Value} {below : List Frame} {meth : Method} {c : Code} {H : Heap} {locs : List Loc} {cells slots : Nat} {Q : State → Prop}
variable {cc : ByteArray} {pc nL : Nat} {ls : Array Slot} {rest : List Value} {own : String} {b n : Nat} {C : CT} {M : Mem} {G : Nat → Int → Int}
theorem r0_get {k ci j N index : Nat} {Cn : String} {T : u_T} {v : Value} (F : C0 b p m c cc nL s args own C) (hS : St0 b C n G M s H locs) (hk : k < n) (hsh : shK k = ci + 4) (hN : shN k = N) (hc : classes[ci]? = some (Cn, T, N)) (hj : j < N) (hin : ∀ w ∈ u_ws Cn T N, w ∈ lw_good)
    (hlink : Cond.fieldLink own index (T j).1 (T j).2.1 (T j).2.2.1 ∈ lw_good) (hv : fv b G M ci k j = v) (hdg : decode cc pc = .ok (.getfield index, 3))
    (kk : W p l e R s m args below meth c H locs cells slots Q (F0 m (pc + 3) ls (v :: rest))) : W p l e R s m args below meth c H locs cells slots Q (F0 m pc ls (.ref (b + k) :: rest)) := by
  obtain ⟨cell, q1, q2, q3, q4⟩ := (hS.2.1 k hk).2.2.2.2 ci hsh
  obtain ⟨hSl, hfc, kC, hkC, hkind⟩ := F.1.2.1.1 ci _ hc
  obtain ⟨cf, kf, fi, f, hi, hsl⟩ := hSl j hj
  refine W.getf F.1.hx F.1.hb F.1.hown (F.1.hts hlink) hi (u_facts hfc hkC (u_lays F.1.1.2.2.2.2 hin hj) hi).1 q1 (by rw [q3]; exact fun h => by cases h) (v := v) ?_ rfl rfl hdg kk
  rw [hsl, q4 j (by omega), hv]
theorem r0_alen3 {k N : Nat} (F : C0 b p m c cc nL s args own C) (hS : St0 b C n G M s H locs) (hk : k < n) (hsh : shK k = 3) (hN : shN k = N) (hdg : decode cc pc = .ok (.arraylength, 1)) {v : Int} (hv : (N : Int) = v)
    (kk : W p l e R s m args below meth c H locs cells slots Q (F0 m (pc + 1) ls (vI v :: rest))) : W p l e R s m args below meth c H locs cells slots Q (F0 m pc ls (.ref (b + k) :: rest)) := by
  subst hv
  have c0 := (hS.2.1 k hk).2.2.2.1
  rw [hN] at c0
  exact W.alen (n := Int32.ofInt (N : Int)) F.1.hx F.1.hb (c0 hsh) ((F.1.2.1.2 3 _ rfl).1 N _) (by rw [arrV_size]; rfl) rfl rfl hdg kk
end RK2
def refS (k j : Nat) : Bool := decide (j < shN k) && ((shK k == 3) || (decide (4 ≤ shK k) && !(fk (shK k - 4) j == 0) && !(fk (shK k - 4) j == 1)))
theorem refS_of {k j : Nat} (hj : j < shN k) (h : shK k = 3 ∨ ∃ ci, shK k = ci + 4 ∧ ¬ fk ci j = 0 ∧ ¬ fk ci j = 1) : refS k j = true := by
  unfold refS
  rw [decide_eq_true hj, Bool.true_and]
  rcases h with e | ⟨ci, e, h0, h1⟩
  · rw [e]; rfl
  · rw [e, show ci + 4 - 4 = ci by omega]
    have q0 : (fk ci j == 0) = false := beq_eq_false_iff_ne.mpr h0
    have q1 : (fk ci j == 1) = false := beq_eq_false_iff_ne.mpr h1
    rw [q0, q1, decide_eq_true (show 4 ≤ ci + 4 by omega)]
    simp
theorem refS_lt {k j : Nat} (h : refS k j = true) : j < 68 := by
  by_cases hk : k < 232
  · have q := (by decide +kernel : ∀ k, k < 232 → shK k < 3 ∨ shN k ≤ 68) k hk
    unfold refS at h
    rw [Bool.and_eq_true, decide_eq_true_eq] at h
    rcases q with q | q
    · have h2 := h.2
      rw [decide_eq_false (show ¬ 4 ≤ shK k by omega), beq_eq_false_iff_ne.mpr (show shK k ≠ 3 by omega)] at h2
      simp at h2
    · omega
  · have e : shT[k]? = none := List.getElem?_eq_none (by rw [show shT.length = 232 from rfl]; omega)
    unfold refS at h
    rw [Bool.and_eq_true, decide_eq_true_eq] at h
    have z : shN k = 0 := by
      unfold shN
      rw [List.getD_eq_getElem?_getD, e]
      rfl
    omega
theorem St0.toSt2 {b n : Nat} {C : CT} {G : Nat → Int → Int} {M : Mem} {s : State} {H : Heap} {locs : List Loc} (hS : St0 b C n G M s H locs) (h : ∀ k, k < n → ∀ j, j < 68 → refS k j = true → GM M k (j : Int) = G k (j : Int)) : St b C n M s H locs :=
  hS.toSt (fun k hk j hj q => h k hk j (refS_lt (refS_of hj q)) (refS_of hj q))
def Mz : Mem := (fun k j => if k = 0 then (if j = 4 then 2 else if j = 5 then 22 else 0) else if k = 46 then (if j = 0 then -1 else 0) else 0, fun _ _ => 0)
def Gz : Nat → Int → Int := fun _ _ => -1
