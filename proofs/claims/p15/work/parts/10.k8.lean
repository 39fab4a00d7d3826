section RD
variable {p : Program} {l : Launch} {e : Env} {R : Room} {s : State} {m : MethodId} {args : Array Value} {below : List Frame} {meth : Method} {c : Code} {H : Heap} {locs : List Loc} {cells slots : Nat} {Q : State → Prop}
variable {cc : ByteArray} {pc nL lo : Nat} {ls : Array Slot} {rest : List Value} {own : String} {b n : Nat} {C : CT} {M : Mem}
theorem St_town (h : St b C n M s H locs) : isTown (M.1 0 4).toNat := by
  rcases h.2.2.2.1.2.1.1 with e | e <;> rw [e] <;> decide
theorem St_spare (h : St b C n M s H locs) : isTown (M.1 0 5).toNat := by
  rcases h.2.2.2.1.2.1.2.1 with e | e <;> rw [e] <;> decide
theorem fv_town (h : St b C n M s H locs) : fv b (GM M) M 0 0 4 = .ref (b + (M.1 0 4).toNat) := by
  refine (fv_ref rfl).trans (rv_pos _ ?_)
  show M.1 0 4 = _
  rcases h.2.2.2.1.2.1.1 with e | e <;> rw [e] <;> rfl
theorem fv_spare (h : St b C n M s H locs) : fv b (GM M) M 0 0 5 = .ref (b + (M.1 0 5).toNat) := by
  refine (fv_ref rfl).trans (rv_pos _ ?_)
  show M.1 0 5 = _
  rcases h.2.2.2.1.2.1.2.1 with e | e <;> rw [e] <;> rfl
theorem tok_null (h : St b C n M s H locs) (c1 : M.1 46 0 < 0) : fv b (GM M) M 8 46 0 = .null := (fv_ref rfl).trans (rv_neg c1)
theorem tok_some (h : St b C n M s H locs) (c1 : ¬ M.1 46 0 < 0) : fv b (GM M) M 8 46 0 = .ref (b + 42) := by
  refine (fv_ref rfl).trans (rv_pos 42 ?_)
  show M.1 46 0 = _
  rcases h.2.2.2.1.2.1.2.2 with e | e
  · omega
  · exact e
theorem scenes_at {i : Int} (h0 : 0 ≤ i) (h1 : i < ((20 : Nat) : Int)) : isScene (72 + 5 * i.toNat) := by
  have h : i.toNat < 20 := by omega
  generalize i.toNat = j at h
  exact (by decide +kernel : ∀ j, j < 20 → 72 + 5 * j ∈ [47, 52, 57, 72, 77, 82, 87, 92, 97, 102, 107, 112, 117, 122, 127, 132, 137, 142, 147, 152, 157, 162, 167]) j h
theorem gf71 {j : Nat} (hj : j < 20) : GM M 71 (j : Int) = ((72 + 5 * j : Nat) : Int) := by
  have q := (by decide +kernel : ∀ j : Nat, j < 20 → GF 71 (j : Int) = ((72 + 5 * j : Nat) : Int) ∧ dyn 71 (j : Int) = false) j hj
  rw [gm_st q.2]
  exact q.1
theorem r_scn {i : Int} (F : Cx b p m c cc nL s args own C n 191) (hS : St b C n M s H locs) (hr : InR i) (h0 : 0 ≤ i) (h1 : i < ((20 : Nat) : Int)) (hdg : decode cc pc = .ok (.aaload, 1))
    (kk : W p l e R s m args below meth c H locs cells slots Q (F0 m (pc + 1) ls (.ref (b + (72 + 5 * i.toNat)) :: rest))) : W p l e R s m args below meth c H locs cells slots Q (F0 m pc ls (vI i :: .ref (b + 71) :: rest)) := by
  have c0 := (hS.2.1 71 (F.lt (by decide))).2.2.2.1 rfl
  have hin := q_vp_in_of (n := shN 71) hr h0 (by rw [show shN 71 = 20 from rfl]; exact h1)
  have en : (Int32.ofInt i).toNatClampNeg = i.toNat := q_nn_of hr
  have hlt : (Int32.ofInt i).toNatClampNeg < shN 71 := by rw [en, show shN 71 = 20 from rfl]; omega
  refine W.aald (v := .ref (b + (72 + 5 * i.toNat))) (ty := .object "WardFalls$Scene") F.hx F.hb c0 ((F.2.1.2 3 _ rfl).1 (shN 71) _) rfl (fun q => by cases q) (by rw [arrV_size]; exact hin) ?_ rfl rfl hdg kk
  rw [arrV_read _ _ hlt, en]
  congr 1
  have hj : i.toNat < 20 := by omega
  generalize i.toNat = j at hj
  exact rv_pos _ (gf71 hj)
/-- the moving references are written -/
theorem r_putDyn {k ci j N index : Nat} {Cn : String} {T : u_T} {t : Nat} {ty : FieldType} {ty0 : Nat → FieldType} (F : Cx b p m c cc nL s args own C n lo) (hS : St b C n M s H locs) (hk : k < lo) (hsh : shK k = ci + 4) (hN : shN k = N) (hc : classes[ci]? = some (Cn, T, N)) (hj : j < N) (hin : ∀ w ∈ u_ws Cn T N, w ∈ lw_good)
    (hty : ∀ k, k < N → parseFieldDescriptor (T k).2.2.1 = some (ty0 k)) (hnm : ∀ a, a < N → ∀ b, b < N → a ≠ b → (T a).2.1 ≠ (T b).2.1) (hfin : (T j).2.2.2 = false) (hd : parseFieldDescriptor (T j).2.2.1 = some ty) (hn : narrow ty (.ref (b + t)) = .ref (b + t)) (hfit : fits ty (.ref (b + t)) = true) (hfk : fk ci j = 2) (hdy : dyn k j = true)
    (hlink : Cond.fieldLink own index (T j).1 (T j).2.1 (T j).2.2.1 ∈ lw_good) (ht : InR (t : Int)) (hD : DynOK (setI M k j (t : Nat))) (hdg : decode cc pc = .ok (.putfield index, 3))
    (kk : ∀ (H1 : Heap) (locs1 : List Loc), St b C n (setI M k j (t : Nat)) s H1 locs1 → W p l e R s m args below meth c H1 locs1 cells slots Q (F0 m (pc + 3) ls rest)) : W p l e R s m args below meth c H locs cells slots Q (F0 m pc ls (.ref (b + t) :: .ref (b + k) :: rest)) := by
  have hR0 := hS.2.2.2.1
  have hGe : ∀ k' j', ¬ (k' = k ∧ j' = (j : Int)) → GM (setI M k j (t : Nat)) k' j' = GM M k' j' := fun k' j' h => by
    unfold GM
    rw [show (setI M k j (t : Nat)).1 k' j' = M.1 k' j' from uI_ne _ _ h]
  refine r_put (setI M k j (t : Nat)) F hS hk hsh hN hc hj hin hty hnm hfin hd hn hfit hlink (fun k' j' h => ⟨uI_ne _ _ (fun q => h q.1), rfl⟩) (fun k' j' h => hGe _ _ (fun q => h q.1)) ⟨inr_uI hR0.1 ht, hD, BoolOK_uI hR0.2.2.1 (fun z => absurd z (by omega)), Zm_uI hR0.2.2.2 (F.lt hk)⟩ ?_ (fun i hi hij => ?_) hdg kk
  · refine (fv_ref hfk).trans (rv_pos t ?_)
    unfold GM
    rw [if_pos hdy]
    exact uI_self _ _ _ _
  · unfold fv
    rw [hGe _ _ (fun q => hij (by have := q.2; omega))]
    show (if fk ci i = 0 then vI (uI M.1 k j _ k i) else _) = _
    rw [uI_ne _ _ (fun q => hij (by have := q.2; omega))]
theorem isTown_cases {t : Nat} (h : isTown t) : t = 2 ∨ t = 22 := by
  unfold isTown at h
  simp only [List.mem_cons, List.not_mem_nil, or_false] at h
  exact h
theorem r_putTown {index t : Nat} (F : Cx b p m c cc nL s args own C n 191) (hS : St b C n M s H locs) (h : isTown t) (hlink : Cond.fieldLink own index "WardFalls" "town" "LWardFalls$Town;" ∈ lw_good) (hdg : decode cc pc = .ok (.putfield index, 3))
    (kk : ∀ (H1 : Heap) (locs1 : List Loc), St b C n (setI M 0 4 (t : Nat)) s H1 locs1 → W p l e R s m args below meth c H1 locs1 cells slots Q (F0 m (pc + 3) ls rest)) : W p l e R s m args below meth c H locs cells slots Q (F0 m pc ls (.ref (b + t) :: .ref (b + 0) :: rest)) := by
  have hD := hS.2.2.2.1.2.1
  have h2 := isTown_cases h
  refine r_putDyn (N := 19) (T := T0) (j := 4) F hS (by decide) rfl rfl rfl (by decide) ing0 tyok0 nm0 rfl rfl rfl rfl rfl rfl hlink (by rcases h2 with rfl | rfl <;> exact inr_c rfl) ⟨?_, ?_, ?_⟩ hdg kk
  · show uI M.1 0 4 (t : Nat) 0 4 = 2 ∨ uI M.1 0 4 (t : Nat) 0 4 = 22
    rw [uI_self]
    omega
  · show uI M.1 0 4 (t : Nat) 0 5 = 2 ∨ uI M.1 0 4 (t : Nat) 0 5 = 22
    rw [uI_ne _ _ (by omega)]
    exact hD.2.1
  · show uI M.1 0 4 (t : Nat) 46 0 = -1 ∨ uI M.1 0 4 (t : Nat) 46 0 = 42
    rw [uI_ne _ _ (by omega)]
    exact hD.2.2
theorem r_putSpare {index t : Nat} (F : Cx b p m c cc nL s args own C n 191) (hS : St b C n M s H locs) (h : isTown t) (hlink : Cond.fieldLink own index "WardFalls" "spare" "LWardFalls$Town;" ∈ lw_good) (hdg : decode cc pc = .ok (.putfield index, 3))
    (kk : ∀ (H1 : Heap) (locs1 : List Loc), St b C n (setI M 0 5 (t : Nat)) s H1 locs1 → W p l e R s m args below meth c H1 locs1 cells slots Q (F0 m (pc + 3) ls rest)) : W p l e R s m args below meth c H locs cells slots Q (F0 m pc ls (.ref (b + t) :: .ref (b + 0) :: rest)) := by
  have hD := hS.2.2.2.1.2.1
  have h2 := isTown_cases h
  refine r_putDyn (N := 19) (T := T0) (j := 5) F hS (by decide) rfl rfl rfl (by decide) ing0 tyok0 nm0 rfl rfl rfl rfl rfl rfl hlink (by rcases h2 with rfl | rfl <;> exact inr_c rfl) ⟨?_, ?_, ?_⟩ hdg kk
  · show uI M.1 0 5 (t : Nat) 0 4 = 2 ∨ uI M.1 0 5 (t : Nat) 0 4 = 22
    rw [uI_ne _ _ (by omega)]
    exact hD.1
  · show uI M.1 0 5 (t : Nat) 0 5 = 2 ∨ uI M.1 0 5 (t : Nat) 0 5 = 22
    rw [uI_self]
    omega
  · show uI M.1 0 5 (t : Nat) 46 0 = -1 ∨ uI M.1 0 5 (t : Nat) 46 0 = 42
    rw [uI_ne _ _ (by omega)]
    exact hD.2.2
theorem r_putTok {index : Nat} (F : Cx b p m c cc nL s args own C n 191) (hS : St b C n M s H locs) (hlink : Cond.fieldLink own index "WardFalls$Reader" "tokens" "LWardFalls$Tokens;" ∈ lw_good) (hdg : decode cc pc = .ok (.putfield index, 3))
    (kk : ∀ (H1 : Heap) (locs1 : List Loc), St b C n (setI M 46 0 (42 : Nat)) s H1 locs1 → W p l e R s m args below meth c H1 locs1 cells slots Q (F0 m (pc + 3) ls rest)) : W p l e R s m args below meth c H locs cells slots Q (F0 m pc ls (.ref (b + 42) :: .ref (b + 46) :: rest)) := by
  have hD := hS.2.2.2.1.2.1
  refine r_putDyn (N := 11) (T := T8) (j := 0) F hS (by decide) rfl rfl rfl (by decide) ing8 tyok8 nm8 rfl rfl rfl rfl rfl rfl hlink (inr_c rfl) ⟨?_, ?_, ?_⟩ hdg kk
  · show uI M.1 46 0 (42 : Nat) 0 4 = 2 ∨ uI M.1 46 0 (42 : Nat) 0 4 = 22
    rw [uI_ne _ _ (by omega)]
    exact hD.1
  · show uI M.1 46 0 (42 : Nat) 0 5 = 2 ∨ uI M.1 46 0 (42 : Nat) 0 5 = 22
    rw [uI_ne _ _ (by omega)]
    exact hD.2.1
  · show uI M.1 46 0 (42 : Nat) 46 0 = -1 ∨ uI M.1 46 0 (42 : Nat) 46 0 = 42
    rw [uI_self]
    exact Or.inr rfl
end RD
