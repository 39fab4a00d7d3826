section RA
variable {p : Program} {l : Launch} {e : Env} {R : Room} {s : State} {m : MethodId} {args : Array Value} {below : List Frame} {meth : Method} {c : Code} {H : Heap} {locs : List Loc} {cells slots : Nat} {Q : State → Prop}
variable {cc : ByteArray} {pc nL lo : Nat} {ls : Array Slot} {rest : List Value} {own : String} {b n : Nat} {C : CT} {M : Mem}
theorem uf_arr (f : Nat → Value) (i : Int) (h0 : 0 ≤ i) (g : Int → Value) (hf : ∀ j : Nat, f j = g (j : Int)) (v : Value) : updV f i.toNat v = fun j : Nat => if (j : Int) = i then v else g (j : Int) := by
  funext j
  unfold updV
  by_cases e : j = i.toNat
  · subst e
    rw [if_pos rfl, if_pos (by omega)]
  · rw [if_neg e, if_neg (by omega), hf]
theorem r_alen {k N : Nat} (F : Cx b p m c cc nL s args own C n lo) (hS : St b C n M s H locs) (hk : k < lo) (hsh : shK k < 3) (hN : shN k = N) (hdg : decode cc pc = .ok (.arraylength, 1))
    {v : Int} (hv : (N : Int) = v) (kk : W p l e R s m args below meth c H locs cells slots Q (F0 m (pc + 1) ls (vI v :: rest))) : W p l e R s m args below meth c H locs cells slots Q (F0 m pc ls (.ref (b + k) :: rest)) := by
  subst hv
  obtain ⟨c0, c1, c2, -, -⟩ := hS.2.1 k (F.lt hk)
  rw [hN] at c0 c1 c2
  rcases (show shK k = 0 ∨ shK k = 1 ∨ shK k = 2 by omega) with z | z | z
  · exact W.alen (n := Int32.ofInt (N : Int)) F.hx F.hb (c0 z) ((F.2.1.2 0 _ rfl).1 N _) (by rw [arrV_size]; rfl) rfl rfl hdg kk
  · exact W.alen (n := Int32.ofInt (N : Int)) F.hx F.hb (c1 z) ((F.2.1.2 1 _ rfl).1 N _) (by rw [arrV_size]; rfl) rfl rfl hdg kk
  · exact W.alen (n := Int32.ofInt (N : Int)) F.hx F.hb (c2 z) ((F.2.1.2 2 _ rfl).1 N _) (by rw [arrV_size]; rfl) rfl rfl hdg kk
theorem r_alen3 {k N : Nat} (F : Cx b p m c cc nL s args own C n lo) (hS : St b C n M s H locs) (hk : k < lo) (hsh : shK k = 3) (hN : shN k = N) (hdg : decode cc pc = .ok (.arraylength, 1))
    {v : Int} (hv : (N : Int) = v) (kk : W p l e R s m args below meth c H locs cells slots Q (F0 m (pc + 1) ls (vI v :: rest))) : W p l e R s m args below meth c H locs cells slots Q (F0 m pc ls (.ref (b + k) :: rest)) := by
  subst hv
  have c0 := (hS.2.1 k (F.lt hk)).2.2.2.1
  rw [hN] at c0
  exact W.alen (n := Int32.ofInt (N : Int)) F.hx F.hb (c0 hsh) ((F.2.1.2 3 _ rfl).1 N _) (by rw [arrV_size]; rfl) rfl rfl hdg kk
theorem r_iald {k N : Nat} {i : Int} (F : Cx b p m c cc nL s args own C n lo) (hS : St b C n M s H locs) (hk : k < lo) (hsh : shK k = 0) (hN : shN k = N) (hr : InR i) (h0 : 0 ≤ i) (h1 : i < (N : Int)) (hdg : decode cc pc = .ok (.iaload, 1))
    (kk : W p l e R s m args below meth c H locs cells slots Q (F0 m (pc + 1) ls (vI (M.1 k i) :: rest))) : W p l e R s m args below meth c H locs cells slots Q (F0 m pc ls (vI i :: .ref (b + k) :: rest)) := by
  have c0 := (hS.2.1 k (F.lt hk)).1 hsh
  rw [hN] at c0
  have hin := q_vp_in_of hr h0 h1
  have en : (Int32.ofInt i).toNatClampNeg = i.toNat := q_nn_of hr
  have hlt : (Int32.ofInt i).toNatClampNeg < N := by rw [en]; omega
  exact W.iald (v := vI (M.1 k i)) F.hx F.hb c0 ((F.2.1.2 0 _ rfl).1 N _) (fun q => by cases q) (by rw [arrV_size]; exact hin) (by rw [arrV_read _ _ hlt, en]; simp only [Int.toNat_of_nonneg h0]) rfl rfl hdg kk
theorem r_zald {k N : Nat} {i : Int} (F : Cx b p m c cc nL s args own C n lo) (hS : St b C n M s H locs) (hk : k < lo) (hsh : shK k = 1) (hN : shN k = N) (hr : InR i) (h0 : 0 ≤ i) (h1 : i < (N : Int)) (hdg : decode cc pc = .ok (.baload, 1))
    (kk : W p l e R s m args below meth c H locs cells slots Q (F0 m (pc + 1) ls (vI (M.1 k i) :: rest))) : W p l e R s m args below meth c H locs cells slots Q (F0 m pc ls (vI i :: .ref (b + k) :: rest)) := by
  have c0 := (hS.2.1 k (F.lt hk)).2.1 hsh
  rw [hN] at c0
  have hin := q_vp_in_of hr h0 h1
  have en : (Int32.ofInt i).toNatClampNeg = i.toNat := q_nn_of hr
  have hlt : (Int32.ofInt i).toNatClampNeg < N := by rw [en]; omega
  exact W.zald (v := vI (M.1 k i)) F.hx F.hb c0 ((F.2.1.2 1 _ rfl).1 N _) (fun q => by cases q) (by rw [arrV_size]; exact hin) (by rw [arrV_read _ _ hlt, en]; simp only [Int.toNat_of_nonneg h0]) rfl rfl hdg kk
theorem r_lald {k N : Nat} {i : Int} (F : Cx b p m c cc nL s args own C n lo) (hS : St b C n M s H locs) (hk : k < lo) (hsh : shK k = 2) (hN : shN k = N) (hr : InR i) (h0 : 0 ≤ i) (h1 : i < (N : Int)) (hdg : decode cc pc = .ok (.laload, 1))
    (kk : W p l e R s m args below meth c H locs cells slots Q (F0 m (pc + 1) ls (.long (M.2 k i) :: rest))) : W p l e R s m args below meth c H locs cells slots Q (F0 m pc ls (vI i :: .ref (b + k) :: rest)) := by
  have c0 := (hS.2.1 k (F.lt hk)).2.2.1 hsh
  rw [hN] at c0
  have hin := q_vp_in_of hr h0 h1
  have en : (Int32.ofInt i).toNatClampNeg = i.toNat := q_nn_of hr
  have hlt : (Int32.ofInt i).toNatClampNeg < N := by rw [en]; omega
  exact W.lald (v := .long (M.2 k i)) F.hx F.hb c0 ((F.2.1.2 2 _ rfl).1 N _) (fun q => by cases q) (by rw [arrV_size]; exact hin) (by rw [arrV_read _ _ hlt, en]; simp only [Int.toNat_of_nonneg h0]) rfl rfl hdg kk
theorem cell_lo {b : Nat} {C : CT} {G : Nat → Int → Int} {M : Mem} {H : Heap} {k a : Nat} (ha : a < 3) (hsh : shK k = a) (h : H[b + k]? = some (arrV (C.2.2.1 a) (shN k) (fun j => if a = 2 then .long (M.2 k j) else vI (M.1 k j)))) : cellOK b C G M H k := by
  refine ⟨fun z => ?_, fun z => ?_, fun z => ?_, fun z => ?_, fun ci z => ?_⟩
  · have : a = 0 := by omega
    subst this; exact h
  · have : a = 1 := by omega
    subst this; exact h
  · have : a = 2 := by omega
    subst this; exact h
  · omega
  · omega
theorem St_putI {k N : Nat} {i v : Int} {H1 : Heap} (hS : St b C n M s H locs) (hkn : k < n) (hsh : shK k < 2) (hv : InR v) (hz01 : shK k = 1 → v = 0 ∨ v = 1) (h0 : 0 ≤ i) (z : H1.size = H.size) (oq : ∀ q : Nat, q ≠ b + k → H1[q]? = H[q]?)
    (hc : H1[b + k]? = some (arrV (C.2.2.1 (shK k)) (shN k) (fun j => vI (uI M.1 k i v k (j : Int))))) {idx : Nat} : St b C n (setI M k i v) s H1 (locs ++ [⟨b + k, idx⟩]) := by
  obtain ⟨h1, h2, h3, h4, h5⟩ := hS
  have hd : dyn k i = false := dyn_lo (by omega)
  refine ⟨by rw [z]; exact h1, ?_, fun q hq => (oq q (Nat.ne_of_lt (Nat.lt_of_lt_of_le hq (Nat.le_add_right b k)))).trans (h3 q hq), ⟨inr_uI h4.1 hv, DynOK_uI h4.2.1 hd, BoolOK_uI h4.2.2.1 hz01, Zm_uI h4.2.2.2 hkn⟩, h5.put z oq (by show b ≤ b + k; omega)⟩
  refine HP_put h2 (fun k' j' h => ⟨uI_ne _ _ (fun q => h q.1), rfl⟩) (fun k' j' _ => by rw [GM_uI hd]) oq (fun _ => ?_)
  refine cell_lo (a := shK k) (by omega) rfl ?_
  rw [hc]
  congr 2
  funext j
  rw [if_neg (by omega)]
theorem r_iast {k N : Nat} {i v : Int} (F : Cx b p m c cc nL s args own C n lo) (hS : St b C n M s H locs) (hk : k < lo) (hsh : shK k = 0) (hN : shN k = N) (hr : InR i) (hv : InR v) (h0 : 0 ≤ i) (h1 : i < (N : Int)) (hdg : decode cc pc = .ok (.iastore, 1))
    (kk : ∀ (H1 : Heap) (locs1 : List Loc), St b C n (setI M k i v) s H1 locs1 → W p l e R s m args below meth c H1 locs1 cells slots Q (F0 m (pc + 1) ls rest)) : W p l e R s m args below meth c H locs cells slots Q (F0 m pc ls (vI v :: vI i :: .ref (b + k) :: rest)) := by
  have c0 := (hS.2.1 k (F.lt hk)).1 hsh
  have hin := q_vp_in_of (n := shN k) hr h0 (by rw [hN]; exact h1)
  have en : (Int32.ofInt i).toNatClampNeg = i.toNat := q_nn_of hr
  refine W.iast F.hx F.hb c0 ((F.2.1.2 0 _ rfl).1 (shN k) _) (fun q => by cases q) (by rw [arrV_size]; exact hin) rfl rfl hdg fun H1 e1 z oq => ?_
  refine kk H1 _ (St_putI (N := N) hS (F.lt hk) (by omega) hv (fun z1 => absurd z1 (by omega)) h0 z oq ?_)
  rw [e1, arrV_store, en, uf_arr (fun j => vI (M.1 k j)) i h0 (fun j => vI (M.1 k j)) (fun _ => rfl), hsh]
  congr 2
  funext j
  simp only [uI, if_true]
  split <;> rfl
theorem inr_z {v : Int} (h : v = 0 ∨ v = 1) : InR v := by rcases h with rfl | rfl <;> exact inr_c rfl
theorem nar_z {v : Int} (h : v = 0 ∨ v = 1) : narrow .boolean (vI v) = vI v := by rcases h with rfl | rfl <;> rfl
theorem r_zast {k N : Nat} {i v : Int} (F : Cx b p m c cc nL s args own C n lo) (hS : St b C n M s H locs) (hk : k < lo) (hsh : shK k = 1) (hN : shN k = N) (hr : InR i) (hv : v = 0 ∨ v = 1) (h0 : 0 ≤ i) (h1 : i < (N : Int)) (hdg : decode cc pc = .ok (.bastore, 1))
    (kk : ∀ (H1 : Heap) (locs1 : List Loc), St b C n (setI M k i v) s H1 locs1 → W p l e R s m args below meth c H1 locs1 cells slots Q (F0 m (pc + 1) ls rest)) : W p l e R s m args below meth c H locs cells slots Q (F0 m pc ls (vI v :: vI i :: .ref (b + k) :: rest)) := by
  have c0 := (hS.2.1 k (F.lt hk)).2.1 hsh
  have hin := q_vp_in_of (n := shN k) hr h0 (by rw [hN]; exact h1)
  have en : (Int32.ofInt i).toNatClampNeg = i.toNat := q_nn_of hr
  refine W.zast F.hx F.hb c0 ((F.2.1.2 1 _ rfl).1 (shN k) _) (fun q => by cases q) (by rw [arrV_size]; exact hin) rfl rfl hdg fun H1 e1 z oq => ?_
  refine kk H1 _ (St_putI (N := N) hS (F.lt hk) (by omega) (inr_z hv) (fun _ => hv) h0 z oq ?_)
  rw [e1, arrV_store, en, uf_arr (fun j => vI (M.1 k j)) i h0 (fun j => vI (M.1 k j)) (fun _ => rfl), hsh]
  congr 2
  funext j
  simp only [uI, if_true]
  split
  · exact nar_z hv
  · rfl
theorem r_last {k N : Nat} {i : Int} {v : Int64} (F : Cx b p m c cc nL s args own C n lo) (hS : St b C n M s H locs) (hk : k < lo) (hsh : shK k = 2) (hN : shN k = N) (hr : InR i) (h0 : 0 ≤ i) (h1 : i < (N : Int)) (hdg : decode cc pc = .ok (.lastore, 1))
    (kk : ∀ (H1 : Heap) (locs1 : List Loc), St b C n (setL M k i v) s H1 locs1 → W p l e R s m args below meth c H1 locs1 cells slots Q (F0 m (pc + 1) ls rest)) : W p l e R s m args below meth c H locs cells slots Q (F0 m pc ls (.long v :: vI i :: .ref (b + k) :: rest)) := by
  have c0 := (hS.2.1 k (F.lt hk)).2.2.1 hsh
  have hin := q_vp_in_of (n := shN k) hr h0 (by rw [hN]; exact h1)
  have en : (Int32.ofInt i).toNatClampNeg = i.toNat := q_nn_of hr
  refine W.last F.hx F.hb c0 ((F.2.1.2 2 _ rfl).1 (shN k) _) (fun q => by cases q) (by rw [arrV_size]; exact hin) rfl rfl hdg fun H1 e1 z oq => ?_
  obtain ⟨g1, g2, g3, g4, g5⟩ := hS
  refine kk H1 _ ⟨by rw [z]; exact g1, ?_, fun q hq => (oq q (Nat.ne_of_lt (Nat.lt_of_lt_of_le hq (Nat.le_add_right b k)))).trans (g3 q hq), ⟨g4.1, g4.2.1, g4.2.2.1, Zm_uL g4.2.2.2 (F.lt hk)⟩, g5.put z oq (by show b ≤ b + k; omega)⟩
  refine HP_put g2 (fun k' j' h => ⟨rfl, uL_ne _ _ (fun q => h q.1)⟩) (fun k' j' _ => rfl) oq (fun _ => ?_)
  refine cell_lo (a := 2) (by omega) hsh ?_
  rw [e1, arrV_store, en, uf_arr (fun j => .long (M.2 k j)) i h0 (fun j => .long (M.2 k j)) (fun _ => rfl)]
  congr 2
  funext j
  simp only [uL, if_true]
  split <;> rfl
end RA
