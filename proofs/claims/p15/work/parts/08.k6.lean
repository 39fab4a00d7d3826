def arrP (a r N lo : Nat) : Prop := shK r = a ∧ shN r = N ∧ r < lo
abbrev qlet {α β : Type} (x : α) (f : α → β) : β := f x
def obind {α β : Type} (x : Option α) (f : α → Option β) : Option β := match x with | none => none | some v => f v
def qguard {β : Type} (c : Prop) [Decidable c] (x : Option β) : Option β := if c then x else none
def FU : Nat := 2 ^ 60
theorem qlet_eq {α β : Type} {x y : α} {f : α → β} {r : β} (h : qlet x f = r) (e : y = x) : f y = r := by subst e; exact h
theorem q_obind {α β : Type} {x : Option α} {f : α → Option β} {r : β} (h : obind x f = some r) : ∃ q, x = some q ∧ f q = some r := by
  cases x with
  | none => cases h
  | some v => exact ⟨v, rfl, h⟩
theorem q_guard {β : Type} {c : Prop} [Decidable c] {x : Option β} {r : β} (h : qguard c x = some r) : c ∧ x = some r := by
  unfold qguard at h
  split at h
  · exact ⟨by assumption, h⟩
  · cases h
theorem q_guardn {β : Type} {c : Prop} [Decidable c] {x : Option β} {r : β} (h : (if c then none else x) = some r) : ¬ c ∧ x = some r := by
  split at h
  · cases h
  · exact ⟨by assumption, h⟩
theorem q_ite {β : Type} {c : Prop} [Decidable c] {x y r : β} (h : (if c then x else y) = r) : (c ∧ x = r) ∨ (¬ c ∧ y = r) := by
  split at h
  · exact Or.inl ⟨by assumption, h⟩
  · exact Or.inr ⟨by assumption, h⟩
def q_min (x y : Int) : Int := if y < x then y else x
def q_minl (x y : Int64) : Int64 := if y < x then y else x
def q_maxl (x y : Int64) : Int64 := if y < x then x else y
def q_absl (x : Int64) : Int64 := if 0 < x then x else -x
theorem q_min_of {x y : Int} (hx1 : InR x) (hy1 : InR y) : (if Int32.ofInt y < Int32.ofInt x then Int32.ofInt y else Int32.ofInt x) = Int32.ofInt (q_min x y) := by
  unfold q_min
  by_cases h : y < x
  · rw [if_pos ((q_of_lt hy1 hx1).mpr h), if_pos h]
  · rw [if_neg (fun q => h ((q_of_lt hy1 hx1).mp q)), if_neg h]
theorem inr_min {x y : Int} (hx : InR x) (hy : InR y) : InR (q_min x y) := by unfold q_min; split <;> assumption
theorem z_and {x y : Int} (hx : x = 0 ∨ x = 1) (hy : y = 0 ∨ y = 1) : q_and x y = 0 ∨ q_and x y = 1 := by rcases hx with rfl | rfl <;> rcases hy with rfl | rfl <;> decide
theorem shN_small (r : Nat) : shN r ≤ 1024 := by
  by_cases h : r < 232
  · exact (by decide +kernel : ∀ r, r < 232 → shN r ≤ 1024) r h
  · unfold shN
    have e : shT[r]? = none := List.getElem?_eq_none (by rw [show shT.length = 232 from rfl]; omega)
    rw [List.getD_eq_getElem?_getD, e]
    decide
theorem inr_len {a r N lo : Nat} (h : arrP a r N lo) : InR (N : Int) := by
  have := shN_small r
  rw [h.2.1] at this
  unfold InR
  omega
theorem q_beq_ne {x y : Int} (h : ¬ x = y) : (y == x) = false := by
  rw [beq_eq_false_iff_ne]
  exact fun q => h q.symm
section RX
variable {p : Program} {l : Launch} {e : Env} {R : Room} {s : State} {m : MethodId} {args : Array Value} {below : List Frame} {meth : Method} {c : Code} {H : Heap} {locs : List Loc} {cells slots : Nat} {Q : State → Prop}
variable {cc : ByteArray} {pc nL lo : Nat} {ls : Array Slot} {rest : List Value} {own : String} {b n : Nat} {C : CT} {M : Mem}
theorem q_cmp_eq (x y : Int64) : lg_cmp x y = 0 ↔ x = y := lg_cmp_eq x y
theorem r_lif_eq (hx : p.tables.exec = Jvm.exec) (hb : c.code = cc) {x y : Int64} {off : Int} {tgt : Nat} (hdg : decode cc pc = .ok (.ifCond .eq off, 3)) (ht : (pc : Int) + off = (tgt : Int)) (kt : x = y → W p l e R s m args below meth c H locs cells slots Q (F0 m tgt ls rest)) (kf : ¬ x = y → W p l e R s m args below meth c H locs cells slots Q (F0 m (pc + 3) ls rest)) : W p l e R s m args below meth c H locs cells slots Q (F0 m pc ls (.int (lg_cmp x y) :: rest)) := lv_if_eq hx hb hdg ht (fun h => kt ((lg_cmp_eq x y).mp h)) (fun h => kf (fun q => h ((lg_cmp_eq x y).mpr q)))
theorem r_lif_ne (hx : p.tables.exec = Jvm.exec) (hb : c.code = cc) {x y : Int64} {off : Int} {tgt : Nat} (hdg : decode cc pc = .ok (.ifCond .ne off, 3)) (ht : (pc : Int) + off = (tgt : Int)) (kt : ¬ x = y → W p l e R s m args below meth c H locs cells slots Q (F0 m tgt ls rest)) (kf : x = y → W p l e R s m args below meth c H locs cells slots Q (F0 m (pc + 3) ls rest)) : W p l e R s m args below meth c H locs cells slots Q (F0 m pc ls (.int (lg_cmp x y) :: rest)) := lv_if_ne hx hb hdg ht (fun h => kt (fun q => h ((lg_cmp_eq x y).mpr q))) (fun h => kf ((lg_cmp_eq x y).mp h))
theorem r_lif_lt (hx : p.tables.exec = Jvm.exec) (hb : c.code = cc) {x y : Int64} {off : Int} {tgt : Nat} (hdg : decode cc pc = .ok (.ifCond .lt off, 3)) (ht : (pc : Int) + off = (tgt : Int)) (kt : x < y → W p l e R s m args below meth c H locs cells slots Q (F0 m tgt ls rest)) (kf : ¬ x < y → W p l e R s m args below meth c H locs cells slots Q (F0 m (pc + 3) ls rest)) : W p l e R s m args below meth c H locs cells slots Q (F0 m pc ls (.int (lg_cmp x y) :: rest)) := lv_if_lt hx hb hdg ht (fun h => kt ((lg_cmp_lt x y).mp h)) (fun h => kf (fun q => h ((lg_cmp_lt x y).mpr q)))
theorem r_lif_ge (hx : p.tables.exec = Jvm.exec) (hb : c.code = cc) {x y : Int64} {off : Int} {tgt : Nat} (hdg : decode cc pc = .ok (.ifCond .ge off, 3)) (ht : (pc : Int) + off = (tgt : Int)) (kt : y ≤ x → W p l e R s m args below meth c H locs cells slots Q (F0 m tgt ls rest)) (kf : ¬ y ≤ x → W p l e R s m args below meth c H locs cells slots Q (F0 m (pc + 3) ls rest)) : W p l e R s m args below meth c H locs cells slots Q (F0 m pc ls (.int (lg_cmp x y) :: rest)) := lv_if_ge hx hb hdg ht (fun h => kt ((lg_cmp_ge x y).mp h)) (fun h => kf (fun q => h ((lg_cmp_ge x y).mpr q)))
theorem r_lif_gt (hx : p.tables.exec = Jvm.exec) (hb : c.code = cc) {x y : Int64} {off : Int} {tgt : Nat} (hdg : decode cc pc = .ok (.ifCond .gt off, 3)) (ht : (pc : Int) + off = (tgt : Int)) (kt : y < x → W p l e R s m args below meth c H locs cells slots Q (F0 m tgt ls rest)) (kf : ¬ y < x → W p l e R s m args below meth c H locs cells slots Q (F0 m (pc + 3) ls rest)) : W p l e R s m args below meth c H locs cells slots Q (F0 m pc ls (.int (lg_cmp x y) :: rest)) := lv_if_gt hx hb hdg ht (fun h => kt ((lg_cmp_gt x y).mp h)) (fun h => kf (fun q => h ((lg_cmp_gt x y).mpr q)))
theorem r_lif_le (hx : p.tables.exec = Jvm.exec) (hb : c.code = cc) {x y : Int64} {off : Int} {tgt : Nat} (hdg : decode cc pc = .ok (.ifCond .le off, 3)) (ht : (pc : Int) + off = (tgt : Int)) (kt : x ≤ y → W p l e R s m args below meth c H locs cells slots Q (F0 m tgt ls rest)) (kf : ¬ x ≤ y → W p l e R s m args below meth c H locs cells slots Q (F0 m (pc + 3) ls rest)) : W p l e R s m args below meth c H locs cells slots Q (F0 m pc ls (.int (lg_cmp x y) :: rest)) := lv_if_le hx hb hdg ht (fun h => kt ((lg_cmp_le x y).mp h)) (fun h => kf (fun q => h ((lg_cmp_le x y).mpr q)))
theorem r_tableIn (hx : p.tables.exec = Jvm.exec) (hb : c.code = cc) {dflt lo9 hi i : Int} {offs : Array Int} {len : Nat} {x off : Int} {tgt : Nat} (hr : InR x) (hc : x = i) (hdg : decode cc pc = .ok (.tableswitch dflt lo9 hi offs, len)) (h1 : ¬ i < lo9) (h2 : ¬ hi < i) (ho : offs[(i - lo9).toNat]? = some off) (ht : (pc : Int) + off = (tgt : Int)) (k : W p l e R s m args below meth c H locs cells slots Q (F0 m tgt ls rest)) : W p l e R s m args below meth c H locs cells slots Q (F0 m pc ls (vI x :: rest)) := by
  subst hc
  have e9 := q_toInt_of hr
  exact lv_tableIn hx hb hdg (by rw [e9]; exact h1) (by rw [e9]; exact h2) (by rw [e9]; exact ho) ht k
theorem r_tableOut (hx : p.tables.exec = Jvm.exec) (hb : c.code = cc) {dflt lo9 hi : Int} {offs : Array Int} {len : Nat} {x : Int} {tgt : Nat} (hr : InR x) (h : x < lo9 ∨ hi < x) (hdg : decode cc pc = .ok (.tableswitch dflt lo9 hi offs, len)) (ht : (pc : Int) + dflt = (tgt : Int)) (k : W p l e R s m args below meth c H locs cells slots Q (F0 m tgt ls rest)) : W p l e R s m args below meth c H locs cells slots Q (F0 m pc ls (vI x :: rest)) := by
  have e9 := q_toInt_of hr
  exact lv_tableOut hx hb hdg (by rw [e9]; exact h) ht k
theorem r_lookup (hx : p.tables.exec = Jvm.exec) (hb : c.code = cc) {dflt : Int} {ps : Array (Int × Int)} {len : Nat} {x off : Int} {tgt : Nat} (hr : InR x) (hdg : decode cc pc = .ok (.lookupswitch dflt ps, len)) (hp : (ps.toList.zip (ps.toList.drop 1)).all (fun (a, next) => a.1 < next.1) = true) (ho : Op.lookupswitch.offset ps.toList dflt x = off) (ht : (pc : Int) + off = (tgt : Int)) (k : W p l e R s m args below meth c H locs cells slots Q (F0 m tgt ls rest)) : W p l e R s m args below meth c H locs cells slots Q (F0 m pc ls (vI x :: rest)) := by
  have e9 := q_toInt_of hr
  exact lv_lookup hx hb hdg hp (by rw [e9]; exact ho) ht k
theorem r_mmin {index : Nat} {x y : Int} (F : Cx b p m c cc nL s args own C n lo) (hsz : ls.size = nL) (h1 : Cond.methodLink own index Lib.Math.min.name ∈ lw_good) (h2 : Cond.static Lib.Math.min.name ∈ lw_good) (h3 : Cond.initialized "java/lang/Math" ∈ lw_good) (h4 : Cond.code Lib.Math.min.name Lib.Math.min.code 2 (some .int) ∈ lw_good) (hR : 1 ≤ R.frames ∧ 23 ≤ R.locals) (hrest : (rest.map fun v => v.category).sum ≤ 8) (hcs : cells ≤ R.cells ∧ slots ≤ R.slots) (hx1 : InR x) (hy1 : InR y) (hdg : decode cc pc = .ok (.invokestatic index, 3)) (kk : W p l e R s m args below meth c H locs cells slots Q (F0 m (pc + 3) ls (vI (q_min x y) :: rest))) : W p l e R s m args below meth c H locs cells slots Q (F0 m pc ls (vI y :: vI x :: rest)) :=
  va_mmin F.hx F.hb (F.hml.trans hsz.symm) F.hown (F.hts h1) (F.hts h2) (F.hts h3) (F.hts h4) hR.1 (by omega) hcs.1 hcs.2 hdg (by rw [q_min_of hx1 hy1]; exact kk)
theorem r_mminl {index : Nat} {x y : Int64} (F : Cx b p m c cc nL s args own C n lo) (hsz : ls.size = nL) (h1 : Cond.methodLink own index Lib.MathLoose.min_long.x ∈ lw_good) (h2 : Cond.static Lib.MathLoose.min_long.x ∈ lw_good) (h3 : Cond.initialized "java/lang/Math" ∈ lw_good) (h4 : Cond.code Lib.MathLoose.min_long.x Lib.MathLoose.min_long.code 4 (some .long) ∈ lw_good) (hR : 1 ≤ R.frames ∧ 23 ≤ R.locals) (hrest : (rest.map fun v => v.category).sum ≤ 8) (hcs : cells ≤ R.cells ∧ slots ≤ R.slots) (hdg : decode cc pc = .ok (.invokestatic index, 3)) (kk : W p l e R s m args below meth c H locs cells slots Q (F0 m (pc + 3) ls (.long (q_minl x y) :: rest))) : W p l e R s m args below meth c H locs cells slots Q (F0 m pc ls (.long y :: .long x :: rest)) :=
  va_mmin_long F.hx F.hb (F.hml.trans hsz.symm) F.hown (F.hts h1) (F.hts h2) (F.hts h3) (F.hts h4) hR.1 (by omega) hcs.1 hcs.2 hdg kk
theorem r_mmaxl {index : Nat} {x y : Int64} (F : Cx b p m c cc nL s args own C n lo) (hsz : ls.size = nL) (h1 : Cond.methodLink own index Lib.MathLoose.max_long.x ∈ lw_good) (h2 : Cond.static Lib.MathLoose.max_long.x ∈ lw_good) (h3 : Cond.initialized "java/lang/Math" ∈ lw_good) (h4 : Cond.code Lib.MathLoose.max_long.x Lib.MathLoose.max_long.code 4 (some .long) ∈ lw_good) (hR : 1 ≤ R.frames ∧ 23 ≤ R.locals) (hrest : (rest.map fun v => v.category).sum ≤ 8) (hcs : cells ≤ R.cells ∧ slots ≤ R.slots) (hdg : decode cc pc = .ok (.invokestatic index, 3)) (kk : W p l e R s m args below meth c H locs cells slots Q (F0 m (pc + 3) ls (.long (q_maxl x y) :: rest))) : W p l e R s m args below meth c H locs cells slots Q (F0 m pc ls (.long y :: .long x :: rest)) :=
  va_mmax_long F.hx F.hb (F.hml.trans hsz.symm) F.hown (F.hts h1) (F.hts h2) (F.hts h3) (F.hts h4) hR.1 (by omega) hcs.1 hcs.2 hdg kk
theorem r_mabsl {index : Nat} {x : Int64} (F : Cx b p m c cc nL s args own C n lo) (hsz : ls.size = nL) (h1 : Cond.methodLink own index Lib.MathLoose.abs_long.x ∈ lw_good) (h2 : Cond.static Lib.MathLoose.abs_long.x ∈ lw_good) (h3 : Cond.initialized "java/lang/Math" ∈ lw_good) (h4 : Cond.code Lib.MathLoose.abs_long.x Lib.MathLoose.abs_long.code 2 (some .long) ∈ lw_good) (hR : 1 ≤ R.frames ∧ 23 ≤ R.locals) (hrest : (rest.map fun v => v.category).sum ≤ 8) (hcs : cells ≤ R.cells ∧ slots ≤ R.slots) (hdg : decode cc pc = .ok (.invokestatic index, 3)) (kk : W p l e R s m args below meth c H locs cells slots Q (F0 m (pc + 3) ls (.long (q_absl x) :: rest))) : W p l e R s m args below meth c H locs cells slots Q (F0 m pc ls (.long x :: rest)) :=
  va_mabs_long F.hx F.hb (F.hml.trans hsz.symm) F.hown (F.hts h1) (F.hts h2) (F.hts h3) (F.hts h4) hR.1 (by omega) hcs.1 hcs.2 hdg kk
end RX
