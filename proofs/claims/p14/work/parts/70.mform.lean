/-! ===== the laws' values: what is to come out, and the reference's side ===== -/
def chkS (v : Int64) : Option Int64 := if 1000000000000 < v then none else if v < -1000000000000 then none else some v
def joinS (c : Int) (x y : Int64) : Option Int64 :=
  if c = 45 then (if x = 0 then chkS (x * y) else if q_absl y ≤ 1000000000000 / q_absl x then chkS (x * y) else none)
  else if c = 43 then chkS (x + y) else if c = 44 then chkS (x - y)
  else if c = 46 then (if y = 0 then none else chkS (x / y))
  else if c = 47 then chkS (if y ≤ x then 0 else 1)
  else if c = 49 then chkS (if x = y then 1 else 0)
  else if c = 52 then chkS (if x ≤ y then 0 else 1)
  else if c = 48 then chkS (if y < x then 0 else 1)
  else if c = 50 then chkS (if x = y then 0 else 1)
  else if c = 51 then chkS (if x < y then 0 else 1)
  else if c = 16 then chkS (if x = 0 then 0 else if y = 0 then 0 else 1)
  else chkS (if x = 0 then (if y = 0 then 0 else 1) else 1)
/-- the outcome of one sign on the reference's stack of height h -/
def WkR (M : Mem) (h : Int) (o : Option Int64) (x : Option (Mem × Int)) : Prop := ∃ N r, x = some (N, r) ∧ Fr (fun k j => (k = 191 ∧ j = 54) ∨ k = 221) M N ∧ match o with
  | none => r = 0
  | some v => r = 1 ∧ N.1 191 54 = h - 1 ∧ N.2 221 (h - 2) = v ∧ ∀ j, j < h - 2 → N.2 221 j = M.2 221 j
theorem m_works_L407 {M : Mem} {h x1 : Int} {v : Int64} (h2 : 2 ≤ h ∧ h ≤ 64) : WkR M h (chkS v) (t_MO_works_L407 x1 (setI M 191 54 (h - 1)) v) := by
  unfold t_MO_works_L407 chkS
  rw [sI_self, w32_id (x := h - 1 - 1) (by unfold InR; omega), show h - 1 - 1 = h - 2 by omega, qguard_pos ⟨by omega, by omega⟩]
  simp only [qlet]
  have hF : Fr (fun k j => (k = 191 ∧ j = 54) ∨ k = 221) M (setL (setI M 191 54 (h - 1)) 221 (h - 2) v) := (Fr.rf.setI (Or.inl ⟨rfl, rfl⟩)).setL (Or.inr rfl)
  by_cases c1 : 1000000000000 < v
  · rw [if_pos c1, if_pos c1]; exact ⟨_, _, rfl, hF, rfl⟩
  · rw [if_neg c1, if_neg c1]
    by_cases c2 : v < -1000000000000
    · rw [if_pos c2, if_pos c2]; exact ⟨_, _, rfl, hF, rfl⟩
    · rw [if_neg c2, if_neg c2]
      refine ⟨_, _, rfl, hF, rfl, ?_, sL_self _ _ _ _, fun j hj => ?_⟩
      · rw [sL_fst, sI_self]
      · rw [sL_ne (by omega), sI_snd]
theorem m_is (M : Mem) (v : Int) : t_MO_is M v = if v = 0 then 0 else 1 := rfl
theorem m_works {M : Mem} {h c n : Int} (e : M.1 191 54 = h) (h2 : 2 ≤ h ∧ h ≤ 64) (hc : ktwo c) : WkR M h (joinS c (M.2 221 (h - 2)) (M.2 221 (h - 1))) (t_MO_works M (kval c n)) := by
  have L := @m_works_L407 M h
  have i1 : w32 (h - 1) = h - 1 := w32_id (by unfold InR; omega)
  have i2 : w32 (h - 2) = h - 2 := w32_id (by unfold InR; omega)
  have g1 : 0 ≤ h - 1 ∧ h - 1 < 64 := by omega
  have g2 : 0 ≤ h - 2 ∧ h - 2 < 64 := by omega
  have F : Fr (fun k j => (k = 191 ∧ j = 54) ∨ k = 221) M (setI M 191 54 (h - 1)) := Fr.rf.setI (Or.inl ⟨rfl, rfl⟩)
  have b0 : (if (0 : Int) = 0 then (0 : Int64) else 1) = 0 := rfl
  have b1 : (if (1 : Int) = 0 then (0 : Int64) else 1) = 1 := rfl
  unfold t_MO_works joinS
  rw [e, i1, i2, qguard_pos g1, qguard_pos g2]
  generalize M.2 221 (h - 2) = x
  generalize M.2 221 (h - 1) = y
  clear i1 i2
  unfold ktwo at hc
  have hc' : c = 15 ∨ c = 16 ∨ c = 43 ∨ c = 44 ∨ c = 45 ∨ c = 46 ∨ c = 47 ∨ c = 48 ∨ c = 49 ∨ c = 50 ∨ c = 51 ∨ c = 52 := by omega
  unfold t_MO_works_L375 t_MO_works_L397 t_MO_works_L376 t_MO_works_L402 t_MO_works_L212 t_MO_works_L250 t_MO_works_L270 t_MO_works_L290 t_MO_works_L310 t_MO_works_L330 t_MO_works_L350
  simp only [qlet, m_is, b0, b1]
  rcases hc' with rfl | rfl | rfl | rfl | rfl | rfl | rfl | rfl | rfl | rfl | rfl | rfl
  · rw [show kval 15 n = 262 from rfl]
    simp only [Int.reduceEq, ↓reduceIte]
    split
    · split
      · exact L h2
      · exact L h2
    · exact L h2
  · rw [show kval 16 n = 261 from rfl]
    simp only [Int.reduceEq, ↓reduceIte]
    split
    · exact L h2
    · split
      · exact L h2
      · exact L h2
  · rw [show kval 43 n = 43 from rfl]
    simp only [Int.reduceEq, ↓reduceIte]
    exact L h2
  · rw [show kval 44 n = 45 from rfl]
    simp only [Int.reduceEq, ↓reduceIte]
    exact L h2
  · rw [show kval 45 n = 42 from rfl]
    simp only [Int.reduceEq, ↓reduceIte]
    by_cases z : x = 0
    · rw [if_pos z, if_pos z]; exact L h2
    · rw [if_neg z, if_neg z, if_neg (fun q => z (absl_zero q))]
      by_cases z2 : q_absl y ≤ 1000000000000 / q_absl x
      · rw [if_pos z2, if_pos z2]; exact L h2
      · rw [if_neg z2, if_neg z2]; exact ⟨_, _, rfl, F, rfl⟩
  · rw [show kval 46 n = 47 from rfl]
    simp only [Int.reduceEq, ↓reduceIte]
    by_cases z : y = 0
    · rw [if_pos z, if_pos z]; exact ⟨_, _, rfl, F, rfl⟩
    · rw [if_neg z, if_neg z]; exact L h2
  · rw [show kval 47 n = 60 from rfl]
    simp only [Int.reduceEq, ↓reduceIte]
    split <;> exact L h2
  · rw [show kval 48 n = 256 from rfl]
    simp only [Int.reduceEq, ↓reduceIte]
    split <;> exact L h2
  · rw [show kval 49 n = 61 from rfl]
    simp only [Int.reduceEq, ↓reduceIte]
    split <;> exact L h2
  · rw [show kval 50 n = 257 from rfl]
    simp only [Int.reduceEq, ↓reduceIte]
    split <;> exact L h2
  · rw [show kval 51 n = 258 from rfl]
    simp only [Int.reduceEq, ↓reduceIte]
    split <;> exact L h2
  · rw [show kval 52 n = 62 from rfl]
    simp only [Int.reduceEq, ↓reduceIte]
    split <;> exact L h2
