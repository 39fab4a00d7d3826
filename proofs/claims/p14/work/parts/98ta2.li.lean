/-- the cells of RL -/
def RLd : Nat → Int → Prop := fun q j => (CsW 47 q j ∨ RwW 0 q j) ∨ (ChW 62 q j ∨ RgR 0 q j) ∨ ((q = 70 ∧ (j = 1 ∨ j = 2)) ∨ (72 ≤ q ∧ q ≤ 171) ∨ (q = 191 ∧ j = 43) ∨ ((q = 210 ∨ q = 211) ∧ 3 ≤ j) ∨ (q = 212 ∧ 12 ≤ j) ∨ ((q = 213 ∨ q = 214 ∨ q = 215) ∧ 24 ≤ j)) ∨ ((q = 0 ∧ j = 13) ∨ (q = 191 ∧ j = 42) ∨ CsW 57 q j ∨ RwW 2 q j ∨ ChW 66 q j ∨ RgR 2 q j) ∨ ((q = 172 ∧ (j = 5 ∨ j = 6)) ∨ (173 ≤ q ∧ q ≤ 175) ∨ (q = 191 ∧ (j = 60 ∨ j = 61)) ∨ (226 ≤ q ∧ q ≤ 228))
def RLc : Nat → Int → Prop := fun q j => RLd q j ∨ ((q = 177 ∧ 6 ≤ j ∧ j ≤ 8) ∨ q = 184 ∨ (q = 207 ∧ j = 0) ∨ RwW 0 q j)
theorem ImR.fr {W : Nat → Int → Prop} {M N : Mem} {V : TV} (hV : VOK V) (hy : M.1 191 42 = 1 → M.1 207 2 ≤ 99) (h : ImR M V) (hF : Fr W M N) (hd : ∀ q j, ((q = 0 ∧ j = 13) ∨ (q = 191 ∧ j = 42) ∨ CsW 57 q j ∨ RwW 2 q j ∨ ChW 66 q j ∨ RgR 2 q j) → ¬ W q j) : ImR N V := by
  have e1 := (hF 0 13 (hd _ _ (by omega))).1
  have e2 := (hF 191 42 (hd _ _ (by omega))).1
  refine ⟨by rw [e1, e2]; exact h.1, fun z => ?_⟩
  rw [e2] at z
  exact ⟨(h.2 z).1.fr hV hF (fun q j x => hd q j (by rcases x with x | x; exact Or.inr (Or.inr (Or.inl x)); exact Or.inr (Or.inr (Or.inr (Or.inl x))))), (h.2 z).2.fr (hy z) hF (fun q j x => hd q j (by rcases x with x | x; exact Or.inr (Or.inr (Or.inr (Or.inr (Or.inl x)))); exact Or.inr (Or.inr (Or.inr (Or.inr (Or.inr x))))))⟩
theorem NoR.fr {W : Nat → Int → Prop} {M N : Mem} (h : NoR M) (hF : Fr W M N) (hd : ∀ q j, ((q = 172 ∧ (j = 5 ∨ j = 6)) ∨ (173 ≤ q ∧ q ≤ 175) ∨ (q = 191 ∧ (j = 60 ∨ j = 61)) ∨ (226 ≤ q ∧ q ≤ 228)) → ¬ W q j) : NoR N := by
  have e : ∀ q j, ((q = 172 ∧ (j = 5 ∨ j = 6)) ∨ (173 ≤ q ∧ q ≤ 175) ∨ (q = 191 ∧ (j = 60 ∨ j = 61)) ∨ (226 ≤ q ∧ q ≤ 228)) → N.1 q j = M.1 q j := fun q j z => (hF q j (hd q j z)).1
  refine ⟨by rw [e 172 5 (by omega), e 191 60 (by omega)]; exact h.1, by rw [e 172 6 (by omega), e 191 61 (by omega)]; exact h.2.1, fun k a b => ?_⟩
  rw [e 191 60 (by omega)] at b
  rw [e 173 k (by omega), e 174 k (by omega), e 175 k (by omega), e 226 k (by omega), e 227 k (by omega), e 228 k (by omega)]
  exact h.2.2 k a b
theorem RL.fr0 {W : Nat → Int → Prop} {M N : Mem} {V : TV} (hV : VOK V) (hy : M.1 207 0 ≤ 99 ∧ (M.1 191 42 = 1 → M.1 207 2 ≤ 99)) (h : RL M V) (hF : Fr W M N) (hd : ∀ q j, RLd q j → ¬ W q j) (hc : CaR N V) : RL N V := by
  obtain ⟨r1, r2, r3, r4, r5, r6⟩ := h
  exact ⟨r1.fr hV hF (fun q j z => hd q j (Or.inl z)), r2.fr hy.1 hF (fun q j z => hd q j (Or.inr (Or.inl z))), r3.fr hV hF (fun q j z => hd q j (Or.inr (Or.inr (Or.inl z)))), r4.fr hV hy.2 hF (fun q j z => hd q j (Or.inr (Or.inr (Or.inr (Or.inl z))))), r5.fr hF (fun q j z => hd q j (Or.inr (Or.inr (Or.inr (Or.inr z))))), hc⟩
theorem RL.fr {W : Nat → Int → Prop} {M N : Mem} {V : TV} (hV : VOK V) (hy : M.1 207 0 ≤ 99 ∧ (M.1 191 42 = 1 → M.1 207 2 ≤ 99)) (h : RL M V) (hF : Fr W M N) (hd : ∀ q j, RLc q j → ¬ W q j) : RL N V :=
  h.fr0 hV hy hF (fun q j z => hd q j (Or.inl z)) (h.2.2.2.2.2.fr hV hF (fun q j z => hd q j (Or.inr z)))
/-- the cells of RL, flat -/
def RLf : Nat → Int → Prop := fun q j => (47 ≤ q ∧ q ≤ 51) ∨ (57 ≤ q ∧ q ≤ 70) ∨ (72 ≤ q ∧ q ≤ 171) ∨ (q = 172 ∧ (j = 5 ∨ j = 6)) ∨ (173 ≤ q ∧ q ≤ 175) ∨ (q = 0 ∧ j = 13) ∨ (q = 191 ∧ (j = 42 ∨ j = 43 ∨ j = 60 ∨ j = 61)) ∨ ((207 ≤ q ∧ q ≤ 211) ∧ j ≠ 1) ∨ (q = 212 ∧ ¬ (4 ≤ j ∧ j < 8)) ∨ ((213 ≤ q ∧ q ≤ 215) ∧ ¬ (8 ≤ j ∧ j < 16)) ∨ (216 ≤ q ∧ q ≤ 218) ∨ (226 ≤ q ∧ q ≤ 228)
theorem cs_flat {k : Nat} {q : Nat} {j : Int} (hk : k = 47 ∨ k = 57) (z : CsW k q j) : RLf q j := by
  have : (47 ≤ q ∧ q ≤ 51) ∨ (57 ≤ q ∧ q ≤ 70) := by unfold CsW at z; omega
  rcases this with h | h
  · exact Or.inl h
  · exact Or.inr (Or.inl h)
theorem ch_flat {k : Nat} {q : Nat} {j : Int} (hk : k = 62 ∨ k = 66) (z : ChW k q j) : RLf q j := by
  have : 57 ≤ q ∧ q ≤ 70 := by unfold ChW at z; omega
  exact Or.inr (Or.inl this)
theorem rw_flat {a : Int} {q : Nat} {j : Int} (ha : a = 0 ∨ a = 2) (z : RwW a q j) : RLf q j := by
  have : ((207 ≤ q ∧ q ≤ 211) ∧ j ≠ 1) ∨ (q = 212 ∧ ¬ (4 ≤ j ∧ j < 8)) ∨ ((213 ≤ q ∧ q ≤ 215) ∧ ¬ (8 ≤ j ∧ j < 16)) := by unfold RwW at z; omega
  unfold RLf
  rcases this with h | h | h
  · exact Or.inr (Or.inr (Or.inr (Or.inr (Or.inr (Or.inr (Or.inr (Or.inl h)))))))
  · exact Or.inr (Or.inr (Or.inr (Or.inr (Or.inr (Or.inr (Or.inr (Or.inr (Or.inl h))))))))
  · exact Or.inr (Or.inr (Or.inr (Or.inr (Or.inr (Or.inr (Or.inr (Or.inr (Or.inr (Or.inl h)))))))))
theorem rg_flat {a : Int} {q : Nat} {j : Int} (ha : a = 0 ∨ a = 2) (z : RgR a q j) : RLf q j := by
  have : ((207 ≤ q ∧ q ≤ 211) ∧ j ≠ 1) ∨ (216 ≤ q ∧ q ≤ 218) := by unfold RgR at z; omega
  unfold RLf
  rcases this with h | h
  · exact Or.inr (Or.inr (Or.inr (Or.inr (Or.inr (Or.inr (Or.inr (Or.inl h)))))))
  · exact Or.inr (Or.inr (Or.inr (Or.inr (Or.inr (Or.inr (Or.inr (Or.inr (Or.inr (Or.inr (Or.inl h))))))))))
theorem rld_flat {q : Nat} {j : Int} (z : RLd q j) : RLf q j := by
  unfold RLd at z
  rcases z with z | z | z | z | z
  · rcases z with z | z
    · exact cs_flat (Or.inl rfl) z
    · exact rw_flat (Or.inl rfl) z
  · rcases z with z | z
    · exact ch_flat (Or.inl rfl) z
    · exact rg_flat (Or.inl rfl) z
  · unfold RLf
    rcases z with z | z | z | z | z | z
    · exact Or.inr (Or.inl (by omega))
    · exact Or.inr (Or.inr (Or.inl z))
    · exact Or.inr (Or.inr (Or.inr (Or.inr (Or.inr (Or.inr (Or.inl (by omega)))))))
    · exact Or.inr (Or.inr (Or.inr (Or.inr (Or.inr (Or.inr (Or.inr (Or.inl (by omega))))))))
    · exact Or.inr (Or.inr (Or.inr (Or.inr (Or.inr (Or.inr (Or.inr (Or.inr (Or.inl (by omega)))))))))
    · exact Or.inr (Or.inr (Or.inr (Or.inr (Or.inr (Or.inr (Or.inr (Or.inr (Or.inr (Or.inl (by omega))))))))))
  · rcases z with z | z | z | z | z | z
    · unfold RLf; exact Or.inr (Or.inr (Or.inr (Or.inr (Or.inr (Or.inl z)))))
    · unfold RLf; exact Or.inr (Or.inr (Or.inr (Or.inr (Or.inr (Or.inr (Or.inl (by omega)))))))
    · exact cs_flat (Or.inr rfl) z
    · exact rw_flat (Or.inr rfl) z
    · exact ch_flat (Or.inr rfl) z
    · exact rg_flat (Or.inr rfl) z
  · unfold RLf
    rcases z with z | z | z | z
    · exact Or.inr (Or.inr (Or.inr (Or.inl z)))
    · exact Or.inr (Or.inr (Or.inr (Or.inr (Or.inl z))))
    · exact Or.inr (Or.inr (Or.inr (Or.inr (Or.inr (Or.inr (Or.inl (by omega)))))))
    · exact Or.inr (Or.inr (Or.inr (Or.inr (Or.inr (Or.inr (Or.inr (Or.inr (Or.inr (Or.inr (Or.inr z))))))))))
theorem RL.frf {W : Nat → Int → Prop} {M N : Mem} {V : TV} (hV : VOK V) (hy : M.1 207 0 ≤ 99 ∧ (M.1 191 42 = 1 → M.1 207 2 ≤ 99)) (h : RL M V) (hF : Fr W M N) (hd : ∀ q j, (RLf q j ∨ (q = 177 ∧ 6 ≤ j ∧ j ≤ 8) ∨ q = 184) → ¬ W q j) : RL N V :=
  h.fr hV hy hF (fun q j z => hd q j (by
    rcases z with z | z | z | z | z
    · exact Or.inl (rld_flat z)
    · exact Or.inr (Or.inl z)
    · exact Or.inr (Or.inr z)
    · exact Or.inl (rg_flat (Or.inl rfl) (by unfold RgR; omega))
    · exact Or.inl (rw_flat (Or.inl rfl) z)))
