section
/-! ===== lines keep the town well made -/
theorem FOK.same {V V' : TV} (h : FOK V) (e0 : ∀ j, (9 ≤ j ∧ j ≤ 12) → V' 0 j = V 0 j) (er : ∀ r j, 10 ≤ r → V' r j = V r j) : FOK V' := by
  unfold FOK at *
  have f := fun r (hr : 10 ≤ r) => funext (fun j => er r j hr)
  rw [f 10 (by omega), f 12 (by omega), e0 9 (by omega), e0 10 (by omega), e0 11 (by omega), e0 12 (by omega)]
  exact h
section PK
variable {B : Int → Int} {n : Int}
theorem nuS0 {i : Nat} {lo hi : Int} (h : nuS B n i lo hi = 0) : lo ≤ tW B n i ∧ tW B n i ≤ hi := by
  unfold nuS at h
  by_cases a : tK B n i = 31
  · rw [if_pos a] at h
    by_cases b : tW B n i < lo
    · rw [if_pos b] at h; omega
    · rw [if_neg b] at h
      by_cases c : hi < tW B n i
      · rw [if_pos c] at h; omega
      · omega
  · rw [if_neg a] at h; omega
theorem fnd_noneL {f : Nat → Int} {v : Int} : ∀ {m : Nat}, fnd f v m = none → ∀ a : Nat, a < m → f a ≠ v := by
  intro m
  induction m with
  | zero => intro _ a h; omega
  | succ m ih =>
    intro h a ha
    rw [fnd] at h
    cases e : fnd f v m with
    | some x => rw [e] at h; cases h
    | none =>
      rw [e] at h
      by_cases z : f m = v
      · simp [z] at h
      · by_cases y : a = m
        · rw [y]; exact z
        · exact ih e a (by omega)
theorem fnd_lt {f : Nat → Int} {v : Int} : ∀ {m : Nat} {a : Nat}, fnd f v m = some a → a < m := by
  intro m
  induction m with
  | zero => intro a h; cases h
  | succ m ih =>
    intro a h
    rw [fnd] at h
    cases e : fnd f v m with
    | some x => rw [e] at h; have := ih e; simp at h; omega
    | none =>
      rw [e] at h
      by_cases z : f m = v
      · simp [z] at h; omega
      · simp [z] at h
theorem pok_town {V : TV} {i : Nat} (hP : POK V) (h3 : V 0 3 = 0) (h : (lnTown B n V i).1 = 0) : POK (lnTown B n V i).2.2.2 ∧ i < (lnTown B n V i).2.2.1 := by
  unfold lnTown at *
  by_cases a : nuS B n (i + 1) 1 8 = 0
  · rw [if_neg (fun q => q a)] at h ⊢
    by_cases b : nuS B n (i + 2) 1 6 = 0
    · rw [if_neg (fun q => q b)] at h ⊢
      refine ⟨?_, by show i < i + 3; omega⟩
      show POK (setV (setV (setV V 0 0 (tW B n (i + 1))) 0 1 (tW B n (i + 2))) 0 13 1)
      obtain ⟨⟨hv, hw, ht, hc⟩, hf, hm⟩ := hP
      have e : ∀ r j, ¬ (r = 0 ∧ (j = 0 ∨ j = 1 ∨ j = 13)) → setV (setV (setV V 0 0 (tW B n (i + 1))) 0 1 (tW B n (i + 2))) 0 13 1 r j = V r j := fun r j q => by rw [setV_ne _ _ (by omega), setV_ne _ _ (by omega), setV_ne _ _ (by omega)]
      have e0 : setV (setV (setV V 0 0 (tW B n (i + 1))) 0 1 (tW B n (i + 2))) 0 13 1 0 0 = tW B n (i + 1) := by rw [setV_ne _ _ (by omega), setV_ne _ _ (by omega), setV_self]
      have e1 : setV (setV (setV V 0 0 (tW B n (i + 1))) 0 1 (tW B n (i + 2))) 0 13 1 0 1 = tW B n (i + 2) := by rw [setV_ne _ _ (by omega), setV_self]
      have a := nuS0 a
      have b := nuS0 b
      generalize setV (setV (setV V 0 0 (tW B n (i + 1))) 0 1 (tW B n (i + 2))) 0 13 1 = V' at *
      have q2 := e 0 2 (by omega); have q3 := e 0 3 (by omega); have q4 := e 0 4 (by omega); have q5 := e 0 5 (by omega); have q6 := e 0 6 (by omega); have q7 := e 0 7 (by omega); have q8 := e 0 8 (by omega)
      refine ⟨⟨by omega, fun w x y => ?_, fun t x y => by omega, fun c x y => ?_⟩, hf.same (fun j z => e 0 j (by omega)) (fun r j z => e r j (by omega)), by omega⟩
      · rw [e 2 w (by omega), e 3 w (by omega)]; exact hw w x (by omega)
      · rw [e 7 c (by omega), e 8 c (by omega), e 9 c (by omega), q2]; exact hc c x y
    · rw [if_pos b] at h; exact absurd h b
  · rw [if_pos a] at h; exact absurd h a
theorem pok_ward {V : TV} {i : Nat} (hP : POK V) (h2 : V 0 2 < 4) (h : (lnWard B n V i).1 = 0) : POK (lnWard B n V i).2.2.2 ∧ i < (lnWard B n V i).2.2.1 := by
  unfold lnWard at *
  by_cases a : nmS B n V 1 (V 0 2) (i + 1) = 0
  · rw [if_neg (fun q => q a)] at h ⊢
    by_cases b : 8 ≤ tK B n (i + 2) ∧ tK B n (i + 2) ≤ 12
    · rw [if_neg (fun q => q b)] at h ⊢
      by_cases c : nuS B n (i + 3) 0 99 = 0
      · rw [if_neg (fun q => q c)] at h ⊢
        refine ⟨?_, by show i < i + 4; omega⟩
        obtain ⟨⟨hv, hw, ht, hc⟩, hf, hm⟩ := hP
        have c := nuS0 c
        show POK (setV (setV (setV (setV V 1 (V 0 2) (tW B n (i + 1))) 2 (V 0 2) (tK B n (i + 2) - 8)) 3 (V 0 2) (tW B n (i + 3))) 0 2 (V 0 2 + 1))
        have e : ∀ r j, ¬ (r = 0 ∧ j = 2) → ¬ ((r = 1 ∨ r = 2 ∨ r = 3) ∧ j = V 0 2) → setV (setV (setV (setV V 1 (V 0 2) (tW B n (i + 1))) 2 (V 0 2) (tK B n (i + 2) - 8)) 3 (V 0 2) (tW B n (i + 3))) 0 2 (V 0 2 + 1) r j = V r j := fun r j q p => by rw [setV_ne _ _ (by omega), setV_ne _ _ (by omega), setV_ne _ _ (by omega), setV_ne _ _ (by omega)]
        have q2 : setV (setV (setV (setV V 1 (V 0 2) (tW B n (i + 1))) 2 (V 0 2) (tK B n (i + 2) - 8)) 3 (V 0 2) (tW B n (i + 3))) 0 2 (V 0 2 + 1) 0 2 = V 0 2 + 1 := setV_self _ _ _ _
        have w2 : setV (setV (setV (setV V 1 (V 0 2) (tW B n (i + 1))) 2 (V 0 2) (tK B n (i + 2) - 8)) 3 (V 0 2) (tW B n (i + 3))) 0 2 (V 0 2 + 1) 2 (V 0 2) = tK B n (i + 2) - 8 := by rw [setV_ne _ _ (by omega), setV_ne _ _ (by omega), setV_self]
        have w3 : setV (setV (setV (setV V 1 (V 0 2) (tW B n (i + 1))) 2 (V 0 2) (tK B n (i + 2) - 8)) 3 (V 0 2) (tW B n (i + 3))) 0 2 (V 0 2 + 1) 3 (V 0 2) = tW B n (i + 3) := by rw [setV_ne _ _ (by omega), setV_self]
        generalize setV (setV (setV (setV V 1 (V 0 2) (tW B n (i + 1))) 2 (V 0 2) (tK B n (i + 2) - 8)) 3 (V 0 2) (tW B n (i + 3))) 0 2 (V 0 2 + 1) = V' at *
        have q0 := e 0 0 (by omega) (by omega); have q1 := e 0 1 (by omega) (by omega); have q3 := e 0 3 (by omega) (by omega); have q4 := e 0 4 (by omega) (by omega); have q5 := e 0 5 (by omega) (by omega); have q6 := e 0 6 (by omega) (by omega); have q7 := e 0 7 (by omega) (by omega); have q8 := e 0 8 (by omega) (by omega)
        have qc : cellsV V' = cellsV V := by unfold cellsV; rw [q0, q1]
        refine ⟨⟨by omega, fun w x y => ?_, fun t x y => ?_, fun c x y => ?_⟩, hf.same (fun j z => e 0 j (by omega) (by omega)) (fun r j z => e r j (by omega) (by omega)), by omega⟩
        · by_cases z : w = V 0 2
          · rw [z, w2, w3]; omega
          · rw [e 2 w (by omega) (by omega), e 3 w (by omega) (by omega)]; exact hw w x (by omega)
        · rw [e 5 t (by omega) (by omega), e 6 t (by omega) (by omega), e 8 _ (by omega) (by omega), qc]; exact ht t x (by omega)
        · have := hc c x y
          rw [e 7 c (by omega) (by omega), e 8 c (by omega) (by omega), e 9 c (by omega) (by omega), q2]; omega
      · rw [if_pos c] at h; exact absurd h c
    · rw [if_pos b] at h; exact absurd h (by simp)
  · rw [if_pos a] at h; exact absurd h a
theorem pok_cell {V : TV} {i : Nat} {k : Int → LR} {P : LR → Prop} (hP : POK V) (h : (clS B n V i k).1 = 0) (hk : ∀ c, 0 ≤ c → c < cellsV V → (k c).1 = 0 → P (k c)) : P (clS B n V i k) := by
  unfold clS at *
  by_cases a : nuS B n i 0 (V 0 0 - 1) = 0
  · rw [if_neg (fun q => q a)] at h ⊢
    by_cases b : nuS B n (i + 1) 0 (V 0 1 - 1) = 0
    · rw [if_neg (fun q => q b)] at h ⊢
      have a := nuS0 a
      have b := nuS0 b
      have r := cell_rng hP.1 a.1 a.2 b.1 b.2
      exact hk _ r.1 r.2.1 h
    · rw [if_pos b] at h; exact absurd h b
  · rw [if_pos a] at h; exact absurd h a
theorem pok_part {V : TV} {i : Nat} (hP : POK V) (h6 : V 0 6 < 12) (h : (lnPart B n V i).1 = 0) : POK (lnPart B n V i).2.2.2 ∧ i < (lnPart B n V i).2.2.1 := by
  unfold lnPart at *
  by_cases a : tK B n (i + 1) = 30
  · rw [if_neg (fun q => q a)] at h ⊢
    cases ef : fnd (fun a => V 1 (a : Int)) (tW B n (i + 1)) (V 0 2).toNat with
    | none => rw [ef] at h; exact absurd h (by simp)
    | some w =>
      rw [ef] at h
      have hwl := fnd_lt ef
      dsimp only at h ⊢
      by_cases b : nuS B n (i + 2) 0 (V 0 0 - 1) = 0
      · rw [if_neg (fun q => q b)] at h ⊢
        by_cases c : nuS B n (i + 3) 0 (V 0 1 - 1) = 0
        · rw [if_neg (fun q => q c)] at h ⊢
          by_cases d : nuS B n (i + 4) (tW B n (i + 2)) (V 0 0 - 1) = 0
          · rw [if_neg (fun q => q d)] at h ⊢
            by_cases f : nuS B n (i + 5) (tW B n (i + 3)) (V 0 1 - 1) = 0
            · rw [if_neg (fun q => q f)] at h ⊢
              refine ⟨?_, by show i < i + 6; omega⟩
              obtain ⟨⟨hv, hw, ht, hc⟩, hf, hm⟩ := hP
              show POK (setV (ptV V (tW B n (i + 2)) (tW B n (i + 3)) (tW B n (i + 4)) (tW B n (i + 5)) (w : Int)) 0 6 (V 0 6 + 1))
              have e : ∀ r j, ¬ (r = 0 ∧ j = 6) → ¬ r = 7 → setV (ptV V (tW B n (i + 2)) (tW B n (i + 3)) (tW B n (i + 4)) (tW B n (i + 5)) (w : Int)) 0 6 (V 0 6 + 1) r j = V r j := fun r j q p => by rw [setV_ne _ _ (by omega)]; exact if_neg (fun z => p z.1)
              have q6 : setV (ptV V (tW B n (i + 2)) (tW B n (i + 3)) (tW B n (i + 4)) (tW B n (i + 5)) (w : Int)) 0 6 (V 0 6 + 1) 0 6 = V 0 6 + 1 := setV_self _ _ _ _
              have e7 : ∀ c, setV (ptV V (tW B n (i + 2)) (tW B n (i + 3)) (tW B n (i + 4)) (tW B n (i + 5)) (w : Int)) 0 6 (V 0 6 + 1) 7 c = V 7 c ∨ setV (ptV V (tW B n (i + 2)) (tW B n (i + 3)) (tW B n (i + 4)) (tW B n (i + 5)) (w : Int)) 0 6 (V 0 6 + 1) 7 c = (w : Int) := by
                intro c
                rw [setV_ne _ _ (by omega)]
                unfold ptV
                split
                · exact Or.inr rfl
                · exact Or.inl rfl
              generalize setV (ptV V (tW B n (i + 2)) (tW B n (i + 3)) (tW B n (i + 4)) (tW B n (i + 5)) (w : Int)) 0 6 (V 0 6 + 1) = V' at *
              have q0 := e 0 0 (by omega) (by omega); have q1 := e 0 1 (by omega) (by omega); have q2 := e 0 2 (by omega) (by omega); have q3 := e 0 3 (by omega) (by omega); have q4 := e 0 4 (by omega) (by omega); have q5 := e 0 5 (by omega) (by omega); have q7 := e 0 7 (by omega) (by omega); have q8 := e 0 8 (by omega) (by omega)
              have qc : cellsV V' = cellsV V := by unfold cellsV; rw [q0, q1]
              refine ⟨⟨by omega, fun w x y => ?_, fun t x y => ?_, fun c x y => ?_⟩, hf.same (fun j z => e 0 j (by omega) (by omega)) (fun r j z => e r j (by omega) (by omega)), by omega⟩
              · rw [e 2 w (by omega) (by omega), e 3 w (by omega) (by omega)]; exact hw w x (by omega)
              · rw [e 5 t (by omega) (by omega), e 6 t (by omega) (by omega), e 8 _ (by omega) (by omega), qc]; exact ht t x (by omega)
              · have := hc c x y
                rw [e 8 c (by omega) (by omega), e 9 c (by omega) (by omega), q2]
                rcases e7 c with z | z <;> rw [z] <;> omega
            · rw [if_pos f] at h; exact absurd h f
          · rw [if_pos d] at h; exact absurd h d
        · rw [if_pos c] at h; exact absurd h c
      · rw [if_pos b] at h; exact absurd h b
  · rw [if_pos a] at h; exact absurd h (by simp)
theorem pok_wall {V : TV} {i : Nat} (hP : POK V) (h7 : V 0 7 < 12) (h : (lnWall B n V i).1 = 0) : POK (lnWall B n V i).2.2.2 ∧ i < (lnWall B n V i).2.2.1 := by
  unfold lnWall at h ⊢
  refine pok_cell (P := fun r => POK r.2.2.2 ∧ i < r.2.2.1) hP h (fun c c0 c1 hc => ?_)
  by_cases a : V 8 c = 0
  · rw [if_neg (fun q => q a)] at hc ⊢
    by_cases b : ¬ V 9 c = 0 ∨ fnd (fun a => V 6 (a : Int)) c (V 0 3).toNat ≠ none
    · rw [if_pos b] at hc; exact absurd hc (by simp)
    · rw [if_neg b]
      refine ⟨?_, by show i < i + 3; omega⟩
      have hn : fnd (fun a => V 6 (a : Int)) c (V 0 3).toNat = none := by
        cases e : fnd (fun a => V 6 (a : Int)) c (V 0 3).toNat with
        | none => rfl
        | some x => exact absurd (Or.inr (by rw [e]; exact fun z => by cases z)) b
      have hn := fnd_noneL hn
      obtain ⟨⟨hv, hw, ht, hcc⟩, hf, hm⟩ := hP
      show POK (setV (setV V 8 c 1) 0 7 (V 0 7 + 1))
      have e : ∀ r j, ¬ (r = 0 ∧ j = 7) → ¬ (r = 8 ∧ j = c) → setV (setV V 8 c 1) 0 7 (V 0 7 + 1) r j = V r j := fun r j q p => by rw [setV_ne _ _ (by omega), setV_ne _ _ (by omega)]
      have q7 : setV (setV V 8 c 1) 0 7 (V 0 7 + 1) 0 7 = V 0 7 + 1 := setV_self _ _ _ _
      have e8 : setV (setV V 8 c 1) 0 7 (V 0 7 + 1) 8 c = 1 := by rw [setV_ne _ _ (by omega), setV_self]
      generalize setV (setV V 8 c 1) 0 7 (V 0 7 + 1) = V' at *
      have q0 := e 0 0 (by omega) (by omega); have q1 := e 0 1 (by omega) (by omega); have q2 := e 0 2 (by omega) (by omega); have q3 := e 0 3 (by omega) (by omega); have q4 := e 0 4 (by omega) (by omega); have q5 := e 0 5 (by omega) (by omega); have q6 := e 0 6 (by omega) (by omega); have q8 := e 0 8 (by omega) (by omega)
      have qc : cellsV V' = cellsV V := by unfold cellsV; rw [q0, q1]
      refine ⟨⟨by omega, fun w x y => ?_, fun t x y => ?_, fun c' x y => ?_⟩, hf.same (fun j z => e 0 j (by omega) (by omega)) (fun r j z => e r j (by omega) (by omega)), by omega⟩
      · rw [e 2 w (by omega) (by omega), e 3 w (by omega) (by omega)]; exact hw w x (by omega)
      · have := hn t.toNat (by omega)
        rw [Int.toNat_of_nonneg x] at this
        rw [e 5 t (by omega) (by omega), e 6 t (by omega) (by omega), e 8 _ (by omega) (fun z => this z.2), qc]; exact ht t x (by omega)
      · have := hcc c' x y
        rw [e 7 c' (by omega) (by omega), e 9 c' (by omega) (by omega), q2]
        by_cases z : c' = c
        · rw [z] at this ⊢; rw [e8]; omega
        · rw [e 8 c' (by omega) (by omega)]; exact this
  · rw [if_pos a] at hc; exact absurd hc (by simp)
theorem pok_stair {V : TV} {i : Nat} (hP : POK V) (h7 : V 0 8 < 8) (h : (lnStair B n V i).1 = 0) : POK (lnStair B n V i).2.2.2 ∧ i < (lnStair B n V i).2.2.1 := by
  unfold lnStair at h ⊢
  refine pok_cell (P := fun r => POK r.2.2.2 ∧ i < r.2.2.1) hP h (fun c c0 c1 hc => ?_)
  by_cases a : V 9 c = 0
  · rw [if_neg (fun q => q a)] at hc ⊢
    by_cases b : V 8 c = 0
    · rw [if_neg (fun q => q b)]
      refine ⟨?_, by show i < i + 3; omega⟩
      obtain ⟨⟨hv, hw, ht, hcc⟩, hf, hm⟩ := hP
      show POK (setV (setV V 9 c 1) 0 8 (V 0 8 + 1))
      have e : ∀ r j, ¬ (r = 0 ∧ j = 8) → ¬ (r = 9 ∧ j = c) → setV (setV V 9 c 1) 0 8 (V 0 8 + 1) r j = V r j := fun r j q p => by rw [setV_ne _ _ (by omega), setV_ne _ _ (by omega)]
      have q8 : setV (setV V 9 c 1) 0 8 (V 0 8 + 1) 0 8 = V 0 8 + 1 := setV_self _ _ _ _
      have e9 : setV (setV V 9 c 1) 0 8 (V 0 8 + 1) 9 c = 1 := by rw [setV_ne _ _ (by omega), setV_self]
      generalize setV (setV V 9 c 1) 0 8 (V 0 8 + 1) = V' at *
      have q0 := e 0 0 (by omega) (by omega); have q1 := e 0 1 (by omega) (by omega); have q2 := e 0 2 (by omega) (by omega); have q3 := e 0 3 (by omega) (by omega); have q4 := e 0 4 (by omega) (by omega); have q5 := e 0 5 (by omega) (by omega); have q6 := e 0 6 (by omega) (by omega); have q7 := e 0 7 (by omega) (by omega)
      have qc : cellsV V' = cellsV V := by unfold cellsV; rw [q0, q1]
      refine ⟨⟨by omega, fun w x y => ?_, fun t x y => ?_, fun c' x y => ?_⟩, hf.same (fun j z => e 0 j (by omega) (by omega)) (fun r j z => e r j (by omega) (by omega)), by omega⟩
      · rw [e 2 w (by omega) (by omega), e 3 w (by omega) (by omega)]; exact hw w x (by omega)
      · rw [e 5 t (by omega) (by omega), e 6 t (by omega) (by omega), e 8 _ (by omega) (by omega), qc]; exact ht t x (by omega)
      · have := hcc c' x y
        rw [e 7 c' (by omega) (by omega), e 8 c' (by omega) (by omega), q2]
        by_cases z : c' = c
        · rw [z] at this ⊢; rw [e9]; omega
        · rw [e 9 c' (by omega) (by omega)]; exact this
    · rw [if_pos b] at hc; exact absurd hc (by simp)
  · rw [if_pos a] at hc; exact absurd hc (by simp)
theorem pok_thing {V : TV} {i : Nat} (hP : POK V) (h3 : V 0 3 < 8) (h : (lnThing B n V i).1 = 0) : POK (lnThing B n V i).2.2.2 ∧ i < (lnThing B n V i).2.2.1 := by
  unfold lnThing at h ⊢
  by_cases a : nmS B n V 4 (V 0 3) (i + 1) = 0
  · rw [if_neg (fun q => q a)] at h ⊢
    by_cases b : nuS B n (i + 2) 0 99 = 0
    · rw [if_neg (fun q => q b)] at h ⊢
      have b := nuS0 b
      refine pok_cell (P := fun r => POK r.2.2.2 ∧ i < r.2.2.1) hP h (fun c c0 c1 hc => ?_)
      by_cases d : ¬ V 8 c = 0 ∨ fnd (fun a => V 6 (a : Int)) c (V 0 3).toNat ≠ none
      · rw [if_pos d] at hc; exact absurd hc (by simp)
      · rw [if_neg d]
        refine ⟨?_, by show i < i + 5; omega⟩
        have d8 : V 8 c = 0 := by
          by_cases z : V 8 c = 0
          · exact z
          · exact absurd (Or.inl z) d
        obtain ⟨⟨hv, hw, ht, hcc⟩, hf, hm⟩ := hP
        show POK (setV (setV (setV (setV V 4 (V 0 3) (tW B n (i + 1))) 5 (V 0 3) (tW B n (i + 2))) 6 (V 0 3) c) 0 3 (V 0 3 + 1))
        have e : ∀ r j, ¬ (r = 0 ∧ j = 3) → ¬ ((r = 4 ∨ r = 5 ∨ r = 6) ∧ j = V 0 3) → setV (setV (setV (setV V 4 (V 0 3) (tW B n (i + 1))) 5 (V 0 3) (tW B n (i + 2))) 6 (V 0 3) c) 0 3 (V 0 3 + 1) r j = V r j := fun r j q p => by rw [setV_ne _ _ (by omega), setV_ne _ _ (by omega), setV_ne _ _ (by omega), setV_ne _ _ (by omega)]
        have q3 : setV (setV (setV (setV V 4 (V 0 3) (tW B n (i + 1))) 5 (V 0 3) (tW B n (i + 2))) 6 (V 0 3) c) 0 3 (V 0 3 + 1) 0 3 = V 0 3 + 1 := setV_self _ _ _ _
        have w5 : setV (setV (setV (setV V 4 (V 0 3) (tW B n (i + 1))) 5 (V 0 3) (tW B n (i + 2))) 6 (V 0 3) c) 0 3 (V 0 3 + 1) 5 (V 0 3) = tW B n (i + 2) := by rw [setV_ne _ _ (by omega), setV_ne _ _ (by omega), setV_self]
        have w6 : setV (setV (setV (setV V 4 (V 0 3) (tW B n (i + 1))) 5 (V 0 3) (tW B n (i + 2))) 6 (V 0 3) c) 0 3 (V 0 3 + 1) 6 (V 0 3) = c := by rw [setV_ne _ _ (by omega), setV_self]
        generalize setV (setV (setV (setV V 4 (V 0 3) (tW B n (i + 1))) 5 (V 0 3) (tW B n (i + 2))) 6 (V 0 3) c) 0 3 (V 0 3 + 1) = V' at *
        have q0 := e 0 0 (by omega) (by omega); have q1 := e 0 1 (by omega) (by omega); have q2 := e 0 2 (by omega) (by omega); have q4 := e 0 4 (by omega) (by omega); have q5 := e 0 5 (by omega) (by omega); have q6 := e 0 6 (by omega) (by omega); have q7 := e 0 7 (by omega) (by omega); have q8 := e 0 8 (by omega) (by omega)
        have qc : cellsV V' = cellsV V := by unfold cellsV; rw [q0, q1]
        refine ⟨⟨by omega, fun w x y => ?_, fun t x y => ?_, fun c' x y => ?_⟩, hf.same (fun j z => e 0 j (by omega) (by omega)) (fun r j z => e r j (by omega) (by omega)), by omega⟩
        · rw [e 2 w (by omega) (by omega), e 3 w (by omega) (by omega)]; exact hw w x (by omega)
        · by_cases z : t = V 0 3
          · rw [z, w5, w6, e 8 c (by omega) (by omega), qc, d8]; omega
          · rw [e 5 t (by omega) (by omega), e 6 t (by omega) (by omega), e 8 _ (by omega) (by omega), qc]; exact ht t x (by omega)
        · rw [e 7 c' (by omega) (by omega), e 8 c' (by omega) (by omega), e 9 c' (by omega) (by omega), q2]; exact hcc c' x y
    · rw [if_pos b] at h; exact absurd h b
  · rw [if_pos a] at h; exact absurd h a
theorem pok_seed {V : TV} {i : Nat} (hP : POK V) (h : (lnSeed B n V i).1 = 0) : POK (lnSeed B n V i).2.2.2 ∧ i < (lnSeed B n V i).2.2.1 := by
  unfold lnSeed at h ⊢
  by_cases a : nuS B n (i + 1) 0 99999 = 0
  · rw [if_neg (fun q => q a)] at h ⊢
    have a := nuS0 a
    refine ⟨?_, by show i < i + 2; omega⟩
    obtain ⟨⟨hv, hw, ht, hcc⟩, hf, hm⟩ := hP
    show POK (setV (setV V 0 5 (tW B n (i + 1))) 0 14 1)
    have e : ∀ r j, ¬ (r = 0 ∧ (j = 5 ∨ j = 14)) → setV (setV V 0 5 (tW B n (i + 1))) 0 14 1 r j = V r j := fun r j q => by rw [setV_ne _ _ (by omega), setV_ne _ _ (by omega)]
    have q5 : setV (setV V 0 5 (tW B n (i + 1))) 0 14 1 0 5 = tW B n (i + 1) := by rw [setV_ne _ _ (by omega), setV_self]
    generalize setV (setV V 0 5 (tW B n (i + 1))) 0 14 1 = V' at *
    have q0 := e 0 0 (by omega); have q1 := e 0 1 (by omega); have q2 := e 0 2 (by omega); have q3 := e 0 3 (by omega); have q4 := e 0 4 (by omega); have q6 := e 0 6 (by omega); have q7 := e 0 7 (by omega); have q8 := e 0 8 (by omega)
    have qc : cellsV V' = cellsV V := by unfold cellsV; rw [q0, q1]
    refine ⟨⟨by omega, fun w x y => ?_, fun t x y => ?_, fun c' x y => ?_⟩, hf.same (fun j z => e 0 j (by omega)) (fun r j z => e r j (by omega)), by omega⟩
    · rw [e 2 w (by omega), e 3 w (by omega)]; exact hw w x (by omega)
    · rw [e 5 t (by omega), e 6 t (by omega), e 8 _ (by omega), qc]; exact ht t x (by omega)
    · rw [e 7 c' (by omega), e 8 c' (by omega), e 9 c' (by omega), q2]; exact hcc c' x y
  · rw [if_pos a] at h; exact absurd h a
end PK
end
section
/-! ===== lines keep the town well made: laws, any line -/
section PL
variable {B : Int → Int} {n : Int}
theorem dp_one {x : Int × Int} {h e : Int} (hx : dpL [x] h = some e) : e = h + (if x.1 = 17 then 0 else if ktwo x.1 then -1 else 1) ∧ ((x.1 = 31 ∨ (18 ≤ x.1 ∧ x.1 ≤ 24)) ∨ (x.1 = 17 ∧ 1 ≤ h) ∨ (ktwo x.1 ∧ 2 ≤ h)) := by
  rw [dpL] at hx
  by_cases a : x.1 = 17
  · rw [if_pos a] at hx
    rw [if_pos a]
    by_cases b : 1 ≤ h
    · rw [if_pos b] at hx
      have := Option.some.inj hx
      exact ⟨by omega, Or.inr (Or.inl ⟨a, b⟩)⟩
    · rw [if_neg b] at hx; cases hx
  · rw [if_neg a] at hx
    rw [if_neg a]
    by_cases b : ktwo x.1
    · rw [if_pos b] at hx
      rw [if_pos b]
      by_cases c : 2 ≤ h
      · rw [if_pos c] at hx
        have := Option.some.inj hx
        exact ⟨by omega, Or.inr (Or.inr ⟨b, c⟩)⟩
      · rw [if_neg c] at hx; cases hx
    · rw [if_neg b] at hx
      rw [if_neg b]
      by_cases c : x.1 = 31 ∨ (18 ≤ x.1 ∧ x.1 ≤ 24)
      · rw [if_pos c] at hx
        have := Option.some.inj hx
        exact ⟨by omega, Or.inl c⟩
      · rw [if_neg c] at hx; cases hx
theorem dp_pre {out : List (Int × Int)} {e : Int} (h : dpL out 0 = some e) : ∀ i : Nat, i ≤ out.length → dpL (out.take i) 0 = some (dpV (fun j => (out.getD j.toNat (0, 0)).1) i) ∧ ∀ x : Nat, x < i → (((out.getD x (0, 0)).1 = 31 ∨ (18 ≤ (out.getD x (0, 0)).1 ∧ (out.getD x (0, 0)).1 ≤ 24)) ∨ ((out.getD x (0, 0)).1 = 17 ∧ 1 ≤ dpV (fun j => (out.getD j.toNat (0, 0)).1) x) ∨ (ktwo (out.getD x (0, 0)).1 ∧ 2 ≤ dpV (fun j => (out.getD j.toNat (0, 0)).1) x)) := by
  intro i
  induction i with
  | zero => intro _; exact ⟨rfl, fun x hx => by omega⟩
  | succ i ih =>
    intro hi
    obtain ⟨i1, i2⟩ := ih (by omega)
    have hlt : i < out.length := by omega
    have eg : out.getD i (0, 0) = out[i] := by rw [List.getD_eq_getElem?_getD, List.getElem?_eq_getElem hlt]; rfl
    have et : out.take (i + 1) = out.take i ++ [out[i]] := by rw [List.take_succ, List.getElem?_eq_getElem hlt]; rfl
    have e1 : dpL (out.take (i + 1)) 0 = dpL [out[i]] (dpV (fun j => (out.getD j.toNat (0, 0)).1) i) := by rw [et, dpL_app, i1]; rfl
    have e2 : ∃ a, dpL (out.take (i + 1)) 0 = some a := by
      have : dpL (out.take (i + 1) ++ out.drop (i + 1)) 0 = some e := by rw [List.take_append_drop]; exact h
      rw [dpL_app] at this
      cases z : dpL (out.take (i + 1)) 0 with
      | none => rw [z] at this; cases this
      | some a => exact ⟨a, rfl⟩
    obtain ⟨a, ha⟩ := e2
    obtain ⟨o1, o2⟩ := dp_one (e1.symm.trans ha)
    rw [← eg] at o1 o2
    refine ⟨?_, fun x hx => ?_⟩
    · rw [ha, dpV, Int.toNat_natCast, o1]
    · by_cases z : x = i
      · rw [z]; exact o2
      · exact i2 x (by omega)
theorem kok_of {out : List (Int × Int)} (h : wfL out) (hl : out.length ≤ 64) : KOK (fun j => (out.getD j.toNat (0, 0)).1) (out.length : Int) ∧ 0 < out.length := by
  have h0 := h 0 (by omega)
  obtain ⟨p1, p2⟩ := dp_pre h0 out.length (Nat.le_refl _)
  refine ⟨⟨by omega, by omega, fun i hi => ?_, fun _ => ?_⟩, ?_⟩
  · have := p2 i (by omega)
    exact this
  · rw [List.take_length, h0] at p1
    rw [Int.toNat_natCast]
    have := Option.some.inj p1
    omega
  · cases out with
    | nil => exact absurd h0 (by simp [dpL])
    | cons x r => exact Nat.succ_pos _
theorem pok_kn {V : TV} {s : Nat} {out : List (Int × Int)} {kn : Int} (hP : POK V) (hs : s < 2) (hw : wfL out) (hk : kn = V 0 4 + (out.length : Int)) (hk2 : kn ≤ 64) : POK (knV V s out kn) := by
  obtain ⟨⟨hv, hwd, ht, hcc⟩, hf, hm⟩ := hP
  obtain ⟨k1, k2⟩ := kok_of hw (by omega)
  have e : ∀ r j, ¬ (r = 10 + 2 * s ∨ r = 11 + 2 * s) → ¬ (r = 0 ∧ (j = 9 + (s : Int) ∨ j = 11 + (s : Int) ∨ j = 4)) → knV V s out kn r j = V r j := by
    intro r j a b
    unfold knV
    rw [if_neg (by omega), if_neg (by omega), if_neg (by omega), if_neg (by omega), if_neg (by omega)]
  have q4 : knV V s out kn 0 4 = kn := by
    unfold knV
    rw [if_neg (by omega), if_neg (by omega), if_neg (by omega), if_neg (by omega), if_pos ⟨rfl, rfl⟩]
  have q9 : knV V s out kn 0 (9 + (s : Int)) = 1 := by
    unfold knV
    rw [if_neg (by omega), if_neg (by omega), if_pos ⟨rfl, rfl⟩]
  have q11 : knV V s out kn 0 (11 + (s : Int)) = (out.length : Int) := by
    unfold knV
    rw [if_neg (by omega), if_neg (by omega), if_neg (by omega), if_pos ⟨rfl, rfl⟩]
  have qr : knV V s out kn (10 + 2 * s) = fun j => (out.getD j.toNat (0, 0)).1 := funext fun j => if_pos rfl
  have er : ∀ r, ¬ r = 0 → ¬ (r = 10 + 2 * s ∨ r = 11 + 2 * s) → knV V s out kn r = V r := fun r a b => funext fun j => e r j b (by omega)
  generalize knV V s out kn = V' at *
  have q0 := e 0 0 (by omega) (by omega); have q1 := e 0 1 (by omega) (by omega); have q2 := e 0 2 (by omega) (by omega); have q3 := e 0 3 (by omega) (by omega); have q5 := e 0 5 (by omega) (by omega); have q6 := e 0 6 (by omega) (by omega); have q7 := e 0 7 (by omega) (by omega); have q8 := e 0 8 (by omega) (by omega)
  have qc : cellsV V' = cellsV V := by unfold cellsV; rw [q0, q1]
  refine ⟨⟨by omega, fun w x y => ?_, fun t x y => ?_, fun c' x y => ?_⟩, ?_, by omega⟩
  · rw [e 2 w (by omega) (by omega), e 3 w (by omega) (by omega)]; exact hwd w x (by omega)
  · rw [e 5 t (by omega) (by omega), e 6 t (by omega) (by omega), e 8 _ (by omega) (by omega), qc]; exact ht t x (by omega)
  · rw [e 7 c' (by omega) (by omega), e 8 c' (by omega) (by omega), e 9 c' (by omega) (by omega), q2]; exact hcc c' x y
  · have hs2 : s = 0 ∨ s = 1 := by omega
    rcases hs2 with rfl | rfl
    · have q9 : V' 0 9 = 1 := q9
      have q11 : V' 0 11 = (out.length : Int) := q11
      have qr : V' 10 = fun j => (out.getD j.toNat (0, 0)).1 := qr
      have q10 := e 0 10 (by omega) (by omega)
      have q12 := e 0 12 (by omega) (by omega)
      unfold FOK at *
      rw [qr, q11, q9, q10, q12, er 12 (by omega) (by omega)]
      exact ⟨k1, hf.2.1, Or.inr rfl, hf.2.2.2.1, ⟨fun _ => by omega, fun _ => rfl⟩, hf.2.2.2.2.2⟩
    · have q10 : V' 0 10 = 1 := q9
      have q12 : V' 0 12 = (out.length : Int) := q11
      have qr : V' 12 = fun j => (out.getD j.toNat (0, 0)).1 := qr
      have q9 := e 0 9 (by omega) (by omega)
      have q11 := e 0 11 (by omega) (by omega)
      unfold FOK at *
      rw [qr, q11, q9, q10, q12, er 10 (by omega) (by omega)]
      exact ⟨hf.1, k1, hf.2.2.1, Or.inr rfl, hf.2.2.2.2.1, ⟨fun _ => by omega, fun _ => rfl⟩⟩
theorem pok_law {V : TV} {i : Nat} (hn : 0 ≤ n ∧ n ≤ 700) (hP : POK V) (h : (lnLaw B n V i).1 = 0) : POK (lnLaw B n V i).2.2.2 ∧ i < (lnLaw B n V i).2.2.1 := by
  have hv := hP.1.1
  have rg := (fr_facts (B := B) hn (i := i + 2) (c := V 0 4) (by omega) (by omega)).2
  unfold lnLaw at h ⊢
  by_cases a : tK B n (i + 1) = 13 ∨ tK B n (i + 1) = 14
  · rw [if_neg (fun q => q a)] at h ⊢
    by_cases b : V 0 (tK B n (i + 1) - 4) = 1
    · rw [if_pos b] at h; exact absurd h (by simp)
    · rw [if_neg b] at h ⊢
      by_cases c : (frS B n (i + 2) (V 0 4)).1 = 0
      · rw [if_neg (fun q => q c)] at h ⊢
        obtain ⟨g1, g2, g3, g4, g5⟩ := rg.1 c
        exact ⟨pok_kn hP (by omega) g5 (by omega) g3, by show i < (frS B n (i + 2) (V 0 4)).2.1; omega⟩
      · rw [if_pos c] at h; exact absurd h c
  · rw [if_pos a] at h; exact absurd h (by simp)
theorem pok_line {V : TV} {i : Nat} (hn : 0 ≤ n ∧ n ≤ 700) (hP : POK V) (h : (lnS B n V i).1 = 0) : POK (lnS B n V i).2.2.2 ∧ i < (lnS B n V i).2.2.1 := by
  have hv := hP.1.1
  have hm := hP.2.2
  unfold lnS at h ⊢
  by_cases k : tK B n i = 0
  · rw [if_pos k] at h ⊢
    by_cases a : V 0 13 = 1
    · rw [if_pos a] at h; exact absurd h (by simp)
    · rw [if_neg a] at h ⊢
      by_cases b : 0 < V 0 6 ∨ 0 < V 0 7 ∨ 0 < V 0 8 ∨ 0 < V 0 3
      · rw [if_pos b] at h; exact absurd h (by simp)
      · rw [if_neg b] at h ⊢; exact pok_town hP (by omega) h
  · rw [if_neg k] at h ⊢
    by_cases k : tK B n i = 1
    · rw [if_pos k] at h ⊢
      by_cases a : V 0 2 = 4
      · rw [if_pos a] at h; exact absurd h (by simp)
      · rw [if_neg a] at h ⊢; exact pok_ward hP (by omega) h
    · rw [if_neg k] at h ⊢
      by_cases k : tK B n i = 2
      · rw [if_pos k] at h ⊢
        by_cases a : V 0 6 = 12
        · rw [if_pos a] at h; exact absurd h (by simp)
        · rw [if_neg a] at h ⊢; exact pok_part hP (by omega) h
      · rw [if_neg k] at h ⊢
        by_cases k : tK B n i = 3
        · rw [if_pos k] at h ⊢
          by_cases a : V 0 7 = 12
          · rw [if_pos a] at h; exact absurd h (by simp)
          · rw [if_neg a] at h ⊢; exact pok_wall hP (by omega) h
        · rw [if_neg k] at h ⊢
          by_cases k : tK B n i = 4
          · rw [if_pos k] at h ⊢
            by_cases a : V 0 8 = 8
            · rw [if_pos a] at h; exact absurd h (by simp)
            · rw [if_neg a] at h ⊢; exact pok_stair hP (by omega) h
          · rw [if_neg k] at h ⊢
            by_cases k : tK B n i = 5
            · rw [if_pos k] at h ⊢
              by_cases a : V 0 3 = 8
              · rw [if_pos a] at h; exact absurd h (by simp)
              · rw [if_neg a] at h ⊢; exact pok_thing hP (by omega) h
            · rw [if_neg k] at h ⊢
              by_cases k : tK B n i = 6
              · rw [if_pos k] at h ⊢
                by_cases a : V 0 14 = 1
                · rw [if_pos a] at h; exact absurd h (by simp)
                · rw [if_neg a] at h ⊢; exact pok_seed hP h
              · rw [if_neg k] at h ⊢
                by_cases k : tK B n i = 7
                · rw [if_pos k] at h ⊢; exact pok_law hn hP h
                · rw [if_neg k] at h; exact absurd h (by simp)
theorem pok_le {V : TV} {i : Nat} (hn : 0 ≤ n ∧ n ≤ 700) (hP : POK V) (h : (leS B n V i).1 = 0) : POK (leS B n V i).2.2.2 ∧ i < (leS B n V i).2.2.1 := by
  unfold leS at h ⊢
  by_cases a : (lnS B n V i).1 = 0
  · rw [if_neg (fun q => q a)] at h ⊢
    obtain ⟨p1, p2⟩ := pok_line hn hP a
    by_cases b : tK B n (lnS B n V i).2.2.1 = 40
    · rw [if_pos b] at h ⊢
      exact ⟨p1, by show i < (lnS B n V i).2.2.1 + 1; omega⟩
    · rw [if_neg b] at h; exact absurd h (by simp)
  · rw [if_pos a] at h; exact absurd h a
end PL
end
section
/-! ===== a text: what is to come out, the lines' loop, the halves -/
section TX
variable (B : Int → Int) (n : Int)
/-- fault, place, lines, town -/
noncomputable def txS : Nat → TV → Nat → Int → Int × Int × Int × TV
  | 0, V, _, l => (0, -1, l, V)
  | fu + 1, V, i, l => if tK B n i = 32 then (0, -1, l, V) else if ¬ (leS B n V i).1 = 0 then ((leS B n V i).1, (leS B n V i).2.1, l, V) else txS fu (leS B n V i).2.2.2 (leS B n V i).2.2.1 (l + 1)
def TV0 : TV := fun r j => if r = 0 ∧ (j = 0 ∨ j = 1) then 4 else if r = 7 then -1 else 0
noncomputable def txA : Int × Int × Int × TV := txS B n 1000 TV0 0 0
end TX
theorem pok0 : POK TV0 := by
  have z : ∀ j, ¬ (j = 0 ∨ j = 1) → TV0 0 j = 0 := fun j h => by
    unfold TV0
    rw [if_neg (fun q => h q.2), if_neg (by decide)]
  have a0 : TV0 0 0 = 4 := rfl
  have a1 : TV0 0 1 = 4 := rfl
  have z2 := z 2 (by omega); have z3 := z 3 (by omega); have z4 := z 4 (by omega); have z5 := z 5 (by omega); have z6 := z 6 (by omega); have z7 := z 7 (by omega); have z8 := z 8 (by omega); have z9 := z 9 (by omega); have z10 := z 10 (by omega); have z11 := z 11 (by omega); have z12 := z 12 (by omega)
  have k : ∀ K : Int → Int, KOK K 0 := fun K => ⟨by omega, by omega, fun i h => by omega, fun h => by omega⟩
  refine ⟨⟨by omega, fun w x y => by omega, fun t x y => by omega, fun c x y => ?_⟩, ?_, by omega⟩
  · have c7 : TV0 7 c = -1 := by unfold TV0; rw [if_neg (fun q => absurd q.1 (by decide)), if_pos rfl]
    have c8 : TV0 8 c = 0 := by unfold TV0; rw [if_neg (fun q => absurd q.1 (by decide)), if_neg (by decide)]
    have c9 : TV0 9 c = 0 := by unfold TV0; rw [if_neg (fun q => absurd q.1 (by decide)), if_neg (by decide)]
    omega
  · unfold FOK
    rw [z9, z10, z11, z12]
    exact ⟨k _, k _, Or.inl rfl, Or.inl rfl, by omega, by omega⟩
section TY
variable {B : Int → Int} {n : Int}
theorem m_tx {x1 : Int} (hn : 0 ≤ n ∧ n ≤ 700) : ∀ (m fu fs : Nat) (M : Mem) (V : TV) (i : Nat) (l : Int), n ≤ (i : Int) + (m : Int) → m + 1 < fu → m < fs → TS M B n i → LB M V l → TBd M V → POK V → 0 ≤ l → l ≤ (i : Int) →
    ∃ N, t_MO_text_L173 x1 fu M = t_MO_text_L195 x1 N ∧ Fr StW M N ∧ (((txS B n fs V i l).1 = 0 ∧ N.1 191 24 = 0 ∧ LB N (txS B n fs V i l).2.2.2 (txS B n fs V i l).2.2.1 ∧ POK (txS B n fs V i l).2.2.2) ∨ (¬ (txS B n fs V i l).1 = 0 ∧ N.1 191 24 = (txS B n fs V i l).1 ∧ N.1 191 25 = (txS B n fs V i l).2.1)) := by
  have endd : ∀ (fu fs : Nat) (M : Mem) (V : TV) (i : Nat) (l : Int), 0 < fu → 0 < fs → TS M B n i → LB M V l → POK V → tK B n i = 32 →
    ∃ N, t_MO_text_L173 x1 fu M = t_MO_text_L195 x1 N ∧ Fr StW M N ∧ (((txS B n fs V i l).1 = 0 ∧ N.1 191 24 = 0 ∧ LB N (txS B n fs V i l).2.2.2 (txS B n fs V i l).2.2.1 ∧ POK (txS B n fs V i l).2.2.2) ∨ (¬ (txS B n fs V i l).1 = 0 ∧ N.1 191 24 = (txS B n fs V i l).1 ∧ N.1 191 25 = (txS B n fs V i l).2.1)) := by
    intro fu fs M V i l f0 f1 h hL hP k
    obtain ⟨g, rfl⟩ : ∃ g, fu = g + 1 := ⟨fu - 1, by omega⟩
    obtain ⟨gs, rfl⟩ : ∃ g, fs = g + 1 := ⟨fs - 1, by omega⟩
    have s := (srt_endT h.2.1 h.kok).mpr k
    rw [t_MO_text_L173, if_pos h.2.2, if_pos s, txS, if_pos k]
    exact ⟨M, rfl, Fr.rf, Or.inl ⟨rfl, h.2.2, hL, hP⟩⟩
  intro m
  induction m with
  | zero =>
    intro fu fs M V i l g0 g1 g2 h hL hT hP l0 l1
    exact endd fu fs M V i l (by omega) (by omega) h hL hP (tK_end hn.1 hn.2 (by omega))
  | succ m ih =>
    intro fu fs M V i l g0 g1 g2 h hL hT hP l0 l1
    by_cases k : tK B n i = 32
    · exact endd fu fs M V i l (by omega) (by omega) h hL hP k
    · obtain ⟨g, rfl⟩ : ∃ g, fu = g + 1 := ⟨fu - 1, by omega⟩
      obtain ⟨gs, rfl⟩ : ∃ g, fs = g + 1 := ⟨fs - 1, by omega⟩
      have s := srt_endT h.2.1 h.kok
      have hi : (i : Int) < n := by
        by_cases z : (i : Int) < n
        · exact z
        · exact absurd (tK_end (B := B) hn.1 hn.2 (by omega)) k
      obtain ⟨N, n1, n2, n3⟩ := m_aLine h hL hT hP l0 (by omega)
      rw [t_MO_text_L173, if_pos h.2.2, if_neg (fun z => k (s.mp z)), n1, obind_some, txS, if_neg k]
      rcases n3 with ⟨a, b, c, d⟩ | ⟨a, b, c⟩
      · rw [if_neg (fun q => q a)]
        obtain ⟨p1, p2⟩ := pok_le hn hP a
        obtain ⟨P, q1, q2, q3⟩ := ih g gs N _ _ (l + 1) (by omega) (by omega) (by omega) b c d p1 (by omega) (by omega)
        exact ⟨P, q1, n2.trans q2, q3⟩
      · rw [if_pos a]
        obtain ⟨g', rfl⟩ : ∃ g', g = g' + 1 := ⟨g - 1, by omega⟩
        rw [t_MO_text_L173, if_neg (show ¬ N.1 191 24 = 0 by rw [b]; exact a)]
        exact ⟨N, rfl, n2, Or.inr ⟨a, b, c⟩⟩
end TY
/-! the halves -/
def hw (k : Nat) : Int := if k = 193 then 9 else if k ≤ 196 then 4 else if k ≤ 199 then 48 else if k ≤ 202 then 8 else if k ≤ 204 then 2 else 64
def HC (M N : Mem) (c : Nat) : Prop := Fr (fun k j => 193 ≤ k ∧ k < c ∧ 0 ≤ j ∧ j < hw k) M N ∧ ∀ k j, 193 ≤ k → k < c → 0 ≤ j → j < hw k → N.1 k j = M.1 k (hw k + j)
theorem hw_rng (k : Nat) : 2 ≤ hw k ∧ hw k ≤ 64 := by
  unfold hw
  (repeat' split) <;> omega
theorem m_half_L7 {M : Mem} {r N1 : Nat} (hr : 193 ≤ r) (hN : hw r + hw r ≤ (N1 : Int)) (hN2 : (N1 : Int) ≤ 200) : ∀ (m fu : Nat) (M' : Mem) (v : Int), v + (m : Int) = hw r → 0 ≤ v → m < fu → Fr (fun k j => k = r ∧ 0 ≤ j ∧ j < v) M M' → (∀ j, 0 ≤ j → j < v → M'.1 r j = M.1 r (hw r + j)) →
    ∃ N, t_MO_half_L7 r N1 fu M' (hw r) v = some N ∧ Fr (fun k j => k = r ∧ 0 ≤ j ∧ j < hw r) M N ∧ ∀ j, 0 ≤ j → j < hw r → N.1 r j = M.1 r (hw r + j) := by
  have hh := hw_rng r
  intro m
  induction m with
  | zero =>
    intro fu M' v g0 g1 g2 hF hc
    obtain ⟨g, rfl⟩ : ∃ g, fu = g + 1 := ⟨fu - 1, by omega⟩
    have e : v = hw r := by omega
    rw [t_MO_half_L7, if_pos (by omega)]
    rw [e] at hF hc
    exact ⟨M', rfl, hF, hc⟩
  | succ m ih =>
    intro fu M' v g0 g1 g2 hF hc
    obtain ⟨g, rfl⟩ : ∃ g, fu = g + 1 := ⟨fu - 1, by omega⟩
    rw [t_MO_half_L7, if_neg (by omega), w32_id (x := hw r + v) (by unfold InR; omega), w32_id (x := v + 1) (by unfold InR; omega), qguard_pos ⟨by omega, by omega⟩, qguard_pos ⟨by omega, by omega⟩]
    simp (config := { proj := false }) only [qlet]
    refine ih g _ (v + 1) (by omega) (by omega) (by omega) ((hF.mono (fun k j z => ⟨z.1, z.2.1, by omega⟩)).setI ⟨rfl, g1, by omega⟩) (fun j a b => ?_)
    by_cases q : j = v
    · rw [q, sI_self, (hF r (hw r + v) (by omega)).1]
    · rw [sI_ne (by omega), hc j a (by omega)]
theorem hc_half {M N : Mem} {r N1 : Nat} (hr : 193 ≤ r) (e : q_div (N1 : Int) 2 = hw r) (hN : hw r + hw r ≤ (N1 : Int)) (hN2 : (N1 : Int) ≤ 200) (h : HC M N r) : ∃ N', t_MO_half N r N1 = some N' ∧ HC M N' (r + 1) := by
  have hh := hw_rng r
  unfold t_MO_half
  rw [e]
  obtain ⟨P, p1, p2, p3⟩ := m_half_L7 (M := N) hr hN hN2 (hw r).toNat FU N 0 (by omega) (by omega) (fu_big (by omega)) Fr.rf (fun j a b => by omega)
  refine ⟨P, p1, (h.1.mono (fun k j z => ⟨z.1, by omega, z.2.2⟩)).trans (p2.mono (fun k j z => by rw [z.1]; exact ⟨hr, by omega, z.2⟩)), fun k j a b c d => ?_⟩
  by_cases q : k = r
  · rw [q] at d ⊢
    rw [p3 j c d, (h.1 r _ (by omega)).1]
  · rw [(p2 k j (fun z => q z.1)).1]
    exact h.2 k j a (by omega) c d
end
section
/-! ===== a text: before, behind, and all -/
theorem m_text_L47 {x1 : Int} : ∀ (m fu : Nat) (N : Mem) (v : Int), v + (m : Int) = 9 → 0 ≤ v → m < fu →
    ∃ P, t_MO_text_L47 x1 fu N v = t_MO_text_L80 x1 FU P 0 ∧ Fr (fun k j => k = 193 ∧ 9 + v ≤ j) N P ∧ ∀ j, v ≤ j → j < 9 → P.1 193 (9 + j) = if j = 0 ∨ j = 1 then 4 else 0 := by
  intro m
  induction m with
  | zero =>
    intro fu N v g0 g1 g2
    obtain ⟨g, rfl⟩ : ∃ g, fu = g + 1 := ⟨fu - 1, by omega⟩
    rw [t_MO_text_L47, if_pos (by omega)]
    exact ⟨N, rfl, Fr.rf, fun j a b => by omega⟩
  | succ m ih =>
    intro fu N v g0 g1 g2
    obtain ⟨g, rfl⟩ : ∃ g, fu = g + 1 := ⟨fu - 1, by omega⟩
    have step : ∀ c, c = (if v = 0 ∨ v = 1 then 4 else 0) → ∃ P, t_MO_text_L69 x1 (fun a0_ a1_ => t_MO_text_L47 x1 g a0_ a1_) N v v c = t_MO_text_L80 x1 FU P 0 ∧ Fr (fun k j => k = 193 ∧ 9 + v ≤ j) N P ∧ ∀ j, v ≤ j → j < 9 → P.1 193 (9 + j) = if j = 0 ∨ j = 1 then 4 else 0 := by
      intro c hc
      unfold t_MO_text_L69
      rw [m_reads (by omega) (by omega), obind_some, w32_id (x := v + 1) (by unfold InR; omega)]
      obtain ⟨P, p1, p2, p3⟩ := ih g (setI N 193 (9 + v) c) (v + 1) (by omega) (by omega) (by omega)
      have hF : Fr (fun k j => k = 193 ∧ 9 + v ≤ j) N (setI N 193 (9 + v) c) := Fr.rf.setI ⟨rfl, Int.le_refl _⟩
      refine ⟨P, p1, hF.trans (p2.mono (fun k j z => ⟨z.1, by omega⟩)), fun j a b => ?_⟩
      by_cases q : j = v
      · rw [q, (p2 193 (9 + v) (by omega)).1, sI_self]; exact hc
      · exact p3 j (by omega) b
    rw [t_MO_text_L47, if_neg (by omega)]
    unfold t_MO_text_L64
    by_cases a : v = 0
    · rw [if_pos a]; exact step 4 (by rw [if_pos (Or.inl a)])
    · rw [if_neg a]
      by_cases b : v = 1
      · rw [if_pos b]; exact step 4 (by rw [if_pos (Or.inr b)])
      · rw [if_neg b]; exact step 0 (by rw [if_neg (by omega)])
theorem m_text_L80 {x1 : Int} : ∀ (m fu : Nat) (N : Mem) (v : Int), v + (m : Int) = 48 → 0 ≤ v → m < fu →
    ∃ P, t_MO_text_L80 x1 fu N v = t_MO_text_L124 x1 FU P 2 ∧ Fr (fun k j => (197 ≤ k ∧ k ≤ 199) ∧ 48 + v ≤ j) N P ∧ ∀ j, v ≤ j → j < 48 → P.1 197 (48 + j) = 0 ∧ P.1 198 (48 + j) = 0 ∧ P.1 199 (48 + j) = 0 := by
  intro m
  induction m with
  | zero =>
    intro fu N v g0 g1 g2
    obtain ⟨g, rfl⟩ : ∃ g, fu = g + 1 := ⟨fu - 1, by omega⟩
    rw [t_MO_text_L80, if_pos (by omega)]
    exact ⟨N, rfl, Fr.rf, fun j a b => by omega⟩
  | succ m ih =>
    intro fu N v g0 g1 g2
    obtain ⟨g, rfl⟩ : ∃ g, fu = g + 1 := ⟨fu - 1, by omega⟩
    have gd : 0 ≤ 48 + v ∧ 48 + v < 96 := by omega
    rw [t_MO_text_L80, if_neg (by omega), w32_id (x := 48 + v) (by unfold InR; omega), w32_id (x := v + 1) (by unfold InR; omega)]
    simp (config := { proj := false }) only [qlet, qguard_pos gd]
    obtain ⟨P, p1, p2, p3⟩ := ih g (setI (setI (setI N 197 (48 + v) 0) 198 (48 + v) 0) 199 (48 + v) 0) (v + 1) (by omega) (by omega) (by omega)
    refine ⟨P, p1, (((Fr.rf.setI ⟨by omega, by omega⟩).setI ⟨by omega, by omega⟩).setI ⟨by omega, by omega⟩ : Fr (fun k j => (197 ≤ k ∧ k ≤ 199) ∧ 48 + v ≤ j) N _).trans (p2.mono (fun k j z => ⟨z.1, by omega⟩)), fun j a b => ?_⟩
    by_cases q : j = v
    · rw [q, (p2 197 (48 + v) (by omega)).1, (p2 198 (48 + v) (by omega)).1, (p2 199 (48 + v) (by omega)).1]
      exact ⟨by rw [sI_ne (by omega), sI_ne (by omega), sI_self], by rw [sI_ne (by omega), sI_self], sI_self _ _ _ _⟩
    · exact p3 j (by omega) b
theorem m_text_L124 {x1 : Int} : ∀ (m fu : Nat) (N : Mem) (v : Int), v + (m : Int) = 4 → 0 ≤ v → m < fu →
    ∃ P, t_MO_text_L124 x1 fu N v = (obind (t_MO_token (setI (setI (setI (setI P 191 17 0) 191 18 0) 191 28 0) 191 29 0)) fun q27 => (t_MO_text_L173 x1 FU q27)) ∧ Fr (fun k j => (k = 203 ∨ k = 204) ∧ v ≤ j) N P ∧ ∀ j, v ≤ j → j < 4 → P.1 203 j = 0 ∧ P.1 204 j = 0 := by
  intro m
  induction m with
  | zero =>
    intro fu N v g0 g1 g2
    obtain ⟨g, rfl⟩ : ∃ g, fu = g + 1 := ⟨fu - 1, by omega⟩
    rw [t_MO_text_L124, if_pos (by omega)]
    exact ⟨N, rfl, Fr.rf, fun j a b => by omega⟩
  | succ m ih =>
    intro fu N v g0 g1 g2
    obtain ⟨g, rfl⟩ : ∃ g, fu = g + 1 := ⟨fu - 1, by omega⟩
    have gd : 0 ≤ v ∧ v < 4 := by omega
    rw [t_MO_text_L124, if_neg (by omega), w32_id (x := v + 1) (by unfold InR; omega)]
    simp (config := { proj := false }) only [qlet, qguard_pos gd]
    obtain ⟨P, p1, p2, p3⟩ := ih g (setI (setI N 203 v 0) 204 v 0) (v + 1) (by omega) (by omega) (by omega)
    refine ⟨P, p1, ((Fr.rf.setI ⟨by omega, by omega⟩).setI ⟨by omega, by omega⟩ : Fr (fun k j => (k = 203 ∨ k = 204) ∧ v ≤ j) N _).trans (p2.mono (fun k j z => ⟨z.1, by omega⟩)), fun j a b => ?_⟩
    by_cases q : j = v
    · rw [q, (p2 203 v (by omega)).1, (p2 204 v (by omega)).1]
      exact ⟨by rw [sI_ne (by omega), sI_self], sI_self _ _ _ _⟩
    · exact p3 j (by omega) b
theorem m_text_L257 {x1 : Int} {M0 M : Mem} (h : HC M0 M 198) : ∀ (m fu : Nat) (N : Mem) (v : Int), v + (m : Int) = 48 → 0 ≤ v → m < fu → Fr (fun k j => (k = 198 ∨ k = 199) ∧ 0 ≤ j ∧ j < v) M N → (∀ k j, (k = 198 ∨ k = 199) → 0 ≤ j → j < v → N.1 k j = M.1 k (48 + j)) →
    ∃ g P, t_MO_text_L257 x1 fu N v = t_MO_text_L257 x1 (g + 1) P 48 ∧ HC M0 P 200 := by
  intro m
  induction m with
  | zero =>
    intro fu N v g0 g1 g2 hF hc
    obtain ⟨g, rfl⟩ : ∃ g, fu = g + 1 := ⟨fu - 1, by omega⟩
    have e : v = 48 := by omega
    rw [e] at hF hc ⊢
    refine ⟨g, N, rfl, (h.1.mono (fun k j z => ⟨z.1, by omega, z.2.2⟩)).trans (hF.mono (fun k j z => ⟨by omega, by omega, z.2.1, by rcases z.1 with q | q <;> rw [q] <;> exact z.2.2⟩)), fun k j a b c d => ?_⟩
    by_cases q : k = 198 ∨ k = 199
    · have ek : hw k = 48 := by rcases q with q | q <;> rw [q] <;> rfl
      rw [ek] at d ⊢
      rw [hc k j q c d, (h.1 k _ (by omega)).1]
    · rw [(hF k j (fun z => q z.1)).1]
      exact h.2 k j a (by omega) c d
  | succ m ih =>
    intro fu N v g0 g1 g2 hF hc
    obtain ⟨g, rfl⟩ : ∃ g, fu = g + 1 := ⟨fu - 1, by omega⟩
    have gd : 0 ≤ 48 + v ∧ 48 + v < 96 := by omega
    have gd2 : 0 ≤ v ∧ v < 96 := by omega
    rw [t_MO_text_L257, if_neg (by omega), w32_id (x := 48 + v) (by unfold InR; omega), w32_id (x := v + 1) (by unfold InR; omega)]
    simp (config := { proj := false }) only [qlet, qguard_pos gd, qguard_pos gd2]
    refine ih g _ (v + 1) (by omega) (by omega) (by omega) (((hF.mono (fun k j z => ⟨z.1, z.2.1, by omega⟩)).setI ⟨Or.inl rfl, g1, by omega⟩).setI ⟨Or.inr rfl, g1, by omega⟩) (fun k j a b c => ?_)
    by_cases q : j = v
    · rcases a with a | a
      · rw [a, q, sI_ne (by omega), sI_self, (hF 198 (48 + v) (by omega)).1]
      · rw [a, q, sI_self, sI_ne (by omega), (hF 199 (48 + v) (by omega)).1]
    · rw [sI_ne (by omega), sI_ne (by omega), hc k j a b (by omega)]
theorem m_beg_L82 {M : Mem} {V : TV} (hT : MT0 M V) (hV : VOK V) : ∀ (m fu : Nat) (N : Mem) (v : Int), v + (m : Int) = 8 → 0 ≤ v → m < fu → Fr (fun k j => (213 ≤ k ∧ k ≤ 215) ∧ 0 ≤ j ∧ j < v) M N → (∀ t, 0 ≤ t → t < v → N.1 213 t = (if V 0 3 ≤ t then -1 else V 6 t) ∧ N.1 214 t = 0 ∧ N.1 215 t = 0) →
    ∃ P, t_MO_begins_L82 fu N v = some P ∧ Fr (fun k j => (213 ≤ k ∧ k ≤ 215) ∧ 0 ≤ j ∧ j < 8) M P ∧ ∀ t, 0 ≤ t → t < 8 → P.1 213 t = (if V 0 3 ≤ t then -1 else V 6 t) ∧ P.1 214 t = 0 ∧ P.1 215 t = 0 := by
  intro m
  induction m with
  | zero =>
    intro fu N v g0 g1 g2 hF hc
    obtain ⟨g, rfl⟩ : ∃ g, fu = g + 1 := ⟨fu - 1, by omega⟩
    have e : v = 8 := by omega
    rw [e] at hF hc ⊢
    rw [t_MO_begins_L82, if_pos (by omega)]
    exact ⟨N, rfl, hF, hc⟩
  | succ m ih =>
    intro fu N v g0 g1 g2 hF hc
    obtain ⟨g, rfl⟩ : ∃ g, fu = g + 1 := ⟨fu - 1, by omega⟩
    have step : ∀ c, c = (if V 0 3 ≤ v then -1 else V 6 v) → ∃ P, t_MO_begins_L114 (fun a0_ a1_ => t_MO_begins_L82 g a0_ a1_) N v v c = some P ∧ Fr (fun k j => (213 ≤ k ∧ k ≤ 215) ∧ 0 ≤ j ∧ j < 8) M P ∧ ∀ t, 0 ≤ t → t < 8 → P.1 213 t = (if V 0 3 ≤ t then -1 else V 6 t) ∧ P.1 214 t = 0 ∧ P.1 215 t = 0 := by
      intro c ec
      have gd : 0 ≤ v ∧ v < 184 := by omega
      unfold t_MO_begins_L114
      simp (config := { proj := false }) only [qlet, qguard_pos gd]
      rw [w32_id (x := v + 1) (by unfold InR; omega)]
      refine ih g _ (v + 1) (by omega) (by omega) (by omega) ((((hF.mono (fun k j z => ⟨z.1, z.2.1, by omega⟩)).setI ⟨by omega, by omega, by omega⟩).setI ⟨by omega, by omega, by omega⟩).setI ⟨by omega, by omega, by omega⟩) (fun t a b => ?_)
      by_cases q : t = v
      · rw [q]
        exact ⟨by rw [sI_ne (by omega), sI_ne (by omega), sI_self]; exact ec, by rw [sI_ne (by omega), sI_self], sI_self _ _ _ _⟩
      · rw [sI_ne (by omega), sI_ne (by omega), sI_ne (by omega), sI_ne (by omega), sI_ne (by omega), sI_ne (by omega), sI_ne (by omega), sI_ne (by omega), sI_ne (by omega)]
        exact hc t a (by omega)
    have e6 : N.1 193 6 = V 0 3 := ((hF 193 6 (by omega)).1).trans hT.1.2.2.2.1
    rw [t_MO_begins_L82, if_neg (by omega), e6]
    by_cases a : V 0 3 ≤ v
    · rw [if_pos a]; exact step (-1) (by rw [if_pos a])
    · have h3 := hV.1
      rw [if_neg a, qguard_pos ⟨by omega, by omega⟩, (hF 202 v (by omega)).1, (hT.2.2.1 v g1 (by omega)).2.2]
      exact step _ (by rw [if_neg a])
theorem m_beg_L43 {M : Mem} {V : TV} (hT : MT0 M V) (hV : VOK V) : ∀ (m fu : Nat) (N : Mem) (v : Int), v + (m : Int) = 4 → 0 ≤ v → m < fu → Fr (fun k j => k = 212 ∧ 0 ≤ j ∧ j < v) M N → (∀ w, 0 ≤ w → w < v → N.1 212 w = (if V 0 2 ≤ w then 4 else V 2 w)) →
    ∃ P, t_MO_begins_L43 fu N v = t_MO_begins_L82 FU P 0 ∧ Fr (fun k j => k = 212 ∧ 0 ≤ j ∧ j < 4) M P ∧ ∀ w, 0 ≤ w → w < 4 → P.1 212 w = (if V 0 2 ≤ w then 4 else V 2 w) := by
  intro m
  induction m with
  | zero =>
    intro fu N v g0 g1 g2 hF hc
    obtain ⟨g, rfl⟩ : ∃ g, fu = g + 1 := ⟨fu - 1, by omega⟩
    have e : v = 4 := by omega
    rw [e] at hF hc ⊢
    rw [t_MO_begins_L43, if_pos (by omega)]
    exact ⟨N, rfl, hF, hc⟩
  | succ m ih =>
    intro fu N v g0 g1 g2 hF hc
    obtain ⟨g, rfl⟩ : ∃ g, fu = g + 1 := ⟨fu - 1, by omega⟩
    have step : ∀ c, c = (if V 0 2 ≤ v then 4 else V 2 v) → ∃ P, t_MO_begins_L73 (fun a0_ a1_ => t_MO_begins_L43 g a0_ a1_) N v v c = t_MO_begins_L82 FU P 0 ∧ Fr (fun k j => k = 212 ∧ 0 ≤ j ∧ j < 4) M P ∧ ∀ w, 0 ≤ w → w < 4 → P.1 212 w = (if V 0 2 ≤ w then 4 else V 2 w) := by
      intro c ec
      have gd : 0 ≤ v ∧ v < 92 := by omega
      unfold t_MO_begins_L73
      simp (config := { proj := false }) only [qlet, qguard_pos gd]
      rw [w32_id (x := v + 1) (by unfold InR; omega)]
      refine ih g _ (v + 1) (by omega) (by omega) (by omega) ((hF.mono (fun k j z => ⟨z.1, z.2.1, by omega⟩)).setI ⟨rfl, by omega, by omega⟩) (fun t a b => ?_)
      by_cases q : t = v
      · rw [q, sI_self]; exact ec
      · rw [sI_ne (by omega)]; exact hc t a (by omega)
    have e2 : N.1 193 2 = V 0 2 := ((hF 193 2 (by omega)).1).trans hT.1.2.2.1
    rw [t_MO_begins_L43, if_neg (by omega), e2]
    by_cases a : V 0 2 ≤ v
    · rw [if_pos a]; exact step 4 (by rw [if_pos a])
    · have h3 := hV.1
      rw [if_neg a, qguard_pos ⟨by omega, by omega⟩, (hF 195 v (by omega)).1, (hT.2.1 v g1 (by omega)).2.1]
      exact step _ (by rw [if_neg a])
def BgW : Nat → Int → Prop := fun k j => (207 ≤ k ∧ k ≤ 211 ∧ j = 0) ∨ (k = 212 ∧ 0 ≤ j ∧ j < 4) ∨ (213 ≤ k ∧ k ≤ 215 ∧ 0 ≤ j ∧ j < 8)
def BgO (N : Mem) (V : TV) : Prop := (N.1 207 0 = 0 ∧ N.1 208 0 = 0 ∧ N.1 209 0 = V 0 5 ∧ N.2 210 0 = 0 ∧ N.2 211 0 = 0) ∧ (∀ w, 0 ≤ w → w < 4 → N.1 212 w = (if V 0 2 ≤ w then 4 else V 2 w)) ∧ ∀ t, 0 ≤ t → t < 8 → N.1 213 t = (if V 0 3 ≤ t then -1 else V 6 t) ∧ N.1 214 t = 0 ∧ N.1 215 t = 0
theorem m_begins {M : Mem} {V : TV} (hT : MT0 M V) (hV : VOK V) : ∃ N, t_MO_begins M = some N ∧ Fr BgW M N ∧ BgO N V := by
  unfold t_MO_begins
  simp (config := { proj := false }) only [qlet]
  rw [sI_ne (by omega), sI_ne (by omega), hT.1.2.2.2.2.2]
  have f1 : Fr BgW M (setL (setL (setI (setI (setI M 207 0 0) 208 0 0) 209 0 (V 0 5)) 210 0 0) 211 0 0) := ((((Fr.rf.setI (by unfold BgW; omega)).setI (by unfold BgW; omega)).setI (by unfold BgW; omega)).setL (by unfold BgW; omega)).setL (by unfold BgW; omega)
  have v7 : (setL (setL (setI (setI (setI M 207 0 0) 208 0 0) 209 0 (V 0 5)) 210 0 0) 211 0 0).1 207 0 = 0 := by rw [sL_fst, sL_fst, sI_ne (by omega), sI_ne (by omega), sI_self]
  have v8 : (setL (setL (setI (setI (setI M 207 0 0) 208 0 0) 209 0 (V 0 5)) 210 0 0) 211 0 0).1 208 0 = 0 := by rw [sL_fst, sL_fst, sI_ne (by omega), sI_self]
  have v9 : (setL (setL (setI (setI (setI M 207 0 0) 208 0 0) 209 0 (V 0 5)) 210 0 0) 211 0 0).1 209 0 = V 0 5 := by rw [sL_fst, sL_fst, sI_self]
  have v10 : (setL (setL (setI (setI (setI M 207 0 0) 208 0 0) 209 0 (V 0 5)) 210 0 0) 211 0 0).2 210 0 = 0 := by rw [sL_ne (by omega), sL_self]
  have v11 : (setL (setL (setI (setI (setI M 207 0 0) 208 0 0) 209 0 (V 0 5)) 210 0 0) 211 0 0).2 211 0 = 0 := sL_self _ _ _ _
  generalize setL (setL (setI (setI (setI M 207 0 0) 208 0 0) 209 0 (V 0 5)) 210 0 0) 211 0 0 = M1 at *
  have hT1 : MT0 M1 V := hT.fr f1 (fun k j a b z => by unfold BgW at z; omega)
  obtain ⟨P, p1, p2, p3⟩ := m_beg_L43 hT1 hV 4 FU M1 0 (by omega) (by omega) (fu_big (by omega)) Fr.rf (fun w a b => by omega)
  have hT2 : MT0 P V := hT1.fr p2 (fun k j a b z => by omega)
  obtain ⟨N, q1, q2, q3⟩ := m_beg_L82 hT2 hV 8 FU P 0 (by omega) (by omega) (fu_big (by omega)) Fr.rf (fun w a b => by omega)
  rw [p1]
  have g : ∀ k j, ¬ (k = 212 ∨ (213 ≤ k ∧ k ≤ 215)) → N.1 k j = M1.1 k j ∧ N.2 k j = M1.2 k j := fun k j a => ⟨((q2 k j (by omega)).1).trans (p2 k j (by omega)).1, ((q2 k j (by omega)).2).trans (p2 k j (by omega)).2⟩
  refine ⟨N, q1, (f1.trans (p2.mono (fun k j z => by unfold BgW; omega))).trans (q2.mono (fun k j z => by unfold BgW; omega)), ⟨?_, ?_, ?_, ?_, ?_⟩, fun w a b => ?_, q3⟩
  · rw [(g 207 0 (by omega)).1]; exact v7
  · rw [(g 208 0 (by omega)).1]; exact v8
  · rw [(g 209 0 (by omega)).1]; exact v9
  · rw [(g 210 0 (by omega)).2]; exact v10
  · rw [(g 211 0 (by omega)).2]; exact v11
  · rw [(q2 212 w (by omega)).1]; exact p3 w a b
end
section
/-! ===== a text: all of it -/
def TInv (M : Mem) : Prop := (0 ≤ M.1 191 2 ∧ M.1 191 2 ≤ 700) ∧ ∀ j, 0 ≤ j → j < M.1 191 2 → 0 ≤ M.1 192 j ∧ M.1 192 j ≤ 255
theorem qd2 {N : Nat} {h : Int} (e : (N : Int) = 2 * h) (h0 : 0 ≤ h) (h1 : h ≤ 1000) : q_div (N : Int) 2 = h := by
  rw [q_div_nn (by unfold InR; omega) (by unfold InR; omega) (by omega) (by omega)]
  omega
theorem hc_done {M0 M : Mem} {V : TV} {l : Int} (h : HC M0 M 207) (hL : LB M0 V l) (hP : POK V) : MT0 M V ∧ MF M V := by
  have hv := hP.1.1
  have c : ∀ k w, hw k = w → 193 ≤ k → k < 207 → ∀ j, 0 ≤ j → j < w → M.1 k j = M0.1 k (w + j) := fun k w e a b j c d => by rw [← e]; exact h.2 k j a b c (by rw [e]; exact d)
  have c193 := c 193 9 rfl (by omega) (by omega)
  have law : ∀ s : Nat, s < 2 → SLw M0 V s → KOK (V (10 + 2 * s)) (V 0 (11 + (s : Int))) → MF1 M (s : Int) (V (10 + 2 * s)) (V (11 + 2 * s)) (V 0 (11 + (s : Int))) := by
    intro s hs hS hK
    unfold SLw at hS
    obtain ⟨a1, a2, a3, a4⟩ := hS
    have k0 := hK.1
    unfold MF1
    rw [c 203 2 rfl (by omega) (by omega) _ (by omega) (by omega), c 204 2 rfl (by omega) (by omega) _ (by omega) (by omega)]
    refine ⟨a1, a2, by omega, fun i x y => ?_⟩
    rw [c 205 64 rfl (by omega) (by omega) _ (by omega) (by omega), c 206 64 rfl (by omega) (by omega) _ (by omega) (by omega), ← Int.add_assoc]
    exact a4 i x y
  refine ⟨⟨⟨?_, ?_, ?_, ?_, ?_, ?_⟩, fun w x y => ?_, fun t x y => ?_, fun q x y => ?_⟩, law 0 (by omega) hL.2.1.1 hP.2.1.1, law 1 (by omega) hL.2.1.2 hP.2.1.2.1⟩
  · exact (c193 0 (by omega) (by omega)).trans (hL.1.sc (j := 9 + 0) (x := 0) (by omega))
  · exact (c193 1 (by omega) (by omega)).trans (hL.1.sc (j := 9 + 1) (x := 1) (by omega))
  · exact (c193 2 (by omega) (by omega)).trans (hL.1.sc (j := 9 + 2) (x := 2) (by omega))
  · exact (c193 6 (by omega) (by omega)).trans (hL.1.sc (j := 9 + 6) (x := 3) (by omega))
  · exact (c193 8 (by omega) (by omega)).trans (hL.1.sc (j := 9 + 8) (x := 4) (by omega))
  · exact (c193 7 (by omega) (by omega)).trans (hL.1.sc (j := 9 + 7) (x := 5) (by omega))
  · rw [c 194 4 rfl (by omega) (by omega) w x (by omega), c 195 4 rfl (by omega) (by omega) w x (by omega), c 196 4 rfl (by omega) (by omega) w x (by omega)]
    exact hL.1.2.1 w x y
  · rw [c 200 8 rfl (by omega) (by omega) t x (by omega), c 201 8 rfl (by omega) (by omega) t x (by omega), c 202 8 rfl (by omega) (by omega) t x (by omega)]
    exact hL.1.2.2.1 t x y
  · rw [c 197 48 rfl (by omega) (by omega) q x (by omega), c 198 48 rfl (by omega) (by omega) q x (by omega), c 199 48 rfl (by omega) (by omega) q x (by omega)]
    exact hL.1.2.2.2 q x y
def TfW : Nat → Int → Prop := fun k j => StW k j ∨ (k = 191 ∧ (j = 0 ∨ j = 2 ∨ j = 19))
def TsW : Nat → Int → Prop := fun k j => TfW k j ∨ (193 ≤ k ∧ k ≤ 206) ∨ BgW k j ∨ (k = 191 ∧ (j = 42 ∨ j = 43 ∨ j = 60 ∨ j = 61))
theorem TfW_TsW : ∀ k j, TfW k j → TsW k j := fun _ _ z => Or.inl z
/-- what a text leaves -/
def TxO (M N : Mem) (r : Int) (T : Int × Int × Int × TV) : Prop := (¬ T.1 = 0 ∧ r = -1 ∧ Fr TfW M N ∧ N.1 191 26 = T.1 ∧ N.1 191 27 = T.2.1 ∧ N.1 191 2 = 0) ∨ (T.1 = 0 ∧ r = T.2.2.1 ∧ Fr TsW M N ∧ N.1 191 26 = 0 ∧ N.1 191 2 = 0 ∧ POK T.2.2.2 ∧ MT0 N T.2.2.2 ∧ MF N T.2.2.2 ∧ BgO N T.2.2.2 ∧ N.1 191 42 = 0 ∧ N.1 191 43 = 0 ∧ N.1 191 60 = 0 ∧ N.1 191 61 = -1)
theorem m_text_L195 {x1 l : Int} {M N : Mem} {T : Int × Int × Int × TV} (hF : Fr TfW M N) (h2 : N.1 191 2 = 0) (h : (T.1 = 0 ∧ N.1 191 24 = 0 ∧ LB N T.2.2.2 T.2.2.1 ∧ POK T.2.2.2) ∨ (¬ T.1 = 0 ∧ N.1 191 24 = T.1 ∧ N.1 191 25 = T.2.1)) : ∃ N' r, t_MO_text_L195 x1 N = some (N', r) ∧ TxO M N' r T := by
  unfold t_MO_text_L195
  simp (config := { proj := false }) only [qlet]
  have e25 : (setI N 191 26 (N.1 191 24)).1 191 25 = N.1 191 25 := sI_ne (by omega)
  rw [e25]
  have e24 : (setI (setI N 191 26 (N.1 191 24)) 191 27 (N.1 191 25)).1 191 24 = N.1 191 24 := by rw [sI_ne (by omega), sI_ne (by omega)]
  have v26 : (setI (setI N 191 26 (N.1 191 24)) 191 27 (N.1 191 25)).1 191 26 = N.1 191 24 := by rw [sI_ne (by omega), sI_self]
  have v27 : (setI (setI N 191 26 (N.1 191 24)) 191 27 (N.1 191 25)).1 191 27 = N.1 191 25 := sI_self _ _ _ _
  have f0 : Fr (fun k j => k = 191 ∧ (j = 26 ∨ j = 27)) N (setI (setI N 191 26 (N.1 191 24)) 191 27 (N.1 191 25)) := (Fr.rf.setI (by omega)).setI (by omega)
  rw [e24]
  generalize setI (setI N 191 26 (N.1 191 24)) 191 27 (N.1 191 25) = P at *
  have fP : Fr TfW M P := hF.trans (f0.mono (fun k j z => by unfold TfW StW; omega))
  have p2 : P.1 191 2 = 0 := (f0 191 2 (by omega)).1.trans h2
  rcases h with ⟨a, b, c, d⟩ | ⟨a, b, c⟩
  · rw [if_pos b]
    have cP : LB P T.2.2.2 T.2.2.1 := c.fr f0 (fun k j a z => by unfold LBc at a; omega)
    have c0 : HC P P 193 := ⟨Fr.rf, fun k j a b => by omega⟩
    obtain ⟨Q, q1, c0⟩ := hc_half (r := 193) (N1 := 18) (by omega) (qd2 (h := 9) (by omega) (by omega) (by omega)) (by show (9 : Int) + 9 ≤ _; omega) (by omega) c0
    rw [q1, obind_some]; clear q1
    obtain ⟨Q, q1, c0⟩ := hc_half (r := 194) (N1 := 8) (by omega) (qd2 (h := 4) (by omega) (by omega) (by omega)) (by show (4 : Int) + 4 ≤ _; omega) (by omega) c0
    rw [q1, obind_some]; clear q1
    obtain ⟨Q, q1, c0⟩ := hc_half (r := 195) (N1 := 8) (by omega) (qd2 (h := 4) (by omega) (by omega) (by omega)) (by show (4 : Int) + 4 ≤ _; omega) (by omega) c0
    rw [q1, obind_some]; clear q1
    obtain ⟨Q, q1, c0⟩ := hc_half (r := 196) (N1 := 8) (by omega) (qd2 (h := 4) (by omega) (by omega) (by omega)) (by show (4 : Int) + 4 ≤ _; omega) (by omega) c0
    rw [q1, obind_some]; clear q1
    obtain ⟨Q, q1, c0⟩ := hc_half (r := 197) (N1 := 96) (by omega) (qd2 (h := 48) (by omega) (by omega) (by omega)) (by show (48 : Int) + 48 ≤ _; omega) (by omega) c0
    rw [q1, obind_some]; clear q1
    obtain ⟨g, Q, q1, c0⟩ := m_text_L257 (x1 := x1) c0 48 FU Q 0 (by omega) (by omega) (fu_big (by omega)) Fr.rf (fun k j a b c => by omega)
    rw [q1, t_MO_text_L257, if_pos (Int.le_refl _)]; clear q1
    obtain ⟨Q, q1, c0⟩ := hc_half (r := 200) (N1 := 16) (by omega) (qd2 (h := 8) (by omega) (by omega) (by omega)) (by show (8 : Int) + 8 ≤ _; omega) (by omega) c0
    rw [q1, obind_some]; clear q1
    obtain ⟨Q, q1, c0⟩ := hc_half (r := 201) (N1 := 16) (by omega) (qd2 (h := 8) (by omega) (by omega) (by omega)) (by show (8 : Int) + 8 ≤ _; omega) (by omega) c0
    rw [q1, obind_some]; clear q1
    obtain ⟨Q, q1, c0⟩ := hc_half (r := 202) (N1 := 16) (by omega) (qd2 (h := 8) (by omega) (by omega) (by omega)) (by show (8 : Int) + 8 ≤ _; omega) (by omega) c0
    rw [q1, obind_some]; clear q1
    obtain ⟨Q, q1, c0⟩ := hc_half (r := 203) (N1 := 4) (by omega) (qd2 (h := 2) (by omega) (by omega) (by omega)) (by show (2 : Int) + 2 ≤ _; omega) (by omega) c0
    rw [q1, obind_some]; clear q1
    obtain ⟨Q, q1, c0⟩ := hc_half (r := 204) (N1 := 4) (by omega) (qd2 (h := 2) (by omega) (by omega) (by omega)) (by show (2 : Int) + 2 ≤ _; omega) (by omega) c0
    rw [q1, obind_some]; clear q1
    obtain ⟨Q, q1, c0⟩ := hc_half (r := 205) (N1 := 128) (by omega) (qd2 (h := 64) (by omega) (by omega) (by omega)) (by show (64 : Int) + 64 ≤ _; omega) (by omega) c0
    rw [q1, obind_some]; clear q1
    obtain ⟨Q, q1, c0⟩ := hc_half (r := 206) (N1 := 128) (by omega) (qd2 (h := 64) (by omega) (by omega) (by omega)) (by show (64 : Int) + 64 ≤ _; omega) (by omega) c0
    rw [q1, obind_some]; clear q1
    obtain ⟨t1, t2⟩ := hc_done c0 cP d
    simp (config := { proj := false }) only [qlet]
    have f2 : Fr (fun k j => k = 191 ∧ (j = 42 ∨ j = 43 ∨ j = 60 ∨ j = 61)) Q (setI (setI (setI (setI Q 191 60 0) 191 61 (-1)) 191 42 0) 191 43 0) := (((Fr.rf.setI (by omega)).setI (by omega)).setI (by omega)).setI (by omega)
    have v60 : (setI (setI (setI (setI Q 191 60 0) 191 61 (-1)) 191 42 0) 191 43 0).1 191 60 = 0 := by rw [sI_ne (by omega), sI_ne (by omega), sI_ne (by omega), sI_self]
    have v61 : (setI (setI (setI (setI Q 191 60 0) 191 61 (-1)) 191 42 0) 191 43 0).1 191 61 = -1 := by rw [sI_ne (by omega), sI_ne (by omega), sI_self]
    have v42 : (setI (setI (setI (setI Q 191 60 0) 191 61 (-1)) 191 42 0) 191 43 0).1 191 42 = 0 := by rw [sI_ne (by omega), sI_self]
    have v43 : (setI (setI (setI (setI Q 191 60 0) 191 61 (-1)) 191 42 0) 191 43 0).1 191 43 = 0 := sI_self _ _ _ _
    generalize setI (setI (setI (setI Q 191 60 0) 191 61 (-1)) 191 42 0) 191 43 0 = R at *
    obtain ⟨N', n1, n2, n3⟩ := m_begins (t1.fr f2 (fun k j a b z => by omega)) d.1
    rw [n1, obind_some]
    have g : ∀ j, N'.1 191 j = R.1 191 j := fun j => (n2 191 j (by unfold BgW; omega)).1
    have gr : ∀ j, ¬ (j = 42 ∨ j = 43 ∨ j = 60 ∨ j = 61) → N'.1 191 j = P.1 191 j := fun j hj => (g j).trans (((f2 191 j (by omega)).1).trans (c0.1 191 j (by omega)).1)
    refine ⟨N', _, rfl, Or.inr ⟨a, ?_, ?_, ?_, ?_, d, ?_, ?_, n3, (g 42).trans v42, (g 43).trans v43, (g 60).trans v60, (g 61).trans v61⟩⟩
    · rw [gr 18 (by omega)]; exact cP.2.2.2.2
    · refine (((fP.mono TfW_TsW).trans (c0.1.mono (fun k j z => ?_))).trans (f2.mono (fun k j z => ?_))).trans (n2.mono (fun k j z => ?_))
      · unfold TsW; exact Or.inr (Or.inl ⟨z.1, by omega⟩)
      · unfold TsW; exact Or.inr (Or.inr (Or.inr z))
      · unfold TsW; exact Or.inr (Or.inr (Or.inl z))
    · rw [gr 26 (by omega), v26]; exact b
    · rw [gr 2 (by omega)]; exact p2
    · exact (t1.fr f2 (fun k j a b z => by omega)).fr n2 (fun k j a b z => by unfold BgW at z; omega)
    · have u : ∀ {s n : Int} {K L : Int → Int}, MF1 Q s K L n → MF1 N' s K L n := fun q => (MF1.fr n2 (fun k j a b z => by unfold BgW at z; omega) (MF1.fr f2 (fun k j a b z => by omega) q))
      exact ⟨u t2.1, u t2.2⟩
  · rw [if_neg (show ¬ N.1 191 24 = 0 by rw [b]; exact a)]
    exact ⟨P, -1, rfl, Or.inl ⟨a, rfl, fP, v26.trans b, v27.trans c, p2⟩⟩
end
section
/-! ===== a text: the operation, and what it keeps -/
theorem m_text {M : Mem} {x1 : Int} (hT : TInv M) : (¬ (0 ≤ x1 ∧ x1 ≤ M.1 191 2) ∧ t_MO_text M x1 = some (setI M 191 0 0, -2)) ∨ ((0 ≤ x1 ∧ x1 ≤ M.1 191 2) ∧ ∃ N r, t_MO_text M x1 = some (N, r) ∧ TxO M N r (txA (fun j => M.1 192 j) x1)) := by
  obtain ⟨⟨t0, t1⟩, t2⟩ := hT
  unfold t_MO_text
  simp (config := { proj := false }) only [qlet]
  have e2 : (setI M 191 0 0).1 191 2 = M.1 191 2 := sI_ne (by omega)
  rw [e2]
  by_cases a : x1 < 0
  · rw [if_pos a]; exact Or.inl ⟨by omega, rfl⟩
  · rw [if_neg a]
    by_cases b : x1 ≤ M.1 191 2
    · rw [if_pos b]
      refine Or.inr ⟨⟨by omega, b⟩, ?_⟩
      have hn : 0 ≤ x1 ∧ x1 ≤ 700 := by omega
      have f9 : Fr TfW M (setI (setI (setI (setI (setI (setI M 191 0 0) 191 19 x1) 191 2 0) 191 20 0) 191 24 0) 191 25 (-1)) := (((((Fr.rf.setI (by unfold TfW; omega)).setI (by unfold TfW; omega)).setI (by unfold TfW; omega)).setI (by unfold TfW StW; omega)).setI (by unfold TfW StW; omega)).setI (by unfold TfW StW; omega)
      have v19 : (setI (setI (setI (setI (setI (setI M 191 0 0) 191 19 x1) 191 2 0) 191 20 0) 191 24 0) 191 25 (-1)).1 191 19 = x1 := by rw [sI_ne (by omega), sI_ne (by omega), sI_ne (by omega), sI_ne (by omega), sI_self]
      have v2 : (setI (setI (setI (setI (setI (setI M 191 0 0) 191 19 x1) 191 2 0) 191 20 0) 191 24 0) 191 25 (-1)).1 191 2 = 0 := by rw [sI_ne (by omega), sI_ne (by omega), sI_ne (by omega), sI_self]
      have v20 : (setI (setI (setI (setI (setI (setI M 191 0 0) 191 19 x1) 191 2 0) 191 20 0) 191 24 0) 191 25 (-1)).1 191 20 = 0 := by rw [sI_ne (by omega), sI_ne (by omega), sI_self]
      have v24 : (setI (setI (setI (setI (setI (setI M 191 0 0) 191 19 x1) 191 2 0) 191 20 0) 191 24 0) 191 25 (-1)).1 191 24 = 0 := by rw [sI_ne (by omega), sI_self]
      generalize setI (setI (setI (setI (setI (setI M 191 0 0) 191 19 x1) 191 2 0) 191 20 0) 191 24 0) 191 25 (-1) = M9 at *
      obtain ⟨P1, p1, g1, h1⟩ := m_text_L47 (x1 := x1) 9 FU M9 0 (by omega) (by omega) (fu_big (by omega))
      obtain ⟨P2, p2, g2, h2⟩ := m_text_L80 (x1 := x1) 48 FU P1 0 (by omega) (by omega) (fu_big (by omega))
      obtain ⟨P3, p3, g3, h3⟩ := m_text_L124 (x1 := x1) 2 FU P2 2 (by omega) (by omega) (fu_big (by omega))
      rw [p1, p2, p3]
      have f4 : Fr (fun k j => k = 191 ∧ (j = 17 ∨ j = 18 ∨ j = 28 ∨ j = 29)) P3 (setI (setI (setI (setI P3 191 17 0) 191 18 0) 191 28 0) 191 29 0) := (((Fr.rf.setI (by omega)).setI (by omega)).setI (by omega)).setI (by omega)
      have w17 : (setI (setI (setI (setI P3 191 17 0) 191 18 0) 191 28 0) 191 29 0).1 191 17 = 0 := by rw [sI_ne (by omega), sI_ne (by omega), sI_ne (by omega), sI_self]
      have w18 : (setI (setI (setI (setI P3 191 17 0) 191 18 0) 191 28 0) 191 29 0).1 191 18 = 0 := by rw [sI_ne (by omega), sI_ne (by omega), sI_self]
      have w28 : (setI (setI (setI (setI P3 191 17 0) 191 18 0) 191 28 0) 191 29 0).1 191 28 = 0 := by rw [sI_ne (by omega), sI_self]
      have w29 : (setI (setI (setI (setI P3 191 17 0) 191 18 0) 191 28 0) 191 29 0).1 191 29 = 0 := sI_self _ _ _ _
      generalize setI (setI (setI (setI P3 191 17 0) 191 18 0) 191 28 0) 191 29 0 = P4 at *
      have g9 : ∀ k j, ¬ (193 ≤ k ∧ k ≤ 204) → ¬ (k = 191 ∧ (j = 17 ∨ j = 18 ∨ j = 28 ∨ j = 29)) → P4.1 k j = M9.1 k j := fun k j a b => (((f4 k j b).1.trans (g3 k j (by omega)).1).trans (g2 k j (by omega)).1).trans (g1 k j (by omega)).1
      have hTp : TpOK P4 (fun j => M.1 192 j) x1 := ⟨hn, by rw [g9 191 19 (by omega) (by omega)]; exact v19, fun j u v => ⟨by rw [g9 192 j (by omega) (by omega)]; exact (f9 192 j (by unfold TfW StW; omega)).1, t2 j u (by omega)⟩⟩
      obtain ⟨N, n1, n2, n3⟩ := m_token hTp (a := 0) (Int.le_refl _) hn.1 (by rw [g9 191 20 (by omega) (by omega)]; exact v20)
      have hTS : TS N (fun j => M.1 192 j) x1 0 := ⟨hTp.fr n2 (fun k j u v => by unfold TkW at v; omega), n3, by rw [(n2 191 24 (by unfold TkW; omega)).1, g9 191 24 (by omega) (by omega)]; exact v24⟩
      have hq : ∀ k j, ¬ (k = 191 ∧ 20 ≤ j ∧ j ≤ 25) → N.1 k j = P4.1 k j := fun k j u => (n2 k j (by unfold TkW; omega)).1
      have hLB : LB N TV0 0 := by
        have z : ∀ j, ¬ (j = 0 ∨ j = 1) → TV0 0 j = 0 := fun j h => by
          unfold TV0
          rw [if_neg (fun q => h q.2), if_neg (by decide)]
        have s0 : ∀ j, 0 ≤ j → j < 9 → N.1 193 (9 + j) = if j = 0 ∨ j = 1 then 4 else 0 := fun j u v => by
          rw [hq 193 _ (by omega), (f4 193 _ (by omega)).1, (g3 193 _ (by omega)).1, (g2 193 _ (by omega)).1]
          exact h1 j u v
        have c0 : ∀ j, 0 ≤ j → j < 48 → N.1 197 (48 + j) = 0 ∧ N.1 198 (48 + j) = 0 ∧ N.1 199 (48 + j) = 0 := fun j u v => by
          rw [hq 197 _ (by omega), (f4 197 _ (by omega)).1, (g3 197 _ (by omega)).1, hq 198 _ (by omega), (f4 198 _ (by omega)).1, (g3 198 _ (by omega)).1, hq 199 _ (by omega), (f4 199 _ (by omega)).1, (g3 199 _ (by omega)).1]
          exact h2 j u v
        have k0 : ∀ j, 2 ≤ j → j < 4 → N.1 203 j = 0 ∧ N.1 204 j = 0 := fun j u v => by
          rw [hq 203 _ (by omega), (f4 203 _ (by omega)).1, hq 204 _ (by omega), (f4 204 _ (by omega)).1]
          exact h3 j u v
        have law : ∀ s : Nat, s < 2 → SLw N TV0 s := by
          intro s hs
          unfold SLw
          rw [(k0 (2 + (s : Int)) (by omega) (by omega)).1, (k0 (2 + (s : Int)) (by omega) (by omega)).2, z (11 + (s : Int)) (by omega), z 4 (by omega)]
          exact ⟨by omega, by omega, by omega, fun i u v => by omega⟩
        refine ⟨⟨⟨s0 0 (by omega) (by omega), s0 1 (by omega) (by omega), s0 2 (by omega) (by omega), s0 3 (by omega) (by omega), s0 4 (by omega) (by omega), s0 5 (by omega) (by omega), s0 6 (by omega) (by omega), s0 7 (by omega) (by omega), s0 8 (by omega) (by omega)⟩, fun w u v => ?_, fun t u v => ?_, fun c u v => ?_⟩, ⟨law 0 (by omega), law 1 (by omega)⟩, ?_, ?_, ?_⟩
        · rw [z 2 (by omega)] at v; omega
        · rw [z 3 (by omega)] at v; omega
        · have c7 : TV0 7 c = -1 := by unfold TV0; rw [if_neg (fun q => absurd q.1 (by decide)), if_pos rfl]
          have c8 : TV0 8 c = 0 := by unfold TV0; rw [if_neg (fun q => absurd q.1 (by decide)), if_neg (by decide)]
          have c9 : TV0 9 c = 0 := by unfold TV0; rw [if_neg (fun q => absurd q.1 (by decide)), if_neg (by decide)]
          have := c0 c u v
          rw [c7, c8, c9]
          exact ⟨by omega, this.2.1, this.2.2⟩
        · rw [hq 191 28 (by omega)]; exact w28
        · rw [hq 191 29 (by omega), z 4 (by omega)]; exact w29
        · rw [hq 191 18 (by omega)]; exact w18
      have hTB : TBd N TV0 := by
        intro x hx
        rw [hq 191 17 (by omega), w17]
        have e : tbI 0 x = false := by
          unfold tbI
          show (0#32).getLsbD x.toNat = false
          simp
        rw [e]
        have hx' : x = 0 ∨ x = 2 ∨ x = 3 ∨ x = 4 ∨ x = 5 ∨ x = 6 ∨ x = 10 ∨ x = 11 := by omega
        rcases hx' with rfl | rfl | rfl | rfl | rfl | rfl | rfl | rfl <;> rfl
      rw [n1, obind_some]
      obtain ⟨Q, q1, q2, q3⟩ := m_tx (x1 := x1) hn 700 FU 1000 N TV0 0 0 (by omega) (fu_big (by omega)) (by omega) hTS hLB hTB pok0 (by omega) (by omega)
      rw [q1]
      have fQ : Fr TfW M Q := ((((f9.trans (g1.mono (fun k j z => by unfold TfW StW; omega))).trans (g2.mono (fun k j z => by unfold TfW StW; omega))).trans (g3.mono (fun k j z => by unfold TfW StW; omega))).trans (f4.mono (fun k j z => by unfold TfW StW; omega))).trans ((n2.mono (fun k j z => by unfold TkW at z; unfold TfW StW; omega)).trans (q2.mono (fun k j z => Or.inl z)))
      refine m_text_L195 (l := 0) fQ ?_ q3
      rw [(q2 191 2 (by unfold StW; omega)).1, hq 191 2 (by omega), g9 191 2 (by omega) (by omega)]
      exact v2
    · rw [if_neg b]; exact Or.inl ⟨by omega, rfl⟩
/-! the reference's picture stays where only what is read into changes -/
def RIt : Nat → Int → Prop := fun k j => (k = 193 ∧ j < 9) ∨ (194 ≤ k ∧ k ≤ 196 ∧ j < 4) ∨ (197 ≤ k ∧ k ≤ 199 ∧ j < 48) ∨ (200 ≤ k ∧ k ≤ 202 ∧ j < 8) ∨ ((k = 203 ∨ k = 204) ∧ j < 2) ∨ ((k = 205 ∨ k = 206) ∧ j < 64) ∨ (RIc k j ∧ ¬ (193 ≤ k ∧ k ≤ 206))
theorem MF1.frS {W : Nat → Int → Prop} {M N : Mem} {s n : Int} {K L : Int → Int} (hF : Fr W M N) (hs : s < 2) (hd : ∀ k j, RIt k j → ¬ W k j) (h : MF1 M s K L n) : MF1 N s K L n := by
  obtain ⟨h1, h2, h3, h4⟩ := h
  have e3 : N.1 203 s = M.1 203 s := (hF _ _ (hd _ _ (by unfold RIt; omega))).1
  have e4 : N.1 204 s = M.1 204 s := (hF _ _ (hd _ _ (by unfold RIt; omega))).1
  refine ⟨by rw [e3]; exact h1, by rw [e3, e4]; exact h2, by rw [e4]; exact h3, fun i a b => ?_⟩
  rw [e3, (hF 205 _ (hd _ _ (by unfold RIt; omega))).1, (hF 206 _ (hd _ _ (by unfold RIt; omega))).1]
  exact h4 i a b
theorem MT0.frS {W : Nat → Int → Prop} {M N : Mem} {V : TV} (hF : Fr W M N) (hV : VOK V) (hd : ∀ k j, RIt k j → ¬ W k j) (h : MT0 M V) : MT0 N V := by
  have hv := hV.1
  obtain ⟨⟨a0, a1, a2, a3, a4, a5⟩, b, c, d⟩ := h
  have f : ∀ j, j < 9 → N.1 193 j = M.1 193 j := fun j z => (hF 193 j (hd _ _ (Or.inl ⟨rfl, z⟩))).1
  refine ⟨⟨(f _ (by omega)).trans a0, (f _ (by omega)).trans a1, (f _ (by omega)).trans a2, (f _ (by omega)).trans a3, (f _ (by omega)).trans a4, (f _ (by omega)).trans a5⟩, fun w x y => ?_, fun t x y => ?_, fun q x y => ?_⟩
  · rw [(hF 194 w (hd _ _ (by unfold RIt; omega))).1, (hF 195 w (hd _ _ (by unfold RIt; omega))).1, (hF 196 w (hd _ _ (by unfold RIt; omega))).1]; exact b w x y
  · rw [(hF 200 t (hd _ _ (by unfold RIt; omega))).1, (hF 201 t (hd _ _ (by unfold RIt; omega))).1, (hF 202 t (hd _ _ (by unfold RIt; omega))).1]; exact c t x y
  · rw [(hF 197 q (hd _ _ (by unfold RIt; omega))).1, (hF 198 q (hd _ _ (by unfold RIt; omega))).1, (hF 199 q (hd _ _ (by unfold RIt; omega))).1]; exact d q x y
theorem RI.frS {W : Nat → Int → Prop} {M N : Mem} {V : TV} (hF : Fr W M N) (hd : ∀ k j, RIt k j → ¬ W k j) (h : RI M V) : RI N V := by
  obtain ⟨⟨a1, a2, a3, a4⟩, b, ⟨c1, c2⟩, ⟨d1, d2⟩, ⟨e1, e2, e3⟩, f⟩ := h
  have hd' : ∀ k j, RIc k j → ¬ (193 ≤ k ∧ k ≤ 206) → ¬ W k j := fun k j x y => hd k j (by unfold RIt; exact Or.inr (Or.inr (Or.inr (Or.inr (Or.inr (Or.inr ⟨x, y⟩))))))
  have row : ∀ a : Int, 0 ≤ a → a ≠ 1 → RowEq N a M a := fun a x y => RowEq.fr hF (fun k j hk => hd' k j (CW_RIc ⟨x, y⟩ k j hk) (by unfold CW at hk; omega))
  have q : ∀ j : Int, (j = 42 ∨ j = 43 ∨ j = 44) → N.1 191 j = M.1 191 j := fun j hj => (hF 191 j (hd' _ _ (by unfold RIc; omega) (by omega))).1
  have q0 := row 0 (by omega) (by omega)
  refine ⟨⟨a1, MT0.frS hF a1 hd a2, a3, MF1.frS hF (by omega) hd a4.1, MF1.frS hF (by omega) hd a4.2⟩, by rw [q 44 (by omega)]; exact b, ⟨c1.of a1 q0, by rw [q0.1.1, q0.1.2.2.1]; exact c2⟩, ⟨by rw [q 42 (by omega)]; exact d1, fun h => ?_⟩, ⟨by rw [q 43 (by omega)]; exact e1, by rw [q 43 (by omega)]; exact e2, fun k x y => ?_⟩, f.fr hF (fun k j x => hd' k j (by unfold RIc; omega) (by omega))⟩
  · have q2 := row 2 (by omega) (by omega)
    obtain ⟨r1, r2⟩ := d2 (by rw [← q 42 (by omega)]; exact h)
    exact ⟨r1.of a1 q2, by rw [q2.1.1, q2.1.2.2.1]; exact r2⟩
  · rw [q 43 (by omega)] at y
    have q3 := row (3 + k) (by omega) (by omega)
    obtain ⟨r1, r2, r3, r4⟩ := e3 k x y
    exact ⟨r1.of a1 q3, by rw [q3.1.1, q0.1.1]; exact r2, by rw [q3.1.2.1, q0.1.2.1]; exact r3, by rw [q3.1.2.2.1, q0.1.2.2.1]; exact r4⟩
theorem ri_text {M : Mem} {V : TV} (h : RI M V) (hT : TInv M) (x1 : Int) : Ok (fun r => (∃ V', RI r.1 V') ∧ TInv r.1) (t_MO_text M x1) := by
  rcases m_text (x1 := x1) hT with ⟨a, e⟩ | ⟨a, N, r, e, o⟩
  · have hF : Fr (fun k j => k = 191 ∧ j = 0) M (setI M 191 0 0) := Fr.rf.setI ⟨rfl, rfl⟩
    refine ⟨_, e, ⟨V, h.set0 0⟩, ?_⟩
    unfold TInv
    show (0 ≤ (setI M 191 0 0).1 191 2 ∧ (setI M 191 0 0).1 191 2 ≤ 700) ∧ _
    rw [(hF 191 2 (by omega)).1]
    refine ⟨hT.1, fun j u v => ?_⟩
    rw [(hF 192 j (by omega)).1]
    exact hT.2 j u v
  · have ti : N.1 191 2 = 0 → TInv N := fun z => ⟨by rw [z]; omega, fun j u v => by rw [z] at v; omega⟩
    rcases o with ⟨o1, o2, o3, o4, o5, o6⟩ | ⟨o1, o2, o3, o4, o5, o6, o7, o8, o9, o10, o11, o12, o13⟩
    · exact ⟨_, e, ⟨V, h.frS o3 (fun k j u z => by unfold RIt RIc at u; unfold TfW StW at z; omega)⟩, ti o6⟩
    · generalize (txA (fun j => M.1 192 j) x1).2.2.2 = V' at *
      have hv := o6.1.1
      refine ⟨_, e, ⟨V', ⟨o6.1, o7, o6.2.1, o8⟩, ?_, ⟨⟨fun w u v => ?_, fun t u v => ?_, fun c u v => ?_⟩, ?_⟩, ⟨Or.inl o10, fun z => ?_⟩, ⟨?_, ?_, fun k u v => ?_⟩, ?_⟩, ti o5⟩
      · rw [(o3 191 44 (by unfold TsW TfW StW BgW; omega)).1]; exact h.2.1
      · have := o9.2.1 w u (by omega)
        have hw := o6.1.2.1 w u v
        rw [show 4 * (0 : Int) + w = w by omega]
        show 0 ≤ N.1 212 w ∧ N.1 212 w ≤ 4
        rw [this, if_neg (by omega)]; omega
      · have := (o9.2.2 t u (by omega)).1
        have hw := o6.1.2.2.1 t u v
        rw [show 8 * (0 : Int) + t = t by omega]
        show 0 ≤ N.1 213 t ∧ N.1 213 t < cellsV V'
        rw [this, if_neg (by omega)]; omega
      · have z1 := o9.1.2.2.2.1
        have z2 := o9.1.2.2.2.2
        show tb (N.2 210 0) c = false ∧ tb (N.2 211 0) c = false
        rw [z1, z2, tb_zero]
        exact ⟨rfl, rfl⟩
      · have z1 := o9.1.1
        have z2 := o9.1.2.2.1
        show 0 ≤ N.1 207 0 ∧ N.1 207 0 ≤ 99 ∧ 0 ≤ N.1 209 0 ∧ N.1 209 0 ≤ 2147483647
        rw [z1, z2]; omega
      · have o10 : N.1 191 42 = 0 := o10
        have z : N.1 191 42 = 1 := z
        omega
      · show 0 ≤ N.1 191 43
        omega
      · show N.1 191 43 ≤ 20
        omega
      · have v : k < N.1 191 43 := v
        omega
      · unfold NotesOK
        show 0 ≤ N.1 191 60 ∧ N.1 191 60 ≤ 24 ∧ -1 ≤ N.1 191 61 ∧ N.1 191 61 ≤ N.1 191 60 ∧ _
        rw [o12, o13]
        exact ⟨by omega, by omega, by omega, by omega, fun k u v => by omega⟩
end
section
/-! ===== feeding the tape -/
theorem and255 (y : Int) : 0 ≤ q_and y 255 ∧ q_and y 255 ≤ 255 := by
  unfold q_and
  rw [← Int32.toInt_toBitVec, Int32.toBitVec_and]
  show 0 ≤ ((Int32.ofInt y).toBitVec &&& 255#32).toInt ∧ ((Int32.ofInt y).toBitVec &&& 255#32).toInt ≤ 255
  have h : ((Int32.ofInt y).toBitVec &&& 255#32).toNat ≤ 255 := by rw [BitVec.toNat_and]; exact Nat.and_le_right
  rw [BitVec.toInt_eq_toNat_of_lt (by omega)]
  omega
theorem TInv.fr {W : Nat → Int → Prop} {M N : Mem} (h : TInv M) (hF : Fr W M N) (hd : ∀ k j, (k = 192 ∨ (k = 191 ∧ j = 2)) → ¬ W k j) : TInv N := by
  unfold TInv
  rw [(hF 191 2 (hd _ _ (Or.inr ⟨rfl, rfl⟩))).1]
  refine ⟨h.1, fun j u v => ?_⟩
  rw [(hF 192 j (hd _ _ (Or.inl rfl))).1]
  exact h.2 j u v
theorem ti_feed_loop {x1 x2 x3 x4 x5 : Int} {M0 : Mem} (hT : TInv M0) (h2 : M0.1 191 2 ≤ 680) : ∀ (m fu : Nat) (M : Mem) (v : Int), v + (m : Int) = 20 → 0 ≤ v → m < fu → Fr (fun k _ => k = 192) M0 M → (∀ j, 0 ≤ j → j < M0.1 191 2 + v → 0 ≤ M.1 192 j ∧ M.1 192 j ≤ 255) → Ok (fun r => Fr (fun k j => k = 192 ∨ (k = 191 ∧ j = 2)) M0 r.1 ∧ TInv r.1 ∧ r.2 = M0.1 191 2 + 20 ∧ r.1.1 191 2 = M0.1 191 2 + 20) (t_MO_feed_L20 x1 x2 x3 x4 x5 fu M v) := by
  have t0 := hT.1
  intro m
  induction m with
  | zero =>
    intro fu M v g0 g1 g2 hF hc
    obtain ⟨g, rfl⟩ : ∃ g, fu = g + 1 := ⟨fu - 1, by omega⟩
    rw [t_MO_feed_L20, if_pos (by omega)]
    simp (config := { proj := false }) only [qlet]
    have e2 : M.1 191 2 = M0.1 191 2 := (hF 191 2 (by omega)).1
    rw [e2, w32_id (x := M0.1 191 2 + 20) (by unfold InR; omega)]
    refine ok_some ⟨(hF.mono (fun k j z => Or.inl z)).setI (Or.inr ⟨rfl, rfl⟩), ?_, (by show (setI M 191 2 (M0.1 191 2 + 20)).1 191 2 = M0.1 191 2 + 20; exact sI_self _ _ _ _), (by show (setI M 191 2 (M0.1 191 2 + 20)).1 191 2 = M0.1 191 2 + 20; exact sI_self _ _ _ _)⟩
    unfold TInv
    show (0 ≤ (setI M 191 2 (M0.1 191 2 + 20)).1 191 2 ∧ (setI M 191 2 (M0.1 191 2 + 20)).1 191 2 ≤ 700) ∧ ∀ j, 0 ≤ j → j < (setI M 191 2 (M0.1 191 2 + 20)).1 191 2 → 0 ≤ (setI M 191 2 (M0.1 191 2 + 20)).1 192 j ∧ (setI M 191 2 (M0.1 191 2 + 20)).1 192 j ≤ 255
    rw [sI_self]
    refine ⟨by omega, fun j a b => ?_⟩
    rw [sI_ne (by omega)]
    exact hc j a (by omega)
  | succ m ih =>
    intro fu M v g0 g1 g2 hF hc
    obtain ⟨g, rfl⟩ : ∃ g, fu = g + 1 := ⟨fu - 1, by omega⟩
    have e2 : M.1 191 2 = M0.1 191 2 := (hF 191 2 (by omega)).1
    have gd : 0 ≤ M0.1 191 2 + v ∧ M0.1 191 2 + v < 700 := by omega
    have step : ∀ c, Ok (fun r => Fr (fun k j => k = 192 ∨ (k = 191 ∧ j = 2)) M0 r.1 ∧ TInv r.1 ∧ r.2 = M0.1 191 2 + 20 ∧ r.1.1 191 2 = M0.1 191 2 + 20) (t_MO_feed_L73 x1 x2 x3 x4 x5 (fun a0_ a1_ => t_MO_feed_L20 x1 x2 x3 x4 x5 g a0_ a1_) M v c) := by
      intro c
      unfold t_MO_feed_L73
      rw [e2, w32_id (x := M0.1 191 2 + v) (by unfold InR; omega), qguard_pos gd, w32_id (x := v + 1) (by unfold InR; omega)]
      simp (config := { proj := false }) only [qlet]
      refine ih g _ (v + 1) (by omega) (by omega) (by omega) (hF.setI rfl) (fun j a b => ?_)
      by_cases q : j = M0.1 191 2 + v
      · rw [q, sI_self]; exact and255 _
      · rw [sI_ne (by omega)]; exact hc j a (by omega)
    rw [t_MO_feed_L20, if_neg (by omega)]
    exact ok_ite (fun _ => ok_ite (fun _ => ok_ite (fun _ => ok_ite (fun _ => step _) (fun _ => step _)) (fun _ => step _)) (fun _ => step _)) (fun _ => step _)
theorem ri_feed {M : Mem} {V : TV} (h : RI M V) (hT : TInv M) (x1 x2 x3 x4 x5 : Int) : Ok (fun r => RI r.1 V ∧ TInv r.1 ∧ ((M.1 191 2 ≤ 680 ∧ r.2 = M.1 191 2 + 20 ∧ r.1.1 191 2 = M.1 191 2 + 20) ∨ (¬ M.1 191 2 ≤ 680 ∧ r.2 = -1 ∧ r.1.1 191 2 = M.1 191 2))) (t_MO_feed M x1 x2 x3 x4 x5) := by
  unfold t_MO_feed
  simp (config := { proj := false }) only [qlet]
  have h1 : RI (setI M 191 0 0) V := h.set0 0
  have hT1 : TInv (setI M 191 0 0) := hT.fr (W := fun k j => k = 191 ∧ j = 0) (Fr.rf.setI ⟨rfl, rfl⟩) (fun k j a z => by omega)
  have e2 : (setI M 191 0 0).1 191 2 = M.1 191 2 := sI_ne (by omega)
  generalize setI M 191 0 0 = M1 at *
  rw [← e2]
  by_cases a : M1.1 191 2 ≤ 680
  · rw [if_pos a]
    obtain ⟨r, e, r1, r2, r3, r4⟩ := ti_feed_loop (x1 := x1) (x2 := x2) (x3 := x3) (x4 := x4) (x5 := x5) hT1 a 20 FU M1 0 (by omega) (by omega) (fu_big (by omega)) Fr.rf (fun j u v => hT1.2 j u (by omega))
    exact ⟨r, e, h1.fr r1 (fun k j u z => by unfold RIc at u; omega), r2, Or.inl ⟨a, r3, r4⟩⟩
  · rw [if_neg a]
    exact ok_some ⟨h1, hT1, Or.inr ⟨a, rfl, rfl⟩⟩
end
