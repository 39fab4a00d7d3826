/-! ===== lines keep the town well made -/
theorem FOK.same {V V' : TV} (h : FOK V) (e0 : ∀ j, (9 ≤ j ∧ j ≤ 12) → V' 0 j = V 0 j) (er : ∀ r j, 10 ≤ r → V' r j = V r j) : FOK V' := by
  unfold FOK at *
  have f := fun r (hr : 10 ≤ r) => funext (fun j => er r j hr)
  rw [f 10 (by omega), f 12 (by omega), e0 9 (by omega), e0 10 (by omega), e0 11 (by omega), e0 12 (by omega)]
  exact h
section PK
variable {B : Int → Int} {n : Int}
theorem nuS0 {i : Nat} {lo hi : Int} (h : nuS B n i lo hi = 0) : lo ≤ tW B n i ∧ tW B n i ≤ hi := by
  unfold nuS at h
  by_cases a : tK B n i = 31
  · rw [if_pos a] at h
    by_cases b : tW B n i < lo
    · rw [if_pos b] at h; omega
    · rw [if_neg b] at h
      by_cases c : hi < tW B n i
      · rw [if_pos c] at h; omega
      · omega
  · rw [if_neg a] at h; omega
theorem fnd_noneL {f : Nat → Int} {v : Int} : ∀ {m : Nat}, fnd f v m = none → ∀ a : Nat, a < m → f a ≠ v := by
  intro m
  induction m with
  | zero => intro _ a h; omega
  | succ m ih =>
    intro h a ha
    rw [fnd] at h
    cases e : fnd f v m with
    | some x => rw [e] at h; cases h
    | none =>
      rw [e] at h
      by_cases z : f m = v
      · simp [z] at h
      · by_cases y : a = m
        · rw [y]; exact z
        · exact ih e a (by omega)
theorem fnd_lt {f : Nat → Int} {v : Int} : ∀ {m : Nat} {a : Nat}, fnd f v m = some a → a < m := by
  intro m
  induction m with
  | zero => intro a h; cases h
  | succ m ih =>
    intro a h
    rw [fnd] at h
    cases e : fnd f v m with
    | some x => rw [e] at h; have := ih e; simp at h; omega
    | none =>
      rw [e] at h
      by_cases z : f m = v
      · simp [z] at h; omega
      · simp [z] at h
theorem pok_town {V : TV} {i : Nat} (hP : POK V) (h3 : V 0 3 = 0) (h : (lnTown B n V i).1 = 0) : POK (lnTown B n V i).2.2.2 ∧ i < (lnTown B n V i).2.2.1 := by
  unfold lnTown at *
  by_cases a : nuS B n (i + 1) 1 8 = 0
  · rw [if_neg (fun q => q a)] at h ⊢
    by_cases b : nuS B n (i + 2) 1 6 = 0
    · rw [if_neg (fun q => q b)] at h ⊢
      refine ⟨?_, by show i < i + 3; omega⟩
      show POK (setV (setV (setV V 0 0 (tW B n (i + 1))) 0 1 (tW B n (i + 2))) 0 13 1)
      obtain ⟨⟨hv, hw, ht, hc⟩, hf, hm⟩ := hP
      have e : ∀ r j, ¬ (r = 0 ∧ (j = 0 ∨ j = 1 ∨ j = 13)) → setV (setV (setV V 0 0 (tW B n (i + 1))) 0 1 (tW B n (i + 2))) 0 13 1 r j = V r j := fun r j q => by rw [setV_ne _ _ (by omega), setV_ne _ _ (by omega), setV_ne _ _ (by omega)]
      have e0 : setV (setV (setV V 0 0 (tW B n (i + 1))) 0 1 (tW B n (i + 2))) 0 13 1 0 0 = tW B n (i + 1) := by rw [setV_ne _ _ (by omega), setV_ne _ _ (by omega), setV_self]
      have e1 : setV (setV (setV V 0 0 (tW B n (i + 1))) 0 1 (tW B n (i + 2))) 0 13 1 0 1 = tW B n (i + 2) := by rw [setV_ne _ _ (by omega), setV_self]
      have a := nuS0 a
      have b := nuS0 b
      generalize setV (setV (setV V 0 0 (tW B n (i + 1))) 0 1 (tW B n (i + 2))) 0 13 1 = V' at *
      have q2 := e 0 2 (by omega); have q3 := e 0 3 (by omega); have q4 := e 0 4 (by omega); have q5 := e 0 5 (by omega); have q6 := e 0 6 (by omega); have q7 := e 0 7 (by omega); have q8 := e 0 8 (by omega)
      refine ⟨⟨by omega, fun w x y => ?_, fun t x y => by omega, fun c x y => ?_⟩, hf.same (fun j z => e 0 j (by omega)) (fun r j z => e r j (by omega)), by omega⟩
      · rw [e 2 w (by omega), e 3 w (by omega)]; exact hw w x (by omega)
      · rw [e 7 c (by omega), e 8 c (by omega), e 9 c (by omega), q2]; exact hc c x y
    · rw [if_pos b] at h; exact absurd h b
  · rw [if_pos a] at h; exact absurd h a
theorem pok_ward {V : TV} {i : Nat} (hP : POK V) (h2 : V 0 2 < 4) (h : (lnWard B n V i).1 = 0) : POK (lnWard B n V i).2.2.2 ∧ i < (lnWard B n V i).2.2.1 := by
  unfold lnWard at *
  by_cases a : nmS B n V 1 (V 0 2) (i + 1) = 0
  · rw [if_neg (fun q => q a)] at h ⊢
    by_cases b : 8 ≤ tK B n (i + 2) ∧ tK B n (i + 2) ≤ 12
    · rw [if_neg (fun q => q b)] at h ⊢
      by_cases c : nuS B n (i + 3) 0 99 = 0
      · rw [if_neg (fun q => q c)] at h ⊢
        refine ⟨?_, by show i < i + 4; omega⟩
        obtain ⟨⟨hv, hw, ht, hc⟩, hf, hm⟩ := hP
        have c := nuS0 c
        show POK (setV (setV (setV (setV V 1 (V 0 2) (tW B n (i + 1))) 2 (V 0 2) (tK B n (i + 2) - 8)) 3 (V 0 2) (tW B n (i + 3))) 0 2 (V 0 2 + 1))
        have e : ∀ r j, ¬ (r = 0 ∧ j = 2) → ¬ ((r = 1 ∨ r = 2 ∨ r = 3) ∧ j = V 0 2) → setV (setV (setV (setV V 1 (V 0 2) (tW B n (i + 1))) 2 (V 0 2) (tK B n (i + 2) - 8)) 3 (V 0 2) (tW B n (i + 3))) 0 2 (V 0 2 + 1) r j = V r j := fun r j q p => by rw [setV_ne _ _ (by omega), setV_ne _ _ (by omega), setV_ne _ _ (by omega), setV_ne _ _ (by omega)]
        have q2 : setV (setV (setV (setV V 1 (V 0 2) (tW B n (i + 1))) 2 (V 0 2) (tK B n (i + 2) - 8)) 3 (V 0 2) (tW B n (i + 3))) 0 2 (V 0 2 + 1) 0 2 = V 0 2 + 1 := setV_self _ _ _ _
        have w2 : setV (setV (setV (setV V 1 (V 0 2) (tW B n (i + 1))) 2 (V 0 2) (tK B n (i + 2) - 8)) 3 (V 0 2) (tW B n (i + 3))) 0 2 (V 0 2 + 1) 2 (V 0 2) = tK B n (i + 2) - 8 := by rw [setV_ne _ _ (by omega), setV_ne _ _ (by omega), setV_self]
        have w3 : setV (setV (setV (setV V 1 (V 0 2) (tW B n (i + 1))) 2 (V 0 2) (tK B n (i + 2) - 8)) 3 (V 0 2) (tW B n (i + 3))) 0 2 (V 0 2 + 1) 3 (V 0 2) = tW B n (i + 3) := by rw [setV_ne _ _ (by omega), setV_self]
        generalize setV (setV (setV (setV V 1 (V 0 2) (tW B n (i + 1))) 2 (V 0 2) (tK B n (i + 2) - 8)) 3 (V 0 2) (tW B n (i + 3))) 0 2 (V 0 2 + 1) = V' at *
        have q0 := e 0 0 (by omega) (by omega); have q1 := e 0 1 (by omega) (by omega); have q3 := e 0 3 (by omega) (by omega); have q4 := e 0 4 (by omega) (by omega); have q5 := e 0 5 (by omega) (by omega); have q6 := e 0 6 (by omega) (by omega); have q7 := e 0 7 (by omega) (by omega); have q8 := e 0 8 (by omega) (by omega)
        have qc : cellsV V' = cellsV V := by unfold cellsV; rw [q0, q1]
        refine ⟨⟨by omega, fun w x y => ?_, fun t x y => ?_, fun c x y => ?_⟩, hf.same (fun j z => e 0 j (by omega) (by omega)) (fun r j z => e r j (by omega) (by omega)), by omega⟩
        · by_cases z : w = V 0 2
          · rw [z, w2, w3]; omega
          · rw [e 2 w (by omega) (by omega), e 3 w (by omega) (by omega)]; exact hw w x (by omega)
        · rw [e 5 t (by omega) (by omega), e 6 t (by omega) (by omega), e 8 _ (by omega) (by omega), qc]; exact ht t x (by omega)
        · have := hc c x y
          rw [e 7 c (by omega) (by omega), e 8 c (by omega) (by omega), e 9 c (by omega) (by omega), q2]; omega
      · rw [if_pos c] at h; exact absurd h c
    · rw [if_pos b] at h; exact absurd h (by simp)
  · rw [if_pos a] at h; exact absurd h a
theorem pok_cell {V : TV} {i : Nat} {k : Int → LR} {P : LR → Prop} (hP : POK V) (h : (clS B n V i k).1 = 0) (hk : ∀ c, 0 ≤ c → c < cellsV V → (k c).1 = 0 → P (k c)) : P (clS B n V i k) := by
  unfold clS at *
  by_cases a : nuS B n i 0 (V 0 0 - 1) = 0
  · rw [if_neg (fun q => q a)] at h ⊢
    by_cases b : nuS B n (i + 1) 0 (V 0 1 - 1) = 0
    · rw [if_neg (fun q => q b)] at h ⊢
      have a := nuS0 a
      have b := nuS0 b
      have r := cell_rng hP.1 a.1 a.2 b.1 b.2
      exact hk _ r.1 r.2.1 h
    · rw [if_pos b] at h; exact absurd h b
  · rw [if_pos a] at h; exact absurd h a
theorem pok_part {V : TV} {i : Nat} (hP : POK V) (h6 : V 0 6 < 12) (h : (lnPart B n V i).1 = 0) : POK (lnPart B n V i).2.2.2 ∧ i < (lnPart B n V i).2.2.1 := by
  unfold lnPart at *
  by_cases a : tK B n (i + 1) = 30
  · rw [if_neg (fun q => q a)] at h ⊢
    cases ef : fnd (fun a => V 1 (a : Int)) (tW B n (i + 1)) (V 0 2).toNat with
    | none => rw [ef] at h; exact absurd h (by simp)
    | some w =>
      rw [ef] at h
      have hwl := fnd_lt ef
      dsimp only at h ⊢
      by_cases b : nuS B n (i + 2) 0 (V 0 0 - 1) = 0
      · rw [if_neg (fun q => q b)] at h ⊢
        by_cases c : nuS B n (i + 3) 0 (V 0 1 - 1) = 0
        · rw [if_neg (fun q => q c)] at h ⊢
          by_cases d : nuS B n (i + 4) (tW B n (i + 2)) (V 0 0 - 1) = 0
          · rw [if_neg (fun q => q d)] at h ⊢
            by_cases f : nuS B n (i + 5) (tW B n (i + 3)) (V 0 1 - 1) = 0
            · rw [if_neg (fun q => q f)] at h ⊢
              refine ⟨?_, by show i < i + 6; omega⟩
              obtain ⟨⟨hv, hw, ht, hc⟩, hf, hm⟩ := hP
              show POK (setV (ptV V (tW B n (i + 2)) (tW B n (i + 3)) (tW B n (i + 4)) (tW B n (i + 5)) (w : Int)) 0 6 (V 0 6 + 1))
              have e : ∀ r j, ¬ (r = 0 ∧ j = 6) → ¬ r = 7 → setV (ptV V (tW B n (i + 2)) (tW B n (i + 3)) (tW B n (i + 4)) (tW B n (i + 5)) (w : Int)) 0 6 (V 0 6 + 1) r j = V r j := fun r j q p => by rw [setV_ne _ _ (by omega)]; exact if_neg (fun z => p z.1)
              have q6 : setV (ptV V (tW B n (i + 2)) (tW B n (i + 3)) (tW B n (i + 4)) (tW B n (i + 5)) (w : Int)) 0 6 (V 0 6 + 1) 0 6 = V 0 6 + 1 := setV_self _ _ _ _
              have e7 : ∀ c, setV (ptV V (tW B n (i + 2)) (tW B n (i + 3)) (tW B n (i + 4)) (tW B n (i + 5)) (w : Int)) 0 6 (V 0 6 + 1) 7 c = V 7 c ∨ setV (ptV V (tW B n (i + 2)) (tW B n (i + 3)) (tW B n (i + 4)) (tW B n (i + 5)) (w : Int)) 0 6 (V 0 6 + 1) 7 c = (w : Int) := by
                intro c
                rw [setV_ne _ _ (by omega)]
                unfold ptV
                split
                · exact Or.inr rfl
                · exact Or.inl rfl
              generalize setV (ptV V (tW B n (i + 2)) (tW B n (i + 3)) (tW B n (i + 4)) (tW B n (i + 5)) (w : Int)) 0 6 (V 0 6 + 1) = V' at *
              have q0 := e 0 0 (by omega) (by omega); have q1 := e 0 1 (by omega) (by omega); have q2 := e 0 2 (by omega) (by omega); have q3 := e 0 3 (by omega) (by omega); have q4 := e 0 4 (by omega) (by omega); have q5 := e 0 5 (by omega) (by omega); have q7 := e 0 7 (by omega) (by omega); have q8 := e 0 8 (by omega) (by omega)
              have qc : cellsV V' = cellsV V := by unfold cellsV; rw [q0, q1]
              refine ⟨⟨by omega, fun w x y => ?_, fun t x y => ?_, fun c x y => ?_⟩, hf.same (fun j z => e 0 j (by omega) (by omega)) (fun r j z => e r j (by omega) (by omega)), by omega⟩
              · rw [e 2 w (by omega) (by omega), e 3 w (by omega) (by omega)]; exact hw w x (by omega)
              · rw [e 5 t (by omega) (by omega), e 6 t (by omega) (by omega), e 8 _ (by omega) (by omega), qc]; exact ht t x (by omega)
              · have := hc c x y
                rw [e 8 c (by omega) (by omega), e 9 c (by omega) (by omega), q2]
                rcases e7 c with z | z <;> rw [z] <;> omega
            · rw [if_pos f] at h; exact absurd h f
          · rw [if_pos d] at h; exact absurd h d
        · rw [if_pos c] at h; exact absurd h c
      · rw [if_pos b] at h; exact absurd h b
  · rw [if_pos a] at h; exact absurd h (by simp)
theorem pok_wall {V : TV} {i : Nat} (hP : POK V) (h7 : V 0 7 < 12) (h : (lnWall B n V i).1 = 0) : POK (lnWall B n V i).2.2.2 ∧ i < (lnWall B n V i).2.2.1 := by
  unfold lnWall at h ⊢
  refine pok_cell (P := fun r => POK r.2.2.2 ∧ i < r.2.2.1) hP h (fun c c0 c1 hc => ?_)
  by_cases a : V 8 c = 0
  · rw [if_neg (fun q => q a)] at hc ⊢
    by_cases b : ¬ V 9 c = 0 ∨ fnd (fun a => V 6 (a : Int)) c (V 0 3).toNat ≠ none
    · rw [if_pos b] at hc; exact absurd hc (by simp)
    · rw [if_neg b]
      refine ⟨?_, by show i < i + 3; omega⟩
      have hn : fnd (fun a => V 6 (a : Int)) c (V 0 3).toNat = none := by
        cases e : fnd (fun a => V 6 (a : Int)) c (V 0 3).toNat with
        | none => rfl
        | some x => exact absurd (Or.inr (by rw [e]; exact fun z => by cases z)) b
      have hn := fnd_noneL hn
      obtain ⟨⟨hv, hw, ht, hcc⟩, hf, hm⟩ := hP
      show POK (setV (setV V 8 c 1) 0 7 (V 0 7 + 1))
      have e : ∀ r j, ¬ (r = 0 ∧ j = 7) → ¬ (r = 8 ∧ j = c) → setV (setV V 8 c 1) 0 7 (V 0 7 + 1) r j = V r j := fun r j q p => by rw [setV_ne _ _ (by omega), setV_ne _ _ (by omega)]
      have q7 : setV (setV V 8 c 1) 0 7 (V 0 7 + 1) 0 7 = V 0 7 + 1 := setV_self _ _ _ _
      have e8 : setV (setV V 8 c 1) 0 7 (V 0 7 + 1) 8 c = 1 := by rw [setV_ne _ _ (by omega), setV_self]
      generalize setV (setV V 8 c 1) 0 7 (V 0 7 + 1) = V' at *
      have q0 := e 0 0 (by omega) (by omega); have q1 := e 0 1 (by omega) (by omega); have q2 := e 0 2 (by omega) (by omega); have q3 := e 0 3 (by omega) (by omega); have q4 := e 0 4 (by omega) (by omega); have q5 := e 0 5 (by omega) (by omega); have q6 := e 0 6 (by omega) (by omega); have q8 := e 0 8 (by omega) (by omega)
      have qc : cellsV V' = cellsV V := by unfold cellsV; rw [q0, q1]
      refine ⟨⟨by omega, fun w x y => ?_, fun t x y => ?_, fun c' x y => ?_⟩, hf.same (fun j z => e 0 j (by omega) (by omega)) (fun r j z => e r j (by omega) (by omega)), by omega⟩
      · rw [e 2 w (by omega) (by omega), e 3 w (by omega) (by omega)]; exact hw w x (by omega)
      · have := hn t.toNat (by omega)
        rw [Int.toNat_of_nonneg x] at this
        rw [e 5 t (by omega) (by omega), e 6 t (by omega) (by omega), e 8 _ (by omega) (fun z => this z.2), qc]; exact ht t x (by omega)
      · have := hcc c' x y
        rw [e 7 c' (by omega) (by omega), e 9 c' (by omega) (by omega), q2]
        by_cases z : c' = c
        · rw [z] at this ⊢; rw [e8]; omega
        · rw [e 8 c' (by omega) (by omega)]; exact this
  · rw [if_pos a] at hc; exact absurd hc (by simp)
theorem pok_stair {V : TV} {i : Nat} (hP : POK V) (h7 : V 0 8 < 8) (h : (lnStair B n V i).1 = 0) : POK (lnStair B n V i).2.2.2 ∧ i < (lnStair B n V i).2.2.1 := by
  unfold lnStair at h ⊢
  refine pok_cell (P := fun r => POK r.2.2.2 ∧ i < r.2.2.1) hP h (fun c c0 c1 hc => ?_)
  by_cases a : V 9 c = 0
  · rw [if_neg (fun q => q a)] at hc ⊢
    by_cases b : V 8 c = 0
    · rw [if_neg (fun q => q b)]
      refine ⟨?_, by show i < i + 3; omega⟩
      obtain ⟨⟨hv, hw, ht, hcc⟩, hf, hm⟩ := hP
      show POK (setV (setV V 9 c 1) 0 8 (V 0 8 + 1))
      have e : ∀ r j, ¬ (r = 0 ∧ j = 8) → ¬ (r = 9 ∧ j = c) → setV (setV V 9 c 1) 0 8 (V 0 8 + 1) r j = V r j := fun r j q p => by rw [setV_ne _ _ (by omega), setV_ne _ _ (by omega)]
      have q8 : setV (setV V 9 c 1) 0 8 (V 0 8 + 1) 0 8 = V 0 8 + 1 := setV_self _ _ _ _
      have e9 : setV (setV V 9 c 1) 0 8 (V 0 8 + 1) 9 c = 1 := by rw [setV_ne _ _ (by omega), setV_self]
      generalize setV (setV V 9 c 1) 0 8 (V 0 8 + 1) = V' at *
      have q0 := e 0 0 (by omega) (by omega); have q1 := e 0 1 (by omega) (by omega); have q2 := e 0 2 (by omega) (by omega); have q3 := e 0 3 (by omega) (by omega); have q4 := e 0 4 (by omega) (by omega); have q5 := e 0 5 (by omega) (by omega); have q6 := e 0 6 (by omega) (by omega); have q7 := e 0 7 (by omega) (by omega)
      have qc : cellsV V' = cellsV V := by unfold cellsV; rw [q0, q1]
      refine ⟨⟨by omega, fun w x y => ?_, fun t x y => ?_, fun c' x y => ?_⟩, hf.same (fun j z => e 0 j (by omega) (by omega)) (fun r j z => e r j (by omega) (by omega)), by omega⟩
      · rw [e 2 w (by omega) (by omega), e 3 w (by omega) (by omega)]; exact hw w x (by omega)
      · rw [e 5 t (by omega) (by omega), e 6 t (by omega) (by omega), e 8 _ (by omega) (by omega), qc]; exact ht t x (by omega)
      · have := hcc c' x y
        rw [e 7 c' (by omega) (by omega), e 8 c' (by omega) (by omega), q2]
        by_cases z : c' = c
        · rw [z] at this ⊢; rw [e9]; omega
        · rw [e 9 c' (by omega) (by omega)]; exact this
    · rw [if_pos b] at hc; exact absurd hc (by simp)
  · rw [if_pos a] at hc; exact absurd hc (by simp)
theorem pok_thing {V : TV} {i : Nat} (hP : POK V) (h3 : V 0 3 < 8) (h : (lnThing B n V i).1 = 0) : POK (lnThing B n V i).2.2.2 ∧ i < (lnThing B n V i).2.2.1 := by
  unfold lnThing at h ⊢
  by_cases a : nmS B n V 4 (V 0 3) (i + 1) = 0
  · rw [if_neg (fun q => q a)] at h ⊢
    by_cases b : nuS B n (i + 2) 0 99 = 0
    · rw [if_neg (fun q => q b)] at h ⊢
      have b := nuS0 b
      refine pok_cell (P := fun r => POK r.2.2.2 ∧ i < r.2.2.1) hP h (fun c c0 c1 hc => ?_)
      by_cases d : ¬ V 8 c = 0 ∨ fnd (fun a => V 6 (a : Int)) c (V 0 3).toNat ≠ none
      · rw [if_pos d] at hc; exact absurd hc (by simp)
      · rw [if_neg d]
        refine ⟨?_, by show i < i + 5; omega⟩
        have d8 : V 8 c = 0 := by
          by_cases z : V 8 c = 0
          · exact z
          · exact absurd (Or.inl z) d
        obtain ⟨⟨hv, hw, ht, hcc⟩, hf, hm⟩ := hP
        show POK (setV (setV (setV (setV V 4 (V 0 3) (tW B n (i + 1))) 5 (V 0 3) (tW B n (i + 2))) 6 (V 0 3) c) 0 3 (V 0 3 + 1))
        have e : ∀ r j, ¬ (r = 0 ∧ j = 3) → ¬ ((r = 4 ∨ r = 5 ∨ r = 6) ∧ j = V 0 3) → setV (setV (setV (setV V 4 (V 0 3) (tW B n (i + 1))) 5 (V 0 3) (tW B n (i + 2))) 6 (V 0 3) c) 0 3 (V 0 3 + 1) r j = V r j := fun r j q p => by rw [setV_ne _ _ (by omega), setV_ne _ _ (by omega), setV_ne _ _ (by omega), setV_ne _ _ (by omega)]
        have q3 : setV (setV (setV (setV V 4 (V 0 3) (tW B n (i + 1))) 5 (V 0 3) (tW B n (i + 2))) 6 (V 0 3) c) 0 3 (V 0 3 + 1) 0 3 = V 0 3 + 1 := setV_self _ _ _ _
        have w5 : setV (setV (setV (setV V 4 (V 0 3) (tW B n (i + 1))) 5 (V 0 3) (tW B n (i + 2))) 6 (V 0 3) c) 0 3 (V 0 3 + 1) 5 (V 0 3) = tW B n (i + 2) := by rw [setV_ne _ _ (by omega), setV_ne _ _ (by omega), setV_self]
        have w6 : setV (setV (setV (setV V 4 (V 0 3) (tW B n (i + 1))) 5 (V 0 3) (tW B n (i + 2))) 6 (V 0 3) c) 0 3 (V 0 3 + 1) 6 (V 0 3) = c := by rw [setV_ne _ _ (by omega), setV_self]
        generalize setV (setV (setV (setV V 4 (V 0 3) (tW B n (i + 1))) 5 (V 0 3) (tW B n (i + 2))) 6 (V 0 3) c) 0 3 (V 0 3 + 1) = V' at *
        have q0 := e 0 0 (by omega) (by omega); have q1 := e 0 1 (by omega) (by omega); have q2 := e 0 2 (by omega) (by omega); have q4 := e 0 4 (by omega) (by omega); have q5 := e 0 5 (by omega) (by omega); have q6 := e 0 6 (by omega) (by omega); have q7 := e 0 7 (by omega) (by omega); have q8 := e 0 8 (by omega) (by omega)
        have qc : cellsV V' = cellsV V := by unfold cellsV; rw [q0, q1]
        refine ⟨⟨by omega, fun w x y => ?_, fun t x y => ?_, fun c' x y => ?_⟩, hf.same (fun j z => e 0 j (by omega) (by omega)) (fun r j z => e r j (by omega) (by omega)), by omega⟩
        · rw [e 2 w (by omega) (by omega), e 3 w (by omega) (by omega)]; exact hw w x (by omega)
        · by_cases z : t = V 0 3
          · rw [z, w5, w6, e 8 c (by omega) (by omega), qc, d8]; omega
          · rw [e 5 t (by omega) (by omega), e 6 t (by omega) (by omega), e 8 _ (by omega) (by omega), qc]; exact ht t x (by omega)
        · rw [e 7 c' (by omega) (by omega), e 8 c' (by omega) (by omega), e 9 c' (by omega) (by omega), q2]; exact hcc c' x y
    · rw [if_pos b] at h; exact absurd h b
  · rw [if_pos a] at h; exact absurd h a
theorem pok_seed {V : TV} {i : Nat} (hP : POK V) (h : (lnSeed B n V i).1 = 0) : POK (lnSeed B n V i).2.2.2 ∧ i < (lnSeed B n V i).2.2.1 := by
  unfold lnSeed at h ⊢
  by_cases a : nuS B n (i + 1) 0 99999 = 0
  · rw [if_neg (fun q => q a)] at h ⊢
    have a := nuS0 a
    refine ⟨?_, by show i < i + 2; omega⟩
    obtain ⟨⟨hv, hw, ht, hcc⟩, hf, hm⟩ := hP
    show POK (setV (setV V 0 5 (tW B n (i + 1))) 0 14 1)
    have e : ∀ r j, ¬ (r = 0 ∧ (j = 5 ∨ j = 14)) → setV (setV V 0 5 (tW B n (i + 1))) 0 14 1 r j = V r j := fun r j q => by rw [setV_ne _ _ (by omega), setV_ne _ _ (by omega)]
    have q5 : setV (setV V 0 5 (tW B n (i + 1))) 0 14 1 0 5 = tW B n (i + 1) := by rw [setV_ne _ _ (by omega), setV_self]
    generalize setV (setV V 0 5 (tW B n (i + 1))) 0 14 1 = V' at *
    have q0 := e 0 0 (by omega); have q1 := e 0 1 (by omega); have q2 := e 0 2 (by omega); have q3 := e 0 3 (by omega); have q4 := e 0 4 (by omega); have q6 := e 0 6 (by omega); have q7 := e 0 7 (by omega); have q8 := e 0 8 (by omega)
    have qc : cellsV V' = cellsV V := by unfold cellsV; rw [q0, q1]
    refine ⟨⟨by omega, fun w x y => ?_, fun t x y => ?_, fun c' x y => ?_⟩, hf.same (fun j z => e 0 j (by omega)) (fun r j z => e r j (by omega)), by omega⟩
    · rw [e 2 w (by omega), e 3 w (by omega)]; exact hw w x (by omega)
    · rw [e 5 t (by omega), e 6 t (by omega), e 8 _ (by omega), qc]; exact ht t x (by omega)
    · rw [e 7 c' (by omega), e 8 c' (by omega), e 9 c' (by omega), q2]; exact hcc c' x y
  · rw [if_pos a] at h; exact absurd h a
end PK
