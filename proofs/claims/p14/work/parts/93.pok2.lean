/-! ===== lines keep the town well made: laws, any line -/
section PL
variable {B : Int → Int} {n : Int}
theorem dp_one {x : Int × Int} {h e : Int} (hx : dpL [x] h = some e) : e = h + (if x.1 = 17 then 0 else if ktwo x.1 then -1 else 1) ∧ ((x.1 = 31 ∨ (18 ≤ x.1 ∧ x.1 ≤ 24)) ∨ (x.1 = 17 ∧ 1 ≤ h) ∨ (ktwo x.1 ∧ 2 ≤ h)) := by
  rw [dpL] at hx
  by_cases a : x.1 = 17
  · rw [if_pos a] at hx
    rw [if_pos a]
    by_cases b : 1 ≤ h
    · rw [if_pos b] at hx
      have := Option.some.inj hx
      exact ⟨by omega, Or.inr (Or.inl ⟨a, b⟩)⟩
    · rw [if_neg b] at hx; cases hx
  · rw [if_neg a] at hx
    rw [if_neg a]
    by_cases b : ktwo x.1
    · rw [if_pos b] at hx
      rw [if_pos b]
      by_cases c : 2 ≤ h
      · rw [if_pos c] at hx
        have := Option.some.inj hx
        exact ⟨by omega, Or.inr (Or.inr ⟨b, c⟩)⟩
      · rw [if_neg c] at hx; cases hx
    · rw [if_neg b] at hx
      rw [if_neg b]
      by_cases c : x.1 = 31 ∨ (18 ≤ x.1 ∧ x.1 ≤ 24)
      · rw [if_pos c] at hx
        have := Option.some.inj hx
        exact ⟨by omega, Or.inl c⟩
      · rw [if_neg c] at hx; cases hx
theorem dp_pre {out : List (Int × Int)} {e : Int} (h : dpL out 0 = some e) : ∀ i : Nat, i ≤ out.length → dpL (out.take i) 0 = some (dpV (fun j => (out.getD j.toNat (0, 0)).1) i) ∧ ∀ x : Nat, x < i → (((out.getD x (0, 0)).1 = 31 ∨ (18 ≤ (out.getD x (0, 0)).1 ∧ (out.getD x (0, 0)).1 ≤ 24)) ∨ ((out.getD x (0, 0)).1 = 17 ∧ 1 ≤ dpV (fun j => (out.getD j.toNat (0, 0)).1) x) ∨ (ktwo (out.getD x (0, 0)).1 ∧ 2 ≤ dpV (fun j => (out.getD j.toNat (0, 0)).1) x)) := by
  intro i
  induction i with
  | zero => intro _; exact ⟨rfl, fun x hx => by omega⟩
  | succ i ih =>
    intro hi
    obtain ⟨i1, i2⟩ := ih (by omega)
    have hlt : i < out.length := by omega
    have eg : out.getD i (0, 0) = out[i] := by rw [List.getD_eq_getElem?_getD, List.getElem?_eq_getElem hlt]; rfl
    have et : out.take (i + 1) = out.take i ++ [out[i]] := by rw [List.take_succ, List.getElem?_eq_getElem hlt]; rfl
    have e1 : dpL (out.take (i + 1)) 0 = dpL [out[i]] (dpV (fun j => (out.getD j.toNat (0, 0)).1) i) := by rw [et, dpL_app, i1]; rfl
    have e2 : ∃ a, dpL (out.take (i + 1)) 0 = some a := by
      have : dpL (out.take (i + 1) ++ out.drop (i + 1)) 0 = some e := by rw [List.take_append_drop]; exact h
      rw [dpL_app] at this
      cases z : dpL (out.take (i + 1)) 0 with
      | none => rw [z] at this; cases this
      | some a => exact ⟨a, rfl⟩
    obtain ⟨a, ha⟩ := e2
    obtain ⟨o1, o2⟩ := dp_one (e1.symm.trans ha)
    rw [← eg] at o1 o2
    refine ⟨?_, fun x hx => ?_⟩
    · rw [ha, dpV, Int.toNat_natCast, o1]
    · by_cases z : x = i
      · rw [z]; exact o2
      · exact i2 x (by omega)
theorem kok_of {out : List (Int × Int)} (h : wfL out) (hl : out.length ≤ 64) : KOK (fun j => (out.getD j.toNat (0, 0)).1) (out.length : Int) ∧ 0 < out.length := by
  have h0 := h 0 (by omega)
  obtain ⟨p1, p2⟩ := dp_pre h0 out.length (Nat.le_refl _)
  refine ⟨⟨by omega, by omega, fun i hi => ?_, fun _ => ?_⟩, ?_⟩
  · have := p2 i (by omega)
    exact this
  · rw [List.take_length, h0] at p1
    rw [Int.toNat_natCast]
    have := Option.some.inj p1
    omega
  · cases out with
    | nil => exact absurd h0 (by simp [dpL])
    | cons x r => exact Nat.succ_pos _
theorem pok_kn {V : TV} {s : Nat} {out : List (Int × Int)} {kn : Int} (hP : POK V) (hs : s < 2) (hw : wfL out) (hk : kn = V 0 4 + (out.length : Int)) (hk2 : kn ≤ 64) : POK (knV V s out kn) := by
  obtain ⟨⟨hv, hwd, ht, hcc⟩, hf, hm⟩ := hP
  obtain ⟨k1, k2⟩ := kok_of hw (by omega)
  have e : ∀ r j, ¬ (r = 10 + 2 * s ∨ r = 11 + 2 * s) → ¬ (r = 0 ∧ (j = 9 + (s : Int) ∨ j = 11 + (s : Int) ∨ j = 4)) → knV V s out kn r j = V r j := by
    intro r j a b
    unfold knV
    rw [if_neg (by omega), if_neg (by omega), if_neg (by omega), if_neg (by omega), if_neg (by omega)]
  have q4 : knV V s out kn 0 4 = kn := by
    unfold knV
    rw [if_neg (by omega), if_neg (by omega), if_neg (by omega), if_neg (by omega), if_pos ⟨rfl, rfl⟩]
  have q9 : knV V s out kn 0 (9 + (s : Int)) = 1 := by
    unfold knV
    rw [if_neg (by omega), if_neg (by omega), if_pos ⟨rfl, rfl⟩]
  have q11 : knV V s out kn 0 (11 + (s : Int)) = (out.length : Int) := by
    unfold knV
    rw [if_neg (by omega), if_neg (by omega), if_neg (by omega), if_pos ⟨rfl, rfl⟩]
  have qr : knV V s out kn (10 + 2 * s) = fun j => (out.getD j.toNat (0, 0)).1 := funext fun j => if_pos rfl
  have er : ∀ r, ¬ r = 0 → ¬ (r = 10 + 2 * s ∨ r = 11 + 2 * s) → knV V s out kn r = V r := fun r a b => funext fun j => e r j b (by omega)
  generalize knV V s out kn = V' at *
  have q0 := e 0 0 (by omega) (by omega); have q1 := e 0 1 (by omega) (by omega); have q2 := e 0 2 (by omega) (by omega); have q3 := e 0 3 (by omega) (by omega); have q5 := e 0 5 (by omega) (by omega); have q6 := e 0 6 (by omega) (by omega); have q7 := e 0 7 (by omega) (by omega); have q8 := e 0 8 (by omega) (by omega)
  have qc : cellsV V' = cellsV V := by unfold cellsV; rw [q0, q1]
  refine ⟨⟨by omega, fun w x y => ?_, fun t x y => ?_, fun c' x y => ?_⟩, ?_, by omega⟩
  · rw [e 2 w (by omega) (by omega), e 3 w (by omega) (by omega)]; exact hwd w x (by omega)
  · rw [e 5 t (by omega) (by omega), e 6 t (by omega) (by omega), e 8 _ (by omega) (by omega), qc]; exact ht t x (by omega)
  · rw [e 7 c' (by omega) (by omega), e 8 c' (by omega) (by omega), e 9 c' (by omega) (by omega), q2]; exact hcc c' x y
  · have hs2 : s = 0 ∨ s = 1 := by omega
    rcases hs2 with rfl | rfl
    · have q9 : V' 0 9 = 1 := q9
      have q11 : V' 0 11 = (out.length : Int) := q11
      have qr : V' 10 = fun j => (out.getD j.toNat (0, 0)).1 := qr
      have q10 := e 0 10 (by omega) (by omega)
      have q12 := e 0 12 (by omega) (by omega)
      unfold FOK at *
      rw [qr, q11, q9, q10, q12, er 12 (by omega) (by omega)]
      exact ⟨k1, hf.2.1, Or.inr rfl, hf.2.2.2.1, ⟨fun _ => by omega, fun _ => rfl⟩, hf.2.2.2.2.2⟩
    · have q10 : V' 0 10 = 1 := q9
      have q12 : V' 0 12 = (out.length : Int) := q11
      have qr : V' 12 = fun j => (out.getD j.toNat (0, 0)).1 := qr
      have q9 := e 0 9 (by omega) (by omega)
      have q11 := e 0 11 (by omega) (by omega)
      unfold FOK at *
      rw [qr, q11, q9, q10, q12, er 10 (by omega) (by omega)]
      exact ⟨hf.1, k1, hf.2.2.1, Or.inr rfl, hf.2.2.2.2.1, ⟨fun _ => by omega, fun _ => rfl⟩⟩
theorem pok_law {V : TV} {i : Nat} (hn : 0 ≤ n ∧ n ≤ 700) (hP : POK V) (h : (lnLaw B n V i).1 = 0) : POK (lnLaw B n V i).2.2.2 ∧ i < (lnLaw B n V i).2.2.1 := by
  have hv := hP.1.1
  have rg := (fr_facts (B := B) hn (i := i + 2) (c := V 0 4) (by omega) (by omega)).2
  unfold lnLaw at h ⊢
  by_cases a : tK B n (i + 1) = 13 ∨ tK B n (i + 1) = 14
  · rw [if_neg (fun q => q a)] at h ⊢
    by_cases b : V 0 (tK B n (i + 1) - 4) = 1
    · rw [if_pos b] at h; exact absurd h (by simp)
    · rw [if_neg b] at h ⊢
      by_cases c : (frS B n (i + 2) (V 0 4)).1 = 0
      · rw [if_neg (fun q => q c)] at h ⊢
        obtain ⟨g1, g2, g3, g4, g5⟩ := rg.1 c
        exact ⟨pok_kn hP (by omega) g5 (by omega) g3, by show i < (frS B n (i + 2) (V 0 4)).2.1; omega⟩
      · rw [if_pos c] at h; exact absurd h c
  · rw [if_pos a] at h; exact absurd h (by simp)
theorem pok_line {V : TV} {i : Nat} (hn : 0 ≤ n ∧ n ≤ 700) (hP : POK V) (h : (lnS B n V i).1 = 0) : POK (lnS B n V i).2.2.2 ∧ i < (lnS B n V i).2.2.1 := by
  have hv := hP.1.1
  have hm := hP.2.2
  unfold lnS at h ⊢
  by_cases k : tK B n i = 0
  · rw [if_pos k] at h ⊢
    by_cases a : V 0 13 = 1
    · rw [if_pos a] at h; exact absurd h (by simp)
    · rw [if_neg a] at h ⊢
      by_cases b : 0 < V 0 6 ∨ 0 < V 0 7 ∨ 0 < V 0 8 ∨ 0 < V 0 3
      · rw [if_pos b] at h; exact absurd h (by simp)
      · rw [if_neg b] at h ⊢; exact pok_town hP (by omega) h
  · rw [if_neg k] at h ⊢
    by_cases k : tK B n i = 1
    · rw [if_pos k] at h ⊢
      by_cases a : V 0 2 = 4
      · rw [if_pos a] at h; exact absurd h (by simp)
      · rw [if_neg a] at h ⊢; exact pok_ward hP (by omega) h
    · rw [if_neg k] at h ⊢
      by_cases k : tK B n i = 2
      · rw [if_pos k] at h ⊢
        by_cases a : V 0 6 = 12
        · rw [if_pos a] at h; exact absurd h (by simp)
        · rw [if_neg a] at h ⊢; exact pok_part hP (by omega) h
      · rw [if_neg k] at h ⊢
        by_cases k : tK B n i = 3
        · rw [if_pos k] at h ⊢
          by_cases a : V 0 7 = 12
          · rw [if_pos a] at h; exact absurd h (by simp)
          · rw [if_neg a] at h ⊢; exact pok_wall hP (by omega) h
        · rw [if_neg k] at h ⊢
          by_cases k : tK B n i = 4
          · rw [if_pos k] at h ⊢
            by_cases a : V 0 8 = 8
            · rw [if_pos a] at h; exact absurd h (by simp)
            · rw [if_neg a] at h ⊢; exact pok_stair hP (by omega) h
          · rw [if_neg k] at h ⊢
            by_cases k : tK B n i = 5
            · rw [if_pos k] at h ⊢
              by_cases a : V 0 3 = 8
              · rw [if_pos a] at h; exact absurd h (by simp)
              · rw [if_neg a] at h ⊢; exact pok_thing hP (by omega) h
            · rw [if_neg k] at h ⊢
              by_cases k : tK B n i = 6
              · rw [if_pos k] at h ⊢
                by_cases a : V 0 14 = 1
                · rw [if_pos a] at h; exact absurd h (by simp)
                · rw [if_neg a] at h ⊢; exact pok_seed hP h
              · rw [if_neg k] at h ⊢
                by_cases k : tK B n i = 7
                · rw [if_pos k] at h ⊢; exact pok_law hn hP h
                · rw [if_neg k] at h; exact absurd h (by simp)
theorem pok_le {V : TV} {i : Nat} (hn : 0 ≤ n ∧ n ≤ 700) (hP : POK V) (h : (leS B n V i).1 = 0) : POK (leS B n V i).2.2.2 ∧ i < (leS B n V i).2.2.1 := by
  unfold leS at h ⊢
  by_cases a : (lnS B n V i).1 = 0
  · rw [if_neg (fun q => q a)] at h ⊢
    obtain ⟨p1, p2⟩ := pok_line hn hP a
    by_cases b : tK B n (lnS B n V i).2.2.1 = 40
    · rw [if_pos b] at h ⊢
      exact ⟨p1, by show i < (lnS B n V i).2.2.1 + 1; omega⟩
    · rw [if_neg b] at h; exact absurd h (by simp)
  · rw [if_pos a] at h; exact absurd h a
end PL
