/-! ===== ways ===== -/
theorem pigeon : ∀ (N n : Nat) (f : Nat → Nat), (∀ a, a < n → f a < N) → (∀ a b, a < n → b < n → f a = f b → a = b) → n ≤ N := by
  intro N
  induction N with
  | zero =>
    intro n f h1 h2
    cases n with
    | zero => exact Nat.le_refl _
    | succ n => exact absurd (h1 0 (by omega)) (by omega)
  | succ N ih =>
    intro n f h1 h2
    by_cases hx : ∃ a, a < n ∧ f a = N
    · obtain ⟨a, ha, e⟩ := hx
      have := ih (n - 1) (fun b => if b < a then f b else f (b + 1)) (fun b hb => ?_) (fun b d hb hd he => ?_)
      · omega
      · by_cases hba : b < a
        · rw [if_pos hba]
          have g1 := h1 b (by omega)
          have g2 : f b ≠ N := fun q => by have := h2 b a (by omega) ha (q.trans e.symm); omega
          omega
        · rw [if_neg hba]
          have g1 := h1 (b + 1) (by omega)
          have g2 : f (b + 1) ≠ N := fun q => by have := h2 (b + 1) a (by omega) ha (q.trans e.symm); omega
          omega
      · by_cases hba : b < a
        · by_cases hda : d < a
          · rw [if_pos hba, if_pos hda] at he
            exact h2 b d (by omega) (by omega) he
          · rw [if_pos hba, if_neg hda] at he
            have := h2 b (d + 1) (by omega) (by omega) he
            omega
        · by_cases hda : d < a
          · rw [if_neg hba, if_pos hda] at he
            have := h2 (b + 1) d (by omega) (by omega) he
            omega
          · rw [if_neg hba, if_neg hda] at he
            have := h2 (b + 1) (d + 1) (by omega) (by omega) he
            omega
    · have := ih n f (fun a ha => ?_) h2
      · omega
      · have g1 := h1 a ha
        have g2 : f a ≠ N := fun q => hx ⟨a, ha, q⟩
        omega
/-- step by step -/
def itr (f : Int → Int) (c : Int) : Nat → Int
  | 0 => c
  | n + 1 => f (itr f c n)
/-- the first place of a value among the first n -/
def fnd (p : Nat → Int) (v : Int) : Nat → Option Nat
  | 0 => none
  | n + 1 => match fnd p v n with
    | some a => some a
    | none => if p n = v then some n else none
theorem fnd_none {p : Nat → Int} {v : Int} : ∀ {n : Nat}, fnd p v n = none → ∀ a, a < n → p a ≠ v := by
  intro n
  induction n with
  | zero => intro _ a ha; omega
  | succ n ih =>
    intro h a ha
    rw [fnd] at h
    cases e : fnd p v n with
    | some b => simp only [e] at h; cases h
    | none =>
      simp only [e] at h
      by_cases e2 : p n = v
      · rw [if_pos e2] at h; cases h
      · by_cases e3 : a = n
        · rw [e3]; exact e2
        · exact ih e a (by omega)
theorem fnd_some {p : Nat → Int} {v : Int} : ∀ {n a : Nat}, fnd p v n = some a → a < n ∧ p a = v ∧ ∀ b, b < a → p b ≠ v := by
  intro n
  induction n with
  | zero => intro a h; cases h
  | succ n ih =>
    intro a h
    rw [fnd] at h
    cases e : fnd p v n with
    | some b =>
      simp only [e] at h
      cases h
      have := ih e
      exact ⟨by omega, this.2⟩
    | none =>
      simp only [e] at h
      by_cases e2 : p n = v
      · rw [if_pos e2] at h
        cases h
        exact ⟨by omega, e2, fun b hb => fnd_none e b hb⟩
      · rw [if_neg e2] at h; cases h
/-- the last step's number, and where it closes -/
def wS (f : Int → Int) (c : Int) : Nat → Nat → Nat × Option Nat
  | 0, i => (i, none)
  | n + 1, i => if itr f c (i + 1) < 0 then (i, none) else match fnd (itr f c) (itr f c (i + 1)) (i + 1) with
    | some a => (i, some a)
    | none => wS f c n (i + 1)
def wayS (f : Int → Int) (c : Int) : Nat × Option Nat := wS f c 48 0
/-- lines crossed in the first n steps -/
def lcV (V : TV) (f : Int → Int) (c : Int) : Nat → Int
  | 0 => 0
  | n + 1 => lcV V f c n + lnV V (itr f c n) (itr f c (n + 1))
theorem ln_rng (V : TV) (a b : Int) : 0 ≤ lnV V a b ∧ lnV V a b ≤ 1 := by unfold lnV; split <;> omega
theorem lc_rng (V : TV) (f : Int → Int) (c : Int) : ∀ n : Nat, 0 ≤ lcV V f c n ∧ lcV V f c n ≤ (n : Int) := by
  intro n
  induction n with
  | zero => exact ⟨by show (0 : Int) ≤ 0; omega, by show (0 : Int) ≤ 0; omega⟩
  | succ n ih =>
    have := ln_rng V (itr f c n) (itr f c (n + 1))
    rw [lcV]
    omega
/-- what holds at step i -/
def wI (f : Int → Int) (c : Int) (i : Nat) : Prop := (∀ a, a ≤ i → 0 ≤ itr f c a ∧ itr f c a < 48) ∧ ∀ a b, a ≤ i → b ≤ i → itr f c a = itr f c b → a = b
theorem wI.lt {f : Int → Int} {c : Int} {i : Nat} (h : wI f c i) : i < 48 := by
  have := pigeon 48 (i + 1) (fun a => (itr f c a).toNat) (fun a ha => by have := h.1 a (by omega); omega) (fun a b ha hb he => by
    have h1 := h.1 a (by omega)
    have h2 := h.1 b (by omega)
    exact h.2 a b (by omega) (by omega) (by omega))
  omega
theorem wI.next {f : Int → Int} {c : Int} {i : Nat} (h : wI f c i) (h0 : 0 ≤ itr f c (i + 1)) (h1 : itr f c (i + 1) < 48) (hf : fnd (itr f c) (itr f c (i + 1)) (i + 1) = none) : wI f c (i + 1) := by
  have hn := fnd_none hf
  refine ⟨fun a ha => ?_, fun a b ha hb he => ?_⟩
  · by_cases e : a = i + 1
    · rw [e]; exact ⟨h0, h1⟩
    · exact h.1 a (by omega)
  · by_cases e : a = i + 1
    · by_cases e2 : b = i + 1
      · omega
      · rw [e] at he
        exact absurd he.symm (hn b (by omega))
    · by_cases e2 : b = i + 1
      · rw [e2] at he
        exact absurd he (hn a (by omega))
      · exact h.2 a b (by omega) (by omega) he
/-- a step leads to cells below N -/
def stepOK (f : Int → Int) (N : Int) : Prop := ∀ c, 0 ≤ c → c < N → -1 ≤ f c ∧ f c < N
theorem wS_fuel {f : Int → Int} {c N : Int} (hN : N ≤ 48) (hf : stepOK f N) : ∀ (n i : Nat), wI f c i → (∀ a, a ≤ i → itr f c a < N) → 48 ≤ n + i → ∀ m, n ≤ m → wS f c m i = wS f c n i := by
  intro n
  induction n with
  | zero => intro i h _ h2 m _; have := h.lt; omega
  | succ n ih =>
    intro i h hlt h2 m hm
    obtain ⟨m, rfl⟩ : ∃ k, m = k + 1 := ⟨m - 1, by omega⟩
    rw [wS, wS]
    by_cases h0 : itr f c (i + 1) < 0
    · rw [if_pos h0, if_pos h0]
    · rw [if_neg h0, if_neg h0]
      cases e : fnd (itr f c) (itr f c (i + 1)) (i + 1) with
      | some a => rfl
      | none =>
        simp only []
        have hs : itr f c (i + 1) < N := (hf _ (h.1 i (Nat.le_refl _)).1 (hlt i (Nat.le_refl _))).2
        refine ih (i + 1) (h.next (by omega) (by omega) e) (fun a ha => ?_) (by omega) m (by omega)
        by_cases ea : a = i + 1
        · rw [ea]; exact hs
        · exact hlt a (by omega)
/-- what is known of a way's end -/
theorem wS_spec {f : Int → Int} {c N : Int} (hN : N ≤ 48) (hf : stepOK f N) : ∀ (n i : Nat), wI f c i → (∀ a, a ≤ i → itr f c a < N) → 48 ≤ n + i → wI f c (wS f c n i).1 ∧ (∀ a, a ≤ (wS f c n i).1 → itr f c a < N) ∧ i ≤ (wS f c n i).1 ∧ (((wS f c n i).2 = none ∧ itr f c ((wS f c n i).1 + 1) < 0) ∨ ∃ a, (wS f c n i).2 = some a ∧ a ≤ (wS f c n i).1 ∧ itr f c ((wS f c n i).1 + 1) = itr f c a) := by
  intro n
  induction n with
  | zero => intro i h _ h2; have := h.lt; omega
  | succ n ih =>
    intro i h hlt h2
    rw [wS]
    by_cases h0 : itr f c (i + 1) < 0
    · rw [if_pos h0]
      exact ⟨h, hlt, Nat.le_refl _, Or.inl ⟨rfl, h0⟩⟩
    · rw [if_neg h0]
      cases e : fnd (itr f c) (itr f c (i + 1)) (i + 1) with
      | some a =>
        have := fnd_some e
        exact ⟨h, hlt, Nat.le_refl _, Or.inr ⟨a, rfl, show a ≤ i by omega, this.2.1.symm⟩⟩
      | none =>
        simp only []
        have hs : itr f c (i + 1) < N := (hf _ (h.1 i (Nat.le_refl _)).1 (hlt i (Nat.le_refl _))).2
        obtain ⟨g1, g2, g3, g4⟩ := ih (i + 1) (h.next (by omega) (by omega) e) (fun a ha => by
          by_cases ea : a = i + 1
          · rw [ea]; exact hs
          · exact hlt a (by omega)) (by omega)
        exact ⟨g1, g2, by omega, g4⟩
theorem wI0 {f : Int → Int} {c : Int} (h0 : 0 ≤ c) (h1 : c < 48) : wI f c 0 := ⟨fun a ha => by
  have : a = 0 := by omega
  subst this
  exact ⟨h0, h1⟩, fun a b ha hb _ => by omega⟩
theorem way_spec {f : Int → Int} {c N : Int} (hN : N ≤ 48) (hf : stepOK f N) (h0 : 0 ≤ c) (h1 : c < N) : wI f c (wayS f c).1 ∧ (∀ a, a ≤ (wayS f c).1 → itr f c a < N) ∧ (((wayS f c).2 = none ∧ itr f c ((wayS f c).1 + 1) < 0) ∨ ∃ a, (wayS f c).2 = some a ∧ a ≤ (wayS f c).1 ∧ itr f c ((wayS f c).1 + 1) = itr f c a) := by
  obtain ⟨g1, g2, g3, g4⟩ := wS_spec hN hf 48 0 (wI0 h0 (by omega)) (fun a ha => by
    have : a = 0 := by omega
    subst this
    exact h1) (by omega)
  exact ⟨g1, g2, g4⟩
