/-! ===== tokens: what is to come out ===== -/
def ltB (c : Int) : Bool := decide (97 ≤ c ∧ c ≤ 122)
def dgB (c : Int) : Bool := decide (48 ≤ c ∧ c ≤ 57)
def blB (c : Int) : Bool := decide (c = 10 ∨ c = 32)
def rnS (p : Int → Bool) (B : Int → Int) (n : Int) : Nat → Int → Int
  | 0, a => a
  | f + 1, a => if a < n ∧ p (B a) = true then rnS p B n f (a + 1) else a
def rnE (p : Int → Bool) (B : Int → Int) (n a : Int) : Int := rnS p B n 1000 a
theorem rn_facts {p : Int → Bool} {B : Int → Int} {n : Int} : ∀ (f : Nat) (a : Int), a ≤ n → n - a ≤ (f : Int) → (a ≤ rnS p B n f a ∧ rnS p B n f a ≤ n) ∧ (∀ x, a ≤ x → x < rnS p B n f a → p (B x) = true) ∧ (rnS p B n f a < n → p (B (rnS p B n f a)) = false) := by
  intro f
  induction f with
  | zero =>
    intro a h1 h2
    rw [rnS]
    exact ⟨⟨by omega, h1⟩, fun x a b => by omega, fun q => by omega⟩
  | succ f ih =>
    intro a h1 h2
    rw [rnS]
    by_cases c : a < n ∧ p (B a) = true
    · rw [if_pos c]
      obtain ⟨g1, g2, g3⟩ := ih (a + 1) (by omega) (by omega)
      refine ⟨⟨by omega, g1.2⟩, fun x x0 x1 => ?_, g3⟩
      by_cases e : x = a
      · rw [e]; exact c.2
      · exact g2 x (by omega) x1
    · rw [if_neg c]
      refine ⟨⟨by omega, h1⟩, fun x a b => by omega, fun q => ?_⟩
      cases e : p (B a) with
      | false => rfl
      | true => exact absurd ⟨q, e⟩ c
theorem rnE_facts {p : Int → Bool} {B : Int → Int} {n a : Int} (h0 : 0 ≤ a) (h1 : a ≤ n) (hn : n ≤ 700) : (a ≤ rnE p B n a ∧ rnE p B n a ≤ n) ∧ (∀ x, a ≤ x → x < rnE p B n a → p (B x) = true) ∧ (rnE p B n a < n → p (B (rnE p B n a)) = false) := rn_facts 1000 a h1 (by omega)
/-- a run's end is determined -/
theorem rnE_eq {p : Int → Bool} {B : Int → Int} {n a e : Int} (h0 : 0 ≤ a) (hn : n ≤ 700) (h1 : a ≤ e) (h2 : e ≤ n) (h3 : ∀ x, a ≤ x → x < e → p (B x) = true) (h4 : e < n → p (B e) = false) : rnE p B n a = e := by
  obtain ⟨g1, g2, g3⟩ := rnE_facts (p := p) (B := B) (n := n) (a := a) h0 (by omega) hn
  by_cases c : rnE p B n a < e
  · have := h3 _ g1.1 c
    rw [g3 (by omega)] at this
    cases this
  · by_cases c2 : e < rnE p B n a
    · have := g2 e h1 c2
      rw [h4 (by omega)] at this
      cases this
    · omega
/-! words -/
def nsS : Nat → Int → Int
  | 0, i => i
  | f + 1, i => if chW i = 32 then i else nsS f (i + 1)
def nxW (i : Int) : Int := nsS 126 i
theorem nx_all : ∀ i : Nat, i < 126 → ((i : Int) ≤ nxW i ∧ nxW i < 126 ∧ chW (nxW i) = 32) := by decide +kernel
theorem nx_bet : ∀ i : Nat, i < 126 → ∀ j : Nat, j < 8 → (i : Int) + (j : Int) < nxW i → chW ((i : Int) + (j : Int)) ≠ 32 := by decide +kernel
def stW : Nat → Int
  | 0 => 0
  | k + 1 => nxW (stW k) + 1
theorem st_all : ∀ k : Nat, k < 25 → (0 ≤ stW k ∧ stW k < 126 ∧ nxW (stW k) - stW k ≤ 7 ∧ 1 ≤ nxW (stW k) - stW k) := by decide +kernel
theorem st_end : stW 25 = 126 := by decide +kernel
def mtS (B : Int → Int) (p s : Int) : Nat → Bool
  | 0 => true
  | k + 1 => mtS B p s k && decide (B (p + (k : Int)) = chW (s + (k : Int)))
theorem mtS_mono {B : Int → Int} {p s : Int} : ∀ {k m : Nat}, k ≤ m → mtS B p s k = false → mtS B p s m = false := by
  intro k m h e
  induction m with
  | zero => rw [show k = 0 by omega] at e; exact e
  | succ m ih =>
    by_cases q : k = m + 1
    · rw [← q]; exact e
    · rw [mtS, ih (by omega)]; rfl
/-- the k-th word or one behind it: m more are looked at -/
def wdS (B : Int → Int) (p len : Int) : Nat → Nat → Int
  | 0, _ => -1
  | m + 1, k => if nxW (stW k) - stW k = len ∧ mtS B p (stW k) len.toNat = true then (k : Int) else wdS B p len m (k + 1)
def wordS (B : Int → Int) (p len : Int) : Int := wdS B p len 25 0
theorem wd_rng (B : Int → Int) (p len : Int) : ∀ (m k : Nat), m + k = 25 → -1 ≤ wdS B p len m k ∧ wdS B p len m k ≤ 24 := by
  intro m
  induction m with
  | zero => intro k _; rw [wdS]; omega
  | succ m ih =>
    intro k h
    rw [wdS]
    split
    · omega
    · exact ih (k + 1) (by omega)
/-! names, numbers, signs -/
def nlS (B : Int → Int) (p e : Int) (k : Int) : Int := if p + k < e then B (p + k) - 96 else 0
def nvS (B : Int → Int) (p e : Int) : Nat → Int
  | 0 => 0
  | k + 1 => nvS B p e k * 32 + nlS B p e (k : Int)
def dvS (B : Int → Int) (p : Int) : Nat → Int
  | 0 => 0
  | k + 1 => q_min (dvS B p k * 10 + (B (p + (k : Int)) - 48)) 1000000
def nvR (r v : Int) : Prop := (0 ≤ r ∧ r ≤ 9999999) ∧ (0 ≤ v ∧ v ≤ 1000000) ∧ (r = v ∨ (99999 < r ∧ 99999 < v))
def sgK (c c2 : Int) : Int := if c = 59 then 40 else if c = 40 then 41 else if c = 41 then 42 else if c = 43 then 43 else if c = 45 then 44 else if c = 42 then 45 else if c = 47 then 46 else if c = 60 then (if c2 = 61 then 48 else if c2 = 62 then 50 else 47) else if c = 61 then 49 else if c = 62 then (if c2 = 61 then 51 else 52) else 33
def sgV (k : Int) : Int := if k = 40 then 59 else if k = 41 then 40 else if k = 42 then 41 else if k = 43 then 43 else if k = 44 then 45 else if k = 45 then 42 else if k = 46 then 47 else if k = 47 then 60 else if k = 48 then 256 else if k = 49 then 61 else if k = 50 then 257 else if k = 51 then 258 else 62
def sgL (k : Int) : Int := if k = 48 ∨ k = 50 ∨ k = 51 then 2 else 1
/-- one token: kind, value, place, what comes behind it -/
def tkS (B : Int → Int) (n a : Int) : Int × Int × Int × Int :=
  if n ≤ rnE blB B n a then (32, 0, rnE blB B n a, rnE blB B n a)
  else if ltB (B (rnE blB B n a)) = true then
    (if 0 ≤ wordS B (rnE blB B n a) (rnE ltB B n (rnE blB B n a) - rnE blB B n a) then (wordS B (rnE blB B n a) (rnE ltB B n (rnE blB B n a) - rnE blB B n a), 0, rnE blB B n a, rnE ltB B n (rnE blB B n a))
     else if rnE ltB B n (rnE blB B n a) - rnE blB B n a ≤ 6 then (30, nvS B (rnE blB B n a) (rnE ltB B n (rnE blB B n a)) 6, rnE blB B n a, rnE ltB B n (rnE blB B n a))
     else (33, 0, rnE blB B n a, rnE ltB B n (rnE blB B n a)))
  else if dgB (B (rnE blB B n a)) = true then (31, dvS B (rnE blB B n a) (rnE dgB B n (rnE blB B n a) - rnE blB B n a).toNat, rnE blB B n a, rnE dgB B n (rnE blB B n a))
  else (sgK (B (rnE blB B n a)) (if rnE blB B n a + 1 < n then B (rnE blB B n a + 1) else -1), 0, rnE blB B n a, rnE blB B n a + sgL (sgK (B (rnE blB B n a)) (if rnE blB B n a + 1 < n then B (rnE blB B n a + 1) else -1)))
theorem sgK_rng (c c2 : Int) : sgK c c2 = 33 ∨ (40 ≤ sgK c c2 ∧ sgK c c2 ≤ 52) := by
  unfold sgK
  repeat (first | omega | split)
abbrev kOK (k : Int) : Prop := (0 ≤ k ∧ k ≤ 24) ∨ (30 ≤ k ∧ k ≤ 33) ∨ (40 ≤ k ∧ k ≤ 52)
theorem sgK_two {c c2 : Int} (h : sgK c c2 = 48 ∨ sgK c c2 = 50 ∨ sgK c c2 = 51) : c2 = 61 ∨ c2 = 62 := by
  unfold sgK at h
  repeat (first | omega | split at h)
theorem tok_facts {B : Int → Int} {n a : Int} (h0 : 0 ≤ a) (h1 : a ≤ n) (hn : n ≤ 700) : kOK (tkS B n a).1 ∧ (a ≤ (tkS B n a).2.2.1 ∧ (tkS B n a).2.2.1 ≤ n) ∧ (tkS B n a).2.2.2 ≤ n ∧ (((tkS B n a).1 = 32 ∧ (tkS B n a).2.2.1 = n ∧ (tkS B n a).2.2.2 = n) ∨ ((tkS B n a).1 ≠ 32 ∧ (tkS B n a).2.2.1 < (tkS B n a).2.2.2)) := by
  obtain ⟨g1, g2, g3⟩ := rnE_facts (p := blB) (B := B) h0 h1 hn
  unfold tkS
  generalize rnE blB B n a = p at *
  by_cases c1 : n ≤ p
  · rw [if_pos c1]; exact ⟨by show kOK 32; omega, by show a ≤ p ∧ p ≤ n; omega, g1.2, Or.inl ⟨rfl, by show p = n; omega, by show p = n; omega⟩⟩
  · rw [if_neg c1]
    by_cases c2 : ltB (B p) = true
    · rw [if_pos c2]
      obtain ⟨l1, l2, l3⟩ := rnE_facts (p := ltB) (B := B) (n := n) (a := p) (by omega) (by omega) hn
      have lt : p < rnE ltB B n p := by
        by_cases q : rnE ltB B n p = p
        · have := l3 (by omega)
          rw [q, c2] at this
          cases this
        · omega
      have hw := wd_rng B p (rnE ltB B n p - p) 25 0 rfl
      by_cases c3 : 0 ≤ wordS B p (rnE ltB B n p - p)
      · rw [if_pos c3]
        change -1 ≤ wordS B p (rnE ltB B n p - p) ∧ wordS B p (rnE ltB B n p - p) ≤ 24 at hw
        refine ⟨?_, ?_, l1.2, Or.inr ⟨?_, lt⟩⟩
        · show kOK (wordS B p (rnE ltB B n p - p)); unfold kOK; omega
        · show a ≤ p ∧ p ≤ n; omega
        · show wordS B p (rnE ltB B n p - p) ≠ 32; omega
      · rw [if_neg c3]
        by_cases c4 : rnE ltB B n p - p ≤ 6
        · rw [if_pos c4]; exact ⟨by show kOK 30; omega, by show a ≤ p ∧ p ≤ n; omega, l1.2, Or.inr ⟨by show (30 : Int) ≠ 32; decide, lt⟩⟩
        · rw [if_neg c4]; exact ⟨by show kOK 33; omega, by show a ≤ p ∧ p ≤ n; omega, l1.2, Or.inr ⟨by show (33 : Int) ≠ 32; decide, lt⟩⟩
    · rw [if_neg c2]
      by_cases c3 : dgB (B p) = true
      · rw [if_pos c3]
        obtain ⟨l1, l2, l3⟩ := rnE_facts (p := dgB) (B := B) (n := n) (a := p) (by omega) (by omega) hn
        have lt : p < rnE dgB B n p := by
          by_cases q : rnE dgB B n p = p
          · have := l3 (by omega)
            rw [q, c3] at this
            cases this
          · omega
        exact ⟨by show kOK 31; omega, by show a ≤ p ∧ p ≤ n; omega, l1.2, Or.inr ⟨by show (31 : Int) ≠ 32; decide, lt⟩⟩
      · rw [if_neg c3]
        have hs := sgK_rng (B p) (if p + 1 < n then B (p + 1) else -1)
        have ht := @sgK_two (B p) (if p + 1 < n then B (p + 1) else -1)
        have hc2 : (if p + 1 < n then B (p + 1) else (-1 : Int)) = 61 ∨ (if p + 1 < n then B (p + 1) else (-1 : Int)) = 62 → p + 1 < n := by
          intro q
          split at q
          · assumption
          · omega
        generalize sgK (B p) (if p + 1 < n then B (p + 1) else -1) = k at *
        refine ⟨?_, by show a ≤ p ∧ p ≤ n; omega, ?_, Or.inr ⟨by show k ≠ 32; omega, ?_⟩⟩
        · show kOK k; unfold kOK; omega
        · show p + sgL k ≤ n
          unfold sgL
          split
          · rename_i q; have := hc2 (ht q); omega
          · omega
        · show p < p + sgL k
          unfold sgL
          split <;> omega
/-- the stream -/
def tkA (B : Int → Int) (n : Int) : Nat → Int
  | 0 => 0
  | i + 1 => (tkS B n (tkA B n i)).2.2.2
def tK (B : Int → Int) (n : Int) (i : Nat) : Int := (tkS B n (tkA B n i)).1
def tW (B : Int → Int) (n : Int) (i : Nat) : Int := (tkS B n (tkA B n i)).2.1
def tP (B : Int → Int) (n : Int) (i : Nat) : Int := (tkS B n (tkA B n i)).2.2.1
theorem tA_rng {B : Int → Int} {n : Int} (h0 : 0 ≤ n) (hn : n ≤ 700) : ∀ i : Nat, (0 ≤ tkA B n i ∧ tkA B n i ≤ n) ∧ ((i : Int) ≤ tkA B n i ∨ tkA B n i = n) := by
  intro i
  induction i with
  | zero => exact ⟨⟨Int.le_refl _, h0⟩, Or.inl (Int.le_refl _)⟩
  | succ i ih =>
    have t := tok_facts (B := B) ih.1.1 ih.1.2 hn
    rw [tkA]
    refine ⟨⟨by omega, t.2.2.1⟩, ?_⟩
    rcases t.2.2.2 with q | q
    · right; exact q.2.2
    · rcases ih.2 with z | z
      · left; omega
      · right; omega
theorem tK_ok {B : Int → Int} {n : Int} (h0 : 0 ≤ n) (hn : n ≤ 700) (i : Nat) : kOK (tK B n i) := (tok_facts (tA_rng h0 hn i).1.1 (tA_rng h0 hn i).1.2 hn).1
theorem tK_end {B : Int → Int} {n : Int} (h0 : 0 ≤ n) (hn : n ≤ 700) {i : Nat} (hi : n ≤ (i : Int)) : tK B n i = 32 := by
  have a := tA_rng (B := B) h0 hn i
  have t := tok_facts (B := B) a.1.1 a.1.2 hn
  rcases t.2.2.2 with q | q
  · exact q.1
  · omega
theorem tK_stay {B : Int → Int} {n : Int} (h0 : 0 ≤ n) (hn : n ≤ 700) {i : Nat} (h : tK B n i = 32) : tK B n (i + 1) = 32 := by
  have a := tA_rng (B := B) h0 hn i
  have t := tok_facts (B := B) a.1.1 a.1.2 hn
  have a2 := tA_rng (B := B) h0 hn (i + 1)
  have t2 := tok_facts (B := B) a2.1.1 a2.1.2 hn
  have e : tkA B n (i + 1) = (tkS B n (tkA B n i)).2.2.2 := rfl
  rcases t.2.2.2 with q | q
  · rcases t2.2.2.2 with q2 | q2
    · exact q2.1
    · omega
  · exact absurd h q.1
