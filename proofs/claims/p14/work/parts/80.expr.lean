/-! ===== formulas over tokens: what is to come out ===== -/
/-- fault (0), the token behind it (or the faulty one), knots counted, what is put -/
abbrev ER : Type := Int × Nat × Int × List (Int × Int)
def exL (K : Nat → Int) (op : Int → Bool) (rc : Nat → Int → Option ER) : Nat → Nat → Int → List (Int × Int) → Option ER
  | 0, _, _, _ => none
  | fu + 1, i, c, out => if op (K i) = true then (if c = 64 then some (2, i, c, out) else (rc (i + 1) (c + 1)).bind (fun r => if r.1 = 0 then exL K op rc fu r.2.1 r.2.2.1 (out ++ r.2.2.2 ++ [(K i, 0)]) else some r)) else some (0, i, c, out)
def opK (nt : Nat) (k : Int) : Bool := if nt = 0 then decide (k = 15) else if nt = 1 then decide (k = 16) else if nt = 3 then decide (k = 43 ∨ k = 44) else decide (k = 45 ∨ k = 46)
def exG (K W : Nat → Int) : Nat → Nat → Int → Nat → Int → Option ER
  | 0, _, _, _, _ => none
  | d + 1, nt, o, i, c =>
    if nt = 2 then
      (if K i = 17 then (if c = 64 then some (2, i, c, []) else (exG K W d 2 o (i + 1) (c + 1)).bind (fun r => if r.1 = 0 then some (0, r.2.1, r.2.2.1, r.2.2.2 ++ [(17, 0)]) else some r))
       else (exG K W d 3 o i c).bind (fun r => if r.1 = 0 ∧ 47 ≤ K r.2.1 ∧ K r.2.1 ≤ 52 then (if r.2.2.1 = 64 then some (2, r.2.1, r.2.2.1, r.2.2.2) else (exG K W d 3 o (r.2.1 + 1) (r.2.2.1 + 1)).bind (fun r3 => if r3.1 = 0 then some (0, r3.2.1, r3.2.2.1, r.2.2.2 ++ r3.2.2.2 ++ [(K r.2.1, 0)]) else some r3)) else some r))
    else if nt = 5 then
      (if K i = 41 then (if o = 8 then some (2, i, c, []) else (exG K W d 0 (o + 1) (i + 1) c).bind (fun r => if r.1 = 0 then (if K r.2.1 = 42 then some (0, r.2.1 + 1, r.2.2.1, r.2.2.2) else some (1, r.2.1, r.2.2.1, r.2.2.2)) else some r))
       else if K i = 31 then (if 9999 < W i then some (2, i, c, []) else if c = 64 then some (2, i, c, []) else some (0, i + 1, c + 1, [(31, W i)]))
       else if 18 ≤ K i ∧ K i ≤ 24 then (if c = 64 then some (2, i, c, []) else some (0, i + 1, c + 1, [(K i, 0)]))
       else some (1, i, c, []))
    else (exG K W d (nt + 1) o i c).bind (fun r => if r.1 = 0 then exL K (opK nt) (fun i' c' => exG K W d (nt + 1) o i' c') FU r.2.1 r.2.2.1 r.2.2.2 else some r)
/-! well made rows of knots -/
def dpL : List (Int × Int) → Int → Option Int
  | [], h => some h
  | x :: r, h => if x.1 = 17 then (if 1 ≤ h then dpL r h else none) else if ktwo x.1 then (if 2 ≤ h then dpL r (h - 1) else none) else if x.1 = 31 ∨ (18 ≤ x.1 ∧ x.1 ≤ 24) then dpL r (h + 1) else none
def wfL (l : List (Int × Int)) : Prop := ∀ h, 0 ≤ h → dpL l h = some (h + 1)
theorem dpL_app : ∀ (a b : List (Int × Int)) (h : Int), dpL (a ++ b) h = (dpL a h).bind (dpL b) := by
  intro a
  induction a with
  | nil => intro b h; rfl
  | cons x r ih =>
    intro b h
    rw [List.cons_append, dpL, dpL]
    split
    · split
      · exact ih b h
      · rfl
    · split
      · split
        · exact ih b (h - 1)
        · rfl
      · split
        · exact ih b (h + 1)
        · rfl
theorem wf_one {k v : Int} (h : k = 31 ∨ (18 ≤ k ∧ k ≤ 24)) : wfL [(k, v)] := by
  intro x hx
  rw [dpL, if_neg (by show ¬ k = 17; omega), if_neg (by show ¬ ktwo k; unfold ktwo; omega), if_pos h, dpL]
theorem wf_not {a : List (Int × Int)} (h : wfL a) : wfL (a ++ [(17, 0)]) := by
  intro x hx
  rw [dpL_app, h x hx]
  show dpL [(17, 0)] (x + 1) = _
  rw [dpL, if_pos rfl, if_pos (by omega), dpL]
theorem wf_two {a b : List (Int × Int)} {k : Int} (ha : wfL a) (hb : wfL b) (hk : ktwo k) : wfL (a ++ b ++ [(k, 0)]) := by
  intro x hx
  rw [dpL_app, dpL_app, ha x hx]
  show ((dpL b (x + 1)).bind (dpL [(k, 0)])) = _
  rw [hb (x + 1) (by omega)]
  show dpL [(k, 0)] (x + 1 + 1) = _
  rw [dpL, if_neg (by show ¬ k = 17; unfold ktwo at hk; omega), if_pos hk, if_pos (by omega), dpL, show x + 1 + 1 - 1 = x + 1 by omega]
/-- what a result keeps to -/
def RG (i : Nat) (c : Int) (r : ER) : Prop := (r.1 = 0 → i < r.2.1 ∧ c ≤ r.2.2.1 ∧ r.2.2.1 ≤ 64 ∧ (r.2.2.2.length : Int) = r.2.2.1 - c ∧ wfL r.2.2.2) ∧ (r.1 = 0 ∨ r.1 = 1 ∨ r.1 = 2)
theorem op_two {nt : Nat} {k : Int} (h : opK nt k = true) : ktwo k := by
  unfold opK at h
  unfold ktwo
  split at h
  · have := of_decide_eq_true h; omega
  · split at h
    · have := of_decide_eq_true h; omega
    · split at h
      · have := of_decide_eq_true h; omega
      · have := of_decide_eq_true h; omega
theorem op_end {nt : Nat} : opK nt 32 = false := by
  unfold opK
  split
  · rfl
  · split
    · rfl
    · split <;> rfl
section EXP
variable {K W : Nat → Int} {T : Nat}
theorem exL_facts {nt : Nat} {rc : Nat → Int → Option ER} {lo c0 : Int} (hT : ∀ x, T ≤ x → K x = 32) (hrc : ∀ i c, lo ≤ c → c ≤ 64 → ∃ r, rc i c = some r ∧ RG i c r) : ∀ (n i fu : Nat) (c : Int) (out : List (Int × Int)), T ≤ n + i → n < fu → lo ≤ c → c ≤ 64 → (out.length : Int) = c - c0 → wfL out →
    ∃ r, exL K (opK nt) rc fu i c out = some r ∧ (r.1 = 0 → i ≤ r.2.1 ∧ c ≤ r.2.2.1 ∧ r.2.2.1 ≤ 64 ∧ (r.2.2.2.length : Int) = r.2.2.1 - c0 ∧ wfL r.2.2.2 ∧ opK nt (K r.2.1) = false) ∧ (r.1 = 0 ∨ r.1 = 1 ∨ r.1 = 2) := by
  intro n
  induction n with
  | zero =>
    intro i fu c out g0 g1 g2 g3 g4 g5
    obtain ⟨g, rfl⟩ : ∃ g, fu = g + 1 := ⟨fu - 1, by omega⟩
    have : opK nt (K i) = false := by rw [hT i (by omega)]; exact op_end
    rw [exL, this, if_neg (by decide)]
    exact ⟨_, rfl, fun _ => ⟨Nat.le_refl _, Int.le_refl _, g3, g4, g5, this⟩, Or.inl rfl⟩
  | succ n ih =>
    intro i fu c out g0 g1 g2 g3 g4 g5
    obtain ⟨g, rfl⟩ : ∃ g, fu = g + 1 := ⟨fu - 1, by omega⟩
    rw [exL]
    cases e : opK nt (K i) with
    | false =>
      rw [if_neg (by decide)]
      exact ⟨_, rfl, fun _ => ⟨Nat.le_refl _, Int.le_refl _, g3, g4, g5, e⟩, Or.inl rfl⟩
    | true =>
      rw [if_pos rfl]
      by_cases c64 : c = 64
      · rw [if_pos c64]
        exact ⟨_, rfl, fun q => absurd (show (2 : Int) = 0 from q) (by decide), Or.inr (Or.inr rfl)⟩
      · rw [if_neg c64]
        obtain ⟨r, r1, r2, r3⟩ := hrc (i + 1) (c + 1) (by omega) (by omega)
        rw [r1]
        show ∃ r', (if r.1 = 0 then _ else some r) = some r' ∧ _
        by_cases z : r.1 = 0
        · rw [if_pos z]
          obtain ⟨s1, s2, s3, s4, s5⟩ := r2 z
          obtain ⟨r', t1, t2, t3⟩ := ih r.2.1 g r.2.2.1 (out ++ r.2.2.2 ++ [(K i, 0)]) (by omega) (by omega) (by omega) s3 (by simp only [List.length_append, List.length_cons, List.length_nil]; omega) (wf_two g5 s5 (op_two e))
          exact ⟨r', t1, fun q => by have := t2 q; exact ⟨by omega, by omega, this.2.2⟩, t3⟩
        · rw [if_neg z]
          exact ⟨r, rfl, fun q => absurd q z, r3⟩
/-- depth that is enough -/
def nd (nt : Nat) (o c : Int) : Int := 8 * (8 - o) + (64 - c) + (6 - (nt : Int)) + 10
theorem exG_facts (hT : ∀ x, T ≤ x → K x = 32) (hT2 : T < 1000000) : ∀ (d nt : Nat) (o : Int) (i : Nat) (c : Int), nt ≤ 5 → 0 ≤ o → o ≤ 8 → 0 ≤ c → c ≤ 64 → nd nt o c ≤ (d : Int) → ∃ r, exG K W d nt o i c = some r ∧ RG i c r := by
  intro d
  induction d with
  | zero => intro nt o i c h1 h2 h3 h4 h5 h6; unfold nd at h6; omega
  | succ d ih =>
    intro nt o i c h1 h2 h3 h4 h5 h6
    unfold nd at ih h6
    rw [exG]
    by_cases n2 : nt = 2
    · subst n2
      rw [if_pos rfl]
      by_cases k17 : K i = 17
      · rw [if_pos k17]
        by_cases c64 : c = 64
        · rw [if_pos c64]; exact ⟨_, rfl, fun q => absurd (show (2 : Int) = 0 from q) (by decide), Or.inr (Or.inr rfl)⟩
        · rw [if_neg c64]
          obtain ⟨r, r1, r2, r3⟩ := ih 2 o (i + 1) (c + 1) (by omega) h2 h3 (by omega) (by omega) (by omega)
          rw [r1]
          show ∃ r', (if r.1 = 0 then _ else some r) = some r' ∧ _
          by_cases z : r.1 = 0
          · rw [if_pos z]
            obtain ⟨s1, s2, s3, s4, s5⟩ := r2 z
            refine ⟨_, rfl, fun _ => ⟨by show i < r.2.1; omega, by show c ≤ r.2.2.1; omega, s3, ?_, wf_not s5⟩, Or.inl rfl⟩
            show ((r.2.2.2 ++ [(17, 0)]).length : Int) = r.2.2.1 - c
            simp only [List.length_append, List.length_cons, List.length_nil]; omega
          · rw [if_neg z]; exact ⟨r, rfl, fun q => absurd q z, r3⟩
      · rw [if_neg k17]
        obtain ⟨r, r1, r2, r3⟩ := ih 3 o i c (by omega) h2 h3 h4 h5 (by omega)
        rw [r1]
        show ∃ r', (if r.1 = 0 ∧ 47 ≤ K r.2.1 ∧ K r.2.1 ≤ 52 then _ else some r) = some r' ∧ _
        by_cases z : r.1 = 0 ∧ 47 ≤ K r.2.1 ∧ K r.2.1 ≤ 52
        · rw [if_pos z]
          obtain ⟨s1, s2, s3, s4, s5⟩ := r2 z.1
          by_cases c64 : r.2.2.1 = 64
          · rw [if_pos c64]; exact ⟨_, rfl, fun q => absurd (show (2 : Int) = 0 from q) (by decide), Or.inr (Or.inr rfl)⟩
          · rw [if_neg c64]
            obtain ⟨u, u1, u2, u3⟩ := ih 3 o (r.2.1 + 1) (r.2.2.1 + 1) (by omega) h2 h3 (by omega) (by omega) (by omega)
            rw [u1]
            show ∃ r', (if u.1 = 0 then _ else some u) = some r' ∧ _
            by_cases z2 : u.1 = 0
            · rw [if_pos z2]
              obtain ⟨v1, v2, v3, v4, v5⟩ := u2 z2
              refine ⟨_, rfl, fun _ => ⟨by show i < u.2.1; omega, by show c ≤ u.2.2.1; omega, v3, ?_, wf_two s5 v5 (by unfold ktwo; omega)⟩, Or.inl rfl⟩
              show ((r.2.2.2 ++ u.2.2.2 ++ [(K r.2.1, 0)]).length : Int) = u.2.2.1 - c
              simp only [List.length_append, List.length_cons, List.length_nil]; omega
            · rw [if_neg z2]; exact ⟨u, rfl, fun q => absurd q z2, u3⟩
        · rw [if_neg z]
          exact ⟨r, rfl, r2, r3⟩
    · rw [if_neg n2]
      by_cases n5 : nt = 5
      · subst n5
        rw [if_pos rfl]
        by_cases k41 : K i = 41
        · rw [if_pos k41]
          by_cases o8 : o = 8
          · rw [if_pos o8]; exact ⟨_, rfl, fun q => absurd (show (2 : Int) = 0 from q) (by decide), Or.inr (Or.inr rfl)⟩
          · rw [if_neg o8]
            obtain ⟨r, r1, r2, r3⟩ := ih 0 (o + 1) (i + 1) c (by omega) (by omega) (by omega) h4 h5 (by omega)
            rw [r1]
            show ∃ r', (if r.1 = 0 then _ else some r) = some r' ∧ _
            by_cases z : r.1 = 0
            · rw [if_pos z]
              obtain ⟨s1, s2, s3, s4, s5⟩ := r2 z
              by_cases k42 : K r.2.1 = 42
              · rw [if_pos k42]; exact ⟨_, rfl, fun _ => ⟨by show i < r.2.1 + 1; omega, s2, s3, s4, s5⟩, Or.inl rfl⟩
              · rw [if_neg k42]; exact ⟨_, rfl, fun q => absurd (show (1 : Int) = 0 from q) (by decide), Or.inr (Or.inl rfl)⟩
            · rw [if_neg z]; exact ⟨r, rfl, fun q => absurd q z, r3⟩
        · rw [if_neg k41]
          by_cases k31 : K i = 31
          · rw [if_pos k31]
            by_cases w9 : 9999 < W i
            · rw [if_pos w9]; exact ⟨_, rfl, fun q => absurd (show (2 : Int) = 0 from q) (by decide), Or.inr (Or.inr rfl)⟩
            · rw [if_neg w9]
              by_cases c64 : c = 64
              · rw [if_pos c64]; exact ⟨_, rfl, fun q => absurd (show (2 : Int) = 0 from q) (by decide), Or.inr (Or.inr rfl)⟩
              · rw [if_neg c64]
                exact ⟨_, rfl, fun _ => ⟨by show i < i + 1; omega, by show c ≤ c + 1; omega, by show c + 1 ≤ 64; omega, by show (([(31, W i)] : List (Int × Int)).length : Int) = c + 1 - c; simp only [List.length_cons, List.length_nil]; omega, wf_one (Or.inl rfl)⟩, Or.inl rfl⟩
          · rw [if_neg k31]
            by_cases k18 : 18 ≤ K i ∧ K i ≤ 24
            · rw [if_pos k18]
              by_cases c64 : c = 64
              · rw [if_pos c64]; exact ⟨_, rfl, fun q => absurd (show (2 : Int) = 0 from q) (by decide), Or.inr (Or.inr rfl)⟩
              · rw [if_neg c64]
                exact ⟨_, rfl, fun _ => ⟨by show i < i + 1; omega, by show c ≤ c + 1; omega, by show c + 1 ≤ 64; omega, by show (([(K i, 0)] : List (Int × Int)).length : Int) = c + 1 - c; simp only [List.length_cons, List.length_nil]; omega, wf_one (Or.inr k18)⟩, Or.inl rfl⟩
            · rw [if_neg k18]; exact ⟨_, rfl, fun q => absurd (show (1 : Int) = 0 from q) (by decide), Or.inr (Or.inl rfl)⟩
      · rw [if_neg n5]
        obtain ⟨r, r1, r2, r3⟩ := ih (nt + 1) o i c (by omega) h2 h3 h4 h5 (by push_cast; omega)
        rw [r1]
        show ∃ r', (if r.1 = 0 then _ else some r) = some r' ∧ _
        by_cases z : r.1 = 0
        · rw [if_pos z]
          obtain ⟨s1, s2, s3, s4, s5⟩ := r2 z
          obtain ⟨r', t1, t2, t3⟩ := exL_facts (nt := nt) (rc := fun i' c' => exG K W d (nt + 1) o i' c') (lo := c) (c0 := c) hT (fun i' c' a b => ih (nt + 1) o i' c' (by omega) h2 h3 (by omega) b (by push_cast; omega)) T r.2.1 FU r.2.2.1 r.2.2.2 (by omega) (fu_big hT2) s2 s3 s4 s5
          exact ⟨r', t1, fun q => by have := t2 q; exact ⟨by omega, by omega, this.2.2.1, this.2.2.2.1, this.2.2.2.2.1⟩, t3⟩
        · rw [if_neg z]; exact ⟨r, rfl, fun q => absurd q z, r3⟩
end EXP
