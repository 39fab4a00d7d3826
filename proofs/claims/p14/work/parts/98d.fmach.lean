/-! ===== the class's formula machine, purely: it answers as exG ===== -/
def stF (k : Int) : Int := if k = 15 then 1 else if k = 16 then 2 else if k = 43 ∨ k = 44 then 5 else if k = 45 ∨ k = 46 then 6 else if 47 ≤ k ∧ k ≤ 52 then 4 else 0
def bdF (p : Int) : Int := if p = 17 then 3 else stF p
def rlF (s : Int) : List (Int × Int) → List Int → List (Int × Int) × List Int
  | out, [] => (out, [])
  | out, p :: ws => if bdF p < s then (out, p :: ws) else rlF s (out ++ [(p, 0)]) ws
def tpF : List Int → Int
  | [] => 0
  | p :: _ => bdF p
/-- token, counted, put, waiting, open, compared, wants, may not -/
abbrev FSt : Type := Nat × Int × List (Int × Int) × List Int × Int × (Int → Bool) × Bool × Bool
def cz (cm : Int → Bool) (o : Int) (b : Bool) : Int → Bool := fun x => if x = o then b else cm x
theorem cz_self (cm : Int → Bool) (o : Int) (b : Bool) : cz cm o b o = b := if_pos rfl
theorem cz_ne {cm : Int → Bool} {o x : Int} (b : Bool) (h : ¬ x = o) : cz cm o b x = cm x := if_neg h
def sF (K W : Nat → Int) (i : Nat) (c : Int) (out : List (Int × Int)) (ws : List Int) (o : Int) (cm : Int → Bool) (wp mn : Bool) : Sum ER FSt :=
  if wp = true then
    (if K i = 41 then (if o = 8 then Sum.inl (2, i, 0, []) else Sum.inr (i + 1, c, out, 41 :: ws, o + 1, cz cm (o + 1) false, true, true))
     else if K i = 17 ∧ mn = true then (if c = 64 then Sum.inl (2, i, 0, []) else Sum.inr (i + 1, c + 1, out, 17 :: ws, o, cm, true, mn))
     else if K i = 31 ∨ (18 ≤ K i ∧ K i ≤ 24) then (if c = 64 ∨ (K i = 31 ∧ 9999 < W i) then Sum.inl (2, i, 0, []) else Sum.inr (i + 1, c + 1, out ++ [(K i, W i)], ws, o, cm, false, mn))
     else Sum.inl (1, i, 0, []))
  else if K i = 40 ∧ o = 0 then Sum.inl (0, i, c, (rlF 1 out ws).1)
  else if K i = 42 then (if o = 0 then Sum.inl (1, i, 0, []) else Sum.inr (i + 1, c, (rlF 1 out ws).1, (rlF 1 out ws).2.tail, o - 1, cm, false, mn))
  else if stF (K i) = 0 ∨ (stF (K i) = 4 ∧ cm o = true) then Sum.inl (1, i, 0, [])
  else if c = 64 then Sum.inl (2, i, 0, [])
  else Sum.inr (i + 1, c + 1, (rlF (stF (K i)) out ws).1, K i :: (rlF (stF (K i)) out ws).2, o, (if stF (K i) = 4 then cz cm o true else if stF (K i) < 4 then cz cm o false else cm), true, decide (stF (K i) < 4))
def rnF (K W : Nat → Int) : Nat → FSt → Option ER
  | 0, _ => none
  | f + 1, s => match sF K W s.1 s.2.1 s.2.2.1 s.2.2.2.1 s.2.2.2.2.1 s.2.2.2.2.2.1 s.2.2.2.2.2.2.1 s.2.2.2.2.2.2.2 with
    | Sum.inl r => some r
    | Sum.inr t => rnF K W f t
def RnF (K W : Nat → Int) (s : FSt) (r : ER) : Prop := ∃ f, rnF K W f s = some r
section FM
variable {K W : Nat → Int} {i : Nat} {c : Int} {out : List (Int × Int)} {ws : List Int} {o : Int} {cm : Int → Bool} {mn wp : Bool}
theorem sF_w : sF K W i c out ws o cm true mn = (if K i = 41 then (if o = 8 then Sum.inl (2, i, 0, []) else Sum.inr (i + 1, c, out, 41 :: ws, o + 1, cz cm (o + 1) false, true, true))
     else if K i = 17 ∧ mn = true then (if c = 64 then Sum.inl (2, i, 0, []) else Sum.inr (i + 1, c + 1, out, 17 :: ws, o, cm, true, mn))
     else if K i = 31 ∨ (18 ≤ K i ∧ K i ≤ 24) then (if c = 64 ∨ (K i = 31 ∧ 9999 < W i) then Sum.inl (2, i, 0, []) else Sum.inr (i + 1, c + 1, out ++ [(K i, W i)], ws, o, cm, false, mn))
     else Sum.inl (1, i, 0, [])) := if_pos rfl
theorem sF_s : sF K W i c out ws o cm false mn = (if K i = 40 ∧ o = 0 then Sum.inl (0, i, c, (rlF 1 out ws).1)
  else if K i = 42 then (if o = 0 then Sum.inl (1, i, 0, []) else Sum.inr (i + 1, c, (rlF 1 out ws).1, (rlF 1 out ws).2.tail, o - 1, cm, false, mn))
  else if stF (K i) = 0 ∨ (stF (K i) = 4 ∧ cm o = true) then Sum.inl (1, i, 0, [])
  else if c = 64 then Sum.inl (2, i, 0, [])
  else Sum.inr (i + 1, c + 1, (rlF (stF (K i)) out ws).1, K i :: (rlF (stF (K i)) out ws).2, o, (if stF (K i) = 4 then cz cm o true else if stF (K i) < 4 then cz cm o false else cm), true, decide (stF (K i) < 4))) := if_neg (by decide)
theorem rnF_s (f : Nat) : rnF K W (f + 1) (i, c, out, ws, o, cm, wp, mn) = (match sF K W i c out ws o cm wp mn with
    | Sum.inl r => some r
    | Sum.inr t => rnF K W f t) := rfl
theorem RnF.fin {r : ER} (h : sF K W i c out ws o cm wp mn = Sum.inl r) : RnF K W (i, c, out, ws, o, cm, wp, mn) r := ⟨1, by rw [rnF_s, h]⟩
theorem RnF.nxt {r : ER} {t : FSt} (h : sF K W i c out ws o cm wp mn = Sum.inr t) (g : RnF K W t r) : RnF K W (i, c, out, ws, o, cm, wp, mn) r := by
  obtain ⟨f, hf⟩ := g
  exact ⟨f + 1, by rw [rnF_s, h]; exact hf⟩
theorem stF_rng (k : Int) : stF k = 0 ∨ stF k = 1 ∨ stF k = 2 ∨ stF k = 4 ∨ stF k = 5 ∨ stF k = 6 := by
  unfold stF
  repeat (first | omega | split)
theorem stF_4 {k : Int} : stF k = 4 ↔ 47 ≤ k ∧ k ≤ 52 := by
  unfold stF
  constructor
  · intro h
    repeat (first | omega | split at h)
  · intro h
    repeat (first | omega | split)
theorem stF_ne {k : Int} (h : stF k ≠ 0) : k ≠ 40 ∧ k ≠ 42 := ⟨fun e => h (by rw [e]; rfl), fun e => h (by rw [e]; rfl)⟩
theorem rl_no {s : Int} (h : tpF ws < s) : rlF s out ws = (out, ws) := by
  cases ws with
  | nil => rfl
  | cons p ws =>
    rw [rlF]
    exact if_pos h
theorem rl_one {s p : Int} (h : s ≤ bdF p) : rlF s out (p :: ws) = rlF s (out ++ [(p, 0)]) ws := by rw [rlF, if_neg (by omega)]
/-- what waits and binds as strongly may be put at once -/
theorem RnF.rel {p : Int} {r : ER} (h : RnF K W (i, c, out ++ [(p, 0)], ws, o, cm, false, mn) r) (hp : 1 ≤ bdF p) (hk : stF (K i) ≤ bdF p ∨ (stF (K i) = 4 ∧ cm o = true)) : RnF K W (i, c, out, p :: ws, o, cm, false, mn) r := by
  have e : sF K W i c out (p :: ws) o cm false mn = sF K W i c (out ++ [(p, 0)]) ws o cm false mn := by
    rw [sF_s, sF_s, rl_one hp]
    by_cases b : stF (K i) = 0 ∨ (stF (K i) = 4 ∧ cm o = true)
    · rw [if_pos b, if_pos b]
    · have hk' : stF (K i) ≤ bdF p := by
        rcases hk with q | q
        · exact q
        · exact absurd (Or.inr q) b
      rw [rl_one hk']
  obtain ⟨f, hf⟩ := h
  cases f with
  | zero => exact absurd hf (by rw [rnF]; exact fun q => by cases q)
  | succ f => exact ⟨f + 1, by rw [rnF_s, e]; rw [rnF_s] at hf; exact hf⟩
theorem sF_op (h0 : stF (K i) ≠ 0) (h4 : ¬ (stF (K i) = 4 ∧ cm o = true)) (hc : c ≠ 64) (ht : tpF ws < stF (K i)) : sF K W i c out ws o cm false mn = Sum.inr (i + 1, c + 1, out, K i :: ws, o, (if stF (K i) = 4 then cz cm o true else if stF (K i) < 4 then cz cm o false else cm), true, decide (stF (K i) < 4)) := by
  have n := stF_ne h0
  rw [sF_s, if_neg (fun q => n.1 q.1), if_neg n.2, if_neg (fun q => by rcases q with q | q; exact h0 q; exact h4 q), if_neg hc, rl_no ht]
theorem sF_op64 (h0 : stF (K i) ≠ 0) (h4 : ¬ (stF (K i) = 4 ∧ cm o = true)) (hc : c = 64) : sF K W i c out ws o cm false mn = Sum.inl (2, i, 0, []) := by
  have n := stF_ne h0
  rw [sF_s, if_neg (fun q => n.1 q.1), if_neg n.2, if_neg (fun q => by rcases q with q | q; exact h0 q; exact h4 q), if_pos hc]
end FM
def uB (nt : Nat) : Int := if nt = 0 then 0 else if nt = 1 then 1 else if nt = 2 then 2 else if nt = 3 then 4 else if nt = 4 then 5 else 6
def mB (nt : Nat) : Int := if nt = 0 then 1 else if nt = 1 then 2 else if nt = 2 then 4 else if nt = 3 then 5 else if nt = 4 then 6 else 7
def ECF (nt : Nat) (k : Int) (b : Bool) : Prop := stF k ≤ uB nt ∨ (nt ≤ 2 ∧ stF k = 4 ∧ b = true)
def SimP (K W : Nat → Int) (nt : Nat) (o : Int) (i : Nat) (c : Int) (r : ER) : Prop := ∀ (out : List (Int × Int)) (ws : List Int) (cm : Int → Bool) (mn : Bool), (nt ≤ 2 → mn = true ∧ cm o = false) → (3 ≤ nt → mn = true → K i ≠ 17) → tpF ws < mB nt →
  (r.1 ≠ 0 → RnF K W (i, c, out, ws, o, cm, true, mn) (r.1, r.2.1, 0, [])) ∧
  (r.1 = 0 → ∃ cm' mn', (∀ x, x < o → cm' x = cm x) ∧ (3 ≤ nt → cm' o = cm o) ∧ ECF nt (K r.2.1) (cm' o) ∧ ∀ res, RnF K W (r.2.1, r.2.2.1, out ++ r.2.2.2, ws, o, cm', false, mn') res → RnF K W (i, c, out, ws, o, cm, true, mn) res)
abbrev nt4 (nt : Nat) : Prop := nt = 0 ∨ nt = 1 ∨ nt = 3 ∨ nt = 4
theorem op_st {nt : Nat} {k : Int} (h : nt4 nt) : opK nt k = true ↔ stF k = mB nt := by
  rcases h with rfl | rfl | rfl | rfl
  · show decide (k = 15) = true ↔ stF k = 1
    rw [decide_eq_true_iff]
    unfold stF
    exact ⟨fun e => by repeat (first | omega | split), fun e => by repeat (first | omega | split at e)⟩
  · show decide (k = 16) = true ↔ stF k = 2
    rw [decide_eq_true_iff]
    unfold stF
    exact ⟨fun e => by repeat (first | omega | split), fun e => by repeat (first | omega | split at e)⟩
  · show decide (k = 43 ∨ k = 44) = true ↔ stF k = 5
    rw [decide_eq_true_iff]
    unfold stF
    exact ⟨fun e => by repeat (first | omega | split), fun e => by repeat (first | omega | split at e)⟩
  · show decide (k = 45 ∨ k = 46) = true ↔ stF k = 6
    rw [decide_eq_true_iff]
    unfold stF
    exact ⟨fun e => by repeat (first | omega | split), fun e => by repeat (first | omega | split at e)⟩
theorem mB_facts {nt : Nat} (h : nt4 nt) : mB nt < mB (nt + 1) ∧ mB nt ≠ 0 ∧ mB nt ≠ 4 ∧ 1 ≤ mB nt ∧ mB nt ≤ 6 ∧ uB (nt + 1) = mB nt ∧ (nt ≤ 1 ↔ mB nt < 4) := by
  rcases h with rfl | rfl | rfl | rfl <;> decide
theorem ECF_stop {nt : Nat} {k : Int} {b : Bool} (h : nt4 nt) (e : ECF (nt + 1) k b) (n : ¬ stF k = mB nt) : ECF nt k b := by
  have r := stF_rng k
  unfold ECF at *
  rcases e with e | e
  · left
    have := (mB_facts h).2.2.2.2.2.1
    rcases h with rfl | rfl | rfl | rfl
    · change stF k ≤ 1 at e; change ¬ stF k = 1 at n; show stF k ≤ 0; omega
    · change stF k ≤ 2 at e; change ¬ stF k = 2 at n; show stF k ≤ 1; omega
    · change stF k ≤ 5 at e; change ¬ stF k = 5 at n; show stF k ≤ 4; omega
    · change stF k ≤ 6 at e; change ¬ stF k = 6 at n; show stF k ≤ 5; omega
  · exact Or.inr ⟨by omega, e.2⟩
theorem simL {K W : Nat → Int} {nt : Nat} {o : Int} {rc : Nat → Int → Option ER} (h4 : nt4 nt) (hrc : ∀ i c r, rc i c = some r → SimP K W (nt + 1) o i c r) : ∀ (fu i : Nat) (c : Int) (ol : List (Int × Int)) (r : ER), exL K (opK nt) rc fu i c ol = some r → ∀ (out : List (Int × Int)) (ws : List Int) (cm : Int → Bool) (mn : Bool), tpF ws < mB nt → ECF (nt + 1) (K i) (cm o) →
    (r.1 ≠ 0 → RnF K W (i, c, out ++ ol, ws, o, cm, false, mn) (r.1, r.2.1, 0, [])) ∧
    (r.1 = 0 → ∃ cm' mn', (∀ x, x < o → cm' x = cm x) ∧ (3 ≤ nt → cm' o = cm o) ∧ ECF nt (K r.2.1) (cm' o) ∧ ∀ res, RnF K W (r.2.1, r.2.2.1, out ++ r.2.2.2, ws, o, cm', false, mn') res → RnF K W (i, c, out ++ ol, ws, o, cm, false, mn) res) := by
  obtain ⟨b1, b2, b3, b4, b5, b6, b7⟩ := mB_facts h4
  intro fu
  induction fu with
  | zero => intro i c ol r h; rw [exL] at h; cases h
  | succ fu ih =>
    intro i c ol r h out ws cm mn g3 gE
    rw [exL] at h
    by_cases p : opK nt (K i) = true
    · rw [if_pos p] at h
      have ps := (op_st h4).mp p
      have q0 : stF (K i) ≠ 0 := by rw [ps]; exact b2
      have q4 : ¬ (stF (K i) = 4 ∧ cm o = true) := fun q => b3 (by rw [← ps]; exact q.1)
      by_cases c64 : c = 64
      · rw [if_pos c64] at h
        have e := Option.some.inj h
        subst e
        exact ⟨fun _ => RnF.fin (sF_op64 q0 q4 c64), fun q => absurd q (show ¬ (2 : Int) = 0 by decide)⟩
      · rw [if_neg c64] at h
        have st := sF_op (W := W) (out := out ++ ol) (mn := mn) q0 q4 c64 (by rw [ps]; exact g3)
        cases e : rc (i + 1) (c + 1) with
        | none => rw [e] at h; cases h
        | some r1 =>
          rw [e] at h
          change (if r1.1 = 0 then exL K (opK nt) rc fu r1.2.1 r1.2.2.1 (ol ++ r1.2.2.2 ++ [(K i, 0)]) else some r1) = some r at h
          obtain ⟨cm1, hcm1⟩ : ∃ cm1, cm1 = (if stF (K i) = 4 then cz cm o true else if stF (K i) < 4 then cz cm o false else cm) := ⟨_, rfl⟩
          rw [← hcm1] at st
          rw [ps, if_neg b3] at hcm1
          have cx : ∀ x, x < o → cm1 x = cm x := by
            intro x hx
            rw [hcm1]
            split
            · exact cz_ne _ (by omega)
            · rfl
          have c3 : 3 ≤ nt → cm1 o = cm o := by
            intro hx
            rw [hcm1, if_neg (fun z => by have := b7.mpr z; omega)]
          have bd : bdF (K i) = mB nt := by
            unfold bdF
            rw [if_neg (fun z => by rw [z] at ps; exact b2 (by rw [← ps]; rfl)), ps]
          obtain ⟨s1, s2⟩ := hrc (i + 1) (c + 1) r1 e (out ++ ol) (K i :: ws) cm1 (decide (stF (K i) < 4)) (fun z => by
            have := b7.mp (by omega)
            refine ⟨decide_eq_true (by omega), ?_⟩
            rw [hcm1, if_pos this]
            exact cz_self _ _ _) (fun z z2 => by
            have z3 := of_decide_eq_true z2
            have := b7.mpr (by omega)
            omega) (by show bdF (K i) < _; rw [bd]; exact b1)
          by_cases z : r1.1 = 0
          · rw [if_pos z] at h
            obtain ⟨cm2, mn2, t1, t2, t3, t4⟩ := s2 z
            have rl : ∀ res, RnF K W (r1.2.1, r1.2.2.1, out ++ (ol ++ r1.2.2.2 ++ [(K i, 0)]), ws, o, cm2, false, mn2) res → RnF K W (i, c, out ++ ol, ws, o, cm, false, mn) res := by
              intro res hr
              refine RnF.nxt st (t4 res (RnF.rel ?_ (by rw [bd]; exact b4) ?_))
              · rw [List.append_assoc, List.append_assoc]
                rw [List.append_assoc] at hr
                exact hr
              · rw [bd, ← b6]
                rcases t3 with t3 | t3
                · exact Or.inl t3
                · exact Or.inr t3.2
            obtain ⟨u1, u2⟩ := ih r1.2.1 r1.2.2.1 _ r h out ws cm2 mn2 g3 t3
            refine ⟨fun q => rl _ (u1 q), fun q => ?_⟩
            obtain ⟨cm3, mn3, v1, v2, v3, v4⟩ := u2 q
            exact ⟨cm3, mn3, fun x hx => ((v1 x hx).trans (t1 x hx)).trans (cx x hx), fun hx => ((v2 hx).trans (t2 (by omega))).trans (c3 hx), v3, fun res hr => rl res (v4 res hr)⟩
          · rw [if_neg z] at h
            have e2 := Option.some.inj h
            subst e2
            exact ⟨fun q => RnF.nxt st (s1 z), fun q => absurd q z⟩
    · rw [if_neg p] at h
      have e := Option.some.inj h
      subst e
      exact ⟨fun q => absurd rfl q, fun _ => ⟨cm, mn, fun x hx => rfl, fun _ => rfl, ECF_stop h4 gE (fun q => p ((op_st h4).mpr q)), fun res hr => hr⟩⟩
theorem simF {K W : Nat → Int} (hW : ∀ i, 18 ≤ K i → K i ≤ 24 → W i = 0) : ∀ (d nt : Nat) (o : Int) (i : Nat) (c : Int) (r : ER), nt ≤ 5 → 0 ≤ o → exG K W d nt o i c = some r → SimP K W nt o i c r := by
  intro d
  induction d with
  | zero => intro nt o i c r _ _ h; rw [exG] at h; cases h
  | succ d ih =>
    intro nt o i c r hn ho h
    rw [exG] at h
    by_cases n2 : nt = 2
    · subst n2
      rw [if_pos rfl] at h
      intro out ws cm mn g1 g2 g3
      obtain ⟨hmn, hcm⟩ := g1 (by omega)
      subst hmn
      have g3' : tpF ws < 4 := g3
      by_cases k17 : K i = 17
      · rw [if_pos k17] at h
        by_cases c64 : c = 64
        · rw [if_pos c64] at h
          have e := Option.some.inj h
          subst e
          exact ⟨fun _ => RnF.fin (by rw [sF_w, if_neg (by omega), if_pos ⟨k17, rfl⟩, if_pos c64]), fun q => absurd q (show ¬ (2 : Int) = 0 by decide)⟩
        · rw [if_neg c64] at h
          have st : sF K W i c out ws o cm true true = Sum.inr (i + 1, c + 1, out, 17 :: ws, o, cm, true, true) := by rw [sF_w, if_neg (by omega), if_pos ⟨k17, rfl⟩, if_neg c64]
          cases e : exG K W d 2 o (i + 1) (c + 1) with
          | none => rw [e] at h; cases h
          | some r1 =>
            rw [e] at h
            change (if r1.1 = 0 then some (0, r1.2.1, r1.2.2.1, r1.2.2.2 ++ [(17, 0)]) else some r1) = some r at h
            obtain ⟨s1, s2⟩ := ih 2 o (i + 1) (c + 1) r1 (by omega) ho e out (17 :: ws) cm true (fun _ => ⟨rfl, hcm⟩) (fun q => by omega) (by show (3 : Int) < 4; decide)
            by_cases z : r1.1 = 0
            · rw [if_pos z] at h
              have e2 := Option.some.inj h
              subst e2
              obtain ⟨cm', mn', t1, t2, t3, t4⟩ := s2 z
              refine ⟨fun q => absurd rfl q, fun _ => ⟨cm', mn', t1, t2, t3, fun res hr => RnF.nxt st (t4 res (RnF.rel ?_ (by decide) ?_))⟩⟩
              · rw [List.append_assoc]; exact hr
              · rcases t3 with t3 | t3
                · left
                  change stF (K r1.2.1) ≤ 2 at t3
                  show stF (K r1.2.1) ≤ 3
                  omega
                · exact Or.inr t3.2
            · rw [if_neg z] at h
              have e2 := Option.some.inj h
              subst e2
              exact ⟨fun q => RnF.nxt st (s1 z), fun q => absurd q z⟩
      · rw [if_neg k17] at h
        cases e : exG K W d 3 o i c with
        | none => rw [e] at h; cases h
        | some r1 =>
          rw [e] at h
          change (if r1.1 = 0 ∧ 47 ≤ K r1.2.1 ∧ K r1.2.1 ≤ 52 then (if r1.2.2.1 = 64 then some (2, r1.2.1, r1.2.2.1, r1.2.2.2) else (exG K W d 3 o (r1.2.1 + 1) (r1.2.2.1 + 1)).bind (fun r3 => if r3.1 = 0 then some (0, r3.2.1, r3.2.2.1, r1.2.2.2 ++ r3.2.2.2 ++ [(K r1.2.1, 0)]) else some r3)) else some r1) = some r at h
          obtain ⟨s1, s2⟩ := ih 3 o i c r1 (by omega) ho e out ws cm true (fun q => by omega) (fun _ _ => k17) (by show tpF ws < 5; omega)
          by_cases z : r1.1 = 0 ∧ 47 ≤ K r1.2.1 ∧ K r1.2.1 ≤ 52
          · rw [if_pos z] at h
            obtain ⟨cm', mn', t1, t2, t3, t4⟩ := s2 z.1
            have cmo : cm' o = false := (t2 (by omega)).trans hcm
            have s4 := stF_4.mpr z.2
            have q0 : stF (K r1.2.1) ≠ 0 := by omega
            have q4 : ¬ (stF (K r1.2.1) = 4 ∧ cm' o = true) := fun q => by rw [cmo] at q; exact absurd q.2 (by decide)
            by_cases c64 : r1.2.2.1 = 64
            · rw [if_pos c64] at h
              have e2 := Option.some.inj h
              subst e2
              exact ⟨fun _ => t4 _ (RnF.fin (sF_op64 q0 q4 c64)), fun q => absurd q (show ¬ (2 : Int) = 0 by decide)⟩
            · rw [if_neg c64] at h
              have st := sF_op (W := W) (out := out ++ r1.2.2.2) (mn := mn') q0 q4 c64 (ws := ws) (by omega)
              rw [s4, if_pos rfl] at st
              have bd : bdF (K r1.2.1) = 4 := by
                unfold bdF
                rw [if_neg (by omega), s4]
              cases e3 : exG K W d 3 o (r1.2.1 + 1) (r1.2.2.1 + 1) with
              | none => rw [e3] at h; cases h
              | some r3 =>
                rw [e3] at h
                change (if r3.1 = 0 then some (0, r3.2.1, r3.2.2.1, r1.2.2.2 ++ r3.2.2.2 ++ [(K r1.2.1, 0)]) else some r3) = some r at h
                obtain ⟨u1, u2⟩ := ih 3 o (r1.2.1 + 1) (r1.2.2.1 + 1) r3 (by omega) ho e3 (out ++ r1.2.2.2) (K r1.2.1 :: ws) (cz cm' o true) (decide ((4 : Int) < 4)) (fun q => by omega) (fun _ q => absurd q (by decide)) (by show bdF (K r1.2.1) < 5; omega)
                by_cases z3 : r3.1 = 0
                · rw [if_pos z3] at h
                  have e2 := Option.some.inj h
                  subst e2
                  obtain ⟨cm3, mn3, v1, v2, v3, v4⟩ := u2 z3
                  have cm3o : cm3 o = true := (v2 (by omega)).trans (cz_self _ _ _)
                  have st3 : stF (K r3.2.1) ≤ 4 := by
                    rcases v3 with v3 | v3
                    · exact v3
                    · omega
                  have sr := stF_rng (K r3.2.1)
                  refine ⟨fun q => absurd rfl q, fun _ => ⟨cm3, mn3, fun x hx => ((v1 x hx).trans (cz_ne _ (by omega))).trans (t1 x hx), fun q => by omega, ?_, fun res hr => t4 res (RnF.nxt st (v4 res (RnF.rel ?_ (by omega) (Or.inl (by omega)))))⟩⟩
                  · show ECF 2 (K r3.2.1) (cm3 o)
                    by_cases y : stF (K r3.2.1) = 4
                    · exact Or.inr ⟨by omega, y, cm3o⟩
                    · exact Or.inl (by show stF (K r3.2.1) ≤ 2; omega)
                  · rw [List.append_assoc, List.append_assoc]
                    rw [List.append_assoc] at hr
                    exact hr
                · rw [if_neg z3] at h
                  have e2 := Option.some.inj h
                  subst e2
                  exact ⟨fun q => t4 _ (RnF.nxt st (u1 z3)), fun q => absurd q z3⟩
          · rw [if_neg z] at h
            have e2 := Option.some.inj h
            subst e2
            refine ⟨s1, fun q => ?_⟩
            obtain ⟨cm', mn', t1, t2, t3, t4⟩ := s2 q
            refine ⟨cm', mn', t1, fun y => by omega, ?_, t4⟩
            have sr := stF_rng (K r1.2.1)
            have n4 : ¬ stF (K r1.2.1) = 4 := fun y => z ⟨q, stF_4.mp y⟩
            left
            rcases t3 with t3 | t3
            · change stF (K r1.2.1) ≤ 4 at t3
              show stF (K r1.2.1) ≤ 2
              omega
            · omega
    · rw [if_neg n2] at h
      by_cases n5 : nt = 5
      · subst n5
        rw [if_pos rfl] at h
        intro out ws cm mn g1 g2 g3
        have g2' := g2 (by omega)
        by_cases k41 : K i = 41
        · rw [if_pos k41] at h
          by_cases o8 : o = 8
          · rw [if_pos o8] at h
            have e := Option.some.inj h
            subst e
            exact ⟨fun _ => RnF.fin (by rw [sF_w, if_pos k41, if_pos o8]), fun q => absurd q (show ¬ (2 : Int) = 0 by decide)⟩
          · rw [if_neg o8] at h
            have st : sF K W i c out ws o cm true mn = Sum.inr (i + 1, c, out, 41 :: ws, o + 1, cz cm (o + 1) false, true, true) := by rw [sF_w, if_pos k41, if_neg o8]
            cases e : exG K W d 0 (o + 1) (i + 1) c with
            | none => rw [e] at h; cases h
            | some r1 =>
              rw [e] at h
              change (if r1.1 = 0 then (if K r1.2.1 = 42 then some (0, r1.2.1 + 1, r1.2.2.1, r1.2.2.2) else some (1, r1.2.1, r1.2.2.1, r1.2.2.2)) else some r1) = some r at h
              obtain ⟨s1, s2⟩ := ih 0 (o + 1) (i + 1) c r1 (by omega) (by omega) e out (41 :: ws) (cz cm (o + 1) false) true (fun _ => ⟨rfl, cz_self _ _ _⟩) (fun q => by omega) (by show bdF 41 < 1; decide)
              by_cases z : r1.1 = 0
              · rw [if_pos z] at h
                obtain ⟨cm', mn', t1, t2, t3, t4⟩ := s2 z
                have sr := stF_rng (K r1.2.1)
                by_cases k42 : K r1.2.1 = 42
                · rw [if_pos k42] at h
                  have e2 := Option.some.inj h
                  subst e2
                  refine ⟨fun q => absurd rfl q, fun _ => ⟨cm', mn', fun x hx => (t1 x (by omega)).trans (cz_ne _ (by omega)), fun _ => (t1 o (by omega)).trans (cz_ne _ (by omega)), Or.inl (by have := stF_rng (K (r1.2.1 + 1)); show stF (K (r1.2.1 + 1)) ≤ 6; omega), fun res hr => RnF.nxt st (t4 res (RnF.nxt (t := (r1.2.1 + 1, r1.2.2.1, out ++ r1.2.2.2, ws, o, cm', false, mn')) ?_ hr))⟩⟩
                  rw [sF_s, if_neg (fun q => by omega), if_pos k42, if_neg (by omega), rl_no (by show bdF 41 < 1; decide), show o + 1 - 1 = o by omega]
                  rfl
                · rw [if_neg k42] at h
                  have e2 := Option.some.inj h
                  subst e2
                  refine ⟨fun _ => RnF.nxt st (t4 _ (RnF.fin ?_)), fun q => absurd q (show ¬ (1 : Int) = 0 by decide)⟩
                  rw [sF_s, if_neg (fun q => by omega), if_neg k42, if_pos]
                  rcases t3 with t3 | t3
                  · left
                    change stF (K r1.2.1) ≤ 0 at t3
                    omega
                  · exact Or.inr t3.2
              · rw [if_neg z] at h
                have e2 := Option.some.inj h
                subst e2
                exact ⟨fun q => RnF.nxt st (s1 z), fun q => absurd q z⟩
        · rw [if_neg k41] at h
          have n17 : ¬ (K i = 17 ∧ mn = true) := fun q => g2' q.2 q.1
          by_cases k31 : K i = 31
          · rw [if_pos k31] at h
            by_cases w9 : 9999 < W i
            · rw [if_pos w9] at h
              have e := Option.some.inj h
              subst e
              exact ⟨fun _ => RnF.fin (by rw [sF_w, if_neg k41, if_neg n17, if_pos (Or.inl k31), if_pos (Or.inr ⟨k31, w9⟩)]), fun q => absurd q (show ¬ (2 : Int) = 0 by decide)⟩
            · rw [if_neg w9] at h
              by_cases c64 : c = 64
              · rw [if_pos c64] at h
                have e := Option.some.inj h
                subst e
                exact ⟨fun _ => RnF.fin (by rw [sF_w, if_neg k41, if_neg n17, if_pos (Or.inl k31), if_pos (Or.inl c64)]), fun q => absurd q (show ¬ (2 : Int) = 0 by decide)⟩
              · rw [if_neg c64] at h
                have e := Option.some.inj h
                subst e
                have sr := stF_rng (K (i + 1))
                refine ⟨fun q => absurd rfl q, fun _ => ⟨cm, mn, fun x hx => rfl, fun _ => rfl, Or.inl (by show stF (K (i + 1)) ≤ 6; omega), fun res hr => RnF.nxt (t := (i + 1, c + 1, out ++ [(K i, W i)], ws, o, cm, false, mn)) (by rw [sF_w, if_neg k41, if_neg n17, if_pos (Or.inl k31), if_neg (fun q => by rcases q with q | q; exact c64 q; exact w9 q.2)]) ?_⟩⟩
                rw [k31]
                exact hr
          · rw [if_neg k31] at h
            by_cases k18 : 18 ≤ K i ∧ K i ≤ 24
            · rw [if_pos k18] at h
              by_cases c64 : c = 64
              · rw [if_pos c64] at h
                have e := Option.some.inj h
                subst e
                exact ⟨fun _ => RnF.fin (by rw [sF_w, if_neg k41, if_neg n17, if_pos (Or.inr k18), if_pos (Or.inl c64)]), fun q => absurd q (show ¬ (2 : Int) = 0 by decide)⟩
              · rw [if_neg c64] at h
                have e := Option.some.inj h
                subst e
                have sr := stF_rng (K (i + 1))
                refine ⟨fun q => absurd rfl q, fun _ => ⟨cm, mn, fun x hx => rfl, fun _ => rfl, Or.inl (by show stF (K (i + 1)) ≤ 6; omega), fun res hr => RnF.nxt (t := (i + 1, c + 1, out ++ [(K i, W i)], ws, o, cm, false, mn)) (by rw [sF_w, if_neg k41, if_neg n17, if_pos (Or.inr k18), if_neg (fun q => by rcases q with q | q; exact c64 q; exact k31 q.1)]) ?_⟩⟩
                rw [hW i k18.1 k18.2]
                exact hr
            · rw [if_neg k18] at h
              have e := Option.some.inj h
              subst e
              exact ⟨fun _ => RnF.fin (by rw [sF_w, if_neg k41, if_neg n17, if_neg (fun q => by rcases q with q | q; exact k31 q; exact k18 q)]), fun q => absurd q (show ¬ (1 : Int) = 0 by decide)⟩
      · rw [if_neg n5] at h
        have h4 : nt4 nt := by unfold nt4; omega
        obtain ⟨b1, b2, b3, b4, b5, b6, b7⟩ := mB_facts h4
        intro out ws cm mn g1 g2 g3
        cases e : exG K W d (nt + 1) o i c with
        | none => rw [e] at h; cases h
        | some r1 =>
          rw [e] at h
          change (if r1.1 = 0 then exL K (opK nt) (fun i' c' => exG K W d (nt + 1) o i' c') FU r1.2.1 r1.2.2.1 r1.2.2.2 else some r1) = some r at h
          obtain ⟨s1, s2⟩ := ih (nt + 1) o i c r1 (by omega) ho e out ws cm mn (fun q => g1 (by omega)) (fun q => g2 (by unfold nt4 at h4; omega)) (by omega)
          by_cases z : r1.1 = 0
          · rw [if_pos z] at h
            obtain ⟨cm', mn', t1, t2, t3, t4⟩ := s2 z
            obtain ⟨u1, u2⟩ := simL h4 (fun i' c' r' hr => ih (nt + 1) o i' c' r' (by omega) ho hr) FU r1.2.1 r1.2.2.1 r1.2.2.2 r h out ws cm' mn' g3 t3
            refine ⟨fun q => t4 _ (u1 q), fun q => ?_⟩
            obtain ⟨cm3, mn3, v1, v2, v3, v4⟩ := u2 q
            exact ⟨cm3, mn3, fun x hx => (v1 x hx).trans (t1 x hx), fun hx => (v2 hx).trans (t2 (by omega)), v3, fun res hr => t4 res (v4 res hr)⟩
          · rw [if_neg z] at h
            have e2 := Option.some.inj h
            subst e2
            exact ⟨fun q => s1 z, fun q => absurd q z⟩
/-- the whole machine -/
theorem mach {K W : Nat → Int} (hW : ∀ i, 18 ≤ K i → K i ≤ 24 → W i = 0) {d i : Nat} {c : Int} {r : ER} (h : exG K W d 0 0 i c = some r) (cm : Int → Bool) (hcm : cm 0 = false) :
    (r.1 ≠ 0 → RnF K W (i, c, [], [], 0, cm, true, true) (r.1, r.2.1, 0, [])) ∧
    (r.1 = 0 → K r.2.1 = 40 → RnF K W (i, c, [], [], 0, cm, true, true) (0, r.2.1, r.2.2.1, r.2.2.2)) ∧
    (r.1 = 0 → K r.2.1 ≠ 40 → RnF K W (i, c, [], [], 0, cm, true, true) (1, r.2.1, 0, [])) := by
  obtain ⟨s1, s2⟩ := simF hW d 0 0 i c r (by omega) (by omega) h [] [] cm true (fun _ => ⟨rfl, hcm⟩) (fun q => by omega) (by show (0 : Int) < 1; decide)
  refine ⟨s1, fun z k => ?_, fun z k => ?_⟩
  · obtain ⟨cm', mn', t1, t2, t3, t4⟩ := s2 z
    exact t4 _ (RnF.fin (by rw [sF_s, if_pos ⟨k, rfl⟩]; rfl))
  · obtain ⟨cm', mn', t1, t2, t3, t4⟩ := s2 z
    have sr := stF_rng (K r.2.1)
    refine t4 _ (RnF.fin ?_)
    rw [sF_s, if_neg (fun q => k q.1)]
    by_cases k42 : K r.2.1 = 42
    · rw [if_pos k42, if_pos rfl]
    · rw [if_neg k42, if_pos]
      rcases t3 with t3 | t3
      · left
        change stF (K r.2.1) ≤ 0 at t3
        omega
      · exact Or.inr t3.2
/-- steps go token by token -/
theorem sF_next {K W : Nat → Int} {i : Nat} {c : Int} {out : List (Int × Int)} {ws : List Int} {o : Int} {cm : Int → Bool} {wp mn : Bool} {t : FSt} (h : sF K W i c out ws o cm wp mn = Sum.inr t) : t.1 = i + 1 ∧ K i ≠ 32 := by
  cases wp with
  | true =>
    rw [sF_w] at h
    (repeat' (split at h)) <;> first | (cases h; exact ⟨rfl, by omega⟩) | cases h
  | false =>
    rw [sF_s] at h
    by_cases k : K i = 32
    · rw [k, if_neg (fun q => absurd q.1 (by decide)), if_neg (by decide), if_pos (show stF 32 = 0 ∨ (stF 32 = 4 ∧ cm o = true) from Or.inl rfl)] at h
      cases h
    · (repeat' (split at h)) <;> first | (cases h; exact ⟨rfl, k⟩) | cases h
theorem rnF_fuel {K W : Nat → Int} {T : Nat} (hT : K T = 32) : ∀ (f g : Nat) (s : FSt) (r : ER), s.1 ≤ T → T + 1 ≤ g + s.1 → rnF K W f s = some r → rnF K W g s = some r := by
  intro f
  induction f with
  | zero => intro g s r _ _ h; rw [rnF] at h; cases h
  | succ f ih =>
    intro g s r h1 h2 h
    obtain ⟨g', rfl⟩ : ∃ g', g = g' + 1 := ⟨g - 1, by omega⟩
    rw [rnF] at h ⊢
    cases e : sF K W s.1 s.2.1 s.2.2.1 s.2.2.2.1 s.2.2.2.2.1 s.2.2.2.2.2.1 s.2.2.2.2.2.2.1 s.2.2.2.2.2.2.2 with
    | inl r1 => rw [e] at h; exact h
    | inr t =>
      rw [e] at h
      obtain ⟨n1, n2⟩ := sF_next e
      have : s.1 ≠ T := fun q => n2 (by rw [q]; exact hT)
      exact ih g' t r (by omega) (by omega) h
