section
/-! ===== formulas: the reference goes as said ===== -/
section MG
variable {B : Int → Int} {n : Int}
theorem tK_T (h : 0 ≤ n ∧ n ≤ 700) : ∀ x, n.toNat ≤ x → tK B n x = 32 := fun x hx => tK_end h.1 h.2 (by omega)
theorem EP.nr {M : Mem} {i : Nat} {c o q : Int} (h : EP M B n i c o q) : 0 ≤ n ∧ n ≤ 700 := h.1.1
theorem op_T (h : 0 ≤ n ∧ n ≤ 700) (nt : Nat) : ∀ x, n.toNat ≤ x → opK nt (tK B n x) = false := fun x hx => by rw [tK_T h x hx]; exact op_end
/-- what the pieces of depth d keep to -/
def MG (B : Int → Int) (n : Int) (d : Nat) : Prop := ∀ (nt : Nat) (o : Int) (i : Nat) (c q : Int) (M : Mem) (r : ER), nt ≤ 5 → 0 ≤ o → o ≤ 8 → 0 ≤ q → q ≤ c → c ≤ 64 → nd nt o c ≤ (d : Int) → EP M B n i c o q → exG (tK B n) (tW B n) d nt o i c = some r → XR M B n o q r (t_MO_G d nt M)
/-- the four loops, over any of them -/
theorem m_loop4 {d nt : Nat} {F : Nat → Mem → Option Mem} (hd : MG B n d) (hnt : nt ≤ 4)
    (Fa : ∀ fu M i c o q, EP M B n i c o q → opK nt (tK B n i) = false → F (fu + 1) M = some M)
    (Fb : ∀ fu M, ¬ M.1 191 24 = 0 → F (fu + 1) M = some M)
    (Fc : ∀ fu M i c o q, EP M B n i c o q → opK nt (tK B n i) = true → F (fu + 1) M = obind (t_MO_goOn (t_MO_knot M)) fun q8 => obind (t_MO_G d (nt + 1) q8) fun q10 => obind (t_MO_puts q10 2 (kval (tK B n i) 0)) fun q12 => F fu q12)
    {o : Int} {i : Nat} {c q : Int} {M : Mem} {r : ER} (o0 : 0 ≤ o) (o1 : o ≤ 8) (q0 : 0 ≤ q) (q1 : q ≤ c) (c1 : c ≤ 64) (hn : nd nt o c ≤ (d : Int) + 1) (hE : EP M B n i c o q)
    (h : (exG (tK B n) (tW B n) d (nt + 1) o i c).bind (fun r => if r.1 = 0 then exL (tK B n) (opK nt) (fun i' c' => exG (tK B n) (tW B n) d (nt + 1) o i' c') FU r.2.1 r.2.2.1 r.2.2.2 else some r) = some r) :
    XR M B n o q r (obind (t_MO_G d (nt + 1) M) fun q1 => F FU q1) := by
  obtain ⟨f, hf⟩ := fu_succ
  have hN := hE.nr
  have hT : ∀ x, n.toNat ≤ x → tK B n x = 32 := tK_T hN
  unfold nd at hn
  cases e1 : exG (tK B n) (tW B n) d (nt + 1) o i c with
  | none => rw [e1] at h; cases h
  | some r1 =>
    rw [e1] at h
    have h : (if r1.1 = 0 then exL (tK B n) (opK nt) (fun i' c' => exG (tK B n) (tW B n) d (nt + 1) o i' c') FU r1.2.1 r1.2.2.1 r1.2.2.2 else some r1) = some r := h
    obtain ⟨N1, x1, x2, x3⟩ := hd (nt + 1) o i c q M r1 (by omega) o0 o1 q0 q1 c1 (by unfold nd; push_cast; omega) hE e1
    rw [x1, obind_some]
    obtain ⟨rr, ea, eb⟩ := exG_facts (K := tK B n) (W := tW B n) hT (by omega) d (nt + 1) o i c (by omega) o0 o1 (by omega) c1 (by unfold nd; push_cast; omega)
    rw [e1] at ea
    have ea := Option.some.inj ea
    subst ea
    rcases x3 with ⟨z, y1, y2⟩ | ⟨z, y1, y2⟩
    · rw [if_pos z] at h
      obtain ⟨s1, s2, s3, s4, s5⟩ := eb.1 z
      exact m_opL (T := n.toNat) (F := F) (op := opK nt) (rc := fun i' c' => exG (tK B n) (tW B n) d (nt + 1) o i' c') (G := t_MO_G d (nt + 1)) (lo := c) q0 (fun fu M i c q a b => Fa fu M i c o q a b) Fb (fun fu M i c q a b => Fc fu M i c o q a b) (fun k hk => op_two hk) (op_T hN nt)
        (fun M hM => flt_G d (nt + 1) M (by omega) (by omega) hM)
        (fun i c' r er a b => by
          obtain ⟨rr, ea, eb⟩ := exG_facts (K := tK B n) (W := tW B n) hT (by omega) d (nt + 1) o i c' (by omega) o0 o1 (by omega) b (by unfold nd; push_cast; omega)
          have : some r = some rr := er.symm.trans ea
          have := Option.some.inj this
          subst this
          exact eb)
        (fun M i c' q' r hM a b a2 b2 er => hd (nt + 1) o i c' q' M r (by omega) o0 o1 a b b2 (by unfold nd; push_cast; omega) hM er)
        FU M N1 r1.2.1 r1.2.2.1 r1.2.2.2 r x2 y1 y2 (by omega) s2 s3 (by omega) (Nat.lt_of_lt_of_le (fu_big (by omega : n.toNat < 1000000)) (Nat.le_add_left _ _)) h
    · rw [if_neg z] at h
      have h := Option.some.inj h
      subst h
      have hz : ¬ N1.1 191 24 = 0 := by rw [y1]; exact z
      rw [hf, Fb f _ hz]
      exact ⟨N1, rfl, x2, Or.inr ⟨z, y1, y2⟩⟩
theorem opK0 (k : Int) : opK 0 k = decide (k = 15) := rfl
theorem opK1 (k : Int) : opK 1 k = decide (k = 16) := rfl
theorem opK3 (k : Int) : opK 3 k = decide (k = 43 ∨ k = 44) := rfl
theorem opK4 (k : Int) : opK 4 k = decide (k = 45 ∨ k = 46) := rfl
theorem EP.val {M : Mem} {i : Nat} {c o q : Int} (h : EP M B n i c o q) (hk : 40 ≤ tK B n i) : M.1 191 23 = sgV (tK B n i) := h.2.1.2.2.2.2.2.2 hk
theorem m_G0 {d : Nat} (hd : MG B n d) : ∀ (o : Int) (i : Nat) (c q : Int) (M : Mem) (r : ER), 0 ≤ o → o ≤ 8 → 0 ≤ q → q ≤ c → c ≤ 64 → nd 0 o c ≤ (d : Int) + 1 → EP M B n i c o q → exG (tK B n) (tW B n) (d + 1) 0 o i c = some r → XR M B n o q r (t_MO_G (d + 1) 0 M) := by
  intro o i c q M r o0 o1 q0 q1 c1 hn hE h
  rw [exG, if_neg (by decide), if_neg (by decide)] at h
  rw [t_MO_G, if_pos rfl]
  unfold t_MO_expression_B
  refine m_loop4 (nt := 0) (F := t_MO_expression_L4 (fun i_ M_ => t_MO_G d i_ M_)) hd (by omega) (fun fu M i c o q a b => ?_) (fun fu M a => ?_) (fun fu M i c o q a b => ?_) o0 o1 q0 q1 c1 hn hE h
  · rw [opK0] at b
    rw [t_MO_expression_L4]
    simp only [qlet]
    rw [a.word (by omega) (by omega), if_neg (of_decide_eq_false b), if_pos rfl]
  · rw [t_MO_expression_L4]
    simp only [qlet]
    rw [flt_word a, if_pos rfl]
  · rw [opK0] at b
    have b := of_decide_eq_true b
    rw [t_MO_expression_L4]
    simp only [qlet]
    rw [a.word (by omega) (by omega), if_pos b, if_neg (by decide), b]
    rfl
theorem m_G1 {d : Nat} (hd : MG B n d) : ∀ (o : Int) (i : Nat) (c q : Int) (M : Mem) (r : ER), 0 ≤ o → o ≤ 8 → 0 ≤ q → q ≤ c → c ≤ 64 → nd 1 o c ≤ (d : Int) + 1 → EP M B n i c o q → exG (tK B n) (tW B n) (d + 1) 1 o i c = some r → XR M B n o q r (t_MO_G (d + 1) 1 M) := by
  intro o i c q M r o0 o1 q0 q1 c1 hn hE h
  rw [exG, if_neg (by decide), if_neg (by decide)] at h
  rw [t_MO_G, if_neg (by decide), if_pos rfl]
  unfold t_MO_conjunction_B
  refine m_loop4 (nt := 1) (F := t_MO_conjunction_L4 (fun i_ M_ => t_MO_G d i_ M_)) hd (by omega) (fun fu M i c o q a b => ?_) (fun fu M a => ?_) (fun fu M i c o q a b => ?_) o0 o1 q0 q1 c1 hn hE h
  · rw [opK1] at b
    rw [t_MO_conjunction_L4]
    simp only [qlet]
    rw [a.word (by omega) (by omega), if_neg (of_decide_eq_false b), if_pos rfl]
  · rw [t_MO_conjunction_L4]
    simp only [qlet]
    rw [flt_word a, if_pos rfl]
  · rw [opK1] at b
    have b := of_decide_eq_true b
    rw [t_MO_conjunction_L4]
    simp only [qlet]
    rw [a.word (by omega) (by omega), if_pos b, if_neg (by decide), b]
    rfl
theorem m_G3 {d : Nat} (hd : MG B n d) : ∀ (o : Int) (i : Nat) (c q : Int) (M : Mem) (r : ER), 0 ≤ o → o ≤ 8 → 0 ≤ q → q ≤ c → c ≤ 64 → nd 3 o c ≤ (d : Int) + 1 → EP M B n i c o q → exG (tK B n) (tW B n) (d + 1) 3 o i c = some r → XR M B n o q r (t_MO_G (d + 1) 3 M) := by
  intro o i c q M r o0 o1 q0 q1 c1 hn hE h
  rw [exG, if_neg (by decide), if_neg (by decide)] at h
  rw [t_MO_G, if_neg (by decide), if_neg (by decide), if_neg (by decide), if_pos rfl]
  unfold t_MO_sum_B
  refine m_loop4 (nt := 3) (F := t_MO_sum_L4 (fun i_ M_ => t_MO_G d i_ M_)) hd (by omega) (fun fu M i c o q a b => ?_) (fun fu M a => ?_) (fun fu M i c o q a b => ?_) o0 o1 q0 q1 c1 hn hE h
  · rw [opK3] at b
    have b := of_decide_eq_false b
    rw [t_MO_sum_L4]
    simp only [qlet]
    rw [a.sign (w := 43) (v := 43) (by omega) (by omega) rfl, if_neg (fun z => b (Or.inl z)), if_pos rfl, a.sign (w := 44) (v := 45) (by omega) (by omega) rfl, if_neg (fun z => b (Or.inr z)), if_pos rfl]
  · rw [t_MO_sum_L4]
    simp only [qlet]
    rw [flt_sign a, if_pos rfl, flt_sign a, if_pos rfl]
  · rw [opK3] at b
    have b := of_decide_eq_true b
    have hv := a.val (by omega)
    rw [t_MO_sum_L4]
    unfold t_MO_sum_L22
    simp only [qlet]
    rw [a.sign (w := 43) (v := 43) (by omega) (by omega) rfl, a.sign (w := 44) (v := 45) (by omega) (by omega) rfl, hv]
    rcases b with b | b
    · rw [if_pos b, if_neg (by decide), b]
      rfl
    · rw [if_neg (show ¬ tK B n i = 43 by omega), if_pos (show (0 : Int) = 0 from rfl), if_pos b, if_neg (show ¬ (1 : Int) = 0 by decide), b]
      rfl
theorem m_G4 {d : Nat} (hd : MG B n d) : ∀ (o : Int) (i : Nat) (c q : Int) (M : Mem) (r : ER), 0 ≤ o → o ≤ 8 → 0 ≤ q → q ≤ c → c ≤ 64 → nd 4 o c ≤ (d : Int) + 1 → EP M B n i c o q → exG (tK B n) (tW B n) (d + 1) 4 o i c = some r → XR M B n o q r (t_MO_G (d + 1) 4 M) := by
  intro o i c q M r o0 o1 q0 q1 c1 hn hE h
  rw [exG, if_neg (by decide), if_neg (by decide)] at h
  rw [t_MO_G, if_neg (by decide), if_neg (by decide), if_neg (by decide), if_neg (by decide), if_pos rfl]
  unfold t_MO_product_B
  refine m_loop4 (nt := 4) (F := t_MO_product_L4 (fun i_ M_ => t_MO_G d i_ M_)) hd (by omega) (fun fu M i c o q a b => ?_) (fun fu M a => ?_) (fun fu M i c o q a b => ?_) o0 o1 q0 q1 c1 hn hE h
  · rw [opK4] at b
    have b := of_decide_eq_false b
    rw [t_MO_product_L4]
    simp only [qlet]
    rw [a.sign (w := 45) (v := 42) (by omega) (by omega) rfl, if_neg (fun z => b (Or.inl z)), if_pos rfl, a.sign (w := 46) (v := 47) (by omega) (by omega) rfl, if_neg (fun z => b (Or.inr z)), if_pos rfl]
  · rw [t_MO_product_L4]
    simp only [qlet]
    rw [flt_sign a, if_pos rfl, flt_sign a, if_pos rfl]
  · rw [opK4] at b
    have b := of_decide_eq_true b
    have hv := a.val (by omega)
    rw [t_MO_product_L4]
    unfold t_MO_product_L22
    simp only [qlet]
    rw [a.sign (w := 45) (v := 42) (by omega) (by omega) rfl, a.sign (w := 46) (v := 47) (by omega) (by omega) rfl, hv]
    rcases b with b | b
    · rw [if_pos b, if_neg (by decide), b]
      rfl
    · rw [if_neg (show ¬ tK B n i = 45 by omega), if_pos (show (0 : Int) = 0 from rfl), if_pos b, if_neg (show ¬ (1 : Int) = 0 by decide), b]
      rfl
/-- one piece put and the next token -/
theorem EP.putOne {M : Mem} {i : Nat} {c o q : Int} (h : EP M B n i c o q) (q0 : 0 ≤ q) (q1 : q < 64) (s v k w : Int) (hs : s = ksort k) (hv : v = kval k w) : ∃ N, (obind (t_MO_puts M s v) fun q51 => obind (t_MO_goOn q51) fun q53 => some q53) = some N ∧ Fr (XW q) M N ∧ EP N B n (i + 1) c o (q + 1) ∧ KnL N q [(k, w)] := by
  obtain ⟨N12, p1, p2, p3, p4, p5⟩ := h.puts q0 q1 s v
  obtain ⟨N8, g1, g2, g3⟩ := p3.goOn
  rw [p1, obind_some, g1, obind_some]
  refine ⟨N8, rfl, (p2.mono (fun k j z => by unfold XW; omega)).trans (g2.mono (XW.mono (by omega))), g3, fun x hx => ?_⟩
  have hx0 : x = 0 := by simp only [List.length_cons, List.length_nil] at hx; omega
  subst hx0
  rw [show 64 + q + ((0 : Nat) : Int) = 64 + q by omega, (g2 205 (64 + q) (by unfold XW; omega)).1, (g2 206 (64 + q) (by unfold XW; omega)).1, p4, p5]
  exact ⟨hs, hv⟩
theorem sg_cmp : ∀ a : Nat, a < 13 → ((sgV (40 + a) = 60 ∨ sgV (40 + a) = 62 ∨ sgV (40 + a) = 61 ∨ 256 ≤ sgV (40 + a)) ↔ 7 ≤ a) ∧ (7 ≤ a → kval (40 + a) 0 = sgV (40 + a)) := by decide +kernel
theorem m_G2 {d : Nat} (hd : MG B n d) : ∀ (o : Int) (i : Nat) (c q : Int) (M : Mem) (r : ER), 0 ≤ o → o ≤ 8 → 0 ≤ q → q ≤ c → c ≤ 64 → nd 2 o c ≤ (d : Int) + 1 → EP M B n i c o q → exG (tK B n) (tW B n) (d + 1) 2 o i c = some r → XR M B n o q r (t_MO_G (d + 1) 2 M) := by
  intro o i c q M r o0 o1 q0 q1 c1 hn hE h
  have hN := hE.nr
  have hT : ∀ x, n.toNat ≤ x → tK B n x = 32 := tK_T hN
  unfold nd at hn
  rw [exG, if_pos rfl] at h
  rw [t_MO_G, if_neg (by decide), if_neg (by decide), if_pos rfl]
  unfold t_MO_negation_B
  simp only [qlet]
  rw [hE.word (by omega) (by omega)]
  by_cases k17 : tK B n i = 17
  · rw [if_pos k17] at h ⊢
    rw [if_neg (by decide)]
    by_cases c64 : c = 64
    · rw [if_pos c64] at h
      have h := Option.some.inj h
      subst h
      subst c64
      obtain ⟨w1, w2, w3⟩ := hE.fault 2
      have hz : ¬ (t_MO_wrong M 2).1 191 24 = 0 := by rw [w2]; decide
      rw [hE.knotFull, flt_goOn hz, obind_some, flt_G d 2 _ (by omega) (by omega) hz, obind_some, flt_puts hz, obind_some]
      exact ⟨_, rfl, w1, Or.inr ⟨by show ¬ (2 : Int) = 0; decide, w2, w3⟩⟩
    · rw [if_neg c64] at h
      obtain ⟨k1, k2, k3⟩ := hE.knot (by omega) (by omega)
      obtain ⟨N8, g1, g2, g3⟩ := k1.goOn
      rw [g1, obind_some]
      cases e1 : exG (tK B n) (tW B n) d 2 o (i + 1) (c + 1) with
      | none => rw [e1] at h; cases h
      | some r1 =>
        rw [e1] at h
        have h : (if r1.1 = 0 then some (0, r1.2.1, r1.2.2.1, r1.2.2.2 ++ [(17, 0)]) else some r1) = some r := h
        obtain ⟨N1, x1, x2, x3⟩ := hd 2 o (i + 1) (c + 1) q N8 r1 (by omega) o0 o1 q0 (by omega) (by omega) (by unfold nd; omega) g3 e1
        obtain ⟨rr, ea, eb⟩ := exG_facts (K := tK B n) (W := tW B n) hT (by omega) d 2 o (i + 1) (c + 1) (by omega) o0 o1 (by omega) (by omega) (by unfold nd; omega)
        rw [e1] at ea
        have ea := Option.some.inj ea
        subst ea
        have hF := (k2.trans g2).trans x2
        rw [x1, obind_some]
        rcases x3 with ⟨z, y1, y2⟩ | ⟨z, y1, y2⟩
        · rw [if_pos z] at h
          have h := Option.some.inj h
          subst h
          obtain ⟨s1, s2, s3, s4, s5⟩ := eb.1 z
          obtain ⟨N12, p1, p2, p3, p4, p5⟩ := y1.puts (by omega) (by omega) 2 260
          rw [p1, obind_some]
          refine ⟨N12, rfl, hF.trans (p2.mono (fun k j z => by unfold XW; omega)), Or.inl ⟨rfl, ?_, ?_⟩⟩
          · show EP N12 B n r1.2.1 r1.2.2.1 o (q + ((r1.2.2.2 ++ [(17, 0)]).length : Int))
            have hl : ((r1.2.2.2 ++ [((17 : Int), (0 : Int))]).length : Int) = (r1.2.2.2.length : Int) + 1 := by simp only [List.length_append, List.length_cons, List.length_nil]; omega
            rw [hl, show q + ((r1.2.2.2.length : Int) + 1) = q + (r1.2.2.2.length : Int) + 1 by omega]
            exact p3
          · refine (y2.fr p2 (fun k j a b z => by omega)).app (fun x hx => ?_)
            have hx0 : x = 0 := by simp only [List.length_cons, List.length_nil] at hx; omega
            subst hx0
            rw [show 64 + (q + (r1.2.2.2.length : Int)) + ((0 : Nat) : Int) = 64 + (q + (r1.2.2.2.length : Int)) by omega, p4, p5]
            exact ⟨rfl, rfl⟩
        · rw [if_neg z] at h
          have h := Option.some.inj h
          subst h
          have hz : ¬ N1.1 191 24 = 0 := by rw [y1]; exact z
          rw [flt_puts hz, obind_some]
          exact ⟨N1, rfl, hF, Or.inr ⟨z, y1, y2⟩⟩
  · rw [if_neg k17] at h ⊢
    rw [if_pos rfl]
    cases e1 : exG (tK B n) (tW B n) d 3 o i c with
    | none => rw [e1] at h; cases h
    | some r1 =>
      rw [e1] at h
      have h : (if r1.1 = 0 ∧ 47 ≤ tK B n r1.2.1 ∧ tK B n r1.2.1 ≤ 52 then (if r1.2.2.1 = 64 then some (2, r1.2.1, r1.2.2.1, r1.2.2.2) else (exG (tK B n) (tW B n) d 3 o (r1.2.1 + 1) (r1.2.2.1 + 1)).bind (fun r3 => if r3.1 = 0 then some (0, r3.2.1, r3.2.2.1, r1.2.2.2 ++ r3.2.2.2 ++ [(tK B n r1.2.1, 0)]) else some r3)) else some r1) = some r := h
      obtain ⟨N1, x1, x2, x3⟩ := hd 3 o i c q M r1 (by omega) o0 o1 q0 q1 c1 (by unfold nd; omega) hE e1
      obtain ⟨rr, ea, eb⟩ := exG_facts (K := tK B n) (W := tW B n) hT (by omega) d 3 o i c (by omega) o0 o1 (by omega) c1 (by unfold nd; omega)
      rw [e1] at ea
      have ea := Option.some.inj ea
      subst ea
      rw [x1, obind_some]
      rcases x3 with ⟨z, y1, y2⟩ | ⟨z, y1, y2⟩
      · obtain ⟨s1, s2, s3, s4, s5⟩ := eb.1 z
        have hsort := y1.2.1.2.2.1
        have hkk := y1.kok
        rw [if_pos y1.2.2.1]
        by_cases k47 : 47 ≤ tK B n r1.2.1 ∧ tK B n r1.2.1 ≤ 52
        · rw [if_pos ⟨z, k47⟩] at h
          have hv := y1.val (by omega)
          have h3 : N1.1 191 22 = 3 := by rw [hsort]; unfold srtV; rw [if_neg (by omega), if_neg (by omega), if_neg (by omega), if_neg (by omega), if_neg (by omega)]
          have hc := sg_cmp (tK B n r1.2.1 - 40).toNat (by omega)
          rw [Int.toNat_of_nonneg (by omega), show 40 + (tK B n r1.2.1 - 40) = tK B n r1.2.1 by omega] at hc
          have hcc := hc.1.mpr (by omega)
          have hkv := hc.2 (by omega)
          -- the comparison goes on
          have go : XR M B n o q r (t_MO_negation_L87 (fun i_ M_ => t_MO_G d i_ M_) N1) := by
            unfold t_MO_negation_L87
            simp only [qlet]
            by_cases c64 : r1.2.2.1 = 64
            · rw [if_pos c64] at h
              have h := Option.some.inj h
              subst h
              rw [c64] at y1
              obtain ⟨w1, w2, w3⟩ := y1.fault 2
              have hz : ¬ (t_MO_wrong N1 2).1 191 24 = 0 := by rw [w2]; decide
              rw [y1.knotFull, flt_goOn hz, obind_some, flt_G d 3 _ (by omega) (by omega) hz, obind_some, flt_puts hz, obind_some]
              exact ⟨_, rfl, x2.trans (w1.mono (XW.mono (by omega))), Or.inr ⟨by show ¬ (2 : Int) = 0; decide, w2, w3⟩⟩
            · rw [if_neg c64] at h
              obtain ⟨k1, k2, k3⟩ := y1.knot (by omega) (by omega)
              obtain ⟨N8, g1, g2, g3⟩ := k1.goOn
              rw [g1, obind_some]
              cases e3 : exG (tK B n) (tW B n) d 3 o (r1.2.1 + 1) (r1.2.2.1 + 1) with
              | none => rw [e3] at h; cases h
              | some r3 =>
                rw [e3] at h
                have h : (if r3.1 = 0 then some (0, r3.2.1, r3.2.2.1, r1.2.2.2 ++ r3.2.2.2 ++ [(tK B n r1.2.1, 0)]) else some r3) = some r := h
                obtain ⟨N3, a1, a2, a3⟩ := hd 3 o (r1.2.1 + 1) (r1.2.2.1 + 1) _ N8 r3 (by omega) o0 o1 (by omega) (by omega) (by omega) (by unfold nd; omega) g3 e3
                obtain ⟨rr, eb1, eb2⟩ := exG_facts (K := tK B n) (W := tW B n) hT (by omega) d 3 o (r1.2.1 + 1) (r1.2.2.1 + 1) (by omega) o0 o1 (by omega) (by omega) (by unfold nd; omega)
                rw [e3] at eb1
                have eb1 := Option.some.inj eb1
                subst eb1
                have hF := ((x2.trans (k2.mono (XW.mono (by omega)))).trans (g2.mono (XW.mono (by omega)))).trans (a2.mono (XW.mono (q := q) (by omega)))
                rw [a1, obind_some]
                rcases a3 with ⟨z3, b1, b2⟩ | ⟨z3, b1, b2⟩
                · rw [if_pos z3] at h
                  have h := Option.some.inj h
                  subst h
                  obtain ⟨v1, v2, v3, v4, v5⟩ := eb2.1 z3
                  obtain ⟨N12, p1, p2, p3, p4, p5⟩ := b1.puts (by omega) (by omega) 2 (N1.1 191 23)
                  rw [p1, obind_some]
                  refine ⟨N12, rfl, hF.trans (p2.mono (fun k j z => by unfold XW; omega)), Or.inl ⟨rfl, ?_, ?_⟩⟩
                  · show EP N12 B n r3.2.1 r3.2.2.1 o (q + ((r1.2.2.2 ++ r3.2.2.2 ++ [(tK B n r1.2.1, 0)]).length : Int))
                    have hl : ((r1.2.2.2 ++ r3.2.2.2 ++ [(tK B n r1.2.1, (0 : Int))]).length : Int) = (r1.2.2.2.length : Int) + (r3.2.2.2.length : Int) + 1 := by simp only [List.length_append, List.length_cons, List.length_nil]; omega
                    rw [hl, show q + ((r1.2.2.2.length : Int) + (r3.2.2.2.length : Int) + 1) = q + (r1.2.2.2.length : Int) + (r3.2.2.2.length : Int) + 1 by omega]
                    exact p3
                  · have hk0 : KnL N12 q r1.2.2.2 := ((((y2.fr k2 (fun k j a b z => by unfold XW at z; omega)).fr g2 (fun k j a b z => by unfold XW at z; omega)).fr a2 (fun k j a b z => by unfold XW at z; omega)).fr p2 (fun k j a b z => by omega))
                    have hk1 : KnL N12 (q + (r1.2.2.2.length : Int)) r3.2.2.2 := b2.fr p2 (fun k j a b z => by omega)
                    refine (hk0.app hk1).app (fun x hx => ?_)
                    have hx0 : x = 0 := by simp only [List.length_cons, List.length_nil] at hx; omega
                    subst hx0
                    have ei : 64 + (q + ((r1.2.2.2 ++ r3.2.2.2).length : Int)) + ((0 : Nat) : Int) = 64 + (q + (r1.2.2.2.length : Int) + (r3.2.2.2.length : Int)) := by simp only [List.length_append]; omega
                    rw [ei, p4, p5]
                    refine ⟨?_, ?_⟩
                    · show (2 : Int) = ksort (tK B n r1.2.1)
                      unfold ksort
                      rw [if_neg (by omega), if_neg (by omega)]
                    · show N1.1 191 23 = kval (tK B n r1.2.1) 0
                      rw [hv, hkv]
                · rw [if_neg z3] at h
                  have h := Option.some.inj h
                  subst h
                  have hz : ¬ N3.1 191 24 = 0 := by rw [b1]; exact z3
                  rw [flt_puts hz, obind_some]
                  exact ⟨N3, rfl, hF, Or.inr ⟨z3, b1, b2⟩⟩
          rw [if_pos h3, hv]
          by_cases e60 : sgV (tK B n r1.2.1) = 60
          · rw [if_pos e60]; exact go
          · rw [if_neg e60]
            by_cases e62 : sgV (tK B n r1.2.1) = 62
            · rw [if_pos e62]; exact go
            · rw [if_neg e62]
              by_cases e61 : sgV (tK B n r1.2.1) = 61
              · rw [if_pos e61]; exact go
              · rw [if_neg e61, if_pos (by omega)]; exact go
        · rw [if_neg (fun y => k47 y.2)] at h
          have h := Option.some.inj h
          subst h
          have fin : XR M B n o q r1 (some N1) := ⟨N1, rfl, x2, Or.inl ⟨z, y1, y2⟩⟩
          by_cases h3 : N1.1 191 22 = 3
          · have h40 : 40 ≤ tK B n r1.2.1 := by
              apply Classical.byContradiction
              intro y
              rw [hsort] at h3
              unfold srtV at h3
              repeat (first | omega | split at h3)
            have hv := y1.val h40
            have hc := sg_cmp (tK B n r1.2.1 - 40).toNat (by omega)
            rw [Int.toNat_of_nonneg (by omega), show 40 + (tK B n r1.2.1 - 40) = tK B n r1.2.1 by omega] at hc
            have hcc : ¬ (sgV (tK B n r1.2.1) = 60 ∨ sgV (tK B n r1.2.1) = 62 ∨ sgV (tK B n r1.2.1) = 61 ∨ 256 ≤ sgV (tK B n r1.2.1)) := fun y => by have := hc.1.mp y; omega
            rw [if_pos h3, hv, if_neg (by omega), if_neg (by omega), if_neg (by omega), if_neg (by omega)]
            exact fin
          · rw [if_neg h3]
            exact fin
      · rw [if_neg (fun y => z y.1)] at h
        have h := Option.some.inj h
        subst h
        rw [if_neg (by rw [y1]; exact z)]
        exact ⟨N1, rfl, x2, Or.inr ⟨z, y1, y2⟩⟩
end MG
end
section
/-! ===== formulas: the last piece, and all ===== -/
section MG5
variable {B : Int → Int} {n : Int}
theorem EP.opn {M : Mem} {i : Nat} {c o q : Int} (h : EP M B n i c o q) (o' : Int) : EP (setI M 191 28 o') B n i c o' q := by
  have hF : Fr (fun k j => k = 191 ∧ j = 28) M (setI M 191 28 o') := Fr.rf.setI ⟨rfl, rfl⟩
  obtain ⟨h1, h2, h3, h4, h5, h6⟩ := h
  exact ⟨h1.fr hF (fun k j a z => by omega), h2.fr hF (fun k j a z => by unfold TkW at a; omega), by rw [sI_ne (by omega)]; exact h3, by rw [sI_ne (by omega)]; exact h4, sI_self _ _ _ _, by rw [sI_ne (by omega)]; exact h6⟩
/-- a faulty end of a number or name -/
theorem m_p_fault {M : Mem} {rc : Nat → Mem → Option Mem} (h : ¬ M.1 191 24 = 0) (v : Int) : t_MO_primary_L162 rc M v = some M := by
  unfold t_MO_primary_L162 t_MO_primary_L176 t_MO_primary_L194
  simp only [qlet]
  rw [flt_knot h]
  simp only [flt_puts h, obind_some, flt_goOn h, ite_self]
theorem m_G5 {d : Nat} (hd : MG B n d) : ∀ (o : Int) (i : Nat) (c q : Int) (M : Mem) (r : ER), 0 ≤ o → o ≤ 8 → 0 ≤ q → q ≤ c → c ≤ 64 → nd 5 o c ≤ (d : Int) + 1 → EP M B n i c o q → exG (tK B n) (tW B n) (d + 1) 5 o i c = some r → XR M B n o q r (t_MO_G (d + 1) 5 M) := by
  intro o i c q M r o0 o1 q0 q1 c1 hn hE h
  have hN := hE.nr
  have hT : ∀ x, n.toNat ≤ x → tK B n x = 32 := tK_T hN
  unfold nd at hn
  rw [exG, if_neg (by decide), if_pos rfl] at h
  rw [t_MO_G, if_neg (by decide), if_neg (by decide), if_neg (by decide), if_neg (by decide), if_neg (by decide), if_pos rfl]
  unfold t_MO_primary_B
  simp only [qlet]
  rw [if_pos hE.2.2.1, hE.sign (w := 41) (v := 40) (by omega) (by omega) rfl]
  have hkk := hE.kok
  by_cases k41 : tK B n i = 41
  · rw [if_pos k41] at h ⊢
    rw [if_neg (show ¬ (1 : Int) = 0 by decide), hE.2.2.2.2.1]
    unfold t_MO_primary_L31
    by_cases o8 : o = 8
    · rw [if_pos o8] at h ⊢
      have h := Option.some.inj h
      subst h
      obtain ⟨w1, w2, w3⟩ := hE.fault 2
      rw [if_neg (by rw [w2]; decide)]
      exact ⟨_, rfl, w1, Or.inr ⟨by show ¬ (2 : Int) = 0; decide, w2, w3⟩⟩
    · rw [if_neg o8] at h ⊢
      rw [if_pos hE.2.2.1]
      simp only [qlet]
      rw [hE.2.2.2.2.1, w32_id (x := o + 1) (by unfold InR; omega)]
      obtain ⟨N8, g1, g2, g3⟩ := (hE.opn (o + 1)).next
      have hF0 : Fr (XW q) M (setI M 191 28 (o + 1)) := Fr.rf.setI (by unfold XW; omega)
      rw [g1, obind_some]
      cases e1 : exG (tK B n) (tW B n) d 0 (o + 1) (i + 1) c with
      | none => rw [e1] at h; cases h
      | some r1 =>
        rw [e1] at h
        have h : (if r1.1 = 0 then (if tK B n r1.2.1 = 42 then some (0, r1.2.1 + 1, r1.2.2.1, r1.2.2.2) else some (1, r1.2.1, r1.2.2.1, r1.2.2.2)) else some r1) = some r := h
        obtain ⟨N1, x1, x2, x3⟩ := hd 0 (o + 1) (i + 1) c q N8 r1 (by omega) (by omega) (by omega) q0 q1 c1 (by unfold nd; omega) g3 e1
        obtain ⟨rr, ea, eb⟩ := exG_facts (K := tK B n) (W := tW B n) hT (by omega) d 0 (o + 1) (i + 1) c (by omega) (by omega) (by omega) (by omega) c1 (by unfold nd; omega)
        rw [e1] at ea
        have ea := Option.some.inj ea
        subst ea
        have hF := (hF0.trans (g2.mono TkW_XW)).trans x2
        rw [x1, obind_some]
        unfold t_MO_primary_L78
        simp only [qlet]
        rcases x3 with ⟨z, y1, y2⟩ | ⟨z, y1, y2⟩
        · rw [if_pos z] at h
          rw [if_pos y1.2.2.1, y1.sign (w := 42) (v := 41) (by omega) (by omega) rfl]
          by_cases k42 : tK B n r1.2.1 = 42
          · rw [if_pos k42] at h ⊢
            have h := Option.some.inj h
            subst h
            rw [if_neg (show ¬ (1 : Int) = 0 by decide), if_pos y1.2.2.1, y1.2.2.2.2.1, w32_id (x := o + 1 - 1) (by unfold InR; omega), show o + 1 - 1 = o by omega]
            obtain ⟨N9, p1, p2, p3⟩ := (y1.opn o).next
            rw [p1, obind_some]
            have hF9 : Fr (XW (q + (r1.2.2.2.length : Int))) N1 (setI N1 191 28 o) := Fr.rf.setI (by unfold XW; omega)
            refine ⟨N9, rfl, (hF.trans (hF9.mono (XW.mono (by omega)))).trans (p2.mono TkW_XW), Or.inl ⟨rfl, p3, ?_⟩⟩
            exact (y2.fr hF9 (fun k j a b z => by unfold XW at z; omega)).fr p2 (fun k j a b z => by unfold TkW at z; omega)
          · rw [if_neg k42] at h ⊢
            have h := Option.some.inj h
            subst h
            obtain ⟨w1, w2, w3⟩ := y1.fault 1
            rw [if_pos (show (0 : Int) = 0 from rfl), if_neg (by rw [w2]; decide)]
            exact ⟨_, rfl, hF.trans (w1.mono (XW.mono (by omega))), Or.inr ⟨by show ¬ (1 : Int) = 0; decide, w2, w3⟩⟩
        · rw [if_neg z] at h
          have h := Option.some.inj h
          subst h
          have hz : ¬ N1.1 191 24 = 0 := by rw [y1]; exact z
          rw [if_neg hz, if_neg hz]
          exact ⟨N1, rfl, hF, Or.inr ⟨z, y1, y2⟩⟩
  · rw [if_neg k41] at h ⊢
    rw [if_pos (show (0 : Int) = 0 from rfl)]
    have s2 := srt_num hE.2.1 hkk
    unfold t_MO_primary_L114 t_MO_primary_L137 t_MO_primary_L157
    simp only [qlet]
    -- full, and not
    have full : ∀ v : Int, c = 64 → t_MO_primary_L162 (fun i_ M_ => t_MO_G d i_ M_) M v = some (t_MO_wrong M 2) := by
      intro v c64
      subst c64
      obtain ⟨w1, w2, w3⟩ := hE.fault 2
      have hz : ¬ (t_MO_wrong M 2).1 191 24 = 0 := by rw [w2]; decide
      unfold t_MO_primary_L162 t_MO_primary_L176 t_MO_primary_L194
      simp only [qlet]
      rw [hE.knotFull]
      simp only [flt_puts hz, obind_some, flt_goOn hz, ite_self]
    by_cases k31 : tK B n i = 31
    · rw [if_pos k31] at h
      rw [if_pos (s2.mpr k31), if_neg (show ¬ (1 : Int) = 0 by decide), if_neg (show ¬ (1 : Int) = 0 by decide)]
      have hv : nvR (M.1 191 23) (tW B n i) := hE.2.1.2.2.2.2.2.1 k31
      unfold nvR at hv
      by_cases w9 : 9999 < tW B n i
      · rw [if_pos w9] at h
        have h := Option.some.inj h
        subst h
        obtain ⟨w1, w2, w3⟩ := hE.fault 2
        rw [if_neg (show ¬ M.1 191 23 ≤ 9999 by omega), m_p_fault (by rw [w2]; decide)]
        exact ⟨_, rfl, w1, Or.inr ⟨by show ¬ (2 : Int) = 0; decide, w2, w3⟩⟩
      · rw [if_neg w9] at h
        rw [if_pos (show M.1 191 23 ≤ 9999 by omega)]
        by_cases c64 : c = 64
        · rw [if_pos c64] at h
          have h := Option.some.inj h
          subst h
          obtain ⟨w1, w2, w3⟩ := hE.fault 2
          rw [full 1 c64]
          exact ⟨_, rfl, w1, Or.inr ⟨by show ¬ (2 : Int) = 0; decide, w2, w3⟩⟩
        · rw [if_neg c64] at h
          have h := Option.some.inj h
          subst h
          obtain ⟨k1, k2, k3⟩ := hE.knot (by omega) (by omega)
          unfold t_MO_primary_L162 t_MO_primary_L176 t_MO_primary_L194
          simp only [qlet]
          rw [if_neg (show ¬ (1 : Int) = 0 by decide), if_neg (show ¬ (1 : Int) = 0 by decide), k3]
          obtain ⟨N, n1, n2, n3, n4⟩ := k1.putOne q0 (by omega) 0 (M.1 191 23) 31 (tW B n i) rfl (by show M.1 191 23 = tW B n i; omega)
          exact ⟨N, n1, k2.trans n2, Or.inl ⟨rfl, n3, n4⟩⟩
    · rw [if_neg k31] at h
      rw [if_neg (fun z => k31 (s2.mp z)), if_pos trivial, if_pos trivial]
      have hsort := hE.2.1.2.2.1
      have bad : r = (1, i, c, []) → XR M B n o q r (t_MO_primary_L162 (fun i_ M_ => t_MO_G d i_ M_) (t_MO_wrong M 1) 0) := by
        intro hr
        subst hr
        obtain ⟨w1, w2, w3⟩ := hE.fault 1
        rw [m_p_fault (by rw [w2]; decide)]
        exact ⟨_, rfl, w1, Or.inr ⟨by show ¬ (1 : Int) = 0; decide, w2, w3⟩⟩
      by_cases k18 : 18 ≤ tK B n i ∧ tK B n i ≤ 24
      · rw [if_pos k18] at h
        have hs := (srt_word hE.2.1 hkk (tK B n i) (by omega) (by omega)).mpr rfl
        rw [if_pos hs.1, if_pos (show 18 ≤ M.1 191 23 by omega)]
        by_cases c64 : c = 64
        · rw [if_pos c64] at h
          have h := Option.some.inj h
          subst h
          obtain ⟨w1, w2, w3⟩ := hE.fault 2
          rw [full 0 c64]
          exact ⟨_, rfl, w1, Or.inr ⟨by show ¬ (2 : Int) = 0; decide, w2, w3⟩⟩
        · rw [if_neg c64] at h
          have h := Option.some.inj h
          subst h
          obtain ⟨k1, k2, k3⟩ := hE.knot (by omega) (by omega)
          unfold t_MO_primary_L162 t_MO_primary_L176 t_MO_primary_L194
          simp only [qlet]
          rw [if_pos trivial, if_pos trivial, k3, hs.2, w32_id (x := tK B n i - 18) (by unfold InR; omega)]
          obtain ⟨N, n1, n2, n3, n4⟩ := k1.putOne q0 (by omega) 1 (tK B n i - 18) (tK B n i) 0 (by unfold ksort; rw [if_neg (by omega), if_pos k18]) (by unfold kval; rw [if_neg (by omega), if_pos k18])
          exact ⟨N, n1, k2.trans n2, Or.inl ⟨rfl, n3, n4⟩⟩
      · rw [if_neg k18] at h
        have h := Option.some.inj h
        by_cases s0 : M.1 191 22 = 0
        · rw [if_pos s0]
          have hk : tK B n i ≤ 24 := by
            apply Classical.byContradiction
            intro y
            rw [hsort] at s0
            unfold srtV at s0
            repeat (first | omega | split at s0)
          have hv := hE.2.1.2.2.2.1 ⟨by omega, hk⟩
          rw [if_neg (show ¬ 18 ≤ M.1 191 23 by omega)]
          exact bad h.symm
        · rw [if_neg s0]
          exact bad h.symm
theorem m_G : ∀ d : Nat, MG B n d := by
  intro d
  induction d with
  | zero => intro nt o i c q M r h1 h2 h3 h4 h5 h6 h7; unfold nd at h7; omega
  | succ d ih =>
    intro nt o i c q M r h1 h2 h3 h4 h5 h6 h7 hE h
    have h7' : nd nt o c ≤ (d : Int) + 1 := by push_cast at h7; exact h7
    have hn : nt = 0 ∨ nt = 1 ∨ nt = 2 ∨ nt = 3 ∨ nt = 4 ∨ nt = 5 := by omega
    rcases hn with rfl | rfl | rfl | rfl | rfl | rfl
    · exact m_G0 ih o i c q M r h2 h3 h4 h5 h6 h7' hE h
    · exact m_G1 ih o i c q M r h2 h3 h4 h5 h6 h7' hE h
    · exact m_G2 ih o i c q M r h2 h3 h4 h5 h6 h7' hE h
    · exact m_G3 ih o i c q M r h2 h3 h4 h5 h6 h7' hE h
    · exact m_G4 ih o i c q M r h2 h3 h4 h5 h6 h7' hE h
    · exact m_G5 ih o i c q M r h2 h3 h4 h5 h6 h7' hE h
/-- a whole formula from token i on -/
def frS (B : Int → Int) (n : Int) (i : Nat) (c : Int) : ER := (exG (tK B n) (tW B n) 200 0 0 i c).getD (0, 0, 0, [])
theorem fr_facts (h : 0 ≤ n ∧ n ≤ 700) {i : Nat} {c : Int} (c0 : 0 ≤ c) (c1 : c ≤ 64) : exG (tK B n) (tW B n) 200 0 0 i c = some (frS B n i c) ∧ RG i c (frS B n i c) := by
  obtain ⟨r, r1, r2⟩ := exG_facts (K := tK B n) (W := tW B n) (tK_T h) (by omega) 200 0 0 i c (by omega) (by omega) (by omega) c0 c1 (by unfold nd; omega)
  unfold frS
  rw [r1]
  exact ⟨rfl, r2⟩
theorem m_expression {M : Mem} {i : Nat} {c q : Int} (q0 : 0 ≤ q) (q1 : q ≤ c) (c1 : c ≤ 64) (hE : EP M B n i c 0 q) : XR M B n 0 q (frS B n i c) (t_MO_expression M) :=
  m_G 200 0 0 i c q M _ (by omega) (by omega) (by omega) q0 q1 c1 (by unfold nd; omega) hE (fr_facts hE.nr (by omega) c1).1
end MG5
end
section
/-! ===== lines: what is to come out ===== -/
def setV (V : TV) (r : Nat) (j v : Int) : TV := fun r' j' => if r' = r ∧ j' = j then v else V r' j'
theorem setV_self (V : TV) (r : Nat) (j v : Int) : setV V r j v r j = v := if_pos ⟨rfl, rfl⟩
theorem setV_ne (V : TV) {r r' : Nat} {j j' : Int} (v : Int) (h : ¬ (r' = r ∧ j' = j)) : setV V r j v r' j' = V r' j' := if_neg h
abbrev LR : Type := Int × Int × Nat × TV
section LN
variable (B : Int → Int) (n : Int)
/-- the fault of a number -/
def nuS (i : Nat) (lo hi : Int) : Int := if tK B n i = 31 then (if tW B n i < lo then 2 else if hi < tW B n i then 2 else 0) else 1
/-- the fault of a new name -/
def nmS (V : TV) (row : Nat) (len : Int) (i : Nat) : Int := if tK B n i = 30 then (if fnd (fun a => V row (a : Int)) (tW B n i) len.toNat = none then 0 else 3) else 1
def thAt (V : TV) (c : Int) : Prop := fnd (fun a => V 6 (a : Int)) c (V 0 3).toNat ≠ none
def lnTown (V : TV) (i : Nat) : LR :=
  if ¬ nuS B n (i + 1) 1 8 = 0 then (nuS B n (i + 1) 1 8, tP B n (i + 1), 0, V)
  else if ¬ nuS B n (i + 2) 1 6 = 0 then (nuS B n (i + 2) 1 6, tP B n (i + 2), 0, V)
  else (0, 0, i + 3, setV (setV (setV V 0 0 (tW B n (i + 1))) 0 1 (tW B n (i + 2))) 0 13 1)
def lnWard (V : TV) (i : Nat) : LR :=
  if ¬ nmS B n V 1 (V 0 2) (i + 1) = 0 then (nmS B n V 1 (V 0 2) (i + 1), tP B n (i + 1), 0, V)
  else if ¬ (8 ≤ tK B n (i + 2) ∧ tK B n (i + 2) ≤ 12) then (1, tP B n (i + 2), 0, V)
  else if ¬ nuS B n (i + 3) 0 99 = 0 then (nuS B n (i + 3) 0 99, tP B n (i + 3), 0, V)
  else (0, 0, i + 4, setV (setV (setV (setV V 1 (V 0 2) (tW B n (i + 1))) 2 (V 0 2) (tK B n (i + 2) - 8)) 3 (V 0 2) (tW B n (i + 3))) 0 2 (V 0 2 + 1))
def ptV (V : TV) (x y x2 y2 w : Int) : TV := fun r c => if r = 7 ∧ x ≤ c % V 0 0 ∧ c % V 0 0 ≤ x2 ∧ y ≤ c / V 0 0 ∧ c / V 0 0 ≤ y2 then w else V r c
def lnPart (V : TV) (i : Nat) : LR :=
  if ¬ tK B n (i + 1) = 30 then (1, tP B n (i + 1), 0, V)
  else match fnd (fun a => V 1 (a : Int)) (tW B n (i + 1)) (V 0 2).toNat with
  | none => (4, tP B n (i + 1), 0, V)
  | some w =>
    if ¬ nuS B n (i + 2) 0 (V 0 0 - 1) = 0 then (nuS B n (i + 2) 0 (V 0 0 - 1), tP B n (i + 2), 0, V)
    else if ¬ nuS B n (i + 3) 0 (V 0 1 - 1) = 0 then (nuS B n (i + 3) 0 (V 0 1 - 1), tP B n (i + 3), 0, V)
    else if ¬ nuS B n (i + 4) (tW B n (i + 2)) (V 0 0 - 1) = 0 then (nuS B n (i + 4) (tW B n (i + 2)) (V 0 0 - 1), tP B n (i + 4), 0, V)
    else if ¬ nuS B n (i + 5) (tW B n (i + 3)) (V 0 1 - 1) = 0 then (nuS B n (i + 5) (tW B n (i + 3)) (V 0 1 - 1), tP B n (i + 5), 0, V)
    else (0, 0, i + 6, setV (ptV V (tW B n (i + 2)) (tW B n (i + 3)) (tW B n (i + 4)) (tW B n (i + 5)) (w : Int)) 0 6 (V 0 6 + 1))
/-- a cell's two numbers from token i on; then what is wrong there -/
def clS (V : TV) (i : Nat) (k : Int → LR) : LR :=
  if ¬ nuS B n i 0 (V 0 0 - 1) = 0 then (nuS B n i 0 (V 0 0 - 1), tP B n i, 0, V)
  else if ¬ nuS B n (i + 1) 0 (V 0 1 - 1) = 0 then (nuS B n (i + 1) 0 (V 0 1 - 1), tP B n (i + 1), 0, V)
  else k (tW B n (i + 1) * V 0 0 + tW B n i)
noncomputable def lnWall (V : TV) (i : Nat) : LR := clS B n V (i + 1) fun c =>
  if ¬ V 8 c = 0 then (3, tP B n (i + 2), 0, V) else if ¬ V 9 c = 0 ∨ fnd (fun a => V 6 (a : Int)) c (V 0 3).toNat ≠ none then (5, tP B n (i + 2), 0, V) else (0, 0, i + 3, setV (setV V 8 c 1) 0 7 (V 0 7 + 1))
def lnStair (V : TV) (i : Nat) : LR := clS B n V (i + 1) fun c =>
  if ¬ V 9 c = 0 then (3, tP B n (i + 2), 0, V) else if ¬ V 8 c = 0 then (5, tP B n (i + 2), 0, V) else (0, 0, i + 3, setV (setV V 9 c 1) 0 8 (V 0 8 + 1))
noncomputable def lnThing (V : TV) (i : Nat) : LR :=
  if ¬ nmS B n V 4 (V 0 3) (i + 1) = 0 then (nmS B n V 4 (V 0 3) (i + 1), tP B n (i + 1), 0, V)
  else if ¬ nuS B n (i + 2) 0 99 = 0 then (nuS B n (i + 2) 0 99, tP B n (i + 2), 0, V)
  else clS B n V (i + 3) fun c =>
    if ¬ V 8 c = 0 ∨ fnd (fun a => V 6 (a : Int)) c (V 0 3).toNat ≠ none then (5, tP B n (i + 4), 0, V) else (0, 0, i + 5, setV (setV (setV (setV V 4 (V 0 3) (tW B n (i + 1))) 5 (V 0 3) (tW B n (i + 2))) 6 (V 0 3) c) 0 3 (V 0 3 + 1))
def lnSeed (V : TV) (i : Nat) : LR :=
  if ¬ nuS B n (i + 1) 0 99999 = 0 then (nuS B n (i + 1) 0 99999, tP B n (i + 1), 0, V) else (0, 0, i + 2, setV (setV V 0 5 (tW B n (i + 1))) 0 14 1)
/-- rows of knots: s = 0 push, 1 joy -/
def knV (V : TV) (s : Nat) (out : List (Int × Int)) (kn : Int) : TV := fun r j =>
  if r = 10 + 2 * s then (out.getD j.toNat (0, 0)).1 else if r = 11 + 2 * s then (out.getD j.toNat (0, 0)).2
  else if r = 0 ∧ j = 9 + (s : Int) then 1 else if r = 0 ∧ j = 11 + (s : Int) then (out.length : Int) else if r = 0 ∧ j = 4 then kn else V r j
def lnLaw (V : TV) (i : Nat) : LR :=
  if ¬ (tK B n (i + 1) = 13 ∨ tK B n (i + 1) = 14) then (1, tP B n (i + 1), 0, V)
  else if V 0 (tK B n (i + 1) - 4) = 1 then (3, tP B n (i + 1), 0, V)
  else if ¬ (frS B n (i + 2) (V 0 4)).1 = 0 then ((frS B n (i + 2) (V 0 4)).1, tP B n (frS B n (i + 2) (V 0 4)).2.1, 0, V)
  else (0, 0, (frS B n (i + 2) (V 0 4)).2.1, knV V (tK B n (i + 1) - 13).toNat (frS B n (i + 2) (V 0 4)).2.2.2 (frS B n (i + 2) (V 0 4)).2.2.1)
noncomputable def lnS (V : TV) (i : Nat) : LR :=
  if tK B n i = 0 then (if V 0 13 = 1 then (3, tP B n i, 0, V) else if 0 < V 0 6 ∨ 0 < V 0 7 ∨ 0 < V 0 8 ∨ 0 < V 0 3 then (4, tP B n i, 0, V) else lnTown B n V i)
  else if tK B n i = 1 then (if V 0 2 = 4 then (2, tP B n i, 0, V) else lnWard B n V i)
  else if tK B n i = 2 then (if V 0 6 = 12 then (2, tP B n i, 0, V) else lnPart B n V i)
  else if tK B n i = 3 then (if V 0 7 = 12 then (2, tP B n i, 0, V) else lnWall B n V i)
  else if tK B n i = 4 then (if V 0 8 = 8 then (2, tP B n i, 0, V) else lnStair B n V i)
  else if tK B n i = 5 then (if V 0 3 = 8 then (2, tP B n i, 0, V) else lnThing B n V i)
  else if tK B n i = 6 then (if V 0 14 = 1 then (3, tP B n i, 0, V) else lnSeed B n V i)
  else if tK B n i = 7 then lnLaw B n V i
  else (1, tP B n i, 0, V)
/-- a line and its end -/
noncomputable def leS (V : TV) (i : Nat) : LR := if ¬ (lnS B n V i).1 = 0 then lnS B n V i else if tK B n (lnS B n V i).2.2.1 = 40 then (0, 0, (lnS B n V i).2.2.1 + 1, (lnS B n V i).2.2.2) else (1, tP B n (lnS B n V i).2.2.1, 0, V)
end LN
/-! bits of ints -/
def tbI (x i : Int) : Bool := (Int32.ofInt x).toBitVec.getLsbD i.toNat
theorem shr_bv {x i : Int} (h0 : 0 ≤ i) (h1 : i < 32) : (Int32.ofInt (q_shr x i)).toBitVec = (Int32.ofInt x).toBitVec.sshiftRight i.toNat := by
  obtain ⟨a, b, c⟩ := sh_am32 i.toNat (by omega)
  rw [Int.toNat_of_nonneg h0] at a
  unfold q_shr
  rw [q_of_toInt, Int32.toBitVec_shiftRight, a, b]
  show (Int32.ofInt x).toBitVec.sshiftRight (BitVec.ofNat 32 i.toNat).toNat = _
  rw [c]
theorem shl_bv {x i : Int} (h0 : 0 ≤ i) (h1 : i < 32) : (Int32.ofInt (q_shl x i)).toBitVec = (Int32.ofInt x).toBitVec <<< i.toNat := by
  obtain ⟨a, b, c⟩ := sh_am32 i.toNat (by omega)
  rw [Int.toNat_of_nonneg h0] at a
  unfold q_shl
  rw [q_of_toInt, Int32.toBitVec_shiftLeft, a, b]
  show (Int32.ofInt x).toBitVec <<< (BitVec.ofNat 32 i.toNat).toNat = _
  rw [c]
theorem and1_I (y : Int) : q_and y 1 = if tbI y 0 = true then 1 else 0 := by
  unfold q_and tbI
  have e : (Int32.ofInt y &&& Int32.ofInt 1).toBitVec = (BitVec.ofBool ((Int32.ofInt y).toBitVec.getLsbD 0)).setWidth 32 := by
    rw [Int32.toBitVec_and]
    show (Int32.ofInt y).toBitVec &&& 1#32 = _
    rw [BitVec.and_one_eq_setWidth_ofBool_getLsbD]
  rw [← Int32.toInt_toBitVec, e]
  show _ = if (Int32.ofInt y).toBitVec.getLsbD 0 = true then (1 : Int) else 0
  cases (Int32.ofInt y).toBitVec.getLsbD 0 <;> rfl
theorem told_tb {x i : Int} (h0 : 0 ≤ i) (h1 : i < 32) : q_and (q_shr x i) 1 = if tbI x i = true then 1 else 0 := by
  rw [and1_I]
  have e : tbI (q_shr x i) 0 = tbI x i := by
    unfold tbI
    rw [shr_bv h0 h1, BitVec.getLsbD_sshiftRight]
    have h2 : i.toNat < 32 := by omega
    simp [h2]
  rw [e]
theorem told_or {x i j : Int} (h0 : 0 ≤ i) (h1 : i < 32) (g0 : 0 ≤ j) (g1 : j < 32) : tbI (q_or x (q_shl 1 i)) j = (tbI x j || decide (j = i)) := by
  unfold tbI
  have e : (Int32.ofInt (q_or x (q_shl 1 i))).toBitVec = (Int32.ofInt x).toBitVec ||| ((Int32.ofInt 1).toBitVec <<< i.toNat) := by
    unfold q_or
    rw [q_of_toInt, Int32.toBitVec_or, shl_bv h0 h1]
  rw [e, BitVec.getLsbD_or, BitVec.getLsbD_shiftLeft]
  congr 1
  show (decide (j.toNat < 32) && !decide (j.toNat < i.toNat) && (1#32).getLsbD (j.toNat - i.toNat)) = _
  rw [BitVec.getLsbD_one]
  by_cases e : j = i
  · subst e
    have : j.toNat < 32 := by omega
    simp [this]
  · have h2 : ¬ j.toNat = i.toNat := by omega
    by_cases h3 : j.toNat < i.toNat
    · simp [h3, e]
    · have h4 : ¬ (j.toNat - i.toNat = 0) := by omega
      simp [h4, e]
theorem m_isTold (M : Mem) {w : Int} (h0 : 0 ≤ w) (h1 : w < 32) : t_MO_isTold M w = if tbI (M.1 191 17) w = true then 1 else 0 := by
  unfold t_MO_isTold
  rw [told_tb h0 h1]
  cases tbI (M.1 191 17) w with
  | true => rfl
  | false => rfl
end
section
/-! ===== lines: the reference's small steps ===== -/
def NF : Nat → Int → Prop := fun k j => k = 191 ∧ 20 ≤ j ∧ j ≤ 25
theorem TkW_NF : ∀ k j, TkW k j → NF k j := by intro k j z; unfold TkW at z; unfold NF; omega
def TS (M : Mem) (B : Int → Int) (n : Int) (i : Nat) : Prop := TpOK M B n ∧ RTk M (tK B n i) (tW B n i) (tP B n i) (tkA B n (i + 1)) ∧ M.1 191 24 = 0
def FS (M : Mem) (f p : Int) : Prop := ¬ f = 0 ∧ M.1 191 24 = f ∧ M.1 191 25 = p
section LM
variable {B : Int → Int} {n : Int}
theorem TS.fr {W : Nat → Int → Prop} {M N : Mem} {i : Nat} (h : TS M B n i) (hF : Fr W M N) (hd : ∀ k j, (k = 192 ∨ (k = 191 ∧ 19 ≤ j ∧ j ≤ 25)) → ¬ W k j) : TS N B n i :=
  ⟨h.1.fr hF (fun k j a => hd k j (by omega)), h.2.1.fr hF (fun k j a => hd k j (by unfold TkW at a; omega)), (hF 191 24 (hd _ _ (by omega))).1.trans h.2.2⟩
theorem TS.kok {M : Mem} {i : Nat} (h : TS M B n i) : kOK (tK B n i) := tK_ok h.1.1.1 h.1.1.2 i
theorem TS.next {M : Mem} {i : Nat} (h : TS M B n i) : ∃ N, t_MO_token M = some N ∧ Fr NF M N ∧ TS N B n (i + 1) := by
  obtain ⟨h1, h2, h3⟩ := h
  have a := tA_rng (B := B) h1.1.1 h1.1.2 (i + 1)
  obtain ⟨N, n1, n2, n3⟩ := m_token h1 a.1.1 a.1.2 h2.2.1
  exact ⟨N, n1, n2.mono TkW_NF, h1.fr n2 (fun k j x z => by unfold TkW at z; omega), n3, by rw [(n2 191 24 (by unfold TkW; omega)).1]; exact h3⟩
theorem TS.wrong {M : Mem} {i : Nat} (h : TS M B n i) {k : Int} (hk : ¬ k = 0) : Fr NF M (t_MO_wrong M k) ∧ FS (t_MO_wrong M k) k (tP B n i) := by
  rw [m_wrong0 h.2.2]
  exact ⟨(Fr.rf.setI (by unfold NF; omega)).setI (by unfold NF; omega), hk, by rw [sI_ne (by omega), sI_self], by rw [sI_self]; exact h.2.1.1⟩
theorem FS.nz {M : Mem} {f p : Int} (h : FS M f p) : ¬ M.1 191 24 = 0 := by rw [h.2.1]; exact h.1
theorem TS.goOn {M : Mem} {i : Nat} (h : TS M B n i) : ∃ N, t_MO_goOn M = some N ∧ Fr NF M N ∧ TS N B n (i + 1) := by
  obtain ⟨N, n1, n2, n3⟩ := h.next
  unfold t_MO_goOn
  rw [if_pos h.2.2, n1, obind_some]
  exact ⟨N, rfl, n2, n3⟩
/-- a number at hand -/
theorem m_numAt {M : Mem} {i : Nat} (h : TS M B n i) {lo hi : Int} (l0 : 0 ≤ lo) (l1 : lo ≤ 99999) (h1 : hi ≤ 99999) : (nuS B n i lo hi = 0 ∧ t_MO_numeralAtHand M lo hi = (M, tW B n i) ∧ lo ≤ tW B n i ∧ tW B n i ≤ hi) ∨ (∃ N, t_MO_numeralAtHand M lo hi = (N, lo) ∧ Fr NF M N ∧ FS N (nuS B n i lo hi) (tP B n i)) := by
  have s := srt_num h.2.1 h.kok
  unfold t_MO_numeralAtHand t_MO_numeralAtHand_L41 t_MO_numeralAtHand_L46 nuS
  simp only [qlet]
  rw [if_pos h.2.2]
  by_cases k : tK B n i = 31
  · have hv : nvR (M.1 191 23) (tW B n i) := h.2.1.2.2.2.2.2.1 k
    unfold nvR at hv
    obtain ⟨w1, w2⟩ := h.wrong (k := 2) (by decide)
    rw [if_pos (s.mpr k), if_pos k]
    by_cases c1 : tW B n i < lo
    · rw [if_pos c1, if_pos (show M.1 191 23 < lo by omega), if_neg w2.nz]
      exact Or.inr ⟨_, rfl, w1, w2⟩
    · rw [if_neg c1, if_neg (show ¬ M.1 191 23 < lo by omega)]
      by_cases c2 : hi < tW B n i
      · rw [if_pos c2, if_neg (show ¬ M.1 191 23 ≤ hi by omega), if_neg w2.nz]
        exact Or.inr ⟨_, rfl, w1, w2⟩
      · rw [if_neg c2, if_pos (show M.1 191 23 ≤ hi by omega), if_pos h.2.2]
        exact Or.inl ⟨rfl, by rw [show M.1 191 23 = tW B n i by omega], by omega, by omega⟩
  · obtain ⟨w1, w2⟩ := h.wrong (k := 1) (by decide)
    rw [if_neg (fun z => k (s.mp z)), if_neg k, if_neg w2.nz]
    exact Or.inr ⟨_, rfl, w1, w2⟩
theorem m_numeral {M : Mem} {i : Nat} (h : TS M B n i) {lo hi : Int} (l0 : 0 ≤ lo) (l1 : lo ≤ 99999) (h1 : hi ≤ 99999) : (nuS B n i lo hi = 0 ∧ (lo ≤ tW B n i ∧ tW B n i ≤ hi) ∧ ∃ N, t_MO_numeral M lo hi = some (N, tW B n i) ∧ Fr NF M N ∧ TS N B n (i + 1)) ∨ (∃ N, t_MO_numeral M lo hi = some (N, lo) ∧ Fr NF M N ∧ FS N (nuS B n i lo hi) (tP B n i)) := by
  unfold t_MO_numeral
  simp only [qlet]
  rcases m_numAt h l0 l1 h1 with ⟨a, b, c, d⟩ | ⟨N, a, b, c⟩
  · obtain ⟨N, n1, n2, n3⟩ := h.goOn
    rw [b, n1, obind_some]
    exact Or.inl ⟨a, ⟨c, d⟩, N, rfl, n2, n3⟩
  · rw [a, flt_goOn c.nz, obind_some]
    exact Or.inr ⟨N, rfl, b, c⟩
theorem flt_numAt {M : Mem} (h : ¬ M.1 191 24 = 0) (lo hi : Int) : t_MO_numeralAtHand M lo hi = (M, lo) := by unfold t_MO_numeralAtHand; rw [if_neg h]
theorem flt_numeral {M : Mem} (h : ¬ M.1 191 24 = 0) (lo hi : Int) : t_MO_numeral M lo hi = some (M, lo) := by
  unfold t_MO_numeral
  simp only [qlet]
  rw [flt_numAt h, flt_goOn h, obind_some]
theorem flt_fresh {M : Mem} (h : ¬ M.1 191 24 = 0) (r N1 : Nat) (a b : Int) : t_MO_fresh M r N1 a b = some (M, 0) := by unfold t_MO_fresh; rw [if_neg h]
theorem m_fresher {M : Mem} {x : Int} (h0 : 0 ≤ x) (h1 : x < 9) : t_MO_fresher M x = some (M.1 193 (9 + x)) := by
  unfold t_MO_fresher
  rw [w32_id (x := 9 + x) (by unfold InR; omega), qguard_pos ⟨by omega, by omega⟩]
theorem m_reads {M : Mem} {x v : Int} (h0 : 0 ≤ x) (h1 : x < 9) : t_MO_reads M x v = some (setI M 193 (9 + x) v) := by
  unfold t_MO_reads
  rw [w32_id (x := 9 + x) (by unfold InR; omega), qguard_pos ⟨by omega, by omega⟩]
/-- a new name -/
theorem m_fresh {M : Mem} {V : TV} {i row r N1 : Nat} {off len : Int} (h : TS M B n i) (o0 : 0 ≤ off) (l0 : 0 ≤ len) (l1 : off + len ≤ (N1 : Int)) (hN : N1 ≤ 100) (hr : ∀ w, 0 ≤ w → w < len → M.1 r (off + w) = V row w) : (nmS B n V row len i = 0 ∧ ∃ N, t_MO_fresh M r N1 off len = some (N, tW B n i) ∧ Fr NF M N ∧ TS N B n (i + 1)) ∨ (∃ N, t_MO_fresh M r N1 off len = some (N, 0) ∧ Fr NF M N ∧ FS N (nmS B n V row len i) (tP B n i)) := by
  have s := srt_name h.2.1 h.kok
  unfold t_MO_fresh t_MO_fresh_L44 nmS
  simp only [qlet]
  rw [if_pos h.2.2]
  by_cases k : tK B n i = 30
  · have hv : M.1 191 23 = tW B n i := h.2.1.2.2.2.2.1 k
    obtain ⟨w1, w2⟩ := h.wrong (k := 3) (by decide)
    have hf := m_found0 (M := M) (r := r) (N := N1) (x2 := off) (x4 := tW B n i) (len := len.toNat) o0 (by omega) (by omega)
    rw [Int.toNat_of_nonneg l0] at hf
    have e : fnd (fun b => M.1 r (off + (b : Int))) (tW B n i) len.toNat = fnd (fun a => V row (a : Int)) (tW B n i) len.toNat := by
      have : ∀ m : Nat, m ≤ len.toNat → fnd (fun b => M.1 r (off + (b : Int))) (tW B n i) m = fnd (fun a => V row (a : Int)) (tW B n i) m := by
        intro m
        induction m with
        | zero => intro _; rfl
        | succ m ih => intro hm; rw [fnd, fnd, ih (by omega), hr (m : Int) (by omega) (by omega)]
      exact this len.toNat (Nat.le_refl _)
    rw [e] at hf
    rw [if_pos (s.mpr k), hv, hf, obind_some, if_pos k]
    cases ef : fnd (fun a => V row (a : Int)) (tW B n i) len.toNat with
    | none =>
      rw [if_pos (show fI none = -1 from rfl), if_pos rfl, if_pos h.2.2]
      obtain ⟨N, n1, n2, n3⟩ := h.next
      rw [n1, obind_some]
      exact Or.inl ⟨rfl, N, rfl, n2, n3⟩
    | some b =>
      rw [if_neg (show ¬ fI (some b) = -1 by show ¬ (b : Int) = -1; omega), if_neg (by intro z; cases z), if_neg w2.nz]
      exact Or.inr ⟨_, rfl, w1, w2⟩
  · obtain ⟨w1, w2⟩ := h.wrong (k := 1) (by decide)
    rw [if_neg (fun z => k (s.mp z)), if_neg k, if_neg w2.nz]
    exact Or.inr ⟨_, rfl, w1, w2⟩
/-! the rows that are read into -/
def SV0 (M : Mem) (V : TV) : Prop := (M.1 193 9 = V 0 0 ∧ M.1 193 10 = V 0 1 ∧ M.1 193 11 = V 0 2 ∧ M.1 193 12 = V 0 6 ∧ M.1 193 13 = V 0 7 ∧ M.1 193 14 = V 0 8 ∧ M.1 193 15 = V 0 3 ∧ M.1 193 16 = V 0 5 ∧ M.1 193 17 = V 0 4) ∧ (∀ w, 0 ≤ w → w < V 0 2 → M.1 194 (4 + w) = V 1 w ∧ M.1 195 (4 + w) = V 2 w ∧ M.1 196 (4 + w) = V 3 w) ∧ (∀ t, 0 ≤ t → t < V 0 3 → M.1 200 (8 + t) = V 4 t ∧ M.1 201 (8 + t) = V 5 t ∧ M.1 202 (8 + t) = V 6 t) ∧ (∀ c, 0 ≤ c → c < 48 → M.1 197 (48 + c) = V 7 c + 1 ∧ M.1 198 (48 + c) = V 8 c ∧ M.1 199 (48 + c) = V 9 c)
def SLw (M : Mem) (V : TV) (s : Nat) : Prop := 0 ≤ M.1 203 (2 + s) ∧ M.1 204 (2 + s) = M.1 203 (2 + s) + V 0 (11 + s) ∧ M.1 204 (2 + s) ≤ V 0 4 ∧ ∀ i, 0 ≤ i → i < V 0 (11 + s) → M.1 205 (64 + M.1 203 (2 + s) + i) = ksort (V (10 + 2 * s) i) ∧ M.1 206 (64 + M.1 203 (2 + s) + i) = kval (V (10 + 2 * s) i) (V (11 + 2 * s) i)
def td (V : TV) (x : Int) : Bool := if x = 0 then decide (V 0 13 = 1) else if x = 2 then decide (0 < V 0 6) else if x = 3 then decide (0 < V 0 7) else if x = 4 then decide (0 < V 0 8) else if x = 5 then decide (0 < V 0 3) else if x = 6 then decide (V 0 14 = 1) else if x = 10 then decide (V 0 9 = 1) else if x = 11 then decide (V 0 10 = 1) else false
abbrev tdx (x : Int) : Prop := x = 0 ∨ (2 ≤ x ∧ x ≤ 6) ∨ x = 10 ∨ x = 11
def TBd (M : Mem) (V : TV) : Prop := ∀ x, tdx x → tbI (M.1 191 17) x = td V x
def LB (M : Mem) (V : TV) (lines : Int) : Prop := SV0 M V ∧ (SLw M V 0 ∧ SLw M V 1) ∧ M.1 191 28 = 0 ∧ M.1 191 29 = V 0 4 ∧ M.1 191 18 = lines
/-- the cells of these -/
def LBc : Nat → Int → Prop := fun k j => (193 ≤ k ∧ k ≤ 206) ∨ (k = 191 ∧ (j = 28 ∨ j = 29 ∨ j = 18))
theorem SV0.fr {W : Nat → Int → Prop} {M N : Mem} {V : TV} (h : SV0 M V) (hF : Fr W M N) (hd : ∀ k j, 193 ≤ k → k ≤ 202 → ¬ W k j) : SV0 N V := by
  have e : ∀ (k : Nat) (j : Int), 193 ≤ k → k ≤ 202 → N.1 k j = M.1 k j := fun k j a b => (hF k j (hd k j a b)).1
  obtain ⟨⟨a1, a2, a3, a4, a5, a6, a7, a8, a9⟩, b, c, d⟩ := h
  have f := fun j => e 193 j (by omega) (by omega)
  refine ⟨⟨(f _).trans a1, (f _).trans a2, (f _).trans a3, (f _).trans a4, (f _).trans a5, (f _).trans a6, (f _).trans a7, (f _).trans a8, (f _).trans a9⟩, fun w x y => ?_, fun t x y => ?_, fun q x y => ?_⟩
  · have := b w x y
    exact ⟨(e _ _ (by omega) (by omega)).trans this.1, (e _ _ (by omega) (by omega)).trans this.2.1, (e _ _ (by omega) (by omega)).trans this.2.2⟩
  · have := c t x y
    exact ⟨(e _ _ (by omega) (by omega)).trans this.1, (e _ _ (by omega) (by omega)).trans this.2.1, (e _ _ (by omega) (by omega)).trans this.2.2⟩
  · have := d q x y
    exact ⟨(e _ _ (by omega) (by omega)).trans this.1, (e _ _ (by omega) (by omega)).trans this.2.1, (e _ _ (by omega) (by omega)).trans this.2.2⟩
theorem SLw.fr {W : Nat → Int → Prop} {M N : Mem} {V : TV} {s : Nat} (h : SLw M V s) (hF : Fr W M N) (hd : ∀ k j, 203 ≤ k → k ≤ 206 → ¬ W k j) : SLw N V s := by
  have e : ∀ (k : Nat) (j : Int), 203 ≤ k → k ≤ 206 → N.1 k j = M.1 k j := fun k j a b => (hF k j (hd k j a b)).1
  unfold SLw at *
  rw [e 203 _ (by omega) (by omega), e 204 _ (by omega) (by omega)]
  refine ⟨h.1, h.2.1, h.2.2.1, fun i a b => ?_⟩
  rw [e 205 _ (by omega) (by omega), e 206 _ (by omega) (by omega)]
  exact h.2.2.2 i a b
theorem LB.fr {W : Nat → Int → Prop} {M N : Mem} {V : TV} {l : Int} (h : LB M V l) (hF : Fr W M N) (hd : ∀ k j, LBc k j → ¬ W k j) : LB N V l :=
  ⟨h.1.fr hF (fun k j a b => hd k j (by unfold LBc; omega)), ⟨h.2.1.1.fr hF (fun k j a b => hd k j (by unfold LBc; omega)), h.2.1.2.fr hF (fun k j a b => hd k j (by unfold LBc; omega))⟩, (hF 191 28 (hd _ _ (by unfold LBc; omega))).1.trans h.2.2.1, (hF 191 29 (hd _ _ (by unfold LBc; omega))).1.trans h.2.2.2.1, (hF 191 18 (hd _ _ (by unfold LBc; omega))).1.trans h.2.2.2.2⟩
theorem NF_LBc : ∀ k j, LBc k j → ¬ NF k j := by intro k j a z; unfold LBc at a; unfold NF at z; omega
theorem LB.nf {M N : Mem} {V : TV} {l : Int} (h : LB M V l) (hF : Fr NF M N) : LB N V l := h.fr hF NF_LBc
/-- the knots' rows stay for a change of other rows -/
theorem SLw.same {M : Mem} {V V' : TV} {s : Nat} (h : SLw M V s) (h4 : V' 0 4 = V 0 4) (h11 : V' 0 (11 + s) = V 0 (11 + s)) (hk : ∀ i, V' (10 + 2 * s) i = V (10 + 2 * s) i ∧ V' (11 + 2 * s) i = V (11 + 2 * s) i) : SLw M V' s := by
  unfold SLw at *
  rw [h4, h11]
  refine ⟨h.1, h.2.1, h.2.2.1, fun i a b => ?_⟩
  rw [(hk i).1, (hk i).2]
  exact h.2.2.2 i a b
/-- all that a line may write -/
def StW : Nat → Int → Prop := fun k j => (k = 191 ∧ 17 ≤ j ∧ j ≤ 29 ∧ j ≠ 19) ∨ (k = 193 ∧ 9 ≤ j) ∨ (194 ≤ k ∧ k ≤ 196 ∧ 4 ≤ j) ∨ (197 ≤ k ∧ k ≤ 199 ∧ 48 ≤ j) ∨ (200 ≤ k ∧ k ≤ 202 ∧ 8 ≤ j) ∨ ((k = 203 ∨ k = 204) ∧ 2 ≤ j) ∨ ((k = 205 ∨ k = 206) ∧ 64 ≤ j)
theorem NF_StW : ∀ k j, NF k j → StW k j := by intro k j z; unfold NF at z; unfold StW; omega
/-- the outcome of a line's content -/
def LnO (M : Mem) (B : Int → Int) (n l : Int) (r : LR) (x : Option Mem) : Prop := ∃ N, x = some N ∧ Fr StW M N ∧ ((r.1 = 0 ∧ TS N B n r.2.2.1 ∧ LB N r.2.2.2 l ∧ TBd N r.2.2.2) ∨ (¬ r.1 = 0 ∧ N.1 191 24 = r.1 ∧ N.1 191 25 = r.2.1))
theorem LnO.bad {M N : Mem} {l : Int} {r : LR} (hF : Fr StW M N) (h : FS N r.1 r.2.1) : LnO M B n l r (some N) := ⟨N, rfl, hF, Or.inr h⟩
end LM
end
section
/-! ===== lines: the reference's side, one by one ===== -/
def POK (V : TV) : Prop := VOK V ∧ FOK V ∧ 0 ≤ V 0 6 ∧ V 0 6 ≤ 12 ∧ 0 ≤ V 0 7 ∧ V 0 7 ≤ 12 ∧ 0 ≤ V 0 8 ∧ V 0 8 ≤ 8
def TBw (M : Mem) (V : TV) (w : Int) : Prop := ∀ x, tdx x → tbI (M.1 191 17) x = (td V x || decide (x = w))
theorem td_of {V V' : TV} {w kw : Int} (e : ∀ k, (k = 13 ∨ k = 6 ∨ k = 7 ∨ k = 8 ∨ k = 3 ∨ k = 14 ∨ k = 9 ∨ k = 10) → k ≠ kw → V' 0 k = V 0 k) (hk : (w = 0 ∧ kw = 13) ∨ (w = 2 ∧ kw = 6) ∨ (w = 3 ∧ kw = 7) ∨ (w = 4 ∧ kw = 8) ∨ (w = 5 ∧ kw = 3) ∨ (w = 6 ∧ kw = 14) ∨ (w = 10 ∧ kw = 9) ∨ (w = 11 ∧ kw = 10) ∨ (w = 1 ∧ kw = 2) ∨ (w = 7 ∧ kw = 2)) (h1 : tdx w → td V' w = true) : ∀ x, tdx x → td V' x = (td V x || decide (x = w)) := by
  intro x hx
  by_cases q : x = w
  · rw [q, h1 (by rw [← q]; exact hx)]; simp
  · have hf : decide (x = w) = false := decide_eq_false q
    rw [hf, Bool.or_false]
    have hx' : x = 0 ∨ x = 2 ∨ x = 3 ∨ x = 4 ∨ x = 5 ∨ x = 6 ∨ x = 10 ∨ x = 11 := by omega
    rcases hx' with rfl | rfl | rfl | rfl | rfl | rfl | rfl | rfl
    · show decide (V' 0 13 = 1) = decide (V 0 13 = 1); rw [e 13 (by omega) (by omega)]
    · show decide (0 < V' 0 6) = decide (0 < V 0 6); rw [e 6 (by omega) (by omega)]
    · show decide (0 < V' 0 7) = decide (0 < V 0 7); rw [e 7 (by omega) (by omega)]
    · show decide (0 < V' 0 8) = decide (0 < V 0 8); rw [e 8 (by omega) (by omega)]
    · show decide (0 < V' 0 3) = decide (0 < V 0 3); rw [e 3 (by omega) (by omega)]
    · show decide (V' 0 14 = 1) = decide (V 0 14 = 1); rw [e 14 (by omega) (by omega)]
    · show decide (V' 0 9 = 1) = decide (V 0 9 = 1); rw [e 9 (by omega) (by omega)]
    · show decide (V' 0 10 = 1) = decide (V 0 10 = 1); rw [e 10 (by omega) (by omega)]
theorem TBw.done {M N : Mem} {V V' : TV} {w : Int} (h : TBw M V w) (hF : Fr StW M N) (h17 : N.1 191 17 = M.1 191 17) (hv : ∀ x, tdx x → td V' x = (td V x || decide (x = w))) : TBd N V' := fun x hx => by rw [h17, h x hx, hv x hx]
section LL
variable {B : Int → Int} {n : Int}
theorem nf17 {M N : Mem} (hF : Fr NF M N) : N.1 191 17 = M.1 191 17 := (hF 191 17 (by unfold NF; omega)).1
/-- town, with what comes behind -/
theorem m_lnTown {M : Mem} {V : TV} {l : Int} {i : Nat} (h : TS M B n (i + 1)) (hL : LB M V l) (hT : TBw M V 0) (hP : POK V) (h3 : V 0 3 = 0) : ∃ N, (∀ k : Mem → Option Mem, (obind (t_MO_numeral M 1 8) fun q40 => (obind (t_MO_reads (q40.1) 0 (q40.2)) fun q42 => (obind (t_MO_numeral q42 1 6) fun q44 => (obind (t_MO_reads (q44.1) 1 (q44.2)) fun q46 => (k q46))))) = k N) ∧ LnO M B n l (lnTown B n V i) (some N) := by
  unfold lnTown
  have S : ∀ {N O : Mem} {j v : Int}, Fr StW N O → (9 ≤ j) → Fr StW N (setI O 193 j v) := fun q hj => q.setI (by unfold StW; omega)
  rcases m_numeral h (lo := 1) (hi := 8) (by omega) (by omega) (by omega) with ⟨a0, a1, N1, n1, n2, n3⟩ | ⟨N1, n1, n2, n3⟩
  · have hF1 : Fr StW M (setI N1 193 9 (tW B n (i + 1))) := S (n2.mono NF_StW) (by omega)
    have hFs : Fr (fun k j => k = 193 ∧ j = 9) N1 (setI N1 193 9 (tW B n (i + 1))) := Fr.rf.setI ⟨rfl, rfl⟩
    have t1 : TS (setI N1 193 9 (tW B n (i + 1))) B n (i + 2) := n3.fr hFs (fun k j a z => by omega)
    rw [if_neg (fun q => q a0)]
    rcases m_numeral t1 (lo := 1) (hi := 6) (by omega) (by omega) (by omega) with ⟨b0, b1, N2, p1, p2, p3⟩ | ⟨N2, p1, p2, p3⟩
    · rw [if_neg (fun q => q b0)]
      refine ⟨setI N2 193 10 (tW B n (i + 2)), fun k => ?_, _, rfl, S (hF1.trans (p2.mono NF_StW)) (by omega), Or.inl ⟨rfl, ?_, ?_, ?_⟩⟩
      · rw [n1, obind_some, m_reads (by omega) (by omega), obind_some]
        show obind (t_MO_numeral (setI N1 193 9 (tW B n (i + 1))) 1 6) _ = _
        rw [p1, obind_some, m_reads (by omega) (by omega), obind_some]
        rfl
      · have hFs2 : Fr (fun k j => k = 193 ∧ j = 10) N2 (setI N2 193 10 (tW B n (i + 2))) := Fr.rf.setI ⟨rfl, rfl⟩
        exact p3.fr hFs2 (fun k j a z => by omega)
      · have l1 := (hL.nf n2)
        have l2 : ∀ (k : Nat) (j : Int), ¬ (k = 193 ∧ (j = 9 ∨ j = 10)) → LBc k j → (setI N2 193 10 (tW B n (i + 2))).1 k j = M.1 k j := fun k j a b => by
          rw [sI_ne (by omega), (p2 k j (NF_LBc k j b)).1, sI_ne (by omega), (n2 k j (NF_LBc k j b)).1]
        obtain ⟨⟨s0, s1, s2, s3, s4, s5, s6, s7, s8⟩, sw, st, sc⟩ := hL.1
        have g : ∀ j, ¬ (j = 9 ∨ j = 10) → (setI N2 193 10 (tW B n (i + 2))).1 193 j = M.1 193 j := fun j a => l2 193 j (by omega) (by unfold LBc; omega)
        refine ⟨⟨⟨?_, ?_, ?_, ?_, ?_, ?_, ?_, ?_, ?_⟩, fun w x y => ?_, fun t x y => ?_, fun c x y => ?_⟩, ⟨?_, ?_⟩, ?_, ?_, ?_⟩
        · rw [sI_ne (by omega), (p2 193 9 (by unfold NF; omega)).1, sI_self]; rfl
        · rw [sI_self]; rfl
        · rw [g 11 (by omega)]; exact s2
        · rw [g 12 (by omega)]; exact s3
        · rw [g 13 (by omega)]; exact s4
        · rw [g 14 (by omega)]; exact s5
        · rw [g 15 (by omega)]; exact s6
        · rw [g 16 (by omega)]; exact s7
        · rw [g 17 (by omega)]; exact s8
        · rw [l2 194 _ (by omega) (by unfold LBc; omega), l2 195 _ (by omega) (by unfold LBc; omega), l2 196 _ (by omega) (by unfold LBc; omega)]; exact sw w x y
        · rw [l2 200 _ (by omega) (by unfold LBc; omega), l2 201 _ (by omega) (by unfold LBc; omega), l2 202 _ (by omega) (by unfold LBc; omega)]; exact st t x y
        · rw [l2 197 _ (by omega) (by unfold LBc; omega), l2 198 _ (by omega) (by unfold LBc; omega), l2 199 _ (by omega) (by unfold LBc; omega)]; exact sc c x y
        · refine (SLw.same (V := V) ?_ rfl rfl (fun _ => ⟨rfl, rfl⟩))
          have := hL.2.1.1
          unfold SLw at *
          rw [l2 203 _ (by omega) (by unfold LBc; omega), l2 204 _ (by omega) (by unfold LBc; omega)]
          exact ⟨this.1, this.2.1, this.2.2.1, fun i a b => by rw [l2 205 _ (by omega) (by unfold LBc; omega), l2 206 _ (by omega) (by unfold LBc; omega)]; exact this.2.2.2 i a b⟩
        · refine (SLw.same (V := V) ?_ rfl rfl (fun _ => ⟨rfl, rfl⟩))
          have := hL.2.1.2
          unfold SLw at *
          rw [l2 203 _ (by omega) (by unfold LBc; omega), l2 204 _ (by omega) (by unfold LBc; omega)]
          exact ⟨this.1, this.2.1, this.2.2.1, fun i a b => by rw [l2 205 _ (by omega) (by unfold LBc; omega), l2 206 _ (by omega) (by unfold LBc; omega)]; exact this.2.2.2 i a b⟩
        · rw [l2 191 28 (by omega) (by unfold LBc; omega)]; exact hL.2.2.1
        · rw [l2 191 29 (by omega) (by unfold LBc; omega)]; exact hL.2.2.2.1
        · rw [l2 191 18 (by omega) (by unfold LBc; omega)]; exact hL.2.2.2.2
      · refine hT.done (S (hF1.trans (p2.mono NF_StW)) (by omega)) ?_ (td_of (kw := 13) (fun k a b => ?_) (by omega) (fun _ => ?_))
        · rw [sI_ne (by omega), nf17 p2, sI_ne (by omega), nf17 n2]
        · show setV (setV (setV V 0 0 (tW B n (i + 1))) 0 1 (tW B n (i + 2))) 0 13 1 0 k = V 0 k
          rw [setV_ne _ _ (by omega), setV_ne _ _ (by omega), setV_ne _ _ (by omega)]
        · show decide (setV (setV (setV V 0 0 (tW B n (i + 1))) 0 1 (tW B n (i + 2))) 0 13 1 0 13 = 1) = true
          exact decide_eq_true (setV_self _ _ _ _)
    · rw [if_pos p3.1]
      refine ⟨setI N2 193 10 1, fun k => ?_, LnO.bad (S (hF1.trans (p2.mono NF_StW)) (by omega)) ⟨p3.1, by rw [sI_ne (by omega)]; exact p3.2.1, by rw [sI_ne (by omega)]; exact p3.2.2⟩⟩
      rw [n1, obind_some, m_reads (by omega) (by omega), obind_some]
      show obind (t_MO_numeral (setI N1 193 9 (tW B n (i + 1))) 1 6) _ = _
      rw [p1, obind_some, m_reads (by omega) (by omega), obind_some]
      rfl
  · rw [if_pos n3.1]
    have hz : ¬ (setI N1 193 9 1).1 191 24 = 0 := by rw [sI_ne (by omega)]; exact n3.nz
    refine ⟨setI (setI N1 193 9 1) 193 10 1, fun k => ?_, LnO.bad (S (S (n2.mono NF_StW) (by omega)) (by omega)) ⟨n3.1, by rw [sI_ne (by omega), sI_ne (by omega)]; exact n3.2.1, by rw [sI_ne (by omega), sI_ne (by omega)]; exact n3.2.2⟩⟩
    rw [n1, obind_some, m_reads (by omega) (by omega), obind_some]
    show obind (t_MO_numeral (setI N1 193 9 1) 1 6) _ = _
    rw [flt_numeral hz, obind_some, m_reads (by omega) (by omega), obind_some]
    rfl
end LL
end
section
/-! ===== lines: ward, thing, seed ===== -/
abbrev scp (j x : Int) : Prop := (j = 9 ∧ x = 0) ∨ (j = 10 ∧ x = 1) ∨ (j = 11 ∧ x = 2) ∨ (j = 12 ∧ x = 6) ∨ (j = 13 ∧ x = 7) ∨ (j = 14 ∧ x = 8) ∨ (j = 15 ∧ x = 3) ∨ (j = 16 ∧ x = 5) ∨ (j = 17 ∧ x = 4)
theorem SV0.sc {M : Mem} {V : TV} (h : SV0 M V) {j x : Int} (hj : scp j x) : M.1 193 j = V 0 x := by
  obtain ⟨⟨s0, s1, s2, s3, s4, s5, s6, s7, s8⟩, -⟩ := h
  rcases hj with ⟨rfl, rfl⟩ | ⟨rfl, rfl⟩ | ⟨rfl, rfl⟩ | ⟨rfl, rfl⟩ | ⟨rfl, rfl⟩ | ⟨rfl, rfl⟩ | ⟨rfl, rfl⟩ | ⟨rfl, rfl⟩ | ⟨rfl, rfl⟩ <;> assumption
/-- rows read into, changed at a few places -/
theorem LB.upd {M N : Mem} {V V' : TV} {l : Int} {S : Nat → Int → Prop} (h : LB M V l) (e : ∀ k j, LBc k j → ¬ S k j → N.1 k j = M.1 k j) (hS : ∀ k j, S k j → 193 ≤ k ∧ k ≤ 202) (h0 : ∀ j x, scp j x → N.1 193 j = V' 0 x)
    (hw : ∀ w, 0 ≤ w → w < V' 0 2 → N.1 194 (4 + w) = V' 1 w ∧ N.1 195 (4 + w) = V' 2 w ∧ N.1 196 (4 + w) = V' 3 w) (ht : ∀ t, 0 ≤ t → t < V' 0 3 → N.1 200 (8 + t) = V' 4 t ∧ N.1 201 (8 + t) = V' 5 t ∧ N.1 202 (8 + t) = V' 6 t) (hc : ∀ c, 0 ≤ c → c < 48 → N.1 197 (48 + c) = V' 7 c + 1 ∧ N.1 198 (48 + c) = V' 8 c ∧ N.1 199 (48 + c) = V' 9 c)
    (h4 : V' 0 4 = V 0 4) (h11 : V' 0 11 = V 0 11) (h12 : V' 0 12 = V 0 12) (hk : ∀ r i, 10 ≤ r → V' r i = V r i) : LB N V' l := by
  have e2 : ∀ (k : Nat) (j : Int), 203 ≤ k → k ≤ 206 → N.1 k j = M.1 k j := fun k j a b => e k j (by unfold LBc; omega) (fun q => by have := hS k j q; omega)
  have e3 : ∀ j, (j = 28 ∨ j = 29 ∨ j = 18) → N.1 191 j = M.1 191 j := fun j a => e 191 j (by unfold LBc; omega) (fun q => by have := hS 191 j q; omega)
  have law : ∀ s, SLw M V s → SLw N V s := by
    intro s q
    unfold SLw at *
    rw [e2 203 _ (by omega) (by omega), e2 204 _ (by omega) (by omega)]
    exact ⟨q.1, q.2.1, q.2.2.1, fun i a b => by rw [e2 205 _ (by omega) (by omega), e2 206 _ (by omega) (by omega)]; exact q.2.2.2 i a b⟩
  refine ⟨⟨⟨h0 9 0 (by omega), h0 10 1 (by omega), h0 11 2 (by omega), h0 12 6 (by omega), h0 13 7 (by omega), h0 14 8 (by omega), h0 15 3 (by omega), h0 16 5 (by omega), h0 17 4 (by omega)⟩, hw, ht, hc⟩, ⟨(law 0 h.2.1.1).same h4 h11 (fun i => ⟨hk _ i (by omega), hk _ i (by omega)⟩), (law 1 h.2.1.2).same h4 h12 (fun i => ⟨hk _ i (by omega), hk _ i (by omega)⟩)⟩, ?_, ?_, ?_⟩
  · rw [e3 28 (by omega)]; exact h.2.2.1
  · rw [e3 29 (by omega), h4]; exact h.2.2.2.1
  · rw [e3 18 (by omega)]; exact h.2.2.2.2
theorem FS.fr {W : Nat → Int → Prop} {M N : Mem} {f p : Int} (h : FS M f p) (hF : Fr W M N) (hd : ∀ k j, k = 191 → 24 ≤ j → j ≤ 25 → ¬ W k j) : FS N f p :=
  ⟨h.1, (hF 191 24 (hd _ _ rfl (by omega) (by omega))).1.trans h.2.1, (hF 191 25 (hd _ _ rfl (by omega) (by omega))).1.trans h.2.2⟩
section LW
variable {B : Int → Int} {n : Int}
theorem m_lnWard {M : Mem} {V : TV} {l : Int} {i : Nat} (h : TS M B n (i + 1)) (hL : LB M V l) (hT : TBw M V 1) (hP : POK V) (h2 : V 0 2 < 4) : LnO M B n l (lnWard B n V i) (t_MO_wardLine M (w32 (4 + V 0 2))) := by
  have hv := hP.1.1
  obtain ⟨s0, sw, st, sc⟩ := hL.1
  have e11 : M.1 193 11 = V 0 2 := s0.2.2.1
  unfold lnWard t_MO_wardLine t_MO_wardLine_L52 t_MO_wardLine_L57
  rw [w32_id (x := 4 + V 0 2) (by unfold InR; omega), m_fresher (by omega) (by omega), obind_some]
  have e112 : M.1 193 (9 + 2) = V 0 2 := e11
  rw [e112]
  have gd : 0 ≤ 4 + V 0 2 ∧ 4 + V 0 2 < 8 := by omega
  simp (config := { proj := false }) only [qguard_pos gd, qlet]
  rcases m_fresh (V := V) (row := 1) (r := 194) (N1 := 8) (off := 4) (len := V 0 2) h (by omega) (by omega) (by omega) (by omega) (fun w a b => (sw w a b).1) with ⟨a0, N1, n1, n2, n3⟩ | ⟨N1, n1, n2, n3⟩
  · rw [if_neg (fun q => q a0), n1, obind_some]
    have hFa : Fr (fun k j => k = 194 ∧ j = 4 + V 0 2) N1 (setI N1 194 (4 + V 0 2) (tW B n (i + 1))) := Fr.rf.setI ⟨rfl, rfl⟩
    have t1 : TS (setI N1 194 (4 + V 0 2) (tW B n (i + 1))) B n (i + 2) := n3.fr hFa (fun k j a z => by omega)
    have f1 : Fr StW M (setI N1 194 (4 + V 0 2) (tW B n (i + 1))) := (n2.mono NF_StW).trans (hFa.mono (fun k j z => by unfold StW; omega))
    have hkk := t1.kok
    have hso := t1.2.1.2.2.1
    have hz : (setI N1 194 (4 + V 0 2) (tW B n (i + 1))).1 191 24 = 0 := t1.2.2
    obtain ⟨w1, w2⟩ := t1.wrong (k := 1) (by decide)
    generalize hM1 : setI N1 194 (4 + V 0 2) (tW B n (i + 1)) = M1 at *
    have bad : ¬ (8 ≤ tK B n (i + 2) ∧ tK B n (i + 2) ≤ 12) → LnO M B n l (1, tP B n (i + 2), 0, V) (some (t_MO_wrong M1 1)) := fun _ => LnO.bad (f1.trans (w1.mono NF_StW)) w2
    by_cases k8 : 8 ≤ tK B n (i + 2) ∧ tK B n (i + 2) ≤ 12
    · have hs := (srt_word t1.2.1 hkk (tK B n (i + 2)) (by omega) (by omega)).mpr rfl
      rw [if_neg (fun q => q k8), if_pos hz, if_pos hs.1, if_neg (show ¬ M1.1 191 23 < 8 by omega), if_pos (show M1.1 191 23 ≤ 12 by omega), if_pos hz, hs.2, w32_id (x := tK B n (i + 2) - 8) (by unfold InR; omega)]
      have hFb : Fr (fun k j => k = 195 ∧ j = 4 + V 0 2) M1 (setI M1 195 (4 + V 0 2) (tK B n (i + 2) - 8)) := Fr.rf.setI ⟨rfl, rfl⟩
      obtain ⟨N2, p1, p2, p3⟩ := (t1.fr hFb (fun k j a z => by omega)).next
      rw [p1, obind_some]
      have f2 : Fr StW M N2 := (f1.trans (hFb.mono (fun k j z => by unfold StW; omega))).trans (p2.mono NF_StW)
      rcases m_numeral p3 (lo := 0) (hi := 99) (by omega) (by omega) (by omega) with ⟨b0, b1, N3, q1, q2, q3⟩ | ⟨N3, q1, q2, q3⟩
      · rw [if_neg (fun q => q b0), q1, obind_some]
        have f3 : Fr StW M N3 := f2.trans (q2.mono NF_StW)
        have x11 : (setI N3 196 (4 + V 0 2) (tW B n (i + 3))).1 193 (9 + 2) = V 0 2 := by
          rw [sI_ne (by omega), (q2 193 (9 + 2) (by unfold NF; omega)).1, (p2 193 (9 + 2) (by unfold NF; omega)).1, sI_ne (by omega), ← hM1, sI_ne (by omega), (n2 193 (9 + 2) (by unfold NF; omega)).1]
          exact e11
        rw [m_fresher (by omega) (by omega), obind_some, x11, m_reads (by omega) (by omega), obind_some, w32_id (x := V 0 2 + 1) (by unfold InR; omega)]
        have fin : Fr StW M (setI (setI N3 196 (4 + V 0 2) (tW B n (i + 3))) 193 11 (V 0 2 + 1)) := (f3.setI (by unfold StW; omega)).setI (by unfold StW; omega)
        have hF4 : Fr (fun k j => (k = 196 ∧ j = 4 + V 0 2) ∨ (k = 193 ∧ j = 11)) N3 (setI (setI N3 196 (4 + V 0 2) (tW B n (i + 3))) 193 11 (V 0 2 + 1)) := (Fr.rf.setI (Or.inl ⟨rfl, rfl⟩)).setI (Or.inr ⟨rfl, rfl⟩)
        have e : ∀ k j, LBc k j → ¬ ((k = 194 ∨ k = 195 ∨ k = 196) ∧ j = 4 + V 0 2 ∨ k = 193 ∧ j = 11) → (setI (setI N3 196 (4 + V 0 2) (tW B n (i + 3))) 193 11 (V 0 2 + 1)).1 k j = M.1 k j := fun k j a b => by
          rw [sI_ne (by omega), sI_ne (by omega), (q2 k j (NF_LBc k j a)).1, (p2 k j (NF_LBc k j a)).1, sI_ne (by omega), ← hM1, sI_ne (by omega), (n2 k j (NF_LBc k j a)).1]
        refine ⟨setI (setI N3 196 (4 + V 0 2) (tW B n (i + 3))) 193 11 (V 0 2 + 1), rfl, fin, Or.inl ⟨rfl, q3.fr hF4 (fun k j a z => by omega), ?_, ?_⟩⟩
        · refine hL.upd e (fun k j z => by omega) (fun j x hj => ?_) (fun w a b => ?_) (fun t a b => ?_) (fun c a b => ?_) rfl rfl rfl (fun r i hr => ?_)
          · show _ = setV (setV (setV (setV V 1 (V 0 2) (tW B n (i + 1))) 2 (V 0 2) (tK B n (i + 2) - 8)) 3 (V 0 2) (tW B n (i + 3))) 0 2 (V 0 2 + 1) 0 x
            by_cases q : j = 11
            · have hx : x = 2 := by omega
              subst q; subst hx
              rw [sI_self, setV_self]
            · rw [e 193 j (by unfold LBc; omega) (by omega), setV_ne _ _ (by omega), setV_ne _ _ (by omega), setV_ne _ _ (by omega), setV_ne _ _ (by omega)]
              exact hL.1.sc hj
          · have b' : w < V 0 2 + 1 := by
              have b : w < setV (setV (setV (setV V 1 (V 0 2) (tW B n (i + 1))) 2 (V 0 2) (tK B n (i + 2) - 8)) 3 (V 0 2) (tW B n (i + 3))) 0 2 (V 0 2 + 1) 0 2 := b
              rw [setV_self] at b; exact b
            show _ = setV (setV (setV (setV V 1 (V 0 2) (tW B n (i + 1))) 2 (V 0 2) (tK B n (i + 2) - 8)) 3 (V 0 2) (tW B n (i + 3))) 0 2 (V 0 2 + 1) 1 w ∧ _ = setV (setV (setV (setV V 1 (V 0 2) (tW B n (i + 1))) 2 (V 0 2) (tK B n (i + 2) - 8)) 3 (V 0 2) (tW B n (i + 3))) 0 2 (V 0 2 + 1) 2 w ∧ _ = setV (setV (setV (setV V 1 (V 0 2) (tW B n (i + 1))) 2 (V 0 2) (tK B n (i + 2) - 8)) 3 (V 0 2) (tW B n (i + 3))) 0 2 (V 0 2 + 1) 3 w
            by_cases q : w = V 0 2
            · subst q
              refine ⟨?_, ?_, ?_⟩
              · rw [setV_ne _ _ (by omega), setV_ne _ _ (by omega), setV_ne _ _ (by omega), setV_self, sI_ne (by omega), sI_ne (by omega), (q2 194 _ (by unfold NF; omega)).1, (p2 194 _ (by unfold NF; omega)).1, sI_ne (by omega), ← hM1, sI_self]
              · rw [setV_ne _ _ (by omega), setV_ne _ _ (by omega), setV_self, sI_ne (by omega), sI_ne (by omega), (q2 195 _ (by unfold NF; omega)).1, (p2 195 _ (by unfold NF; omega)).1, sI_self]
              · rw [setV_ne _ _ (by omega), setV_self, sI_ne (by omega), sI_self]
            · have z := sw w a (by omega)
              refine ⟨?_, ?_, ?_⟩
              · rw [e 194 _ (by unfold LBc; omega) (by omega), setV_ne _ _ (by omega), setV_ne _ _ (by omega), setV_ne _ _ (by omega), setV_ne _ _ (by omega)]; exact z.1
              · rw [e 195 _ (by unfold LBc; omega) (by omega), setV_ne _ _ (by omega), setV_ne _ _ (by omega), setV_ne _ _ (by omega), setV_ne _ _ (by omega)]; exact z.2.1
              · rw [e 196 _ (by unfold LBc; omega) (by omega), setV_ne _ _ (by omega), setV_ne _ _ (by omega), setV_ne _ _ (by omega), setV_ne _ _ (by omega)]; exact z.2.2
          · rw [e 200 _ (by unfold LBc; omega) (by omega), e 201 _ (by unfold LBc; omega) (by omega), e 202 _ (by unfold LBc; omega) (by omega)]
            exact st t a b
          · rw [e 197 _ (by unfold LBc; omega) (by omega), e 198 _ (by unfold LBc; omega) (by omega), e 199 _ (by unfold LBc; omega) (by omega)]
            exact sc c a b
          · show setV (setV (setV (setV V 1 (V 0 2) (tW B n (_ + 1))) 2 (V 0 2) (tK B n (_ + 2) - 8)) 3 (V 0 2) (tW B n (_ + 3))) 0 2 (V 0 2 + 1) r i = V r i
            rw [setV_ne _ _ (by omega), setV_ne _ _ (by omega), setV_ne _ _ (by omega), setV_ne _ _ (by omega)]
        · refine hT.done fin ?_ (td_of (kw := 2) (fun k a b => ?_) (by omega) (fun q => by omega))
          · rw [sI_ne (by omega), sI_ne (by omega), nf17 q2, nf17 p2, sI_ne (by omega), ← hM1, sI_ne (by omega), nf17 n2]
          · show setV (setV (setV (setV V 1 (V 0 2) (tW B n (i + 1))) 2 (V 0 2) (tK B n (i + 2) - 8)) 3 (V 0 2) (tW B n (i + 3))) 0 2 (V 0 2 + 1) 0 k = V 0 k
            rw [setV_ne _ _ (by omega), setV_ne _ _ (by omega), setV_ne _ _ (by omega), setV_ne _ _ (by omega)]
      · rw [if_pos q3.1, q1, obind_some]
        rw [m_fresher (by omega) (by omega), obind_some, m_reads (by omega) (by omega), obind_some]
        exact LnO.bad (((f2.trans (q2.mono NF_StW)).setI (by unfold StW; omega)).setI (by unfold StW; omega)) (by
          refine ⟨q3.1, ?_, ?_⟩
          · rw [sI_ne (by omega), sI_ne (by omega)]; exact q3.2.1
          · rw [sI_ne (by omega), sI_ne (by omega)]; exact q3.2.2)
    · rw [if_pos k8, if_pos hz, if_neg w2.nz]
      have b := bad k8
      by_cases sz : M1.1 191 22 = 0
      · rw [if_pos sz]
        have hk24 : tK B n (i + 2) ≤ 24 := by
          apply Classical.byContradiction
          intro y
          rw [hso] at sz
          unfold srtV at sz
          repeat (first | omega | split at sz)
        have hvv := t1.2.1.2.2.2.1 ⟨by omega, hk24⟩
        by_cases c1 : M1.1 191 23 < 8
        · rw [if_pos c1]; exact b
        · rw [if_neg c1, if_neg (show ¬ M1.1 191 23 ≤ 12 by omega)]; exact b
      · rw [if_neg sz]; exact b
  · rw [if_pos n3.1, n1, obind_some]
    have hFa : Fr (fun k j => k = 194 ∧ j = 4 + V 0 2) N1 (setI N1 194 (4 + V 0 2) 0) := Fr.rf.setI ⟨rfl, rfl⟩
    have g := n3.fr hFa (fun k j a b c z => by omega)
    rw [if_neg g.nz, if_neg g.nz]
    exact LnO.bad ((n2.mono NF_StW).trans (hFa.mono (fun k j z => by unfold StW; omega))) g
end LW
end
