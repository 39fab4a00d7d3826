/-! ===== formulas: the reference goes as said ===== -/
section MG
variable {B : Int → Int} {n : Int}
theorem tK_T (h : 0 ≤ n ∧ n ≤ 700) : ∀ x, n.toNat ≤ x → tK B n x = 32 := fun x hx => tK_end h.1 h.2 (by omega)
theorem EP.nr {M : Mem} {i : Nat} {c o q : Int} (h : EP M B n i c o q) : 0 ≤ n ∧ n ≤ 700 := h.1.1
theorem op_T (h : 0 ≤ n ∧ n ≤ 700) (nt : Nat) : ∀ x, n.toNat ≤ x → opK nt (tK B n x) = false := fun x hx => by rw [tK_T h x hx]; exact op_end
/-- what the pieces of depth d keep to -/
def MG (B : Int → Int) (n : Int) (d : Nat) : Prop := ∀ (nt : Nat) (o : Int) (i : Nat) (c q : Int) (M : Mem) (r : ER), nt ≤ 5 → 0 ≤ o → o ≤ 8 → 0 ≤ q → q ≤ c → c ≤ 64 → nd nt o c ≤ (d : Int) → EP M B n i c o q → exG (tK B n) (tW B n) d nt o i c = some r → XR M B n o q r (t_MO_G d nt M)
/-- the four loops, over any of them -/
theorem m_loop4 {d nt : Nat} {F : Nat → Mem → Option Mem} (hd : MG B n d) (hnt : nt ≤ 4)
    (Fa : ∀ fu M i c o q, EP M B n i c o q → opK nt (tK B n i) = false → F (fu + 1) M = some M)
    (Fb : ∀ fu M, ¬ M.1 191 24 = 0 → F (fu + 1) M = some M)
    (Fc : ∀ fu M i c o q, EP M B n i c o q → opK nt (tK B n i) = true → F (fu + 1) M = obind (t_MO_goOn (t_MO_knot M)) fun q8 => obind (t_MO_G d (nt + 1) q8) fun q10 => obind (t_MO_puts q10 2 (kval (tK B n i) 0)) fun q12 => F fu q12)
    {o : Int} {i : Nat} {c q : Int} {M : Mem} {r : ER} (o0 : 0 ≤ o) (o1 : o ≤ 8) (q0 : 0 ≤ q) (q1 : q ≤ c) (c1 : c ≤ 64) (hn : nd nt o c ≤ (d : Int) + 1) (hE : EP M B n i c o q)
    (h : (exG (tK B n) (tW B n) d (nt + 1) o i c).bind (fun r => if r.1 = 0 then exL (tK B n) (opK nt) (fun i' c' => exG (tK B n) (tW B n) d (nt + 1) o i' c') FU r.2.1 r.2.2.1 r.2.2.2 else some r) = some r) :
    XR M B n o q r (obind (t_MO_G d (nt + 1) M) fun q1 => F FU q1) := by
  obtain ⟨f, hf⟩ := fu_succ
  have hN := hE.nr
  have hT : ∀ x, n.toNat ≤ x → tK B n x = 32 := tK_T hN
  unfold nd at hn
  cases e1 : exG (tK B n) (tW B n) d (nt + 1) o i c with
  | none => rw [e1] at h; cases h
  | some r1 =>
    rw [e1] at h
    have h : (if r1.1 = 0 then exL (tK B n) (opK nt) (fun i' c' => exG (tK B n) (tW B n) d (nt + 1) o i' c') FU r1.2.1 r1.2.2.1 r1.2.2.2 else some r1) = some r := h
    obtain ⟨N1, x1, x2, x3⟩ := hd (nt + 1) o i c q M r1 (by omega) o0 o1 q0 q1 c1 (by unfold nd; push_cast; omega) hE e1
    rw [x1, obind_some]
    obtain ⟨rr, ea, eb⟩ := exG_facts (K := tK B n) (W := tW B n) hT (by omega) d (nt + 1) o i c (by omega) o0 o1 (by omega) c1 (by unfold nd; push_cast; omega)
    rw [e1] at ea
    have ea := Option.some.inj ea
    subst ea
    rcases x3 with ⟨z, y1, y2⟩ | ⟨z, y1, y2⟩
    · rw [if_pos z] at h
      obtain ⟨s1, s2, s3, s4, s5⟩ := eb.1 z
      exact m_opL (T := n.toNat) (F := F) (op := opK nt) (rc := fun i' c' => exG (tK B n) (tW B n) d (nt + 1) o i' c') (G := t_MO_G d (nt + 1)) (lo := c) q0 (fun fu M i c q a b => Fa fu M i c o q a b) Fb (fun fu M i c q a b => Fc fu M i c o q a b) (fun k hk => op_two hk) (op_T hN nt)
        (fun M hM => flt_G d (nt + 1) M (by omega) (by omega) hM)
        (fun i c' r er a b => by
          obtain ⟨rr, ea, eb⟩ := exG_facts (K := tK B n) (W := tW B n) hT (by omega) d (nt + 1) o i c' (by omega) o0 o1 (by omega) b (by unfold nd; push_cast; omega)
          have : some r = some rr := er.symm.trans ea
          have := Option.some.inj this
          subst this
          exact eb)
        (fun M i c' q' r hM a b a2 b2 er => hd (nt + 1) o i c' q' M r (by omega) o0 o1 a b b2 (by unfold nd; push_cast; omega) hM er)
        FU M N1 r1.2.1 r1.2.2.1 r1.2.2.2 r x2 y1 y2 (by omega) s2 s3 (by omega) (Nat.lt_of_lt_of_le (fu_big (by omega : n.toNat < 1000000)) (Nat.le_add_left _ _)) h
    · rw [if_neg z] at h
      have h := Option.some.inj h
      subst h
      have hz : ¬ N1.1 191 24 = 0 := by rw [y1]; exact z
      rw [hf, Fb f _ hz]
      exact ⟨N1, rfl, x2, Or.inr ⟨z, y1, y2⟩⟩
theorem opK0 (k : Int) : opK 0 k = decide (k = 15) := rfl
theorem opK1 (k : Int) : opK 1 k = decide (k = 16) := rfl
theorem opK3 (k : Int) : opK 3 k = decide (k = 43 ∨ k = 44) := rfl
theorem opK4 (k : Int) : opK 4 k = decide (k = 45 ∨ k = 46) := rfl
theorem EP.val {M : Mem} {i : Nat} {c o q : Int} (h : EP M B n i c o q) (hk : 40 ≤ tK B n i) : M.1 191 23 = sgV (tK B n i) := h.2.1.2.2.2.2.2.2 hk
theorem m_G0 {d : Nat} (hd : MG B n d) : ∀ (o : Int) (i : Nat) (c q : Int) (M : Mem) (r : ER), 0 ≤ o → o ≤ 8 → 0 ≤ q → q ≤ c → c ≤ 64 → nd 0 o c ≤ (d : Int) + 1 → EP M B n i c o q → exG (tK B n) (tW B n) (d + 1) 0 o i c = some r → XR M B n o q r (t_MO_G (d + 1) 0 M) := by
  intro o i c q M r o0 o1 q0 q1 c1 hn hE h
  rw [exG, if_neg (by decide), if_neg (by decide)] at h
  rw [t_MO_G, if_pos rfl]
  unfold t_MO_expression_B
  refine m_loop4 (nt := 0) (F := t_MO_expression_L4 (fun i_ M_ => t_MO_G d i_ M_)) hd (by omega) (fun fu M i c o q a b => ?_) (fun fu M a => ?_) (fun fu M i c o q a b => ?_) o0 o1 q0 q1 c1 hn hE h
  · rw [opK0] at b
    rw [t_MO_expression_L4]
    simp only [qlet]
    rw [a.word (by omega) (by omega), if_neg (of_decide_eq_false b), if_pos rfl]
  · rw [t_MO_expression_L4]
    simp only [qlet]
    rw [flt_word a, if_pos rfl]
  · rw [opK0] at b
    have b := of_decide_eq_true b
    rw [t_MO_expression_L4]
    simp only [qlet]
    rw [a.word (by omega) (by omega), if_pos b, if_neg (by decide), b]
    rfl
theorem m_G1 {d : Nat} (hd : MG B n d) : ∀ (o : Int) (i : Nat) (c q : Int) (M : Mem) (r : ER), 0 ≤ o → o ≤ 8 → 0 ≤ q → q ≤ c → c ≤ 64 → nd 1 o c ≤ (d : Int) + 1 → EP M B n i c o q → exG (tK B n) (tW B n) (d + 1) 1 o i c = some r → XR M B n o q r (t_MO_G (d + 1) 1 M) := by
  intro o i c q M r o0 o1 q0 q1 c1 hn hE h
  rw [exG, if_neg (by decide), if_neg (by decide)] at h
  rw [t_MO_G, if_neg (by decide), if_pos rfl]
  unfold t_MO_conjunction_B
  refine m_loop4 (nt := 1) (F := t_MO_conjunction_L4 (fun i_ M_ => t_MO_G d i_ M_)) hd (by omega) (fun fu M i c o q a b => ?_) (fun fu M a => ?_) (fun fu M i c o q a b => ?_) o0 o1 q0 q1 c1 hn hE h
  · rw [opK1] at b
    rw [t_MO_conjunction_L4]
    simp only [qlet]
    rw [a.word (by omega) (by omega), if_neg (of_decide_eq_false b), if_pos rfl]
  · rw [t_MO_conjunction_L4]
    simp only [qlet]
    rw [flt_word a, if_pos rfl]
  · rw [opK1] at b
    have b := of_decide_eq_true b
    rw [t_MO_conjunction_L4]
    simp only [qlet]
    rw [a.word (by omega) (by omega), if_pos b, if_neg (by decide), b]
    rfl
theorem m_G3 {d : Nat} (hd : MG B n d) : ∀ (o : Int) (i : Nat) (c q : Int) (M : Mem) (r : ER), 0 ≤ o → o ≤ 8 → 0 ≤ q → q ≤ c → c ≤ 64 → nd 3 o c ≤ (d : Int) + 1 → EP M B n i c o q → exG (tK B n) (tW B n) (d + 1) 3 o i c = some r → XR M B n o q r (t_MO_G (d + 1) 3 M) := by
  intro o i c q M r o0 o1 q0 q1 c1 hn hE h
  rw [exG, if_neg (by decide), if_neg (by decide)] at h
  rw [t_MO_G, if_neg (by decide), if_neg (by decide), if_neg (by decide), if_pos rfl]
  unfold t_MO_sum_B
  refine m_loop4 (nt := 3) (F := t_MO_sum_L4 (fun i_ M_ => t_MO_G d i_ M_)) hd (by omega) (fun fu M i c o q a b => ?_) (fun fu M a => ?_) (fun fu M i c o q a b => ?_) o0 o1 q0 q1 c1 hn hE h
  · rw [opK3] at b
    have b := of_decide_eq_false b
    rw [t_MO_sum_L4]
    simp only [qlet]
    rw [a.sign (w := 43) (v := 43) (by omega) (by omega) rfl, if_neg (fun z => b (Or.inl z)), if_pos rfl, a.sign (w := 44) (v := 45) (by omega) (by omega) rfl, if_neg (fun z => b (Or.inr z)), if_pos rfl]
  · rw [t_MO_sum_L4]
    simp only [qlet]
    rw [flt_sign a, if_pos rfl, flt_sign a, if_pos rfl]
  · rw [opK3] at b
    have b := of_decide_eq_true b
    have hv := a.val (by omega)
    rw [t_MO_sum_L4]
    unfold t_MO_sum_L22
    simp only [qlet]
    rw [a.sign (w := 43) (v := 43) (by omega) (by omega) rfl, a.sign (w := 44) (v := 45) (by omega) (by omega) rfl, hv]
    rcases b with b | b
    · rw [if_pos b, if_neg (by decide), b]
      rfl
    · rw [if_neg (show ¬ tK B n i = 43 by omega), if_pos (show (0 : Int) = 0 from rfl), if_pos b, if_neg (show ¬ (1 : Int) = 0 by decide), b]
      rfl
theorem m_G4 {d : Nat} (hd : MG B n d) : ∀ (o : Int) (i : Nat) (c q : Int) (M : Mem) (r : ER), 0 ≤ o → o ≤ 8 → 0 ≤ q → q ≤ c → c ≤ 64 → nd 4 o c ≤ (d : Int) + 1 → EP M B n i c o q → exG (tK B n) (tW B n) (d + 1) 4 o i c = some r → XR M B n o q r (t_MO_G (d + 1) 4 M) := by
  intro o i c q M r o0 o1 q0 q1 c1 hn hE h
  rw [exG, if_neg (by decide), if_neg (by decide)] at h
  rw [t_MO_G, if_neg (by decide), if_neg (by decide), if_neg (by decide), if_neg (by decide), if_pos rfl]
  unfold t_MO_product_B
  refine m_loop4 (nt := 4) (F := t_MO_product_L4 (fun i_ M_ => t_MO_G d i_ M_)) hd (by omega) (fun fu M i c o q a b => ?_) (fun fu M a => ?_) (fun fu M i c o q a b => ?_) o0 o1 q0 q1 c1 hn hE h
  · rw [opK4] at b
    have b := of_decide_eq_false b
    rw [t_MO_product_L4]
    simp only [qlet]
    rw [a.sign (w := 45) (v := 42) (by omega) (by omega) rfl, if_neg (fun z => b (Or.inl z)), if_pos rfl, a.sign (w := 46) (v := 47) (by omega) (by omega) rfl, if_neg (fun z => b (Or.inr z)), if_pos rfl]
  · rw [t_MO_product_L4]
    simp only [qlet]
    rw [flt_sign a, if_pos rfl, flt_sign a, if_pos rfl]
  · rw [opK4] at b
    have b := of_decide_eq_true b
    have hv := a.val (by omega)
    rw [t_MO_product_L4]
    unfold t_MO_product_L22
    simp only [qlet]
    rw [a.sign (w := 45) (v := 42) (by omega) (by omega) rfl, a.sign (w := 46) (v := 47) (by omega) (by omega) rfl, hv]
    rcases b with b | b
    · rw [if_pos b, if_neg (by decide), b]
      rfl
    · rw [if_neg (show ¬ tK B n i = 45 by omega), if_pos (show (0 : Int) = 0 from rfl), if_pos b, if_neg (show ¬ (1 : Int) = 0 by decide), b]
      rfl
/-- one piece put and the next token -/
theorem EP.putOne {M : Mem} {i : Nat} {c o q : Int} (h : EP M B n i c o q) (q0 : 0 ≤ q) (q1 : q < 64) (s v k w : Int) (hs : s = ksort k) (hv : v = kval k w) : ∃ N, (obind (t_MO_puts M s v) fun q51 => obind (t_MO_goOn q51) fun q53 => some q53) = some N ∧ Fr (XW q) M N ∧ EP N B n (i + 1) c o (q + 1) ∧ KnL N q [(k, w)] := by
  obtain ⟨N12, p1, p2, p3, p4, p5⟩ := h.puts q0 q1 s v
  obtain ⟨N8, g1, g2, g3⟩ := p3.goOn
  rw [p1, obind_some, g1, obind_some]
  refine ⟨N8, rfl, (p2.mono (fun k j z => by unfold XW; omega)).trans (g2.mono (XW.mono (by omega))), g3, fun x hx => ?_⟩
  have hx0 : x = 0 := by simp only [List.length_cons, List.length_nil] at hx; omega
  subst hx0
  rw [show 64 + q + ((0 : Nat) : Int) = 64 + q by omega, (g2 205 (64 + q) (by unfold XW; omega)).1, (g2 206 (64 + q) (by unfold XW; omega)).1, p4, p5]
  exact ⟨hs, hv⟩
theorem sg_cmp : ∀ a : Nat, a < 13 → ((sgV (40 + a) = 60 ∨ sgV (40 + a) = 62 ∨ sgV (40 + a) = 61 ∨ 256 ≤ sgV (40 + a)) ↔ 7 ≤ a) ∧ (7 ≤ a → kval (40 + a) 0 = sgV (40 + a)) := by decide +kernel
theorem m_G2 {d : Nat} (hd : MG B n d) : ∀ (o : Int) (i : Nat) (c q : Int) (M : Mem) (r : ER), 0 ≤ o → o ≤ 8 → 0 ≤ q → q ≤ c → c ≤ 64 → nd 2 o c ≤ (d : Int) + 1 → EP M B n i c o q → exG (tK B n) (tW B n) (d + 1) 2 o i c = some r → XR M B n o q r (t_MO_G (d + 1) 2 M) := by
  intro o i c q M r o0 o1 q0 q1 c1 hn hE h
  have hN := hE.nr
  have hT : ∀ x, n.toNat ≤ x → tK B n x = 32 := tK_T hN
  unfold nd at hn
  rw [exG, if_pos rfl] at h
  rw [t_MO_G, if_neg (by decide), if_neg (by decide), if_pos rfl]
  unfold t_MO_negation_B
  simp only [qlet]
  rw [hE.word (by omega) (by omega)]
  by_cases k17 : tK B n i = 17
  · rw [if_pos k17] at h ⊢
    rw [if_neg (by decide)]
    by_cases c64 : c = 64
    · rw [if_pos c64] at h
      have h := Option.some.inj h
      subst h
      subst c64
      obtain ⟨w1, w2, w3⟩ := hE.fault 2
      have hz : ¬ (t_MO_wrong M 2).1 191 24 = 0 := by rw [w2]; decide
      rw [hE.knotFull, flt_goOn hz, obind_some, flt_G d 2 _ (by omega) (by omega) hz, obind_some, flt_puts hz, obind_some]
      exact ⟨_, rfl, w1, Or.inr ⟨by show ¬ (2 : Int) = 0; decide, w2, w3⟩⟩
    · rw [if_neg c64] at h
      obtain ⟨k1, k2, k3⟩ := hE.knot (by omega) (by omega)
      obtain ⟨N8, g1, g2, g3⟩ := k1.goOn
      rw [g1, obind_some]
      cases e1 : exG (tK B n) (tW B n) d 2 o (i + 1) (c + 1) with
      | none => rw [e1] at h; cases h
      | some r1 =>
        rw [e1] at h
        have h : (if r1.1 = 0 then some (0, r1.2.1, r1.2.2.1, r1.2.2.2 ++ [(17, 0)]) else some r1) = some r := h
        obtain ⟨N1, x1, x2, x3⟩ := hd 2 o (i + 1) (c + 1) q N8 r1 (by omega) o0 o1 q0 (by omega) (by omega) (by unfold nd; omega) g3 e1
        obtain ⟨rr, ea, eb⟩ := exG_facts (K := tK B n) (W := tW B n) hT (by omega) d 2 o (i + 1) (c + 1) (by omega) o0 o1 (by omega) (by omega) (by unfold nd; omega)
        rw [e1] at ea
        have ea := Option.some.inj ea
        subst ea
        have hF := (k2.trans g2).trans x2
        rw [x1, obind_some]
        rcases x3 with ⟨z, y1, y2⟩ | ⟨z, y1, y2⟩
        · rw [if_pos z] at h
          have h := Option.some.inj h
          subst h
          obtain ⟨s1, s2, s3, s4, s5⟩ := eb.1 z
          obtain ⟨N12, p1, p2, p3, p4, p5⟩ := y1.puts (by omega) (by omega) 2 260
          rw [p1, obind_some]
          refine ⟨N12, rfl, hF.trans (p2.mono (fun k j z => by unfold XW; omega)), Or.inl ⟨rfl, ?_, ?_⟩⟩
          · show EP N12 B n r1.2.1 r1.2.2.1 o (q + ((r1.2.2.2 ++ [(17, 0)]).length : Int))
            have hl : ((r1.2.2.2 ++ [((17 : Int), (0 : Int))]).length : Int) = (r1.2.2.2.length : Int) + 1 := by simp only [List.length_append, List.length_cons, List.length_nil]; omega
            rw [hl, show q + ((r1.2.2.2.length : Int) + 1) = q + (r1.2.2.2.length : Int) + 1 by omega]
            exact p3
          · refine (y2.fr p2 (fun k j a b z => by omega)).app (fun x hx => ?_)
            have hx0 : x = 0 := by simp only [List.length_cons, List.length_nil] at hx; omega
            subst hx0
            rw [show 64 + (q + (r1.2.2.2.length : Int)) + ((0 : Nat) : Int) = 64 + (q + (r1.2.2.2.length : Int)) by omega, p4, p5]
            exact ⟨rfl, rfl⟩
        · rw [if_neg z] at h
          have h := Option.some.inj h
          subst h
          have hz : ¬ N1.1 191 24 = 0 := by rw [y1]; exact z
          rw [flt_puts hz, obind_some]
          exact ⟨N1, rfl, hF, Or.inr ⟨z, y1, y2⟩⟩
  · rw [if_neg k17] at h ⊢
    rw [if_pos rfl]
    cases e1 : exG (tK B n) (tW B n) d 3 o i c with
    | none => rw [e1] at h; cases h
    | some r1 =>
      rw [e1] at h
      have h : (if r1.1 = 0 ∧ 47 ≤ tK B n r1.2.1 ∧ tK B n r1.2.1 ≤ 52 then (if r1.2.2.1 = 64 then some (2, r1.2.1, r1.2.2.1, r1.2.2.2) else (exG (tK B n) (tW B n) d 3 o (r1.2.1 + 1) (r1.2.2.1 + 1)).bind (fun r3 => if r3.1 = 0 then some (0, r3.2.1, r3.2.2.1, r1.2.2.2 ++ r3.2.2.2 ++ [(tK B n r1.2.1, 0)]) else some r3)) else some r1) = some r := h
      obtain ⟨N1, x1, x2, x3⟩ := hd 3 o i c q M r1 (by omega) o0 o1 q0 q1 c1 (by unfold nd; omega) hE e1
      obtain ⟨rr, ea, eb⟩ := exG_facts (K := tK B n) (W := tW B n) hT (by omega) d 3 o i c (by omega) o0 o1 (by omega) c1 (by unfold nd; omega)
      rw [e1] at ea
      have ea := Option.some.inj ea
      subst ea
      rw [x1, obind_some]
      rcases x3 with ⟨z, y1, y2⟩ | ⟨z, y1, y2⟩
      · obtain ⟨s1, s2, s3, s4, s5⟩ := eb.1 z
        have hsort := y1.2.1.2.2.1
        have hkk := y1.kok
        rw [if_pos y1.2.2.1]
        by_cases k47 : 47 ≤ tK B n r1.2.1 ∧ tK B n r1.2.1 ≤ 52
        · rw [if_pos ⟨z, k47⟩] at h
          have hv := y1.val (by omega)
          have h3 : N1.1 191 22 = 3 := by rw [hsort]; unfold srtV; rw [if_neg (by omega), if_neg (by omega), if_neg (by omega), if_neg (by omega), if_neg (by omega)]
          have hc := sg_cmp (tK B n r1.2.1 - 40).toNat (by omega)
          rw [Int.toNat_of_nonneg (by omega), show 40 + (tK B n r1.2.1 - 40) = tK B n r1.2.1 by omega] at hc
          have hcc := hc.1.mpr (by omega)
          have hkv := hc.2 (by omega)
          -- the comparison goes on
          have go : XR M B n o q r (t_MO_negation_L87 (fun i_ M_ => t_MO_G d i_ M_) N1) := by
            unfold t_MO_negation_L87
            simp only [qlet]
            by_cases c64 : r1.2.2.1 = 64
            · rw [if_pos c64] at h
              have h := Option.some.inj h
              subst h
              rw [c64] at y1
              obtain ⟨w1, w2, w3⟩ := y1.fault 2
              have hz : ¬ (t_MO_wrong N1 2).1 191 24 = 0 := by rw [w2]; decide
              rw [y1.knotFull, flt_goOn hz, obind_some, flt_G d 3 _ (by omega) (by omega) hz, obind_some, flt_puts hz, obind_some]
              exact ⟨_, rfl, x2.trans (w1.mono (XW.mono (by omega))), Or.inr ⟨by show ¬ (2 : Int) = 0; decide, w2, w3⟩⟩
            · rw [if_neg c64] at h
              obtain ⟨k1, k2, k3⟩ := y1.knot (by omega) (by omega)
              obtain ⟨N8, g1, g2, g3⟩ := k1.goOn
              rw [g1, obind_some]
              cases e3 : exG (tK B n) (tW B n) d 3 o (r1.2.1 + 1) (r1.2.2.1 + 1) with
              | none => rw [e3] at h; cases h
              | some r3 =>
                rw [e3] at h
                have h : (if r3.1 = 0 then some (0, r3.2.1, r3.2.2.1, r1.2.2.2 ++ r3.2.2.2 ++ [(tK B n r1.2.1, 0)]) else some r3) = some r := h
                obtain ⟨N3, a1, a2, a3⟩ := hd 3 o (r1.2.1 + 1) (r1.2.2.1 + 1) _ N8 r3 (by omega) o0 o1 (by omega) (by omega) (by omega) (by unfold nd; omega) g3 e3
                obtain ⟨rr, eb1, eb2⟩ := exG_facts (K := tK B n) (W := tW B n) hT (by omega) d 3 o (r1.2.1 + 1) (r1.2.2.1 + 1) (by omega) o0 o1 (by omega) (by omega) (by unfold nd; omega)
                rw [e3] at eb1
                have eb1 := Option.some.inj eb1
                subst eb1
                have hF := ((x2.trans (k2.mono (XW.mono (by omega)))).trans (g2.mono (XW.mono (by omega)))).trans (a2.mono (XW.mono (q := q) (by omega)))
                rw [a1, obind_some]
                rcases a3 with ⟨z3, b1, b2⟩ | ⟨z3, b1, b2⟩
                · rw [if_pos z3] at h
                  have h := Option.some.inj h
                  subst h
                  obtain ⟨v1, v2, v3, v4, v5⟩ := eb2.1 z3
                  obtain ⟨N12, p1, p2, p3, p4, p5⟩ := b1.puts (by omega) (by omega) 2 (N1.1 191 23)
                  rw [p1, obind_some]
                  refine ⟨N12, rfl, hF.trans (p2.mono (fun k j z => by unfold XW; omega)), Or.inl ⟨rfl, ?_, ?_⟩⟩
                  · show EP N12 B n r3.2.1 r3.2.2.1 o (q + ((r1.2.2.2 ++ r3.2.2.2 ++ [(tK B n r1.2.1, 0)]).length : Int))
                    have hl : ((r1.2.2.2 ++ r3.2.2.2 ++ [(tK B n r1.2.1, (0 : Int))]).length : Int) = (r1.2.2.2.length : Int) + (r3.2.2.2.length : Int) + 1 := by simp only [List.length_append, List.length_cons, List.length_nil]; omega
                    rw [hl, show q + ((r1.2.2.2.length : Int) + (r3.2.2.2.length : Int) + 1) = q + (r1.2.2.2.length : Int) + (r3.2.2.2.length : Int) + 1 by omega]
                    exact p3
                  · have hk0 : KnL N12 q r1.2.2.2 := ((((y2.fr k2 (fun k j a b z => by unfold XW at z; omega)).fr g2 (fun k j a b z => by unfold XW at z; omega)).fr a2 (fun k j a b z => by unfold XW at z; omega)).fr p2 (fun k j a b z => by omega))
                    have hk1 : KnL N12 (q + (r1.2.2.2.length : Int)) r3.2.2.2 := b2.fr p2 (fun k j a b z => by omega)
                    refine (hk0.app hk1).app (fun x hx => ?_)
                    have hx0 : x = 0 := by simp only [List.length_cons, List.length_nil] at hx; omega
                    subst hx0
                    have ei : 64 + (q + ((r1.2.2.2 ++ r3.2.2.2).length : Int)) + ((0 : Nat) : Int) = 64 + (q + (r1.2.2.2.length : Int) + (r3.2.2.2.length : Int)) := by simp only [List.length_append]; omega
                    rw [ei, p4, p5]
                    refine ⟨?_, ?_⟩
                    · show (2 : Int) = ksort (tK B n r1.2.1)
                      unfold ksort
                      rw [if_neg (by omega), if_neg (by omega)]
                    · show N1.1 191 23 = kval (tK B n r1.2.1) 0
                      rw [hv, hkv]
                · rw [if_neg z3] at h
                  have h := Option.some.inj h
                  subst h
                  have hz : ¬ N3.1 191 24 = 0 := by rw [b1]; exact z3
                  rw [flt_puts hz, obind_some]
                  exact ⟨N3, rfl, hF, Or.inr ⟨z3, b1, b2⟩⟩
          rw [if_pos h3, hv]
          by_cases e60 : sgV (tK B n r1.2.1) = 60
          · rw [if_pos e60]; exact go
          · rw [if_neg e60]
            by_cases e62 : sgV (tK B n r1.2.1) = 62
            · rw [if_pos e62]; exact go
            · rw [if_neg e62]
              by_cases e61 : sgV (tK B n r1.2.1) = 61
              · rw [if_pos e61]; exact go
              · rw [if_neg e61, if_pos (by omega)]; exact go
        · rw [if_neg (fun y => k47 y.2)] at h
          have h := Option.some.inj h
          subst h
          have fin : XR M B n o q r1 (some N1) := ⟨N1, rfl, x2, Or.inl ⟨z, y1, y2⟩⟩
          by_cases h3 : N1.1 191 22 = 3
          · have h40 : 40 ≤ tK B n r1.2.1 := by
              apply Classical.byContradiction
              intro y
              rw [hsort] at h3
              unfold srtV at h3
              repeat (first | omega | split at h3)
            have hv := y1.val h40
            have hc := sg_cmp (tK B n r1.2.1 - 40).toNat (by omega)
            rw [Int.toNat_of_nonneg (by omega), show 40 + (tK B n r1.2.1 - 40) = tK B n r1.2.1 by omega] at hc
            have hcc : ¬ (sgV (tK B n r1.2.1) = 60 ∨ sgV (tK B n r1.2.1) = 62 ∨ sgV (tK B n r1.2.1) = 61 ∨ 256 ≤ sgV (tK B n r1.2.1)) := fun y => by have := hc.1.mp y; omega
            rw [if_pos h3, hv, if_neg (by omega), if_neg (by omega), if_neg (by omega), if_neg (by omega)]
            exact fin
          · rw [if_neg h3]
            exact fin
      · rw [if_neg (fun y => z y.1)] at h
        have h := Option.some.inj h
        subst h
        rw [if_neg (by rw [y1]; exact z)]
        exact ⟨N1, rfl, x2, Or.inr ⟨z, y1, y2⟩⟩
end MG
