/-! ===== formulas: the reference's side ===== -/
def XW (q : Int) : Nat → Int → Prop := fun k j => (k = 191 ∧ (j = 20 ∨ j = 21 ∨ j = 22 ∨ j = 23 ∨ j = 24 ∨ j = 25 ∨ j = 28 ∨ j = 29)) ∨ (k = 193 ∧ j = 17) ∨ ((k = 205 ∨ k = 206) ∧ 64 + q ≤ j)
theorem XW.mono {q q' : Int} (h : q ≤ q') : ∀ k j, XW q' k j → XW q k j := by intro k j z; unfold XW at *; omega
theorem TkW_XW {q : Int} : ∀ k j, TkW k j → XW q k j := by intro k j z; unfold TkW at z; unfold XW; omega
section MEX
variable {B : Int → Int} {n : Int}
/-- within a formula: token, counted, open, put -/
def EP (M : Mem) (B : Int → Int) (n : Int) (i : Nat) (c o q : Int) : Prop := TpOK M B n ∧ RTk M (tK B n i) (tW B n i) (tP B n i) (tkA B n (i + 1)) ∧ M.1 191 24 = 0 ∧ M.1 191 29 = c ∧ M.1 191 28 = o ∧ M.1 193 17 = q
def KnL (M : Mem) (q : Int) (out : List (Int × Int)) : Prop := ∀ x : Nat, x < out.length → M.1 205 (64 + q + (x : Int)) = ksort (out.getD x (0, 0)).1 ∧ M.1 206 (64 + q + (x : Int)) = kval (out.getD x (0, 0)).1 (out.getD x (0, 0)).2
theorem KnL.fr {W : Nat → Int → Prop} {M N : Mem} {q : Int} {out : List (Int × Int)} (h : KnL M q out) (hF : Fr W M N) (hd : ∀ k j, (k = 205 ∨ k = 206) → j < 64 + q + (out.length : Int) → ¬ W k j) : KnL N q out := fun x hx =>
  ⟨((hF 205 _ (hd _ _ (by omega) (by omega))).1).trans (h x hx).1, ((hF 206 _ (hd _ _ (by omega) (by omega))).1).trans (h x hx).2⟩
theorem KnL.app {M : Mem} {q : Int} {a b : List (Int × Int)} (ha : KnL M q a) (hb : KnL M (q + (a.length : Int)) b) : KnL M q (a ++ b) := by
  intro x hx
  by_cases c : x < a.length
  · have e : (a ++ b).getD x (0, 0) = a.getD x (0, 0) := by
      rw [List.getD_eq_getElem?_getD, List.getD_eq_getElem?_getD, List.getElem?_append_left c]
    rw [e]; exact ha x c
  · have e : (a ++ b).getD x (0, 0) = b.getD (x - a.length) (0, 0) := by
      rw [List.getD_eq_getElem?_getD, List.getD_eq_getElem?_getD, List.getElem?_append_right (by omega)]
    simp only [List.length_append] at hx
    have := hb (x - a.length) (by omega)
    rw [show 64 + (q + (a.length : Int)) + ((x - a.length : Nat) : Int) = 64 + q + (x : Int) by omega] at this
    rw [e]; exact this
theorem KnL.nil {M : Mem} {q : Int} : KnL M q [] := fun x hx => by simp at hx
theorem EP.next {M : Mem} {i : Nat} {c o q : Int} (h : EP M B n i c o q) : ∃ N, t_MO_token M = some N ∧ Fr TkW M N ∧ EP N B n (i + 1) c o q := by
  obtain ⟨h1, h2, h3, h4, h5, h6⟩ := h
  have a := tA_rng (B := B) h1.1.1 h1.1.2 (i + 1)
  obtain ⟨N, n1, n2, n3⟩ := m_token h1 a.1.1 a.1.2 h2.2.1
  refine ⟨N, n1, n2, h1.fr n2 (fun k j x z => by unfold TkW at z; omega), n3, ?_, ?_, ?_, ?_⟩
  · rw [(n2 191 24 (by unfold TkW; omega)).1]; exact h3
  · rw [(n2 191 29 (by unfold TkW; omega)).1]; exact h4
  · rw [(n2 191 28 (by unfold TkW; omega)).1]; exact h5
  · rw [(n2 193 17 (by unfold TkW; omega)).1]; exact h6
/-- sorts and values against kinds -/
theorem srt_word {M : Mem} {k v p e : Int} (h : RTk M k v p e) (hk : kOK k) (w : Int) (w0 : 0 ≤ w) (w1 : w ≤ 24) : (M.1 191 22 = 0 ∧ M.1 191 23 = w) ↔ k = w := by
  obtain ⟨-, -, h3, h4⟩ := h
  unfold srtV at h3
  constructor
  · rintro ⟨a, b⟩
    have : k ≤ 24 := by
      by_cases q : k ≤ 24
      · exact q
      · rw [if_neg q] at h3
        repeat (first | omega | split at h3)
    have := h4.1 ⟨by omega, this⟩
    omega
  · intro e2
    rw [if_pos (by omega)] at h3
    exact ⟨h3, by rw [h4.1 ⟨by omega, by omega⟩]; exact e2⟩
theorem sgV_inj : ∀ a : Nat, a < 13 → ∀ b : Nat, b < 13 → sgV (40 + a) = sgV (40 + b) → a = b := by decide +kernel
theorem srt_sign {M : Mem} {k v p e : Int} (h : RTk M k v p e) (hk : kOK k) (w : Int) (w0 : 40 ≤ w) (w1 : w ≤ 52) : (M.1 191 22 = 3 ∧ M.1 191 23 = sgV w) ↔ k = w := by
  obtain ⟨-, -, h3, h4⟩ := h
  unfold srtV at h3
  constructor
  · rintro ⟨a, b⟩
    have h40 : 40 ≤ k := by
      apply Classical.byContradiction
      intro q
      repeat (first | omega | split at h3)
    have := h4.2.2.2 h40
    rw [this] at b
    have := sgV_inj (k - 40).toNat (by omega) (w - 40).toNat (by omega) (by rw [Int.toNat_of_nonneg (by omega), Int.toNat_of_nonneg (by omega), show 40 + (k - 40) = k by omega, show 40 + (w - 40) = w by omega]; exact b)
    omega
  · intro e2
    have h3' : M.1 191 22 = 3 := by
      rw [if_neg (by omega), if_neg (by omega), if_neg (by omega), if_neg (by omega), if_neg (by omega)] at h3
      exact h3
    exact ⟨h3', by rw [h4.2.2.2 (by omega), e2]⟩
theorem srt_num {M : Mem} {k v p e : Int} (h : RTk M k v p e) (hk : kOK k) : M.1 191 22 = 2 ↔ k = 31 := by
  obtain ⟨-, -, h3, -⟩ := h
  unfold srtV at h3
  constructor
  · intro a
    repeat (first | omega | split at h3)
  · intro e2
    rw [if_neg (by omega), if_neg (by omega), if_pos e2] at h3
    exact h3
theorem srt_name {M : Mem} {k v p e : Int} (h : RTk M k v p e) (hk : kOK k) : M.1 191 22 = 1 ↔ k = 30 := by
  obtain ⟨-, -, h3, -⟩ := h
  unfold srtV at h3
  constructor
  · intro a
    repeat (first | omega | split at h3)
  · intro e2
    rw [if_neg (by omega), if_pos e2] at h3
    exact h3
theorem srt_endT {M : Mem} {k v p e : Int} (h : RTk M k v p e) (hk : kOK k) : M.1 191 22 = 4 ↔ k = 32 := by
  obtain ⟨-, -, h3, -⟩ := h
  unfold srtV at h3
  constructor
  · intro a
    repeat (first | omega | split at h3)
  · intro e2
    rw [if_neg (by omega), if_neg (by omega), if_neg (by omega), if_pos e2] at h3
    exact h3
theorem EP.kok {M : Mem} {i : Nat} {c o q : Int} (h : EP M B n i c o q) : kOK (tK B n i) := tK_ok h.1.1.1 h.1.1.2 i
theorem EP.word {M : Mem} {i : Nat} {c o q : Int} (h : EP M B n i c o q) {w : Int} (w0 : 0 ≤ w) (w1 : w ≤ 24) : t_MO_isWord M w = if tK B n i = w then 1 else 0 := by
  have s := srt_word h.2.1 h.kok w w0 w1
  unfold t_MO_isWord
  rw [if_pos h.2.2.1]
  by_cases e : tK B n i = w
  · have := s.mpr e
    rw [if_pos this.1, if_pos this.2, if_pos e]
  · rw [if_neg e]
    by_cases a : M.1 191 22 = 0
    · rw [if_pos a, if_neg (fun b => e (s.mp ⟨a, b⟩))]
    · rw [if_neg a]
theorem EP.sign {M : Mem} {i : Nat} {c o q : Int} (h : EP M B n i c o q) {w v : Int} (w0 : 40 ≤ w) (w1 : w ≤ 52) (hv : sgV w = v) : t_MO_isSign M v = if tK B n i = w then 1 else 0 := by
  have s := srt_sign h.2.1 h.kok w w0 w1
  rw [hv] at s
  unfold t_MO_isSign
  rw [if_pos h.2.2.1]
  by_cases e : tK B n i = w
  · have := s.mpr e
    rw [if_pos this.1, if_pos this.2, if_pos e]
  · rw [if_neg e]
    by_cases a : M.1 191 22 = 3
    · rw [if_pos a, if_neg (fun b => e (s.mp ⟨a, b⟩))]
    · rw [if_neg a]
/-! faults -/
theorem m_wrong0 {M : Mem} {k : Int} (h : M.1 191 24 = 0) : t_MO_wrong M k = setI (setI M 191 24 k) 191 25 (M.1 191 21) := by
  unfold t_MO_wrong
  simp only [qlet]
  rw [if_pos h, uI_ne _ _ (by omega)]
theorem m_wrong1 {M : Mem} {k : Int} (h : ¬ M.1 191 24 = 0) : t_MO_wrong M k = M := by
  unfold t_MO_wrong
  rw [if_neg h]
theorem flt_goOn {M : Mem} (h : ¬ M.1 191 24 = 0) : t_MO_goOn M = some M := by unfold t_MO_goOn; rw [if_neg h]
theorem flt_puts {M : Mem} (h : ¬ M.1 191 24 = 0) (a b : Int) : t_MO_puts M a b = some M := by unfold t_MO_puts; rw [if_neg h]
theorem flt_word {M : Mem} (h : ¬ M.1 191 24 = 0) (w : Int) : t_MO_isWord M w = 0 := by unfold t_MO_isWord; rw [if_neg h]
theorem flt_sign {M : Mem} (h : ¬ M.1 191 24 = 0) (w : Int) : t_MO_isSign M w = 0 := by unfold t_MO_isSign; rw [if_neg h]
theorem flt_knot {M : Mem} (h : ¬ M.1 191 24 = 0) : t_MO_knot M = M := by unfold t_MO_knot; rw [if_neg h]
theorem fu_succ : ∃ f, FU = f + 1 := ⟨FU - 1, by unfold FU; decide⟩
theorem flt_G : ∀ (d nt : Nat) (M : Mem), nt ≤ 5 → 6 ≤ d + nt → ¬ M.1 191 24 = 0 → t_MO_G d nt M = some M := by
  intro d
  induction d with
  | zero => intro nt M h1 h2; omega
  | succ d ih =>
    intro nt M h1 h2 h3
    obtain ⟨f, hf⟩ := fu_succ
    rw [t_MO_G]
    have hn : nt = 0 ∨ nt = 1 ∨ nt = 2 ∨ nt = 3 ∨ nt = 4 ∨ nt = 5 := by omega
    rcases hn with rfl | rfl | rfl | rfl | rfl | rfl
    · rw [if_pos rfl]; unfold t_MO_expression_B
      dsimp only
      rw [ih 1 M (by omega) (by omega) h3, obind_some, hf, t_MO_expression_L4]
      simp only [qlet]
      rw [flt_word h3, if_pos rfl]
    · rw [if_neg (by decide), if_pos rfl]; unfold t_MO_conjunction_B
      dsimp only
      rw [ih 2 M (by omega) (by omega) h3, obind_some, hf, t_MO_conjunction_L4]
      simp only [qlet]
      rw [flt_word h3, if_pos rfl]
    · rw [if_neg (by decide), if_neg (by decide), if_pos rfl]; unfold t_MO_negation_B
      simp only [qlet]
      rw [flt_word h3, if_pos rfl, ih 3 M (by omega) (by omega) h3, obind_some, if_neg h3]
    · rw [if_neg (by decide), if_neg (by decide), if_neg (by decide), if_pos rfl]; unfold t_MO_sum_B
      dsimp only
      rw [ih 4 M (by omega) (by omega) h3, obind_some, hf, t_MO_sum_L4]
      simp only [qlet]
      rw [flt_sign h3, if_pos rfl, flt_sign h3, if_pos rfl]
    · rw [if_neg (by decide), if_neg (by decide), if_neg (by decide), if_neg (by decide), if_pos rfl]; unfold t_MO_product_B
      dsimp only
      rw [ih 5 M (by omega) (by omega) h3, obind_some, hf, t_MO_product_L4]
      simp only [qlet]
      rw [flt_sign h3, if_pos rfl, flt_sign h3, if_pos rfl]
    · rw [if_neg (by decide), if_neg (by decide), if_neg (by decide), if_neg (by decide), if_neg (by decide), if_pos rfl]; unfold t_MO_primary_B
      rw [if_neg h3]
/-! the outcome of a piece -/
def XR (M : Mem) (B : Int → Int) (n o q : Int) (r : ER) (x : Option Mem) : Prop := ∃ N, x = some N ∧ Fr (XW q) M N ∧ ((r.1 = 0 ∧ EP N B n r.2.1 r.2.2.1 o (q + (r.2.2.2.length : Int)) ∧ KnL N q r.2.2.2) ∨ (¬ r.1 = 0 ∧ N.1 191 24 = r.1 ∧ N.1 191 25 = tP B n r.2.1))
theorem XR.from {M0 M : Mem} {o q : Int} {r : ER} {x : Option Mem} (hF : Fr (XW q) M0 M) (h : XR M B n o q r x) : XR M0 B n o q r x := by
  obtain ⟨N, n1, n2, n3⟩ := h
  exact ⟨N, n1, hF.trans n2, n3⟩
theorem EP.fault {M : Mem} {i : Nat} {c o q : Int} (h : EP M B n i c o q) (k : Int) : Fr (XW q) M (t_MO_wrong M k) ∧ (t_MO_wrong M k).1 191 24 = k ∧ (t_MO_wrong M k).1 191 25 = tP B n i := by
  rw [m_wrong0 h.2.2.1]
  refine ⟨(Fr.rf.setI (by unfold XW; omega)).setI (by unfold XW; omega), by rw [sI_ne (by omega), sI_self], by rw [sI_self]; exact h.2.1.1⟩
/-- a knot is counted, and the next token comes -/
theorem EP.knotFull {M : Mem} {i : Nat} {o q : Int} (h : EP M B n i 64 o q) : t_MO_knot M = t_MO_wrong M 2 := by
  unfold t_MO_knot
  simp only [qlet]
  rw [if_pos h.2.2.1, if_pos h.2.2.2.1]
theorem EP.knot {M : Mem} {i : Nat} {c o q : Int} (h : EP M B n i c o q) (h0 : 0 ≤ c) (h1 : c < 64) : EP (t_MO_knot M) B n i (c + 1) o q ∧ Fr (XW q) M (t_MO_knot M) ∧ (t_MO_knot M).1 191 23 = M.1 191 23 := by
  have e : t_MO_knot M = setI M 191 29 (c + 1) := by
    unfold t_MO_knot
    simp only [qlet]
    rw [if_pos h.2.2.1, if_neg (by have := h.2.2.2.1; omega), h.2.2.2.1, w32_id (x := c + 1) (by unfold InR; omega)]
  rw [e]
  have hF : Fr (fun k j => k = 191 ∧ j = 29) M (setI M 191 29 (c + 1)) := Fr.rf.setI ⟨rfl, rfl⟩
  obtain ⟨h1', h2, h3, h4, h5, h6⟩ := h
  exact ⟨⟨h1'.fr hF (fun k j a z => by omega), h2.fr hF (fun k j a z => by unfold TkW at a; omega), by rw [sI_ne (by omega)]; exact h3, sI_self _ _ _ _, by rw [sI_ne (by omega)]; exact h5, by rw [sI_ne (by omega)]; exact h6⟩, hF.mono (fun k j z => by unfold XW; omega), sI_ne (by omega)⟩
theorem EP.goOn {M : Mem} {i : Nat} {c o q : Int} (h : EP M B n i c o q) : ∃ N, t_MO_goOn M = some N ∧ Fr (XW q) M N ∧ EP N B n (i + 1) c o q := by
  obtain ⟨N, n1, n2, n3⟩ := h.next
  unfold t_MO_goOn
  rw [if_pos h.2.2.1, n1, obind_some]
  exact ⟨N, rfl, n2.mono TkW_XW, n3⟩
theorem EP.puts {M : Mem} {i : Nat} {c o q : Int} (h : EP M B n i c o q) (q0 : 0 ≤ q) (q1 : q < 64) (s v : Int) : ∃ N, t_MO_puts M s v = some N ∧ Fr (fun k j => ((k = 205 ∨ k = 206) ∧ j = 64 + q) ∨ (k = 193 ∧ j = 17)) M N ∧ EP N B n i c o (q + 1) ∧ N.1 205 (64 + q) = s ∧ N.1 206 (64 + q) = v := by
  obtain ⟨h1, h2, h3, h4, h5, h6⟩ := h
  unfold t_MO_puts t_MO_fresher t_MO_reads
  rw [if_pos h3]
  have e17 : w32 (9 + 8) = 17 := w32_id (by unfold InR; omega)
  simp only [e17]
  rw [qguard_pos ⟨by omega, by omega⟩, obind_some, h6, w32_id (x := 64 + q) (by unfold InR; omega), qguard_pos ⟨by omega, by omega⟩]
  simp only [qlet]
  rw [qguard_pos ⟨by omega, by omega⟩, obind_some, uI_ne _ _ (by omega), h6, w32_id (x := 64 + q) (by unfold InR; omega), qguard_pos ⟨by omega, by omega⟩, qguard_pos ⟨by omega, by omega⟩, obind_some, uI_ne _ _ (by omega), uI_ne _ _ (by omega), h6, w32_id (x := q + 1) (by unfold InR; omega), qguard_pos ⟨by omega, by omega⟩, obind_some]
  have hF : Fr (fun k j => ((k = 205 ∨ k = 206) ∧ j = 64 + q) ∨ (k = 193 ∧ j = 17)) M (setI (setI (setI M 205 (64 + q) s) 206 (64 + q) v) 193 17 (q + 1)) := ((Fr.rf.setI (by omega)).setI (by omega)).setI (by omega)
  refine ⟨_, rfl, hF, ⟨h1.fr hF (fun k j a z => by omega), h2.fr hF (fun k j a z => by unfold TkW at a; omega), ?_, ?_, ?_, sI_self _ _ _ _⟩, ?_, ?_⟩
  · rw [(hF 191 24 (by omega)).1]; exact h3
  · rw [(hF 191 29 (by omega)).1]; exact h4
  · rw [(hF 191 28 (by omega)).1]; exact h5
  · rw [sI_ne (by omega), sI_ne (by omega), sI_self]
  · rw [sI_ne (by omega), sI_self]
/-- loops of signs -/
theorem m_opL {T : Nat} {F : Nat → Mem → Option Mem} {op : Int → Bool} {rc : Nat → Int → Option ER} {G : Mem → Option Mem} {o q0 lo : Int} (q00 : 0 ≤ q0)
    (Fa : ∀ fu M i c q, EP M B n i c o q → op (tK B n i) = false → F (fu + 1) M = some M)
    (Fb : ∀ fu M, ¬ M.1 191 24 = 0 → F (fu + 1) M = some M)
    (Fc : ∀ fu M i c q, EP M B n i c o q → op (tK B n i) = true → F (fu + 1) M = obind (t_MO_goOn (t_MO_knot M)) fun q8 => obind (G q8) fun q10 => obind (t_MO_puts q10 2 (kval (tK B n i) 0)) fun q12 => F fu q12)
    (hop : ∀ k, op k = true → ktwo k) (hT : ∀ x, T ≤ x → op (tK B n x) = false)
    (hG0 : ∀ M, ¬ M.1 191 24 = 0 → G M = some M)
    (hrc : ∀ i c r, rc i c = some r → lo ≤ c → c ≤ 64 → RG i c r)
    (hG : ∀ M i c q r, EP M B n i c o q → 0 ≤ q → q ≤ c → lo ≤ c → c ≤ 64 → rc i c = some r → XR M B n o q r (G M)) :
    ∀ (fu : Nat) (M0 M : Mem) (i : Nat) (c : Int) (out : List (Int × Int)) (r : ER), Fr (XW q0) M0 M → EP M B n i c o (q0 + (out.length : Int)) → KnL M q0 out → q0 + (out.length : Int) ≤ c → lo ≤ c → c ≤ 64 → 0 ≤ c → T < i + fu → exL (tK B n) op rc fu i c out = some r → XR M0 B n o q0 r (F fu M) := by
  intro fu
  induction fu with
  | zero => intro M0 M i c out r _ _ _ _ _ _ _ _ h; cases h
  | succ fu ih =>
    intro M0 M i c out r hF hE hK hq hlo hc c0 hi h
    rw [exL] at h
    cases e : op (tK B n i) with
    | false =>
      rw [e, if_neg (by decide)] at h
      have h := Option.some.inj h
      subst h
      exact ⟨M, Fa fu M i c _ hE e, hF, Or.inl ⟨rfl, hE, hK⟩⟩
    | true =>
      rw [e, if_pos rfl] at h
      rw [Fc fu M i c _ hE e]
      by_cases c64 : c = 64
      · rw [if_pos c64] at h
        have h := Option.some.inj h
        subst h
        subst c64
        obtain ⟨w1, w2, w3⟩ := hE.fault 2
        have hz : ¬ (t_MO_wrong M 2).1 191 24 = 0 := by rw [w2]; decide
        obtain ⟨f, hf⟩ : ∃ f, fu = f + 1 := by
          by_cases z : T ≤ i
          · have := hT i z
            rw [e] at this
            cases this
          · exact ⟨fu - 1, by omega⟩
        rw [hE.knotFull, flt_goOn hz, obind_some, hG0 _ hz, obind_some, flt_puts hz, obind_some, hf, Fb f _ hz]
        exact ⟨_, rfl, hF.trans (w1.mono (XW.mono (by omega))), Or.inr ⟨by show ¬ (2 : Int) = 0; decide, w2, w3⟩⟩
      · rw [if_neg c64] at h
        obtain ⟨k1, k2, k3⟩ := hE.knot c0 (by omega)
        obtain ⟨N8, g1, g2, g3⟩ := k1.goOn
        rw [g1, obind_some]
        cases er : rc (i + 1) (c + 1) with
        | none => rw [er] at h; cases h
        | some r8 =>
          rw [er] at h
          have h : (if r8.1 = 0 then exL (tK B n) op rc fu r8.2.1 r8.2.2.1 (out ++ r8.2.2.2 ++ [(tK B n i, 0)]) else some r8) = some r := h
          obtain ⟨N10, x1, x2, x3⟩ := hG N8 (i + 1) (c + 1) _ r8 g3 (by omega) (by omega) (by omega) (by omega) er
          have hF10 : Fr (XW q0) M0 N10 := (((hF.trans (k2.mono (XW.mono (by omega)))).trans (g2.mono (XW.mono (by omega)))).trans (x2.mono (XW.mono (by omega))))
          rw [x1, obind_some]
          rcases x3 with ⟨z, y1, y2⟩ | ⟨z, y1, y2⟩
          · rw [if_pos z] at h
            obtain ⟨s1, s2, s3, s4, s5⟩ := (hrc _ _ _ er (by omega) (by omega)).1 z
            obtain ⟨N12, p1, p2, p3, p4, p5⟩ := y1.puts (by omega) (by omega) 2 (kval (tK B n i) 0)
            rw [p1, obind_some]
            have hl : ((out ++ r8.2.2.2 ++ [(tK B n i, 0)]).length : Int) = (out.length : Int) + (r8.2.2.2.length : Int) + 1 := by simp only [List.length_append, List.length_cons, List.length_nil]; omega
            refine ih M0 N12 r8.2.1 r8.2.2.1 (out ++ r8.2.2.2 ++ [(tK B n i, 0)]) r (hF10.trans (p2.mono (fun k j z => by unfold XW; omega))) ?_ ?_ (by omega) (by omega) s3 (by omega) (by omega) h
            · rw [hl, show q0 + ((out.length : Int) + (r8.2.2.2.length : Int) + 1) = q0 + (out.length : Int) + (r8.2.2.2.length : Int) + 1 by omega]
              exact p3
            · have hk0 : KnL N12 q0 out := ((((hK.fr k2 (fun k j a b z => by unfold XW at z; omega)).fr g2 (fun k j a b z => by unfold XW at z; omega)).fr x2 (fun k j a b z => by unfold XW at z; omega)).fr p2 (fun k j a b z => by omega))
              have hk1 : KnL N12 (q0 + (out.length : Int)) r8.2.2.2 := y2.fr p2 (fun k j a b z => by omega)
              refine (hk0.app hk1).app (fun x hx => ?_)
              have hx0 : x = 0 := by simp only [List.length_cons, List.length_nil] at hx; omega
              subst hx0
              have ek := hop _ e
              unfold ktwo at ek
              have ei : 64 + (q0 + ((out ++ r8.2.2.2).length : Int)) + ((0 : Nat) : Int) = 64 + (q0 + (out.length : Int) + (r8.2.2.2.length : Int)) := by simp only [List.length_append]; omega
              rw [ei, p4, p5]
              refine ⟨?_, rfl⟩
              show (2 : Int) = ksort (tK B n i)
              unfold ksort
              rw [if_neg (by omega), if_neg (by omega)]
          · rw [if_neg z] at h
            have h := Option.some.inj h
            subst h
            have hz : ¬ N10.1 191 24 = 0 := by rw [y1]; exact z
            obtain ⟨f, hf⟩ : ∃ f, fu = f + 1 := by
              by_cases z : T ≤ i
              · have := hT i z
                rw [e] at this
                cases this
              · exact ⟨fu - 1, by omega⟩
            rw [flt_puts hz, obind_some, hf, Fb f _ hz]
            exact ⟨N10, rfl, hF10, Or.inr ⟨z, y1, y2⟩⟩
end MEX
