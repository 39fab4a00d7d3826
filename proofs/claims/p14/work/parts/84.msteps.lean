/-! ===== lines: the reference's small steps ===== -/
def NF : Nat → Int → Prop := fun k j => k = 191 ∧ 20 ≤ j ∧ j ≤ 25
theorem TkW_NF : ∀ k j, TkW k j → NF k j := by intro k j z; unfold TkW at z; unfold NF; omega
def TS (M : Mem) (B : Int → Int) (n : Int) (i : Nat) : Prop := TpOK M B n ∧ RTk M (tK B n i) (tW B n i) (tP B n i) (tkA B n (i + 1)) ∧ M.1 191 24 = 0
def FS (M : Mem) (f p : Int) : Prop := ¬ f = 0 ∧ M.1 191 24 = f ∧ M.1 191 25 = p
section LM
variable {B : Int → Int} {n : Int}
theorem TS.fr {W : Nat → Int → Prop} {M N : Mem} {i : Nat} (h : TS M B n i) (hF : Fr W M N) (hd : ∀ k j, (k = 192 ∨ (k = 191 ∧ 19 ≤ j ∧ j ≤ 25)) → ¬ W k j) : TS N B n i :=
  ⟨h.1.fr hF (fun k j a => hd k j (by omega)), h.2.1.fr hF (fun k j a => hd k j (by unfold TkW at a; omega)), (hF 191 24 (hd _ _ (by omega))).1.trans h.2.2⟩
theorem TS.kok {M : Mem} {i : Nat} (h : TS M B n i) : kOK (tK B n i) := tK_ok h.1.1.1 h.1.1.2 i
theorem TS.next {M : Mem} {i : Nat} (h : TS M B n i) : ∃ N, t_MO_token M = some N ∧ Fr NF M N ∧ TS N B n (i + 1) := by
  obtain ⟨h1, h2, h3⟩ := h
  have a := tA_rng (B := B) h1.1.1 h1.1.2 (i + 1)
  obtain ⟨N, n1, n2, n3⟩ := m_token h1 a.1.1 a.1.2 h2.2.1
  exact ⟨N, n1, n2.mono TkW_NF, h1.fr n2 (fun k j x z => by unfold TkW at z; omega), n3, by rw [(n2 191 24 (by unfold TkW; omega)).1]; exact h3⟩
theorem TS.wrong {M : Mem} {i : Nat} (h : TS M B n i) {k : Int} (hk : ¬ k = 0) : Fr NF M (t_MO_wrong M k) ∧ FS (t_MO_wrong M k) k (tP B n i) := by
  rw [m_wrong0 h.2.2]
  exact ⟨(Fr.rf.setI (by unfold NF; omega)).setI (by unfold NF; omega), hk, by rw [sI_ne (by omega), sI_self], by rw [sI_self]; exact h.2.1.1⟩
theorem FS.nz {M : Mem} {f p : Int} (h : FS M f p) : ¬ M.1 191 24 = 0 := by rw [h.2.1]; exact h.1
theorem TS.goOn {M : Mem} {i : Nat} (h : TS M B n i) : ∃ N, t_MO_goOn M = some N ∧ Fr NF M N ∧ TS N B n (i + 1) := by
  obtain ⟨N, n1, n2, n3⟩ := h.next
  unfold t_MO_goOn
  rw [if_pos h.2.2, n1, obind_some]
  exact ⟨N, rfl, n2, n3⟩
/-- a number at hand -/
theorem m_numAt {M : Mem} {i : Nat} (h : TS M B n i) {lo hi : Int} (l0 : 0 ≤ lo) (l1 : lo ≤ 99999) (h1 : hi ≤ 99999) : (nuS B n i lo hi = 0 ∧ t_MO_numeralAtHand M lo hi = (M, tW B n i) ∧ lo ≤ tW B n i ∧ tW B n i ≤ hi) ∨ (∃ N, t_MO_numeralAtHand M lo hi = (N, lo) ∧ Fr NF M N ∧ FS N (nuS B n i lo hi) (tP B n i)) := by
  have s := srt_num h.2.1 h.kok
  unfold t_MO_numeralAtHand t_MO_numeralAtHand_L41 t_MO_numeralAtHand_L46 nuS
  simp only [qlet]
  rw [if_pos h.2.2]
  by_cases k : tK B n i = 31
  · have hv : nvR (M.1 191 23) (tW B n i) := h.2.1.2.2.2.2.2.1 k
    unfold nvR at hv
    obtain ⟨w1, w2⟩ := h.wrong (k := 2) (by decide)
    rw [if_pos (s.mpr k), if_pos k]
    by_cases c1 : tW B n i < lo
    · rw [if_pos c1, if_pos (show M.1 191 23 < lo by omega), if_neg w2.nz]
      exact Or.inr ⟨_, rfl, w1, w2⟩
    · rw [if_neg c1, if_neg (show ¬ M.1 191 23 < lo by omega)]
      by_cases c2 : hi < tW B n i
      · rw [if_pos c2, if_neg (show ¬ M.1 191 23 ≤ hi by omega), if_neg w2.nz]
        exact Or.inr ⟨_, rfl, w1, w2⟩
      · rw [if_neg c2, if_pos (show M.1 191 23 ≤ hi by omega), if_pos h.2.2]
        exact Or.inl ⟨rfl, by rw [show M.1 191 23 = tW B n i by omega], by omega, by omega⟩
  · obtain ⟨w1, w2⟩ := h.wrong (k := 1) (by decide)
    rw [if_neg (fun z => k (s.mp z)), if_neg k, if_neg w2.nz]
    exact Or.inr ⟨_, rfl, w1, w2⟩
theorem m_numeral {M : Mem} {i : Nat} (h : TS M B n i) {lo hi : Int} (l0 : 0 ≤ lo) (l1 : lo ≤ 99999) (h1 : hi ≤ 99999) : (nuS B n i lo hi = 0 ∧ (lo ≤ tW B n i ∧ tW B n i ≤ hi) ∧ ∃ N, t_MO_numeral M lo hi = some (N, tW B n i) ∧ Fr NF M N ∧ TS N B n (i + 1)) ∨ (∃ N, t_MO_numeral M lo hi = some (N, lo) ∧ Fr NF M N ∧ FS N (nuS B n i lo hi) (tP B n i)) := by
  unfold t_MO_numeral
  simp only [qlet]
  rcases m_numAt h l0 l1 h1 with ⟨a, b, c, d⟩ | ⟨N, a, b, c⟩
  · obtain ⟨N, n1, n2, n3⟩ := h.goOn
    rw [b, n1, obind_some]
    exact Or.inl ⟨a, ⟨c, d⟩, N, rfl, n2, n3⟩
  · rw [a, flt_goOn c.nz, obind_some]
    exact Or.inr ⟨N, rfl, b, c⟩
theorem flt_numAt {M : Mem} (h : ¬ M.1 191 24 = 0) (lo hi : Int) : t_MO_numeralAtHand M lo hi = (M, lo) := by unfold t_MO_numeralAtHand; rw [if_neg h]
theorem flt_numeral {M : Mem} (h : ¬ M.1 191 24 = 0) (lo hi : Int) : t_MO_numeral M lo hi = some (M, lo) := by
  unfold t_MO_numeral
  simp only [qlet]
  rw [flt_numAt h, flt_goOn h, obind_some]
theorem flt_fresh {M : Mem} (h : ¬ M.1 191 24 = 0) (r N1 : Nat) (a b : Int) : t_MO_fresh M r N1 a b = some (M, 0) := by unfold t_MO_fresh; rw [if_neg h]
theorem m_fresher {M : Mem} {x : Int} (h0 : 0 ≤ x) (h1 : x < 9) : t_MO_fresher M x = some (M.1 193 (9 + x)) := by
  unfold t_MO_fresher
  rw [w32_id (x := 9 + x) (by unfold InR; omega), qguard_pos ⟨by omega, by omega⟩]
theorem m_reads {M : Mem} {x v : Int} (h0 : 0 ≤ x) (h1 : x < 9) : t_MO_reads M x v = some (setI M 193 (9 + x) v) := by
  unfold t_MO_reads
  rw [w32_id (x := 9 + x) (by unfold InR; omega), qguard_pos ⟨by omega, by omega⟩]
/-- a new name -/
theorem m_fresh {M : Mem} {V : TV} {i row r N1 : Nat} {off len : Int} (h : TS M B n i) (o0 : 0 ≤ off) (l0 : 0 ≤ len) (l1 : off + len ≤ (N1 : Int)) (hN : N1 ≤ 100) (hr : ∀ w, 0 ≤ w → w < len → M.1 r (off + w) = V row w) : (nmS B n V row len i = 0 ∧ ∃ N, t_MO_fresh M r N1 off len = some (N, tW B n i) ∧ Fr NF M N ∧ TS N B n (i + 1)) ∨ (∃ N, t_MO_fresh M r N1 off len = some (N, 0) ∧ Fr NF M N ∧ FS N (nmS B n V row len i) (tP B n i)) := by
  have s := srt_name h.2.1 h.kok
  unfold t_MO_fresh t_MO_fresh_L44 nmS
  simp only [qlet]
  rw [if_pos h.2.2]
  by_cases k : tK B n i = 30
  · have hv : M.1 191 23 = tW B n i := h.2.1.2.2.2.2.1 k
    obtain ⟨w1, w2⟩ := h.wrong (k := 3) (by decide)
    have hf := m_found0 (M := M) (r := r) (N := N1) (x2 := off) (x4 := tW B n i) (len := len.toNat) o0 (by omega) (by omega)
    rw [Int.toNat_of_nonneg l0] at hf
    have e : fnd (fun b => M.1 r (off + (b : Int))) (tW B n i) len.toNat = fnd (fun a => V row (a : Int)) (tW B n i) len.toNat := by
      have : ∀ m : Nat, m ≤ len.toNat → fnd (fun b => M.1 r (off + (b : Int))) (tW B n i) m = fnd (fun a => V row (a : Int)) (tW B n i) m := by
        intro m
        induction m with
        | zero => intro _; rfl
        | succ m ih => intro hm; rw [fnd, fnd, ih (by omega), hr (m : Int) (by omega) (by omega)]
      exact this len.toNat (Nat.le_refl _)
    rw [e] at hf
    rw [if_pos (s.mpr k), hv, hf, obind_some, if_pos k]
    cases ef : fnd (fun a => V row (a : Int)) (tW B n i) len.toNat with
    | none =>
      rw [if_pos (show fI none = -1 from rfl), if_pos rfl, if_pos h.2.2]
      obtain ⟨N, n1, n2, n3⟩ := h.next
      rw [n1, obind_some]
      exact Or.inl ⟨rfl, N, rfl, n2, n3⟩
    | some b =>
      rw [if_neg (show ¬ fI (some b) = -1 by show ¬ (b : Int) = -1; omega), if_neg (by intro z; cases z), if_neg w2.nz]
      exact Or.inr ⟨_, rfl, w1, w2⟩
  · obtain ⟨w1, w2⟩ := h.wrong (k := 1) (by decide)
    rw [if_neg (fun z => k (s.mp z)), if_neg k, if_neg w2.nz]
    exact Or.inr ⟨_, rfl, w1, w2⟩
/-! the rows that are read into -/
def SV0 (M : Mem) (V : TV) : Prop := (M.1 193 9 = V 0 0 ∧ M.1 193 10 = V 0 1 ∧ M.1 193 11 = V 0 2 ∧ M.1 193 12 = V 0 6 ∧ M.1 193 13 = V 0 7 ∧ M.1 193 14 = V 0 8 ∧ M.1 193 15 = V 0 3 ∧ M.1 193 16 = V 0 5 ∧ M.1 193 17 = V 0 4) ∧ (∀ w, 0 ≤ w → w < V 0 2 → M.1 194 (4 + w) = V 1 w ∧ M.1 195 (4 + w) = V 2 w ∧ M.1 196 (4 + w) = V 3 w) ∧ (∀ t, 0 ≤ t → t < V 0 3 → M.1 200 (8 + t) = V 4 t ∧ M.1 201 (8 + t) = V 5 t ∧ M.1 202 (8 + t) = V 6 t) ∧ (∀ c, 0 ≤ c → c < 48 → M.1 197 (48 + c) = V 7 c + 1 ∧ M.1 198 (48 + c) = V 8 c ∧ M.1 199 (48 + c) = V 9 c)
def SLw (M : Mem) (V : TV) (s : Nat) : Prop := 0 ≤ M.1 203 (2 + s) ∧ M.1 204 (2 + s) = M.1 203 (2 + s) + V 0 (11 + s) ∧ M.1 204 (2 + s) ≤ V 0 4 ∧ ∀ i, 0 ≤ i → i < V 0 (11 + s) → M.1 205 (64 + M.1 203 (2 + s) + i) = ksort (V (10 + 2 * s) i) ∧ M.1 206 (64 + M.1 203 (2 + s) + i) = kval (V (10 + 2 * s) i) (V (11 + 2 * s) i)
def td (V : TV) (x : Int) : Bool := if x = 0 then decide (V 0 13 = 1) else if x = 2 then decide (0 < V 0 6) else if x = 3 then decide (0 < V 0 7) else if x = 4 then decide (0 < V 0 8) else if x = 5 then decide (0 < V 0 3) else if x = 6 then decide (V 0 14 = 1) else if x = 10 then decide (V 0 9 = 1) else if x = 11 then decide (V 0 10 = 1) else false
abbrev tdx (x : Int) : Prop := x = 0 ∨ (2 ≤ x ∧ x ≤ 6) ∨ x = 10 ∨ x = 11
def TBd (M : Mem) (V : TV) : Prop := ∀ x, tdx x → tbI (M.1 191 17) x = td V x
def LB (M : Mem) (V : TV) (lines : Int) : Prop := SV0 M V ∧ (SLw M V 0 ∧ SLw M V 1) ∧ M.1 191 28 = 0 ∧ M.1 191 29 = V 0 4 ∧ M.1 191 18 = lines
/-- the cells of these -/
def LBc : Nat → Int → Prop := fun k j => (193 ≤ k ∧ k ≤ 206) ∨ (k = 191 ∧ (j = 28 ∨ j = 29 ∨ j = 18))
theorem SV0.fr {W : Nat → Int → Prop} {M N : Mem} {V : TV} (h : SV0 M V) (hF : Fr W M N) (hd : ∀ k j, 193 ≤ k → k ≤ 202 → ¬ W k j) : SV0 N V := by
  have e : ∀ (k : Nat) (j : Int), 193 ≤ k → k ≤ 202 → N.1 k j = M.1 k j := fun k j a b => (hF k j (hd k j a b)).1
  obtain ⟨⟨a1, a2, a3, a4, a5, a6, a7, a8, a9⟩, b, c, d⟩ := h
  have f := fun j => e 193 j (by omega) (by omega)
  refine ⟨⟨(f _).trans a1, (f _).trans a2, (f _).trans a3, (f _).trans a4, (f _).trans a5, (f _).trans a6, (f _).trans a7, (f _).trans a8, (f _).trans a9⟩, fun w x y => ?_, fun t x y => ?_, fun q x y => ?_⟩
  · have := b w x y
    exact ⟨(e _ _ (by omega) (by omega)).trans this.1, (e _ _ (by omega) (by omega)).trans this.2.1, (e _ _ (by omega) (by omega)).trans this.2.2⟩
  · have := c t x y
    exact ⟨(e _ _ (by omega) (by omega)).trans this.1, (e _ _ (by omega) (by omega)).trans this.2.1, (e _ _ (by omega) (by omega)).trans this.2.2⟩
  · have := d q x y
    exact ⟨(e _ _ (by omega) (by omega)).trans this.1, (e _ _ (by omega) (by omega)).trans this.2.1, (e _ _ (by omega) (by omega)).trans this.2.2⟩
theorem SLw.fr {W : Nat → Int → Prop} {M N : Mem} {V : TV} {s : Nat} (h : SLw M V s) (hF : Fr W M N) (hd : ∀ k j, 203 ≤ k → k ≤ 206 → ¬ W k j) : SLw N V s := by
  have e : ∀ (k : Nat) (j : Int), 203 ≤ k → k ≤ 206 → N.1 k j = M.1 k j := fun k j a b => (hF k j (hd k j a b)).1
  unfold SLw at *
  rw [e 203 _ (by omega) (by omega), e 204 _ (by omega) (by omega)]
  refine ⟨h.1, h.2.1, h.2.2.1, fun i a b => ?_⟩
  rw [e 205 _ (by omega) (by omega), e 206 _ (by omega) (by omega)]
  exact h.2.2.2 i a b
theorem LB.fr {W : Nat → Int → Prop} {M N : Mem} {V : TV} {l : Int} (h : LB M V l) (hF : Fr W M N) (hd : ∀ k j, LBc k j → ¬ W k j) : LB N V l :=
  ⟨h.1.fr hF (fun k j a b => hd k j (by unfold LBc; omega)), ⟨h.2.1.1.fr hF (fun k j a b => hd k j (by unfold LBc; omega)), h.2.1.2.fr hF (fun k j a b => hd k j (by unfold LBc; omega))⟩, (hF 191 28 (hd _ _ (by unfold LBc; omega))).1.trans h.2.2.1, (hF 191 29 (hd _ _ (by unfold LBc; omega))).1.trans h.2.2.2.1, (hF 191 18 (hd _ _ (by unfold LBc; omega))).1.trans h.2.2.2.2⟩
theorem NF_LBc : ∀ k j, LBc k j → ¬ NF k j := by intro k j a z; unfold LBc at a; unfold NF at z; omega
theorem LB.nf {M N : Mem} {V : TV} {l : Int} (h : LB M V l) (hF : Fr NF M N) : LB N V l := h.fr hF NF_LBc
/-- the knots' rows stay for a change of other rows -/
theorem SLw.same {M : Mem} {V V' : TV} {s : Nat} (h : SLw M V s) (h4 : V' 0 4 = V 0 4) (h11 : V' 0 (11 + s) = V 0 (11 + s)) (hk : ∀ i, V' (10 + 2 * s) i = V (10 + 2 * s) i ∧ V' (11 + 2 * s) i = V (11 + 2 * s) i) : SLw M V' s := by
  unfold SLw at *
  rw [h4, h11]
  refine ⟨h.1, h.2.1, h.2.2.1, fun i a b => ?_⟩
  rw [(hk i).1, (hk i).2]
  exact h.2.2.2 i a b
/-- all that a line may write -/
def StW : Nat → Int → Prop := fun k j => (k = 191 ∧ 17 ≤ j ∧ j ≤ 29 ∧ j ≠ 19) ∨ (k = 193 ∧ 9 ≤ j) ∨ (194 ≤ k ∧ k ≤ 196 ∧ 4 ≤ j) ∨ (197 ≤ k ∧ k ≤ 199 ∧ 48 ≤ j) ∨ (200 ≤ k ∧ k ≤ 202 ∧ 8 ≤ j) ∨ ((k = 203 ∨ k = 204) ∧ 2 ≤ j) ∨ ((k = 205 ∨ k = 206) ∧ 64 ≤ j)
theorem NF_StW : ∀ k j, NF k j → StW k j := by intro k j z; unfold NF at z; unfold StW; omega
/-- the outcome of a line's content -/
def LnO (M : Mem) (B : Int → Int) (n l : Int) (r : LR) (x : Option Mem) : Prop := ∃ N, x = some N ∧ Fr StW M N ∧ ((r.1 = 0 ∧ TS N B n r.2.2.1 ∧ LB N r.2.2.2 l ∧ TBd N r.2.2.2) ∨ (¬ r.1 = 0 ∧ N.1 191 24 = r.1 ∧ N.1 191 25 = r.2.1))
theorem LnO.bad {M N : Mem} {l : Int} {r : LR} (hF : Fr StW M N) (h : FS N r.1 r.2.1) : LnO M B n l r (some N) := ⟨N, rfl, hF, Or.inr h⟩
end LM
