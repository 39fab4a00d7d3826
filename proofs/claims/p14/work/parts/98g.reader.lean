/-! ===== the class's reader: steps ===== -/
def RgW : Nat → Int → Prop := fun k j => k = 46 ∧ 1 ≤ j ∧ j ≤ 5
def RfW : Nat → Int → Prop := fun k j => k = 46 ∧ ((1 ≤ j ∧ j ≤ 5) ∨ j = 9 ∨ j = 10)
def RD (M : Mem) (B : Int → Int) (n : Int) (i : Nat) : Prop := TBl M B n ∧ Lv B n i ∧ M.1 46 0 = 42 ∧ M.1 46 1 = (i : Int) ∧ M.1 46 2 = tK B n i ∧ (tK B n i ≠ 33 → M.1 46 3 = tW B n i) ∧ M.1 46 4 = tP B n i
def FT (N : Mem) (f p : Int) : Prop := N.1 46 9 = f ∧ N.1 46 10 = p
theorem RD.fr {W : Nat → Int → Prop} {M N : Mem} {B : Int → Int} {n : Int} {i : Nat} (h : RD M B n i) (hF : Fr W M N) (hd : ∀ k j, ((43 ≤ k ∧ k ≤ 45) ∨ (k = 46 ∧ 0 ≤ j ∧ j ≤ 4)) → ¬ W k j) : RD N B n i := by
  obtain ⟨h1, h2, h3, h4, h5, h6, h7⟩ := h
  have e : ∀ j, 0 ≤ j → j ≤ 4 → N.1 46 j = M.1 46 j := fun j a b => (hF 46 j (hd _ _ (Or.inr ⟨rfl, a, b⟩))).1
  refine ⟨h1.fr hF (fun k j a b => hd _ _ (Or.inl ⟨a, b⟩)), h2, ?_, ?_, ?_, fun q => ?_, ?_⟩
  · rw [e 0 (by omega) (by omega)]; exact h3
  · rw [e 1 (by omega) (by omega)]; exact h4
  · rw [e 2 (by omega) (by omega)]; exact h5
  · rw [e 3 (by omega) (by omega)]; exact h6 q
  · rw [e 4 (by omega) (by omega)]; exact h7
section RDR
variable {B : Int → Int} {n : Int} {M : Mem} {i : Nat}
theorem c_goTo (hT : TBl M B n) (hL : Lv B n i) (h0 : M.1 46 0 = 42) : ∃ N, t_Reader_goTo M (i : Int) = some N ∧ Fr RgW M N ∧ RD N B n i ∧ N.1 46 5 = M.1 46 4 := by
  have hn := hT.1
  have hi := hL.le hn
  obtain ⟨k1, k2, k3⟩ := hT.2 i hL
  unfold t_Reader_goTo
  simp (config := { proj := false }) only [qlet]
  have f3 : Fr RgW M (setI (setI M 46 5 (M.1 46 4)) 46 1 (i : Int)) := (Fr.rf.setI (by unfold RgW; omega)).setI (by unfold RgW; omega)
  have a5 : (setI (setI M 46 5 (M.1 46 4)) 46 1 (i : Int)).1 46 5 = M.1 46 4 := (sI_ne (by omega)).trans (sI_self _ _ _ _)
  have a1 : (setI (setI M 46 5 (M.1 46 4)) 46 1 (i : Int)).1 46 1 = (i : Int) := sI_self _ _ _ _
  generalize setI (setI M 46 5 (M.1 46 4)) 46 1 (i : Int) = M3 at *
  have a0 : M3.1 46 0 = 42 := ((f3 46 0 (by unfold RgW; omega)).1).trans h0
  have b3 : M3.1 43 (i : Int) = tK B n i := ((f3 43 _ (by unfold RgW; omega)).1).trans k1
  have b4 : tK B n i ≠ 33 → M3.1 44 (i : Int) = tW B n i := fun q => ((f3 44 _ (by unfold RgW; omega)).1).trans (k3 q)
  have b5 : M3.1 45 (i : Int) = tP B n i := ((f3 45 _ (by unfold RgW; omega)).1).trans k2
  rw [if_neg (by omega), if_neg (by omega), look_in (by omega) (by omega), b3]
  unfold t_Reader_goTo_L37
  simp (config := { proj := false }) only [qlet]
  have f4 : Fr RgW M (setI M3 46 2 (tK B n i)) := f3.setI (by unfold RgW; omega)
  have c5 : (setI M3 46 2 (tK B n i)).1 46 5 = M.1 46 4 := (sI_ne (by omega)).trans a5
  have c1 : (setI M3 46 2 (tK B n i)).1 46 1 = (i : Int) := (sI_ne (by omega)).trans a1
  have c0 : (setI M3 46 2 (tK B n i)).1 46 0 = 42 := (sI_ne (by omega)).trans a0
  have c2 : (setI M3 46 2 (tK B n i)).1 46 2 = tK B n i := sI_self _ _ _ _
  have d4 : tK B n i ≠ 33 → (setI M3 46 2 (tK B n i)).1 44 (i : Int) = tW B n i := fun q => (sI_ne (by omega)).trans (b4 q)
  have d5 : (setI M3 46 2 (tK B n i)).1 45 (i : Int) = tP B n i := (sI_ne (by omega)).trans b5
  generalize setI M3 46 2 (tK B n i) = M4 at *
  rw [if_neg (by omega), if_neg (by omega), look_in (by omega) (by omega)]
  unfold t_Reader_goTo_L63
  simp (config := { proj := false }) only [qlet]
  have f5 : Fr RgW M (setI M4 46 3 (M4.1 44 (i : Int))) := f4.setI (by unfold RgW; omega)
  have e5 : (setI M4 46 3 (M4.1 44 (i : Int))).1 46 5 = M.1 46 4 := (sI_ne (by omega)).trans c5
  have e1 : (setI M4 46 3 (M4.1 44 (i : Int))).1 46 1 = (i : Int) := (sI_ne (by omega)).trans c1
  have e0 : (setI M4 46 3 (M4.1 44 (i : Int))).1 46 0 = 42 := (sI_ne (by omega)).trans c0
  have e2 : (setI M4 46 3 (M4.1 44 (i : Int))).1 46 2 = tK B n i := (sI_ne (by omega)).trans c2
  have e3 : tK B n i ≠ 33 → (setI M4 46 3 (M4.1 44 (i : Int))).1 46 3 = tW B n i := fun q => (sI_self _ _ _ _).trans (d4 q)
  have g5 : (setI M4 46 3 (M4.1 44 (i : Int))).1 45 (i : Int) = tP B n i := (sI_ne (by omega)).trans d5
  generalize setI M4 46 3 (M4.1 44 (i : Int)) = M5 at *
  rw [if_neg (by omega), if_neg (by omega), look_in (by omega) (by omega), g5]
  unfold t_Reader_goTo_L89
  simp (config := { proj := false }) only [qlet]
  have f6 : Fr RgW M (setI M5 46 4 (tP B n i)) := f5.setI (by unfold RgW; omega)
  refine ⟨_, rfl, f6, ⟨hT.fr f6 (fun k j x y z => by unfold RgW at z; omega), hL, ?_, ?_, ?_, fun q => ?_, sI_self _ _ _ _⟩, ?_⟩
  · rw [sI_ne (by omega)]; exact e0
  · rw [sI_ne (by omega)]; exact e1
  · rw [sI_ne (by omega)]; exact e2
  · rw [sI_ne (by omega)]; exact e3 q
  · rw [sI_ne (by omega)]; exact e5
/-- on to the next token -/
theorem c_next1 (h : RD M B n i) (k : tK B n i ≠ 32) : ∃ N, t_Reader_goTo M (w32 (M.1 46 1 + 1)) = some N ∧ Fr RgW M N ∧ RD N B n (i + 1) ∧ N.1 46 5 = tP B n i := by
  obtain ⟨h1, h2, h3, h4, h5, h6, h7⟩ := h
  have hi := h2.le h1.1
  have hn := h1.1
  rw [h4, w32_id (by unfold InR; omega)]
  obtain ⟨N, n1, n2, n3, n4⟩ := c_goTo h1 (h2.succ k) h3
  exact ⟨N, n1, n2, n3, n4.trans h7⟩
theorem rg_rf : ∀ k j, RgW k j → RfW k j := fun k j z => by unfold RgW at z; unfold RfW; omega
theorem c_refuse (a b : Int) : Fr RfW M (t_Reader_refuse M a b).1 ∧ (t_Reader_refuse M a b).2 = 0 ∧ FT (t_Reader_refuse M a b).1 a b :=
  ⟨(Fr.rf.setI (by unfold RfW; omega)).setI (by unfold RfW; omega), rfl, (sI_ne (by omega)).trans (sI_self _ _ _ _), sI_self _ _ _ _⟩
theorem c_take (h : RD M B n i) {due : Int} (hd : due ≠ 32) : ∃ N g, t_Reader_take M due = some (N, g) ∧ Fr RfW M N ∧ ((tK B n i = due ∧ g = 1 ∧ RD N B n (i + 1) ∧ N.1 46 5 = tP B n i) ∨ (tK B n i ≠ due ∧ g = 0 ∧ FT N 1 (tP B n i))) := by
  unfold t_Reader_take
  rw [h.2.2.2.2.1]
  by_cases c : tK B n i = due
  · rw [if_pos c]
    obtain ⟨N, n1, n2, n3, n4⟩ := c_next1 h (by rw [c]; exact hd)
    rw [n1, obind_some]
    exact ⟨N, 1, rfl, n2.mono rg_rf, Or.inl ⟨c, rfl, n3, n4⟩⟩
  · rw [if_neg c, h.2.2.2.2.2.2]
    obtain ⟨a1, a2, a3⟩ := c_refuse (M := M) 1 (tP B n i)
    exact ⟨_, 0, rfl, a1, Or.inr ⟨c, rfl, a3⟩⟩
theorem c_num (h : RD M B n i) (lo hi : Int) : ∃ N r, t_Reader_takeNumber M lo hi = some (N, r) ∧ Fr RfW M N ∧ ((nuS B n i lo hi = 0 ∧ r = tW B n i ∧ lo ≤ r ∧ r ≤ hi ∧ RD N B n (i + 1) ∧ N.1 46 5 = tP B n i) ∨ (nuS B n i lo hi ≠ 0 ∧ r = -1 ∧ FT N (nuS B n i lo hi) (tP B n i))) := by
  unfold t_Reader_takeNumber t_Reader_takeNumber_L24 t_Reader_takeNumber_L36 nuS
  simp only [qlet]
  rw [h.2.2.2.2.1, h.2.2.2.2.2.2]
  by_cases k : tK B n i = 31
  · have hw := h.2.2.2.2.2.1 (by omega)
    rw [if_pos k, if_pos k, hw]
    obtain ⟨a1, a2, a3⟩ := c_refuse (M := M) 2 (tP B n i)
    by_cases l : tW B n i < lo
    · rw [if_pos l, if_pos l]
      exact ⟨_, -1, rfl, a1, Or.inr ⟨by decide, rfl, a3⟩⟩
    · rw [if_neg l, if_neg l]
      by_cases u : tW B n i ≤ hi
      · rw [if_pos u, if_neg (show ¬ hi < tW B n i by omega)]
        obtain ⟨N, g, n1, n2, n3⟩ := c_take h (due := 31) (by decide)
        rw [n1, obind_some]
        rcases n3 with ⟨b1, b2, b3, b4⟩ | ⟨b1, b2, b3⟩
        · subst b2
          rw [if_neg (show ¬ (1 : Int) = 0 by decide)]
          exact ⟨N, _, rfl, n2, Or.inl ⟨rfl, rfl, by omega, u, b3, b4⟩⟩
        · exact absurd k b1
      · rw [if_neg u, if_pos (show hi < tW B n i by omega)]
        exact ⟨_, -1, rfl, a1, Or.inr ⟨by decide, rfl, a3⟩⟩
  · rw [if_neg k, if_neg k]
    obtain ⟨N, g, n1, n2, n3⟩ := c_take h (due := 31) (by decide)
    rw [n1, obind_some]
    rcases n3 with ⟨b1, b2, b3, b4⟩ | ⟨b1, b2, b3⟩
    · exact absurd b1 k
    · subst b2
      rw [if_pos rfl]
      exact ⟨N, -1, rfl, n2, Or.inr ⟨by decide, rfl, b3⟩⟩
/-- a name's number -/
theorem tW_name (hn : 0 ≤ n ∧ n ≤ 700) (k : tK B n i = 30) : 0 ≤ tW B n i := by
  have ha := tA_rng (B := B) hn.1 hn.2 i
  unfold tK at k
  unfold tW
  obtain ⟨g1, g2, g3⟩ := rnE_facts (p := blB) (B := B) ha.1.1 ha.1.2 hn.2
  revert k
  unfold tkS
  generalize rnE blB B n (tkA B n i) = p at *
  by_cases c1 : n ≤ p
  · rw [if_pos c1]; intro k; exact Int.le_refl _
  · rw [if_neg c1]
    by_cases c2 : ltB (B p) = true
    · rw [if_pos c2]
      by_cases c3 : 0 ≤ wordS B p (rnE ltB B n p - p)
      · rw [if_pos c3]; intro k; exact Int.le_refl _
      · rw [if_neg c3]
        by_cases c4 : rnE ltB B n p - p ≤ 6
        · rw [if_pos c4]
          intro k
          obtain ⟨l1, l2, l3⟩ := rnE_facts (p := ltB) (B := B) (n := n) (a := p) (by omega) (by omega) hn.2
          exact (nv_rng l2 6).1
        · rw [if_neg c4]; intro k; exact Int.le_refl _
    · rw [if_neg c2]
      by_cases c3 : dgB (B p) = true
      · rw [if_pos c3]; intro k; exact absurd (show (31 : Int) = 30 from k) (by decide)
      · rw [if_neg c3]; intro k; exact Int.le_refl _
theorem c_name (h : RD M B n i) {V : TV} {rowV r N1 : Nat} {len : Int} (l0 : 0 ≤ len) (l1 : len ≤ (N1 : Int)) (l2 : N1 ≤ 8) (hr : ∀ a, 0 ≤ a → a < len → M.1 r a = V rowV a) (r46 : r < 42) : ∃ N g, t_Reader_takeNewName M r N1 len = some (N, g) ∧ Fr RfW M N ∧ ((nmS B n V rowV len i = 0 ∧ g = tW B n i ∧ 0 ≤ g ∧ RD N B n (i + 1) ∧ N.1 46 5 = tP B n i) ∨ (nmS B n V rowV len i ≠ 0 ∧ g = -1 ∧ FT N (nmS B n V rowV len i) (tP B n i))) := by
  unfold t_Reader_takeNewName nmS
  obtain ⟨N, g, n1, n2, n3⟩ := c_take h (due := 30) (by decide)
  rw [n1, obind_some]
  rcases n3 with ⟨b1, b2, b3, b4⟩ | ⟨b1, b2, b3⟩
  · subst b2
    have hw := h.2.2.2.2.2.1 (by omega)
    have w0 := tW_name (B := B) (i := i) h.1.1 b1
    rw [if_neg (show ¬ (1 : Int) = 0 by decide), hw, if_pos b1]
    have ix := indexOf_eq (M := N) (r := r) (N := N1) (p := fun a => V rowV (a : Int)) (v := tW B n i) (len := len.toNat) (by omega) (by omega) (fun a ha => by rw [(n2 r _ (by unfold RfW; omega)).1]; exact hr _ (by omega) (by omega))
    rw [Int.toNat_of_nonneg l0] at ix
    rw [ix, obind_some]
    cases e : fnd (fun a => V rowV (a : Int)) (tW B n i) len.toNat with
    | none =>
      rw [if_pos (show (-1 : Int) < 0 by decide), if_pos rfl]
      exact ⟨N, _, rfl, n2, Or.inl ⟨rfl, rfl, w0, b3, b4⟩⟩
    | some b =>
      show ∃ N' g', (if ((b : Nat) : Int) < 0 then some (N, tW B n i) else qlet (t_Reader_refuse N 3 (N.1 46 5)) fun q9 => some (q9.1, -1)) = some (N', g') ∧ _
      rw [if_neg (show ¬ ((b : Nat) : Int) < 0 by omega), if_neg (by simp), b4]
      obtain ⟨a1, a2, a3⟩ := c_refuse (M := N) 3 (tP B n i)
      exact ⟨_, -1, rfl, n2.trans a1, Or.inr ⟨by decide, rfl, a3⟩⟩
  · subst b2
    rw [if_pos rfl, if_neg b1]
    exact ⟨N, -1, rfl, n2, Or.inr ⟨by decide, rfl, b3⟩⟩
theorem c_cell (h : RD M B n i) {V : TV} {T : Nat} (hP : VOK V) (e0 : M.1 T 11 = V 0 0) (e1 : M.1 T 12 = V 0 1) (t46 : T < 42) : ∃ N r, t_Reader_takeCell M T = some (N, r) ∧ Fr RfW M N ∧ ((∃ c, c = tW B n (i + 1) * V 0 0 + tW B n i ∧ r = c ∧ 0 ≤ c ∧ c < cellsV V ∧ RD N B n (i + 2) ∧ N.1 46 5 = tP B n (i + 1) ∧ ∀ k, clS B n V i k = k c) ∨ (∃ f p, r = -1 ∧ f ≠ 0 ∧ FT N f p ∧ ∀ k, clS B n V i k = (f, p, 0, V))) := by
  obtain ⟨⟨a1, a2, a3, a4, -⟩, -⟩ := hP
  unfold t_Reader_takeCell
  rw [e0, w32_id (x := V 0 0 - 1) (by unfold InR; omega)]
  obtain ⟨N, r, n1, n2, n3⟩ := c_num h 0 (V 0 0 - 1)
  rw [n1, obind_some]
  rcases n3 with ⟨b1, b2, b3, b4, b5, b6⟩ | ⟨b1, b2, b3⟩
  · rw [if_pos (show 0 ≤ r from b3), (n2 T 12 (by unfold RfW; omega)).1, e1, w32_id (x := V 0 1 - 1) (by unfold InR; omega)]
    obtain ⟨P, s, p1, p2, p3⟩ := c_num b5 0 (V 0 1 - 1)
    rw [p1, obind_some]
    unfold t_Reader_takeCell_L31
    have fP := n2.trans p2
    rcases p3 with ⟨d1, d2, d3, d4, d5, d6⟩ | ⟨d1, d2, d3⟩
    · have hc : 0 ≤ s * V 0 0 ∧ s * V 0 0 + r < cellsV V := by
        have h1 : s * V 0 0 ≤ (V 0 1 - 1) * V 0 0 := Int.mul_le_mul_of_nonneg_right d4 (by omega)
        have h2 : 0 ≤ s * V 0 0 := Int.mul_nonneg d3 (by omega)
        have h3 : (V 0 1 - 1) * V 0 0 = V 0 1 * V 0 0 - V 0 0 := by rw [Int.sub_mul, Int.one_mul]
        unfold cellsV
        rw [Int.mul_comm (V 0 0) (V 0 1)]
        omega
      have hc2 : cellsV V ≤ 48 := by
        unfold cellsV
        have h1 : V 0 0 * V 0 1 ≤ 8 * V 0 1 := Int.mul_le_mul_of_nonneg_right a2 (by omega)
        omega
      rw [if_pos (show 0 ≤ s from d3), (fP T 11 (by unfold RfW; omega)).1, e0, w32_id (x := s * V 0 0) (by unfold InR; omega), w32_id (by unfold InR; omega)]
      refine ⟨P, _, rfl, fP, Or.inl ⟨s * V 0 0 + r, by rw [d2, b2], rfl, by omega, hc.2, d5, d6, fun k => ?_⟩⟩
      unfold clS
      rw [if_neg (fun q => q b1), if_neg (fun q => q d1), d2, b2]
    · rw [if_neg (show ¬ 0 ≤ s by omega)]
      refine ⟨P, _, rfl, fP, Or.inr ⟨_, _, rfl, d1, d3, fun k => ?_⟩⟩
      unfold clS
      rw [if_neg (fun q => q b1), if_pos d1]
  · rw [if_neg (show ¬ 0 ≤ r by omega)]
    unfold t_Reader_takeCell_L31
    rw [if_neg (show ¬ (0 : Int) ≤ -1 by decide)]
    refine ⟨N, _, rfl, n2, Or.inr ⟨_, _, rfl, b1, b3, fun k => ?_⟩⟩
    unfold clS
    rw [if_pos b1]
end RDR
/-! the class's town while it is read -/
def OutR (M : Mem) (k0 : Nat) (K W : Int → Int) (len : Int) : Prop := M.1 k0 3 = len ∧ ∀ j, 0 ≤ j → j < len → M.1 (k0 + 1) j = K j ∧ M.1 (k0 + 2) j = W j
def CFm (M : Mem) (T : Nat) (V : TV) : Prop := (M.1 (T + 10) 4 = V 0 9 ∧ OutR M (T + 10) (V 10) (V 11) (V 0 11)) ∧ (M.1 (T + 15) 4 = V 0 10 ∧ OutR M (T + 15) (V 12) (V 13) (V 0 12))
def CP (M : Mem) (T : Nat) (V : TV) : Prop := CT0 M T V ∧ (M.1 46 6 = V 0 6 ∧ M.1 46 7 = V 0 13 ∧ M.1 46 8 = V 0 14) ∧ ((V 0 13 = 0 ∨ V 0 13 = 1) ∧ (V 0 14 = 0 ∨ V 0 14 = 1)) ∧ (cntT (M.2 T 18) 64 = V 0 7 ∧ cntT (M.2 T 19) 64 = V 0 8) ∧ CFm M T V
def RdW (T : Nat) : Nat → Int → Prop := fun k j => (k = 46 ∧ 1 ≤ j ∧ j ≤ 10) ∨ (T ≤ k ∧ k ≤ T + 19)
def CLn (N : Mem) (T : Nat) (B : Int → Int) (n : Int) (L : LR) (g : Int) : Prop := (L.1 = 0 ∧ g = 1 ∧ RD N B n L.2.2.1 ∧ CP N T L.2.2.2) ∨ (L.1 ≠ 0 ∧ g = 0 ∧ FT N L.1 L.2.1)
theorem rf_rd {T : Nat} : ∀ k j, RfW k j → RdW T k j := fun k j z => by unfold RfW at z; unfold RdW; omega
theorem rg_rd {T : Nat} : ∀ k j, RgW k j → RdW T k j := fun k j z => by unfold RgW at z; unfold RdW; omega
theorem OutR.fr {W : Nat → Int → Prop} {M N : Mem} {k0 : Nat} {K U : Int → Int} {len : Int} (h : OutR M k0 K U len) (hF : Fr W M N) (hd : ∀ k j, ((k = k0 ∧ j = 3) ∨ k = k0 + 1 ∨ k = k0 + 2) → ¬ W k j) : OutR N k0 K U len :=
  ⟨((hF k0 3 (hd _ _ (Or.inl ⟨rfl, rfl⟩))).1).trans h.1, fun j a b => ⟨((hF _ _ (hd (k0 + 1) _ (Or.inr (Or.inl rfl)))).1).trans (h.2 j a b).1, ((hF _ _ (hd (k0 + 2) _ (Or.inr (Or.inr rfl)))).1).trans (h.2 j a b).2⟩⟩
theorem CT0.fr2 {W : Nat → Int → Prop} {M N : Mem} {T : Nat} {V : TV} (h : CT0 M T V) (hF : Fr W M N) (hd : ∀ k j, ((k = T ∧ 11 ≤ j ∧ j ≤ 19) ∨ (T + 1 ≤ k ∧ k ≤ T + 8)) → ¬ W k j) : CT0 N T V := by
  obtain ⟨⟨a1, a2, a3, a4, a5, a6⟩, b, c, d⟩ := h
  have e : ∀ j, 11 ≤ j → j ≤ 19 → N.1 T j = M.1 T j ∧ N.2 T j = M.2 T j := fun j x y => hF T j (hd _ _ (Or.inl ⟨rfl, x, y⟩))
  have r : ∀ k j, T + 1 ≤ k → k ≤ T + 8 → N.1 k j = M.1 k j := fun k j x y => (hF k j (hd _ _ (Or.inr ⟨x, y⟩))).1
  refine ⟨⟨?_, ?_, ?_, ?_, ?_, ?_⟩, fun w x y => ⟨?_, ?_, ?_⟩, fun t x y => ⟨?_, ?_, ?_⟩, fun q x y => ⟨?_, ?_, ?_⟩⟩
  · rw [(e 11 (by omega) (by omega)).1]; exact a1
  · rw [(e 12 (by omega) (by omega)).1]; exact a2
  · rw [(e 14 (by omega) (by omega)).1]; exact a3
  · rw [(e 15 (by omega) (by omega)).1]; exact a4
  · rw [(e 16 (by omega) (by omega)).1]; exact a5
  · rw [(e 17 (by omega) (by omega)).1]; exact a6
  · rw [r _ _ (by omega) (by omega)]; exact (b w x y).1
  · rw [r _ _ (by omega) (by omega)]; exact (b w x y).2.1
  · rw [r _ _ (by omega) (by omega)]; exact (b w x y).2.2
  · rw [r _ _ (by omega) (by omega)]; exact (c t x y).1
  · rw [r _ _ (by omega) (by omega)]; exact (c t x y).2.1
  · rw [r _ _ (by omega) (by omega)]; exact (c t x y).2.2
  · rw [r _ _ (by omega) (by omega)]; exact (d q x y).1
  · rw [(e 18 (by omega) (by omega)).2]; exact (d q x y).2.1
  · rw [(e 19 (by omega) (by omega)).2]; exact (d q x y).2.2
theorem CFm.fr {W : Nat → Int → Prop} {M N : Mem} {T : Nat} {V : TV} (h : CFm M T V) (hF : Fr W M N) (hd : ∀ k j, (((k = T + 10 ∨ k = T + 15) ∧ (j = 3 ∨ j = 4)) ∨ k = T + 11 ∨ k = T + 12 ∨ k = T + 16 ∨ k = T + 17) → ¬ W k j) : CFm N T V := by
  obtain ⟨⟨a1, a2⟩, b1, b2⟩ := h
  refine ⟨⟨?_, a2.fr hF (fun k j z => hd k j (by omega))⟩, ?_, b2.fr hF (fun k j z => hd k j (by omega))⟩
  · rw [(hF (T + 10) 4 (hd _ _ (by omega))).1]; exact a1
  · rw [(hF (T + 15) 4 (hd _ _ (by omega))).1]; exact b1
theorem CP.fr {W : Nat → Int → Prop} {M N : Mem} {T : Nat} {V : TV} (h : CP M T V) (hF : Fr W M N) (hd : ∀ k j, ((T ≤ k ∧ k ≤ T + 19) ∨ (k = 46 ∧ 6 ≤ j ∧ j ≤ 8)) → ¬ W k j) : CP N T V := by
  obtain ⟨h1, ⟨a1, a2, a3⟩, h3, ⟨c1, c2⟩, h5⟩ := h
  have e : ∀ j, 6 ≤ j → j ≤ 8 → N.1 46 j = M.1 46 j := fun j x y => (hF 46 j (hd _ _ (Or.inr ⟨rfl, x, y⟩))).1
  refine ⟨CT0.fr hF (fun k j a b => hd k j (by omega)) h1, ⟨?_, ?_, ?_⟩, h3, ⟨?_, ?_⟩, h5.fr hF (fun k j z => hd k j (by omega))⟩
  · rw [e 6 (by omega) (by omega)]; exact a1
  · rw [e 7 (by omega) (by omega)]; exact a2
  · rw [e 8 (by omega) (by omega)]; exact a3
  · rw [(hF T 18 (hd _ _ (by omega))).2]; exact c1
  · rw [(hF T 19 (hd _ _ (by omega))).2]; exact c2
