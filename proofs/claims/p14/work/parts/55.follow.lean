/-! ===== pictures stay where nothing is written ===== -/
theorem CT0.fr {W : Nat → Int → Prop} {M N : Mem} {T : Nat} {V : TV} (hF : Fr W M N) (hd : ∀ (k : Nat) (j : Int), T ≤ k → k ≤ T + 8 → ¬ W k j) (h : CT0 M T V) : CT0 N T V := by
  have e1 : ∀ (i : Nat) (j : Int), i ≤ 8 → N.1 (T + i) j = M.1 (T + i) j := fun i j hi => (hF _ j (hd _ j (by omega) (by omega))).1
  have e2 : ∀ (j : Int), N.2 T j = M.2 T j := fun j => (hF _ j (hd _ j (by omega) (by omega))).2
  have e0 : ∀ (j : Int), N.1 T j = M.1 T j := fun j => (hF _ j (hd _ j (by omega) (by omega))).1
  obtain ⟨⟨a1, a2, a3, a4, a5, a6⟩, b, c, d⟩ := h
  refine ⟨⟨(e0 _).trans a1, (e0 _).trans a2, (e0 _).trans a3, (e0 _).trans a4, (e0 _).trans a5, (e0 _).trans a6⟩, fun w h0 h1 => ?_, fun t h0 h1 => ?_, fun q h0 h1 => ?_⟩
  · have := b w h0 h1
    exact ⟨(e1 1 _ (by omega)).trans this.1, (e1 2 _ (by omega)).trans this.2.1, (e1 3 _ (by omega)).trans this.2.2⟩
  · have := c t h0 h1
    exact ⟨(e1 5 _ (by omega)).trans this.1, (e1 6 _ (by omega)).trans this.2.1, (e1 7 _ (by omega)).trans this.2.2⟩
  · have := d q h0 h1
    exact ⟨(e1 8 _ (by omega)).trans this.1, by rw [e2]; exact this.2.1, by rw [e2]; exact this.2.2⟩
theorem CTs.fr {W : Nat → Int → Prop} {M N : Mem} {T : Nat} {V : TV} (hF : Fr W M N) (hd : ∀ (k : Nat) (j : Int), T ≤ k → k ≤ T + 9 → ¬ W k j) (h : CTs M T V) : CTs N T V :=
  ⟨(hF _ _ (hd _ _ (by omega) (by omega))).1.trans h.1, fun w h0 h1 => (hF _ _ (hd _ _ (by omega) (by omega))).1.trans (h.2.1 w h0 h1), fun c h0 h1 d d0 d1 => (hF _ _ (hd _ _ (by omega) (by omega))).1.trans (h.2.2 c h0 h1 d d0 d1)⟩
theorem MT0.fr {W : Nat → Int → Prop} {M N : Mem} {V : TV} (hF : Fr W M N) (hd : ∀ (k : Nat) (j : Int), 193 ≤ k → k ≤ 202 → ¬ W k j) (h : MT0 M V) : MT0 N V := by
  have e : ∀ (k : Nat) (j : Int), 193 ≤ k → k ≤ 202 → N.1 k j = M.1 k j := fun k j h0 h1 => (hF _ j (hd _ j h0 h1)).1
  obtain ⟨⟨a1, a2, a3, a4, a5, a6⟩, b, c, d⟩ := h
  refine ⟨⟨(e _ _ (by omega) (by omega)).trans a1, (e _ _ (by omega) (by omega)).trans a2, (e _ _ (by omega) (by omega)).trans a3, (e _ _ (by omega) (by omega)).trans a4, (e _ _ (by omega) (by omega)).trans a5, (e _ _ (by omega) (by omega)).trans a6⟩, fun w h0 h1 => ?_, fun t h0 h1 => ?_, fun q h0 h1 => ?_⟩
  · have := b w h0 h1
    exact ⟨(e _ _ (by omega) (by omega)).trans this.1, (e _ _ (by omega) (by omega)).trans this.2.1, (e _ _ (by omega) (by omega)).trans this.2.2⟩
  · have := c t h0 h1
    exact ⟨(e _ _ (by omega) (by omega)).trans this.1, (e _ _ (by omega) (by omega)).trans this.2.1, (e _ _ (by omega) (by omega)).trans this.2.2⟩
  · have := d q h0 h1
    exact ⟨(e _ _ (by omega) (by omega)).trans this.1, (e _ _ (by omega) (by omega)).trans this.2.1, (e _ _ (by omega) (by omega)).trans this.2.2⟩
theorem CSc.fr {W : Nat → Int → Prop} {M N : Mem} {k : Nat} {V : TV} {D A : Int → Int} {nets : Int64} {wl : Int → Bool} (hF : Fr W M N) (hd : ∀ (q : Nat) (j : Int), k ≤ q → q ≤ k + 2 → ¬ W q j) (h : CSc M k V D A nets wl) : CSc N k V D A nets wl :=
  ⟨fun w h0 h1 => (hF _ _ (hd _ _ (by omega) (by omega))).1.trans (h.1 w h0 h1), fun t h0 h1 => (hF _ _ (hd _ _ (by omega) (by omega))).1.trans (h.2.1 t h0 h1), (hF _ _ (hd _ _ (by omega) (by omega))).2.trans h.2.2.1, fun c h0 h1 => by rw [(hF k 4 (hd _ _ (by omega) (by omega))).2]; exact h.2.2.2 c h0 h1⟩
theorem MSc.fr {W : Nat → Int → Prop} {M N : Mem} {at_ : Int} {V : TV} {D A : Int → Int} {nets : Int64} (hF : Fr W M N) (hd : ∀ (q : Nat) (j : Int), (q = 210 ∨ q = 212 ∨ q = 213) → ¬ W q j) (h : MSc M at_ V D A nets) : MSc N at_ V D A nets :=
  ⟨fun w h0 h1 => (hF _ _ (hd _ _ (by omega))).1.trans (h.1 w h0 h1), fun t h0 h1 => (hF _ _ (hd _ _ (by omega))).1.trans (h.2.1 t h0 h1), (hF _ _ (hd _ _ (by omega))).2.trans h.2.2⟩
theorem put_in {M : Mem} {r N : Nat} {i x : Int} (h0 : 0 ≤ i) (h1 : i < (N : Int)) : t_WF_put M r N i x = setI M r i x := by
  unfold t_WF_put
  rw [if_neg (by omega), if_neg (by omega)]
theorem put_out {M : Mem} {r N : Nat} {i x : Int} (h : i < 0 ∨ (N : Int) ≤ i) : t_WF_put M r N i x = M := by
  unfold t_WF_put
  by_cases h0 : i < 0
  · rw [if_pos h0]
  · rw [if_neg h0, if_pos (by omega)]
/-- the first place of a value in a row -/
theorem indexOf_loop {M : Mem} {r N : Nat} {p : Nat → Int} {v : Int} {len : Nat} (hN : len ≤ N) (hb : N ≤ 100000) (hp : ∀ a, a < len → M.1 r (a : Int) = p a) : ∀ (n a fu : Nat), n + a = len → n < fu → (∀ b, b < a → p b ≠ v) → t_WF_indexOf_L2 r N (len : Int) v fu M (a : Int) = some (match fnd p v len with | some b => (b : Int) | none => -1) := by
  intro n
  induction n with
  | zero =>
    intro a fu h1 h2 h3
    obtain ⟨f, rfl⟩ : ∃ f, fu = f + 1 := ⟨fu - 1, by omega⟩
    have ha : a = len := by omega
    subst ha
    rw [t_WF_indexOf_L2, if_pos (by omega)]
    cases e : fnd p v a with
    | none => rfl
    | some b => have := fnd_some e; exact absurd this.2.1 (h3 b this.1)
  | succ n ih =>
    intro a fu h1 h2 h3
    obtain ⟨f, rfl⟩ : ∃ f, fu = f + 1 := ⟨fu - 1, by omega⟩
    rw [t_WF_indexOf_L2, if_neg (by omega), if_neg (by omega), qguard_pos ⟨by omega, by omega⟩, hp a (by omega)]
    by_cases e : p a = v
    · rw [if_pos e]
      cases e2 : fnd p v len with
      | none => exact absurd e (fnd_none e2 a (by omega))
      | some b =>
        have := fnd_some e2
        have hba : b = a := by
          by_cases q : b < a
          · exact absurd this.2.1 (h3 b q)
          · by_cases q2 : a < b
            · exact absurd e (this.2.2 a q2)
            · omega
        rw [hba]
    · rw [if_neg e, w32_id (x := (a : Int) + 1) (by unfold InR; omega)]
      have := ih (a + 1) f (by omega) (by omega) (fun b hb => by
        by_cases q : b = a
        · rw [q]; exact e
        · exact h3 b (by omega))
      exact this
theorem indexOf_eq {M : Mem} {r N : Nat} {p : Nat → Int} {v : Int} {len : Nat} (hN : len ≤ N) (hb : N ≤ 100000) (hp : ∀ a, a < len → M.1 r (a : Int) = p a) : t_WF_indexOf M r N (len : Int) v = some (match fnd p v len with | some b => (b : Int) | none => -1) := by
  unfold t_WF_indexOf
  exact indexOf_loop hN hb hp len 0 FU (by omega) (fu_big (by omega)) (fun b hb => by omega)
/-! the class's trail -/
def wAhead (r : Nat × Option Nat) : Int := match r.2 with | none => (r.1 : Int) | some a => (a : Int)
def wRound (r : Nat × Option Nat) : Int := match r.2 with | none => 0 | some a => (r.1 : Int) + 1 - a
def wLines (V : TV) (f : Int → Int) (c : Int) (r : Nat × Option Nat) : Int := match r.2 with | none => lcV V f c r.1 | some _ => lcV V f c (r.1 + 1)
def FolR (N : Mem) (k : Nat) (V : TV) (f : Int → Int) (c : Int) (r : Nat × Option Nat) : Prop := N.1 k 1 = (r.1 : Int) + 1 ∧ N.1 k 2 = wAhead r ∧ N.1 k 3 = wRound r ∧ N.1 k 4 = wLines V f c r ∧ ∀ a : Nat, a ≤ r.1 → N.1 (k + 1) (a : Int) = itr f c a
theorem c_follow_loop {M0 : Mem} {T k k2 : Nat} {V : TV} {D A : Int → Int} {nets : Int64} {wl : Int → Bool} {x3 c : Int} (hT : T = 2 ∨ T = 22) (hk : k = 182 ∨ k = 189) (hk2 : 42 ≤ k2 ∧ k2 ≤ 167) (hV : VOK V) (h0 : CT0 M0 T V) (hs : CTs M0 T V) (hc : CSc M0 k2 V D A nets wl) :
    ∀ (n i fu : Nat) (M : Mem) (v3 : Int64), n + i = 48 → n < fu → Fr (W_Trail_follow k) M0 M → wI (nxV V D nets wl) c i → (∀ a, a ≤ i → itr (nxV V D nets wl) c a < cellsV V) → (∀ a : Nat, a < i → M.1 (k + 1) (a : Int) = itr (nxV V D nets wl) c a) → M.1 k 3 = 0 → M.1 k 4 = lcV V (nxV V D nets wl) c i → (∀ x, 0 ≤ x → x < 48 → (tb v3 x = true ↔ ∃ a, a < i ∧ itr (nxV V D nets wl) c a = x)) →
      ∃ N, t_Trail_follow_L24 k T k2 x3 fu M v3 (itr (nxV V D nets wl) c i) (i : Int) = some N ∧ Fr (W_Trail_follow k) M0 N ∧ FolR N k V (nxV V D nets wl) c (wS (nxV V D nets wl) c n i) := by
  have hC := hV.cells
  generalize hf : nxV V D nets wl = f at *
  intro n
  induction n with
  | zero => intro i fu M v3 h1 _ _ hw; have := hw.lt; omega
  | succ n ih =>
    intro i fu M v3 h1 h2 hF hw hlt hp h3 h4 hb
    obtain ⟨g, rfl⟩ : ∃ g, fu = g + 1 := ⟨fu - 1, by omega⟩
    have hi := hw.lt
    have hr := hw.1 i (Nat.le_refl _)
    have hl := hlt i (Nat.le_refl _)
    rw [t_Trail_follow_L24, if_neg (by omega), put_in (by omega) (by omega)]
    simp only [qlet]
    rw [w32_id (x := (i : Int) + 1) (by unfold InR; omega)]
    generalize hM8 : setI (setI (setI M (k + 1) (i : Int) (itr f c i)) k 1 ((i : Int) + 1)) k 2 (i : Int) = M8
    have hF8 : Fr (W_Trail_follow k) M0 M8 := by
      rw [← hM8]
      exact ((hF.setI (by unfold W_Trail_follow; omega)).setI (by unfold W_Trail_follow; omega)).setI (by unfold W_Trail_follow; omega)
    have c0 : CT0 M8 T V := h0.fr hF8 (fun q j g1 g2 => by unfold W_Trail_follow; omega)
    have cs : CTs M8 T V := hs.fr hF8 (fun q j g1 g2 => by unfold W_Trail_follow; omega)
    have cc : CSc M8 k2 V D A nets wl := hc.fr hF8 (fun q j g1 g2 => by unfold W_Trail_follow; omega)
    have r1 : M8.1 k 1 = (i : Int) + 1 := by rw [← hM8, sI_ne (by omega), sI_self]
    have r2 : M8.1 k 2 = (i : Int) := by rw [← hM8, sI_self]
    have r3 : M8.1 k 3 = 0 := by rw [← hM8, sI_ne (by omega), sI_ne (by omega), sI_ne (by omega), h3]
    have r4 : M8.1 k 4 = lcV V f c i := by rw [← hM8, sI_ne (by omega), sI_ne (by omega), sI_ne (by omega), h4]
    have rp : ∀ a : Nat, a < i + 1 → M8.1 (k + 1) (a : Int) = itr f c a := by
      intro a ha
      rw [← hM8, sI_ne (by omega), sI_ne (by omega)]
      by_cases e : a = i
      · rw [e, sI_self]
      · rw [sI_ne (by omega)]; exact hp a (by omega)
    rw [c_next c0 cs hV cc hr.1 hl, hf]
    have hst : itr f c (i + 1) = f (itr f c i) := rfl
    rw [← hst]
    have hn := nx_rng hV D nets wl hr.1 hl
    rw [hf, ← hst] at hn
    rw [wS]
    by_cases e0 : itr f c (i + 1) < 0
    · rw [if_neg (by omega), if_pos e0]
      exact ⟨M8, rfl, hF8, r1, r2, r3, r4, fun a ha => rp a (by omega)⟩
    · rw [if_pos (by omega), if_neg e0, c_line c0 hr.1 (by omega) (by omega) (by omega)]
      have lnr := ln_rng V (itr f c i) (itr f c (i + 1))
      -- whichever: the same memory but for the lines
      have go : ∀ M9 : Mem, Fr (W_Trail_follow k) M0 M9 → M9.1 k 1 = (i : Int) + 1 → M9.1 k 3 = 0 → M9.1 k 4 = lcV V f c (i + 1) → (∀ a : Nat, a < i + 1 → M9.1 (k + 1) (a : Int) = itr f c a) → ∃ N, t_Trail_follow_L101 k T k2 x3 (fun a0_ a1_ a2_ a3_ => t_Trail_follow_L24 k T k2 x3 g a0_ a1_ a2_ a3_) M9 (v3 ||| q_lshl 1 (itr f c i)) (i : Int) (itr f c (i + 1)) = some N ∧ Fr (W_Trail_follow k) M0 N ∧ FolR N k V f c (match fnd (itr f c) (itr f c (i + 1)) (i + 1) with | some a => (i, some a) | none => wS f c n (i + 1)) := by
        intro M9 hF9 q1 q3 q4 qp
        unfold t_Trail_follow_L101
        simp only [qlet]
        rw [bitOf_tb M9 _ (by omega) (by omega)]
        have hb2 : ∀ x, 0 ≤ x → x < 48 → (tb (v3 ||| q_lshl 1 (itr f c i)) x = true ↔ ∃ a, a < i + 1 ∧ itr f c a = x) := by
          intro x x0 x1
          rw [tb_or v3 hr.1 (by omega) x0 (by omega)]
          simp only [Bool.or_eq_true, decide_eq_true_eq]
          rw [hb x x0 x1]
          constructor
          · rintro (⟨a, ha, e⟩ | e)
            · exact ⟨a, by omega, e⟩
            · exact ⟨i, by omega, e.symm⟩
          · rintro ⟨a, ha, e⟩
            by_cases ei : a = i
            · right; rw [← e, ei]
            · left; exact ⟨a, by omega, e⟩
        cases ef : fnd (itr f c) (itr f c (i + 1)) (i + 1) with
        | some a =>
          have hfs := fnd_some ef
          rw [(hb2 _ (by omega) (by omega)).mpr ⟨a, hfs.1, hfs.2.1⟩, if_pos (by simp), q1]
          have hi2 : ((i : Int) + 1) = ((i + 1 : Nat) : Int) := by omega
          rw [hi2, indexOf_eq (p := itr f c) (by omega) (by decide) qp, ef, obind_some]
          refine ⟨_, rfl, (hF9.setI (by unfold W_Trail_follow; omega)).setI (by unfold W_Trail_follow; omega), ?_, ?_, ?_, ?_, ?_⟩
          · rw [sI_ne (by omega), sI_ne (by omega), q1]
          · rw [sI_ne (by omega), sI_self]; rfl
          · rw [sI_self]
            show w32 (uI M9.1 k 2 (a : Int) k 1 - uI M9.1 k 2 (a : Int) k 2) = _
            rw [uI_ne _ _ (by omega), uI_self, q1, w32_id (by unfold InR; omega)]
            rfl
          · rw [sI_ne (by omega), sI_ne (by omega), q4]; rfl
          · intro b hb3
            have hb4 : b ≤ i := hb3
            rw [sI_ne (by omega), sI_ne (by omega)]
            exact qp b (by omega)
        | none =>
          have hfn := fnd_none ef
          have : tb (v3 ||| q_lshl 1 (itr f c i)) (itr f c (i + 1)) = false := by
            cases e : tb (v3 ||| q_lshl 1 (itr f c i)) (itr f c (i + 1)) with
            | false => rfl
            | true =>
              obtain ⟨a, ha, e2⟩ := (hb2 _ (by omega) (by omega)).mp e
              exact absurd e2 (hfn a ha)
          rw [this, if_neg (by simp), w32_id (x := (i : Int) + 1) (by unfold InR; omega)]
          have hi2 : ((i : Int) + 1) = ((i + 1 : Nat) : Int) := by omega
          rw [hi2]
          exact ih (i + 1) g M9 _ (by omega) (by omega) hF9 (hw.next (by omega) (by omega) ef) (fun a ha => by
            by_cases ea : a = i + 1
            · rw [ea]; omega
            · exact hlt a (by omega)) qp q3 q4 hb2
      by_cases el : lnV V (itr f c i) (itr f c (i + 1)) = 0
      · rw [if_pos el]
        exact go M8 hF8 r1 r3 (by rw [r4, lcV, el]; omega) rp
      · have r4u : uI (uI (uI M.1 (k + 1) (i : Int) (itr f c i)) k 1 ((i : Int) + 1)) k 2 (i : Int) k 4 = lcV V f c i := by rw [uI_ne _ _ (by omega), uI_ne _ _ (by omega), uI_ne _ _ (by omega), h4]
        rw [if_neg el, r4u]
        have hlc := lc_rng V f c i
        rw [w32_id (by unfold InR; omega)]
        refine go _ (hF8.setI (by unfold W_Trail_follow; omega)) ?_ ?_ ?_ (fun a ha => ?_)
        · rw [sI_ne (by omega), r1]
        · rw [sI_ne (by omega), r3]
        · rw [sI_self, lcV]; omega
        · rw [sI_ne (by omega)]; exact rp a ha
theorem c_follow {M : Mem} {T k k2 : Nat} {V : TV} {D A : Int → Int} {nets : Int64} {wl : Int → Bool} {c : Int} (hT : T = 2 ∨ T = 22) (hk : k = 182 ∨ k = 189) (hk2 : 42 ≤ k2 ∧ k2 ≤ 167) (hV : VOK V) (h0 : CT0 M T V) (hs : CTs M T V) (hc : CSc M k2 V D A nets wl) (c0 : 0 ≤ c) (c1 : c < cellsV V) :
    ∃ N, t_Trail_follow M k T k2 c = some N ∧ Fr (W_Trail_follow k) M N ∧ FolR N k V (nxV V D nets wl) c (wayS (nxV V D nets wl) c) := by
  have hC := hV.cells
  unfold t_Trail_follow
  simp only [qlet]
  have hF : Fr (W_Trail_follow k) M (setI (setI (setI M k 1 0) k 3 0) k 4 0) := ((Fr.rf.setI (by unfold W_Trail_follow; omega)).setI (by unfold W_Trail_follow; omega)).setI (by unfold W_Trail_follow; omega)
  exact c_follow_loop hT hk hk2 hV h0 hs hc 48 0 FU _ 0 (by omega) (fu_big (by omega)) hF (wI0 c0 (by omega)) (fun a ha => by
    have : a = 0 := by omega
    subst this
    exact c1) (fun a ha => by omega) (by rw [sI_ne (by omega), sI_self]) (by rw [sI_self]; rfl) (fun x x0 x1 => by
      rw [tb_zero]
      constructor
      · intro h; cases h
      · rintro ⟨a, ha, -⟩; omega)
