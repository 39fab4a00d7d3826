section
/-! ===== the reference's things and beats ===== -/
/-- row at_'s things: what is tried to be away stands as -1 -/
def MTh (M : Mem) (at_ : Int) (V : TV) (tw ti : Int) (A S L : Int → Int) : Prop := ∀ t, 0 ≤ t → t < V 0 3 → (tw = 4 ∧ ti = t ∧ A t = -1) ∨ (¬ (tw = 4 ∧ ti = t) ∧ M.1 213 (8 * at_ + t) = A t ∧ M.1 214 (8 * at_ + t) = S t ∧ M.1 215 (8 * at_ + t) = L t)
def fI (o : Option Nat) : Int := match o with | some a => (a : Int) | none => -1
theorem w32_succ {t : Nat} (h : t < 1000000) : w32 ((t : Int) + 1) = ((t + 1 : Nat) : Int) := by rw [w32_id (by unfold InR; omega)]; omega
theorem m_thingIn_loop {M : Mem} {at_ d : Int} {V : TV} {A S L : Int → Int} (ha : 0 ≤ at_ ∧ at_ < 23) (hV : VOK V) (h : MT0 M V) (hd : 0 ≤ d) (hT : MTh M at_ V (M.1 191 44) (M.1 191 45) A S L) : ∀ (n t fu : Nat), (t : Int) + (n : Int) = V 0 3 → n < fu → (∀ b : Nat, b < t → A (b : Int) ≠ d) → t_MO_thingIn_L2 at_ d fu M (t : Int) = some (fI (fnd (fun a => A (a : Int)) d (V 0 3).toNat)) := by
  have h3 := hV.1
  intro n
  induction n with
  | zero =>
    intro t fu g0 g1 hb
    obtain ⟨g, rfl⟩ : ∃ g, fu = g + 1 := ⟨fu - 1, by omega⟩
    rw [t_MO_thingIn_L2, h.1.2.2.2.1, if_pos (by omega)]
    cases e : fnd (fun a => A (a : Int)) d (V 0 3).toNat with
    | none => rfl
    | some a =>
      have := fnd_some e
      exact absurd this.2.1 (hb a (by omega))
  | succ n ih =>
    intro t fu g0 g1 hb
    obtain ⟨g, rfl⟩ : ∃ g, fu = g + 1 := ⟨fu - 1, by omega⟩
    rw [t_MO_thingIn_L2, h.1.2.2.2.1, if_neg (by omega), w32_id (x := 8 * at_) (by unfold InR; omega), w32_id (x := 8 * at_ + (t : Int)) (by unfold InR; omega), qguard_pos ⟨by omega, by omega⟩]
    unfold t_MO_thingIn_L46
    rw [w32_succ (t := t) (by omega)]
    have next : A (t : Int) ≠ d → t_MO_thingIn_L2 at_ d g M ((t + 1 : Nat) : Int) = some (fI (fnd (fun a => A (a : Int)) d (V 0 3).toNat)) := fun hne => ih (t + 1) g (by omega) (by omega) (fun b hb2 => by
      by_cases e : b = t
      · rw [e]; exact hne
      · exact hb b (by omega))
    have found : A (t : Int) = d → some (t : Int) = some (fI (fnd (fun a => A (a : Int)) d (V 0 3).toNat)) := by
      intro he
      cases e : fnd (fun a => A (a : Int)) d (V 0 3).toNat with
      | none => exact absurd he (fnd_none e t (by omega))
      | some a =>
        have hs := fnd_some e
        have : a = t := by
          by_cases q : a < t
          · exact absurd hs.2.1 (hb a q)
          · by_cases q2 : t < a
            · exact absurd he (hs.2.2 t q2)
            · omega
        rw [this]; rfl
    rcases hT (t : Int) (by omega) (by omega) with ⟨w1, w2, w3⟩ | ⟨w1, w2, -⟩
    · have hne : A (t : Int) ≠ d := by rw [w3]; omega
      by_cases e : M.1 213 (8 * at_ + (t : Int)) = d
      · rw [if_pos e, if_pos w1, if_pos w2]; exact next hne
      · rw [if_neg e]; exact next hne
    · rw [w2]
      by_cases e : A (t : Int) = d
      · rw [if_pos e]
        by_cases q1 : M.1 191 44 = 4
        · rw [if_pos q1, if_neg (fun q => w1 ⟨q1, q⟩)]; exact found e
        · rw [if_neg q1]; exact found e
      · rw [if_neg e]; exact next e
theorem m_thingIn {M : Mem} {at_ d : Int} {V : TV} {A S L : Int → Int} (ha : 0 ≤ at_ ∧ at_ < 23) (hV : VOK V) (h : MT0 M V) (hd : 0 ≤ d) (hT : MTh M at_ V (M.1 191 44) (M.1 191 45) A S L) : t_MO_thingIn M at_ d = some (fI (fnd (fun a => A (a : Int)) d (V 0 3).toNat)) := m_thingIn_loop ha hV h hd hT (V 0 3).toNat 0 FU (by have := hV.1; omega) (fu_big (by have := hV.1; omega)) (fun b hb => by omega)
/-- the cells that a beat writes -/
def TW (at_ : Int) : Nat → Int → Prop := fun k j => (k = 213 ∨ k = 214 ∨ k = 215) ∧ 8 * at_ ≤ j ∧ j < 8 * at_ + 8
def BW (at_ : Int) : Nat → Int → Prop := fun k j => (k = 208 ∧ j = at_) ∨ ((k = 213 ∨ k = 214 ∨ k = 215) ∧ 8 * at_ ≤ j ∧ j < 8 * at_ + 8)
theorem btS_rng {V : TV} {f : Int → Int} {way : Bool} {A S L : Int → Int} {C : Int} (hf : stepOK f C) (hA : ∀ t, 0 ≤ t → t < V 0 3 → -1 ≤ A t ∧ A t < C) : ∀ n : Nat, (n : Int) ≤ V 0 3 → ∀ t, 0 ≤ t → t < V 0 3 → -1 ≤ (btS V f way A S L n).1 t ∧ (btS V f way A S L n).1 t < C := by
  intro n
  induction n with
  | zero => intro _ t a b; exact hA t a b
  | succ n ih =>
    intro hn t a b
    have h0 := ih (by omega)
    rw [btS]
    split
    · exact h0 t a b
    · split
      · exact h0 t a b
      · split
        · exact h0 t a b
        · show -1 ≤ upA _ _ _ t ∧ upA _ _ _ t < C
          by_cases e : t = (n : Int)
          · subst e
            rw [upA_self]
            have := h0 (n : Int) a b
            exact hf _ (by omega) this.2
          · rw [upA_ne _ e]; exact h0 t a b
theorem btS_n {V : TV} {f : Int → Int} {way : Bool} {A S L : Int → Int} : ∀ n : Nat, 0 ≤ (btS V f way A S L n).2.2.2 ∧ (btS V f way A S L n).2.2.2 ≤ (n : Int) := by
  intro n
  induction n with
  | zero => exact ⟨Int.le_refl _, Int.le_refl _⟩
  | succ n ih =>
    rw [btS]
    split
    · omega
    · split
      · omega
      · split
        · omega
        · show 0 ≤ (btS V f way A S L n).2.2.2 + 1 ∧ (btS V f way A S L n).2.2.2 + 1 ≤ ((n + 1 : Nat) : Int)
          omega
/-- away stays away -/
theorem btS_away {V : TV} {f : Int → Int} {way : Bool} {A S L : Int → Int} {t : Int} (h : A t = -1) : ∀ n : Nat, (btS V f way A S L n).1 t = -1 := by
  intro n
  induction n with
  | zero => exact h
  | succ n ih =>
    rw [btS]
    split
    · exact ih
    · split
      · exact ih
      · split
        · exact ih
        · show upA _ _ _ t = -1
          by_cases e : t = (n : Int)
          · subst e; omega
          · rw [upA_ne _ e]; exact ih
/-- what is there stays there -/
theorem btS_nn {V : TV} {f : Int → Int} {way : Bool} {A S L : Int → Int} {t : Int} (h : 0 ≤ A t) : ∀ n : Nat, 0 ≤ (btS V f way A S L n).1 t := by
  intro n
  induction n with
  | zero => exact h
  | succ n ih =>
    rw [btS]
    split
    · exact ih
    · split
      · exact ih
      · rename_i h1 h2
        split
        · exact ih
        · show 0 ≤ upA _ _ _ t
          by_cases e : t = (n : Int)
          · subst e; rw [upA_self]; omega
          · rw [upA_ne _ e]; exact ih
theorem m_beat_loop {M0 : Mem} {at_ C : Int} {V : TV} {f : Int → Int} {A S L : Int → Int} (ha : 0 ≤ at_ ∧ at_ < 23) (hV : VOK V) (hC : C ≤ 48) (hf : stepOK f C) (hA : ∀ t, 0 ≤ t → t < V 0 3 → -1 ≤ A t ∧ A t < C) (hA2 : ∀ t, 0 ≤ t → t < V 0 3 → ¬ (M0.1 191 44 = 4 ∧ M0.1 191 45 = t) → 0 ≤ A t)
    (hN : ∀ M, Fr (TW at_) M0 M → MT0 M V ∧ ∀ c, 0 ≤ c → c < C → t_MO_nextOf M at_ c = some (f c)) : ∀ (n t fu : Nat) (M : Mem), (t : Int) + (n : Int) = V 0 3 → n < fu → Fr (TW at_) M0 M → MTh M at_ V (M0.1 191 44) (M0.1 191 45) (btS V f (decide (M0.1 191 44 ≠ 1)) A S L t).1 (btS V f (decide (M0.1 191 44 ≠ 1)) A S L t).2.1 (btS V f (decide (M0.1 191 44 ≠ 1)) A S L t).2.2.1 →
    ∃ N, t_MO_beat_L4 at_ fu M (btS V f (decide (M0.1 191 44 ≠ 1)) A S L t).2.2.2 (t : Int) = some (N, (btS V f (decide (M0.1 191 44 ≠ 1)) A S L (V 0 3).toNat).2.2.2) ∧ Fr (BW at_) M0 N ∧ MTh N at_ V (M0.1 191 44) (M0.1 191 45) (btS V f (decide (M0.1 191 44 ≠ 1)) A S L (V 0 3).toNat).1 (btS V f (decide (M0.1 191 44 ≠ 1)) A S L (V 0 3).toNat).2.1 (btS V f (decide (M0.1 191 44 ≠ 1)) A S L (V 0 3).toNat).2.2.1 ∧ N.1 208 at_ = w32 (M0.1 208 at_ + 1) := by
  have h3 := hV.1
  intro n
  induction n with
  | zero =>
    intro t fu M g0 g1 hF hT
    obtain ⟨g, rfl⟩ : ∃ g, fu = g + 1 := ⟨fu - 1, by omega⟩
    have et : (V 0 3).toNat = t := by omega
    rw [et, t_MO_beat_L4, (hN M hF).1.1.2.2.2.1, if_pos (by omega), qguard_pos ha, qguard_pos ha]
    simp only [qlet]
    refine ⟨_, rfl, (hF.mono (V := BW at_) (fun k j hk => Or.inr hk)).setI (Or.inl ⟨rfl, rfl⟩), fun t' a b => ?_, ?_⟩
    · rcases hT t' a b with h | ⟨h, h4, h5, h6⟩
      · exact Or.inl h
      · exact Or.inr ⟨h, by rw [sI_ne (by omega)]; exact h4, by rw [sI_ne (by omega)]; exact h5, by rw [sI_ne (by omega)]; exact h6⟩
    · rw [sI_self, (hF 208 at_ (by unfold TW; omega)).1]
  | succ n ih =>
    intro t fu M g0 g1 hF hT
    obtain ⟨g, rfl⟩ : ∃ g, fu = g + 1 := ⟨fu - 1, by omega⟩
    have e44 : M.1 191 44 = M0.1 191 44 := (hF 191 44 (by unfold TW; omega)).1
    have e45 : M.1 191 45 = M0.1 191 45 := (hF 191 45 (by unfold TW; omega)).1
    have ih2 := ih (t + 1) g
    have hbn := btS_n (V := V) (f := f) (way := decide (M0.1 191 44 ≠ 1)) (A := A) (S := S) (L := L) t
    have hbr := btS_rng (V := V) (f := f) (way := decide (M0.1 191 44 ≠ 1)) (A := A) (S := S) (L := L) hf hA t (by omega) (t : Int) (by omega) (by omega)
    have hnn : ¬ (M0.1 191 44 = 4 ∧ M0.1 191 45 = (t : Int)) → 0 ≤ (btS V f (decide (M0.1 191 44 ≠ 1)) A S L t).1 (t : Int) := fun h => btS_nn (hA2 _ (by omega) (by omega) h) t
    rw [btS] at ih2
    generalize btS V f (decide (M0.1 191 44 ≠ 1)) A S L t = B at *
    have stay : (if B.1 (t : Int) < 0 then B else if f (B.1 (t : Int)) < 0 then B else if decide (M0.1 191 44 ≠ 1) = true ∧ fnd (fun a => B.1 (a : Int)) (f (B.1 (t : Int))) (V 0 3).toNat ≠ none then B else (upA B.1 (t : Int) (f (B.1 (t : Int))), upA B.2.1 (t : Int) (w32 (B.2.1 (t : Int) + 1)), upA B.2.2.1 (t : Int) (w32 (B.2.2.1 (t : Int) + lnV V (B.1 (t : Int)) (f (B.1 (t : Int))))), B.2.2.2 + 1)) = B →
        ∃ N, t_MO_beat_L138 at_ (fun a0_ a1_ a2_ => t_MO_beat_L4 at_ g a0_ a1_ a2_) M B.2.2.2 (t : Int) = some (N, (btS V f (decide (M0.1 191 44 ≠ 1)) A S L (V 0 3).toNat).2.2.2) ∧ Fr (BW at_) M0 N ∧ MTh N at_ V (M0.1 191 44) (M0.1 191 45) (btS V f (decide (M0.1 191 44 ≠ 1)) A S L (V 0 3).toNat).1 (btS V f (decide (M0.1 191 44 ≠ 1)) A S L (V 0 3).toNat).2.1 (btS V f (decide (M0.1 191 44 ≠ 1)) A S L (V 0 3).toNat).2.2.1 ∧ N.1 208 at_ = w32 (M0.1 208 at_ + 1) := by
      intro he
      rw [he] at ih2
      unfold t_MO_beat_L138
      rw [w32_succ (t := t) (by omega)]
      exact ih2 M (by omega) (by omega) hF hT
    rw [t_MO_beat_L4, (hN M hF).1.1.2.2.2.1, if_neg (by omega), e44, e45]
    have main : ¬ (M0.1 191 44 = 4 ∧ M0.1 191 45 = (t : Int)) → ∃ N, t_MO_beat_L34 at_ (fun a0_ a1_ a2_ => t_MO_beat_L4 at_ g a0_ a1_ a2_) M B.2.2.2 (t : Int) = some (N, (btS V f (decide (M0.1 191 44 ≠ 1)) A S L (V 0 3).toNat).2.2.2) ∧ Fr (BW at_) M0 N ∧ MTh N at_ V (M0.1 191 44) (M0.1 191 45) (btS V f (decide (M0.1 191 44 ≠ 1)) A S L (V 0 3).toNat).1 (btS V f (decide (M0.1 191 44 ≠ 1)) A S L (V 0 3).toNat).2.1 (btS V f (decide (M0.1 191 44 ≠ 1)) A S L (V 0 3).toNat).2.2.1 ∧ N.1 208 at_ = w32 (M0.1 208 at_ + 1) := by
      intro hs
      have h0 := hnn hs
      obtain ⟨-, r4, r5, r6⟩ : ¬ (M0.1 191 44 = 4 ∧ M0.1 191 45 = (t : Int)) ∧ _ := by
        rcases hT (t : Int) (by omega) (by omega) with h | h
        · exact absurd ⟨h.1, h.2.1⟩ hs
        · exact h
      unfold t_MO_beat_L34
      rw [w32_id (x := 8 * at_) (by unfold InR; omega), w32_id (x := 8 * at_ + (t : Int)) (by unfold InR; omega), qguard_pos ⟨by omega, by omega⟩, r4, (hN M hF).2 _ h0 hbr.2, obind_some]
      have hfr := hf _ h0 hbr.2
      by_cases ef : f (B.1 (t : Int)) < 0
      · rw [if_pos (by omega)]
        exact stay (by rw [if_neg (by omega), if_pos ef])
      rw [if_neg (by omega), e44]
      have e84 : ¬ (decide (M0.1 191 44 ≠ 1) = true ∧ fnd (fun a => B.1 (a : Int)) (f (B.1 (t : Int))) (V 0 3).toNat ≠ none) → ∃ N, t_MO_beat_L84 at_ (fun a0_ a1_ a2_ => t_MO_beat_L4 at_ g a0_ a1_ a2_) M B.2.2.2 (t : Int) (8 * at_ + (t : Int)) (f (B.1 (t : Int))) = some (N, (btS V f (decide (M0.1 191 44 ≠ 1)) A S L (V 0 3).toNat).2.2.2) ∧ Fr (BW at_) M0 N ∧ MTh N at_ V (M0.1 191 44) (M0.1 191 45) (btS V f (decide (M0.1 191 44 ≠ 1)) A S L (V 0 3).toNat).1 (btS V f (decide (M0.1 191 44 ≠ 1)) A S L (V 0 3).toNat).2.1 (btS V f (decide (M0.1 191 44 ≠ 1)) A S L (V 0 3).toNat).2.2.1 ∧ N.1 208 at_ = w32 (M0.1 208 at_ + 1) := by
        intro hw
        rw [if_neg (by omega), if_neg ef, if_neg hw] at ih2
        dsimp only at ih2
        unfold t_MO_beat_L84
        rw [qguard_pos ⟨by omega, by omega⟩, qguard_pos ⟨by omega, by omega⟩, r4, m_line (hN M hF).1 h0 (by omega) (by omega) (by omega), obind_some]
        have e113 : ∀ v9 : Int, v9 = lnV V (B.1 (t : Int)) (f (B.1 (t : Int))) → ∃ N, t_MO_beat_L113 at_ (fun a0_ a1_ a2_ => t_MO_beat_L4 at_ g a0_ a1_ a2_) M B.2.2.2 (t : Int) (8 * at_ + (t : Int)) (f (B.1 (t : Int))) (8 * at_ + (t : Int)) (M.1 215 (8 * at_ + (t : Int))) v9 = some (N, (btS V f (decide (M0.1 191 44 ≠ 1)) A S L (V 0 3).toNat).2.2.2) ∧ Fr (BW at_) M0 N ∧ MTh N at_ V (M0.1 191 44) (M0.1 191 45) (btS V f (decide (M0.1 191 44 ≠ 1)) A S L (V 0 3).toNat).1 (btS V f (decide (M0.1 191 44 ≠ 1)) A S L (V 0 3).toNat).2.1 (btS V f (decide (M0.1 191 44 ≠ 1)) A S L (V 0 3).toNat).2.2.1 ∧ N.1 208 at_ = w32 (M0.1 208 at_ + 1) := by
          intro v9 hv9
          unfold t_MO_beat_L113 t_MO_beat_L138
          simp only [qlet]
          rw [qguard_pos ⟨by omega, by omega⟩, qguard_pos ⟨by omega, by omega⟩, qguard_pos ⟨by omega, by omega⟩, qguard_pos ⟨by omega, by omega⟩, w32_succ (t := t) (by omega), w32_id (x := B.2.2.2 + 1) (by unfold InR; omega)]
          refine ih2 _ (by omega) (by omega) (((hF.setI (by unfold TW; omega)).setI (by unfold TW; omega)).setI (by unfold TW; omega)) (fun t' a b => ?_)
          by_cases e : t' = (t : Int)
          · subst e
            refine Or.inr ⟨hs, ?_, ?_, ?_⟩
            · rw [sI_self, upA_self]
            · rw [sI_ne (by omega), sI_self, upA_self, uI_ne _ _ (by omega), r5]
            · rw [sI_ne (by omega), sI_ne (by omega), sI_self, upA_self, r6, hv9]
          · rcases hT t' a b with h | ⟨h, h4, h5, h6⟩
            · exact Or.inl ⟨h.1, h.2.1, (upA_ne _ e).trans h.2.2⟩
            · refine Or.inr ⟨h, ?_, ?_, ?_⟩
              · rw [sI_ne (by omega), sI_ne (by omega), sI_ne (by omega), upA_ne _ e]; exact h4
              · rw [sI_ne (by omega), sI_ne (by omega), sI_ne (by omega), upA_ne _ e]; exact h5
              · rw [sI_ne (by omega), sI_ne (by omega), sI_ne (by omega), upA_ne _ e]; exact h6
        have hl := ln_rng V (B.1 (t : Int)) (f (B.1 (t : Int)))
        by_cases el : lnV V (B.1 (t : Int)) (f (B.1 (t : Int))) = 0
        · rw [if_pos el]; exact e113 0 el.symm
        · rw [if_neg el]; exact e113 1 (by omega)
      by_cases e1 : M0.1 191 44 = 1
      · rw [if_pos e1]
        exact e84 (fun q => absurd q.1 (by simp [e1]))
      · rw [if_neg e1, m_thingIn (A := B.1) (S := B.2.1) (L := B.2.2.1) ha hV (hN M hF).1 (by omega) (by rw [e44, e45]; exact hT), obind_some]
        cases en : fnd (fun a => B.1 (a : Int)) (f (B.1 (t : Int))) (V 0 3).toNat with
        | none => rw [if_pos (show fI none = -1 from rfl)]; exact e84 (fun q => q.2 en)
        | some a =>
          rw [if_neg (show ¬ fI (some a) = -1 by unfold fI; simp only []; omega)]
          exact stay (by rw [if_neg (by omega), if_neg ef, if_pos ⟨by simp [e1], by rw [en]; exact fun q => by cases q⟩])
    by_cases q4 : M0.1 191 44 = 4
    · rw [if_pos q4]
      by_cases q5 : M0.1 191 45 = (t : Int)
      · rw [if_pos q5]
        refine stay ?_
        rcases hT (t : Int) (by omega) (by omega) with h | h
        · rw [if_pos (by omega)]
        · exact absurd ⟨q4, q5⟩ h.1
      · rw [if_neg q5]; exact main (fun q => q5 q.2)
    · rw [if_neg q4]; exact main (fun q => q4 q.1)
theorem m_beat {M : Mem} {at_ C : Int} {V : TV} {f : Int → Int} {A S L : Int → Int} (ha : 0 ≤ at_ ∧ at_ < 23) (hV : VOK V) (hC : C ≤ 48) (hf : stepOK f C) (hA : ∀ t, 0 ≤ t → t < V 0 3 → -1 ≤ A t ∧ A t < C) (hA2 : ∀ t, 0 ≤ t → t < V 0 3 → ¬ (M.1 191 44 = 4 ∧ M.1 191 45 = t) → 0 ≤ A t)
    (hN : ∀ N, Fr (TW at_) M N → MT0 N V ∧ ∀ c, 0 ≤ c → c < C → t_MO_nextOf N at_ c = some (f c)) (hT : MTh M at_ V (M.1 191 44) (M.1 191 45) A S L) :
    ∃ N, t_MO_beat M at_ = some (N, (btS V f (decide (M.1 191 44 ≠ 1)) A S L (V 0 3).toNat).2.2.2) ∧ Fr (BW at_) M N ∧ MTh N at_ V (M.1 191 44) (M.1 191 45) (btS V f (decide (M.1 191 44 ≠ 1)) A S L (V 0 3).toNat).1 (btS V f (decide (M.1 191 44 ≠ 1)) A S L (V 0 3).toNat).2.1 (btS V f (decide (M.1 191 44 ≠ 1)) A S L (V 0 3).toNat).2.2.1 ∧ N.1 208 at_ = w32 (M.1 208 at_ + 1) :=
  m_beat_loop ha hV hC hf hA hA2 hN (V 0 3).toNat 0 FU M (by have := hV.1; omega) (fu_big (by have := hV.1; omega)) Fr.rf hT
end
section
/-! ===== what the reference keeps to ===== -/
/-- knots: 31 a number, 18..24 a name, else a sign (the class's codes) -/
def ksort (c : Int) : Int := if c = 31 then 0 else if 18 ≤ c ∧ c ≤ 24 then 1 else 2
def kval (c n : Int) : Int := if c = 31 then n else if 18 ≤ c ∧ c ≤ 24 then c - 18 else if c = 15 then 262 else if c = 16 then 261 else if c = 17 then 260 else if c = 43 then 43 else if c = 44 then 45 else if c = 45 then 42 else if c = 46 then 47 else if c = 47 then 60 else if c = 48 then 256 else if c = 49 then 61 else if c = 50 then 257 else if c = 51 then 258 else 62
abbrev ktwo (c : Int) : Prop := c = 15 ∨ c = 16 ∨ (43 ≤ c ∧ c ≤ 52)
def dpV (K : Int → Int) : Nat → Int
  | 0 => 0
  | n + 1 => dpV K n + (if K (n : Int) = 17 then 0 else if ktwo (K (n : Int)) then -1 else 1)
/-- a well made row of knots -/
def KOK (K : Int → Int) (n : Int) : Prop := 0 ≤ n ∧ n ≤ 64 ∧ (∀ i : Nat, (i : Int) < n → (K (i : Int) = 31 ∨ (18 ≤ K (i : Int) ∧ K (i : Int) ≤ 24)) ∨ (K (i : Int) = 17 ∧ 1 ≤ dpV K i) ∨ (ktwo (K (i : Int)) ∧ 2 ≤ dpV K i)) ∧ (0 < n → dpV K n.toNat = 1)
/-- the reference's picture of a law: s = 0 push, 1 joy -/
def MF1 (M : Mem) (s : Int) (K N : Int → Int) (n : Int) : Prop := 0 ≤ M.1 203 s ∧ M.1 204 s = M.1 203 s + n ∧ M.1 204 s ≤ 64 ∧ ∀ i, 0 ≤ i → i < n → M.1 205 (M.1 203 s + i) = ksort (K i) ∧ M.1 206 (M.1 203 s + i) = kval (K i) (N i)
def MF (M : Mem) (V : TV) : Prop := MF1 M 0 (V 10) (V 11) (V 0 11) ∧ MF1 M 1 (V 12) (V 13) (V 0 12)
def FOK (V : TV) : Prop := KOK (V 10) (V 0 11) ∧ KOK (V 12) (V 0 12) ∧ (V 0 9 = 0 ∨ V 0 9 = 1) ∧ (V 0 10 = 0 ∨ V 0 10 = 1) ∧ (V 0 9 = 1 ↔ 0 < V 0 11) ∧ (V 0 10 = 1 ↔ 0 < V 0 12)
def RowOK (M : Mem) (a : Int) (V : TV) : Prop := (∀ w, 0 ≤ w → w < V 0 2 → 0 ≤ M.1 212 (4 * a + w) ∧ M.1 212 (4 * a + w) ≤ 4) ∧ (∀ t, 0 ≤ t → t < V 0 3 → 0 ≤ M.1 213 (8 * a + t) ∧ M.1 213 (8 * a + t) < cellsV V) ∧ ∀ c, cellsV V ≤ c → c < 64 → tb (M.2 210 a) c = false ∧ tb (M.2 211 a) c = false
theorem RowOK.of {M N : Mem} {a b : Int} {V : TV} (hV : VOK V) (h : RowOK M b V) (e : RowEq N a M b) : RowOK N a V := by
  have h3 := hV.1
  obtain ⟨⟨-, -, -, e4, e5⟩, e6, e7⟩ := e
  refine ⟨fun w p q => ?_, fun t p q => ?_, fun c p q => ?_⟩
  · rw [e6 w p (by omega)]; exact h.1 w p q
  · rw [(e7 t p (by omega)).1]; exact h.2.1 t p q
  · rw [e4, e5]; exact h.2.2 c p q
def DN (M : Mem) (a : Int) : Int → Int := fun w => M.1 212 (4 * a + w)
def AT (M : Mem) (a : Int) : Int → Int := fun t => M.1 213 (8 * a + t)
def ST (M : Mem) (a : Int) : Int → Int := fun t => M.1 214 (8 * a + t)
def LN (M : Mem) (a : Int) : Int → Int := fun t => M.1 215 (8 * a + t)
theorem MSc.self (M : Mem) (a : Int) (V : TV) : MSc M a V (DN M a) (AT M a) (M.2 210 a) := ⟨fun _ _ _ => rfl, fun _ _ _ => rfl, rfl⟩
/-- the next cell by row a -/
def nxR (M : Mem) (a : Int) (V : TV) : Int → Int := nxV V (DN M a) (M.2 210 a) (wlV V)
def NotesOK (M : Mem) (V : TV) : Prop := 0 ≤ M.1 191 60 ∧ M.1 191 60 ≤ 24 ∧ -1 ≤ M.1 191 61 ∧ M.1 191 61 ≤ M.1 191 60 ∧ ∀ k, 0 ≤ k → k < M.1 191 60 → (M.1 228 k = 0 ∧ 0 ≤ M.1 226 k ∧ M.1 226 k < cellsV V ∧ V 8 (M.1 226 k) = 0 ∧ (M.1 227 k = -1 ∨ (0 ≤ M.1 227 k ∧ M.1 227 k < cellsV V))) ∨ (M.1 228 k = 1 ∧ 0 ≤ M.1 226 k ∧ M.1 226 k < k)
def LogOK (M : Mem) (a : Int) (V : TV) (yr : Int) : Prop := 0 ≤ yr ∧ yr ≤ 99
def RI (M : Mem) (V : TV) : Prop := (VOK V ∧ MT0 M V ∧ FOK V ∧ MF M V) ∧ M.1 191 44 = -1 ∧ (RowOK M 0 V ∧ 0 ≤ M.1 207 0 ∧ M.1 207 0 ≤ 99 ∧ 0 ≤ M.1 209 0 ∧ M.1 209 0 ≤ 2147483647) ∧ ((M.1 191 42 = 0 ∨ M.1 191 42 = 1) ∧ (M.1 191 42 = 1 → RowOK M 2 V ∧ 0 ≤ M.1 207 2 ∧ M.1 207 2 ≤ 99 ∧ 0 ≤ M.1 209 2 ∧ M.1 209 2 ≤ 2147483647)) ∧ (0 ≤ M.1 191 43 ∧ M.1 191 43 ≤ 20 ∧ ∀ k, 0 ≤ k → k < M.1 191 43 → RowOK M (3 + k) V ∧ M.1 207 (3 + k) = M.1 207 0 ∧ M.1 208 (3 + k) = M.1 208 0 ∧ M.1 209 (3 + k) = M.1 209 0) ∧ NotesOK M V
/-- the cells that it speaks of; row 1 is for tries -/
def RIc : Nat → Int → Prop := fun k j => (193 ≤ k ∧ k ≤ 206) ∨ ((207 ≤ k ∧ k ≤ 211) ∧ j ≠ 1) ∨ (k = 212 ∧ ¬ (4 ≤ j ∧ j < 8)) ∨ ((213 ≤ k ∧ k ≤ 215) ∧ ¬ (8 ≤ j ∧ j < 16)) ∨ (226 ≤ k ∧ k ≤ 228) ∨ (k = 191 ∧ (j = 42 ∨ j = 43 ∨ j = 44 ∨ j = 60 ∨ j = 61))
theorem CW_RIc {a : Int} (h : 0 ≤ a ∧ a ≠ 1) : ∀ k j, CW a k j → RIc k j := by
  intro k j hk
  unfold CW at hk
  unfold RIc
  omega
theorem MF1.fr {W : Nat → Int → Prop} {M N : Mem} {s n : Int} {K L : Int → Int} (hF : Fr W M N) (hd : ∀ (k : Nat) (j : Int), 203 ≤ k → k ≤ 206 → ¬ W k j) (h : MF1 M s K L n) : MF1 N s K L n := by
  obtain ⟨h1, h2, h3, h4⟩ := h
  have e3 : N.1 203 s = M.1 203 s := (hF _ _ (hd _ _ (by omega) (by omega))).1
  have e4 : N.1 204 s = M.1 204 s := (hF _ _ (hd _ _ (by omega) (by omega))).1
  refine ⟨by rw [e3]; exact h1, by rw [e3, e4]; exact h2, by rw [e4]; exact h3, fun i a b => ?_⟩
  rw [e3, (hF 205 _ (hd _ _ (by omega) (by omega))).1, (hF 206 _ (hd _ _ (by omega) (by omega))).1]
  exact h4 i a b
theorem NotesOK.fr {W : Nat → Int → Prop} {M N : Mem} {V : TV} (hF : Fr W M N) (hd : ∀ (k : Nat) (j : Int), ((226 ≤ k ∧ k ≤ 228) ∨ (k = 191 ∧ (j = 60 ∨ j = 61))) → ¬ W k j) (h : NotesOK M V) : NotesOK N V := by
  unfold NotesOK at *
  rw [(hF 191 60 (hd _ _ (by omega))).1, (hF 191 61 (hd _ _ (by omega))).1]
  refine ⟨h.1, h.2.1, h.2.2.1, h.2.2.2.1, fun k a b => ?_⟩
  rw [(hF 226 k (hd _ _ (by omega))).1, (hF 227 k (hd _ _ (by omega))).1, (hF 228 k (hd _ _ (by omega))).1]
  exact h.2.2.2.2 k a b
theorem RI.fr {W : Nat → Int → Prop} {M N : Mem} {V : TV} (hF : Fr W M N) (hd : ∀ k j, RIc k j → ¬ W k j) (h : RI M V) : RI N V := by
  obtain ⟨⟨a1, a2, a3, a4⟩, b, ⟨c1, c2⟩, ⟨d1, d2⟩, ⟨e1, e2, e3⟩, f⟩ := h
  have row : ∀ a : Int, 0 ≤ a → a ≠ 1 → RowEq N a M a := fun a x y => RowEq.fr hF (fun k j hk => hd k j (CW_RIc ⟨x, y⟩ k j hk))
  have q : ∀ j : Int, (j = 42 ∨ j = 43 ∨ j = 44) → N.1 191 j = M.1 191 j := fun j hj => (hF 191 j (hd _ _ (by unfold RIc; omega))).1
  have q0 := row 0 (by omega) (by omega)
  refine ⟨⟨a1, MT0.fr hF (fun k j x y => hd k j (by unfold RIc; omega)) a2, a3, MF1.fr hF (fun k j x y => hd k j (by unfold RIc; omega)) a4.1, MF1.fr hF (fun k j x y => hd k j (by unfold RIc; omega)) a4.2⟩, by rw [q 44 (by omega)]; exact b, ⟨c1.of a1 q0, by rw [q0.1.1, q0.1.2.2.1]; exact c2⟩, ⟨by rw [q 42 (by omega)]; exact d1, fun h => ?_⟩, ⟨by rw [q 43 (by omega)]; exact e1, by rw [q 43 (by omega)]; exact e2, fun k x y => ?_⟩, f.fr hF (fun k j x => hd k j (by unfold RIc; omega))⟩
  · have q2 := row 2 (by omega) (by omega)
    obtain ⟨r1, r2⟩ := d2 (by rw [← q 42 (by omega)]; exact h)
    exact ⟨r1.of a1 q2, by rw [q2.1.1, q2.1.2.2.1]; exact r2⟩
  · rw [q 43 (by omega)] at y
    have q3 := row (3 + k) (by omega) (by omega)
    obtain ⟨r1, r2, r3, r4⟩ := e3 k x y
    exact ⟨r1.of a1 q3, by rw [q3.1.1, q0.1.1]; exact r2, by rw [q3.1.2.1, q0.1.2.1]; exact r3, by rw [q3.1.2.2.1, q0.1.2.2.1]; exact r4⟩
end
section
/-! ===== the reference's questions by ways ===== -/
abbrev opV (V : TV) (c : Int) : Prop := 0 ≤ c ∧ c < cellsV V ∧ V 8 c = 0
theorem m_isOpen {M : Mem} {V : TV} (h : MT0 M V) (hV : VOK V) (c : Int) : (opV V c ∧ t_MO_isOpen M c = some 1) ∨ (¬ opV V c ∧ t_MO_isOpen M c = some 0) := by
  have hC := hV.cells
  unfold t_MO_isOpen opV
  simp only [qlet]
  rw [m_isCell h hV]
  by_cases h0 : 0 ≤ c ∧ c < cellsV V
  · have hw := (hV.2.2.2 c h0.1 (by omega)).2.2.1
    rw [if_pos h0, if_neg (show ¬ (1 : Int) = 0 by decide), qguard_pos ⟨h0.1, by omega⟩, (h.2.2.2 c h0.1 (by omega)).2.1]
    rcases hw with hw | hw
    · exact Or.inl ⟨⟨h0.1, h0.2, hw⟩, by rw [if_pos hw]⟩
    · exact Or.inr ⟨fun q => by omega, by rw [if_neg (by omega)]⟩
  · rw [if_neg h0, if_pos rfl]
    exact Or.inr ⟨fun q => h0 ⟨q.1, q.2.1⟩, rfl⟩
theorem nx_ok {V : TV} (hV : VOK V) (D : Int → Int) (nets : Int64) (wl : Int → Bool) : stepOK (nxV V D nets wl) (cellsV V) := fun _ h0 h1 => nx_rng hV D nets wl h0 h1
theorem nxR_fr {W : Nat → Int → Prop} {M N : Mem} {a : Int} {V : TV} (hF : Fr W M N) (hd : ∀ k j, (k = 210 ∨ k = 212) → ¬ W k j) : nxR N a V = nxR M a V := by
  have e1 : DN N a = DN M a := funext (fun w => (hF 212 _ (hd _ _ (by omega))).1)
  unfold nxR
  rw [e1, (hF 210 a (hd _ _ (by omega))).2]
theorem RI.next {M : Mem} {V : TV} (h : RI M V) {a c : Int} (ha : 0 ≤ a ∧ a < 23) (hr : RowOK M a V) (h0 : 0 ≤ c) (h1 : c < cellsV V) : t_MO_nextOf M a c = some (nxR M a V c) := m_next h.1.2.1 h.1.1 (MSc.self M a V) hr.1 h.2.1 ha h0 h1
theorem RI.goes {M : Mem} {V : TV} (h : RI M V) {a c : Int} (ha : 0 ≤ a ∧ a < 23) (hr : RowOK M a V) (h0 : 0 ≤ c) (h1 : c < cellsV V) : ∃ N, t_MO_goesFrom M a c = some N ∧ Fr W_MO_goesFrom M N ∧ GoR N V (nxR M a V) c (wayS (nxR M a V) c) := m_goes h.1.1 h.1.2.1 (MSc.self M a V) hr.1 h.2.1 ha h0 h1
theorem RI.goesOk {M : Mem} {V : TV} (h : RI M V) {a c : Int} (ha : 0 ≤ a ∧ a < 23) (hr : RowOK M a V) (h0 : 0 ≤ c) (h1 : c < cellsV V) : Ok (fun N => Fr W_MO_goesFrom M N ∧ GoR N V (nxR M a V) c (wayS (nxR M a V) c)) (t_MO_goesFrom M a c) := by
  obtain ⟨N, e1, e2, e3⟩ := h.goes ha hr h0 h1
  exact ⟨N, e1, e2, e3⟩
theorem RI.set0 {M : Mem} {V : TV} (h : RI M V) (v : Int) : RI (setI M 191 0 v) V := h.fr (W := fun k j => k = 191 ∧ j = 0) (Fr.rf.setI ⟨rfl, rfl⟩) (fun k j hk q => by unfold RIc at hk; omega)
theorem RI.row0 {M : Mem} {V : TV} (h : RI M V) : RowOK M 0 V := h.2.2.1.1
theorem RI.goesFr {M N : Mem} {V : TV} (h : RI M V) (hF : Fr W_MO_goesFrom M N) : RI N V := h.fr hF (fun k j hk q => by unfold RIc at hk; unfold W_MO_goesFrom at q; omega)
theorem ok_pos {α : Type} {P : α → Prop} {x : Option α} {r : α} (h : x = some r) (hp : P r) : Ok P x := ⟨r, h, hp⟩
theorem ri_rest {M : Mem} {V : TV} (h : RI M V) (x1 : Int) : Ok (fun r => RI r.1 V) (t_MO_rest M x1) := by
  unfold t_MO_rest
  refine ok_let (fun M1 e1 => ?_)
  have h1 : RI M1 V := by rw [e1]; exact h.set0 0
  rcases m_isOpen h1.1.2.1 h1.1.1 x1 with ⟨o, e⟩ | ⟨o, e⟩
  · rw [e, obind_some, if_neg (by decide)]
    refine ok_bind (h1.goesOk (by omega) h1.row0 o.1 o.2.1) (fun N hN => ?_)
    exact ok_ite (fun _ => ok_some (h1.goesFr hN.1)) (fun _ => ok_some (h1.goesFr hN.1))
  · rw [e, obind_some, if_pos rfl]; exact ok_some h1
theorem ri_falls {M : Mem} {V : TV} (h : RI M V) (x1 x2 : Int) : Ok (fun r => RI r.1 V) (t_MO_falls M x1 x2) := by
  unfold t_MO_falls
  refine ok_let (fun M1 e1 => ?_)
  have h1 : RI M1 V := by rw [e1]; exact h.set0 0
  rcases m_isOpen h1.1.2.1 h1.1.1 x1 with ⟨o, e⟩ | ⟨o, e⟩
  · rw [e, obind_some, if_neg (by decide)]
    refine ok_ite (fun _ => ok_some h1) (fun _ => ok_ite (fun _ => ?_) (fun _ => ok_some h1))
    refine ok_bind (h1.goesOk (by omega) h1.row0 o.1 o.2.1) (fun N hN => ?_)
    have h2 := h1.goesFr hN.1
    exact ok_ite (fun _ => ok_some h2) (fun _ => ok_ite (fun _ => ok_some h2) (fun _ => ok_ite (fun _ => ok_some h2) (fun _ => ok_some h2)))
  · rw [e, obind_some, if_pos rfl]; exact ok_some h1
theorem ri_war_loop {x1 x2 : Int} {V : TV} (hw : 0 ≤ x1 ∧ x1 < V 0 2) : ∀ (n fu : Nat) (M : Mem) (v3 v4 : Int), v4 + (n : Int) = cellsV V → 0 ≤ v4 → n < fu → RI M V → Ok (fun r => RI r.1 V) (t_MO_war_L33 x1 x2 fu M v3 v4) := by
  intro n
  induction n with
  | zero =>
    intro fu M v3 v4 g0 g1 g2 h
    obtain ⟨g, rfl⟩ : ∃ g, fu = g + 1 := ⟨fu - 1, by omega⟩
    rw [t_MO_war_L33]
    simp only [qlet]
    rw [m_cells h.1.2.1 h.1.1, if_pos (by omega)]
    exact ok_some h
  | succ n ih =>
    intro fu M v3 v4 g0 g1 g2 h
    obtain ⟨g, rfl⟩ : ∃ g, fu = g + 1 := ⟨fu - 1, by omega⟩
    have hC := h.1.1.cells
    rw [t_MO_war_L33]
    simp only [qlet]
    rw [m_cells h.1.2.1 h.1.1, if_neg (by omega), qguard_pos ⟨by omega, by omega⟩]
    have nx : ∀ (N : Mem) (v : Int), RI N V → Ok (fun r => RI r.1 V) (t_MO_war_L100 x1 x2 (fun a0_ a1_ a2_ => t_MO_war_L33 x1 x2 g a0_ a1_ a2_) N v v4) := by
      intro N v hN
      unfold t_MO_war_L100
      rw [w32_id (x := v4 + 1) (by unfold InR; omega)]
      exact ih g N v (v4 + 1) (by omega) (by omega) (by omega) hN
    refine ok_ite (fun _ => ?_) (fun _ => nx M v3 h)
    rw [qguard_pos ⟨by omega, by omega⟩]
    refine ok_ite (fun _ => ?_) (fun _ => nx M v3 h)
    refine ok_bind (h.goesOk (by omega) h.row0 g1 (by omega)) (fun N hN => ?_)
    have h2 := h.goesFr hN.1
    unfold t_MO_war_L97 t_MO_war_L98
    exact ok_ite (fun _ => nx N _ h2) (fun _ => ok_ite (fun _ => nx N _ h2) (fun _ => nx N _ h2))
theorem ri_war {M : Mem} {V : TV} (h : RI M V) (x1 x2 : Int) : Ok (fun r => RI r.1 V) (t_MO_war M x1 x2) := by
  unfold t_MO_war
  refine ok_let (fun M1 e1 => ?_)
  have h1 : RI M1 V := by rw [e1]; exact h.set0 0
  simp only [qlet]
  rw [m_isWard h1.1.2.1]
  by_cases c1 : 0 ≤ x1 ∧ x1 < V 0 2
  · rw [if_pos c1, if_neg (by decide)]
    refine ok_ite (fun _ => ok_some h1) (fun _ => ok_ite (fun _ => ok_some h1) (fun _ => ?_))
    have hC := h1.1.1.cells
    exact ri_war_loop c1 (cellsV V).toNat FU M1 0 0 (by omega) (by omega) (fu_big (by omega)) h1
  · rw [if_neg c1, if_pos rfl]; exact ok_some h1
theorem ri_nets_loop {V : TV} : ∀ (n fu : Nat) (M : Mem) (v1 : Int64) (v2 : Int), v2 + (n : Int) = cellsV V → 0 ≤ v2 → n < fu → RI M V → Ok (fun r => RI r.1 V) (t_MO_nets_L9 fu M v1 v2) := by
  intro n
  induction n with
  | zero =>
    intro fu M v1 v2 g0 g1 g2 h
    obtain ⟨g, rfl⟩ : ∃ g, fu = g + 1 := ⟨fu - 1, by omega⟩
    rw [t_MO_nets_L9]
    simp only [qlet]
    rw [m_cells h.1.2.1 h.1.1, if_pos (by omega)]
    exact ok_some h
  | succ n ih =>
    intro fu M v1 v2 g0 g1 g2 h
    obtain ⟨g, rfl⟩ : ∃ g, fu = g + 1 := ⟨fu - 1, by omega⟩
    have hC := h.1.1.cells
    rw [t_MO_nets_L9]
    simp only [qlet]
    rw [m_cells h.1.2.1 h.1.1, if_neg (by omega), qguard_pos ⟨by omega, by omega⟩]
    have nx : ∀ (v : Int64), Ok (fun r => RI r.1 V) (t_MO_nets_L59 (fun a0_ a1_ a2_ => t_MO_nets_L9 g a0_ a1_ a2_) M v v2) := by
      intro v
      unfold t_MO_nets_L59
      rw [w32_id (x := v2 + 1) (by unfold InR; omega)]
      exact ih g M v (v2 + 1) (by omega) (by omega) (by omega) h
    refine ok_ite (fun _ => ?_) (fun _ => nx v1)
    rw [h.next (by omega) h.row0 g1 (by omega), obind_some]
    have hr := nx_ok h.1.1 (DN M 0) (M.2 210 0) (wlV V) v2 g1 (by omega)
    unfold nxR
    refine ok_ite (fun _ => nx v1) (fun c => ?_)
    rw [m_line h.1.2.1 (by omega) (by omega) (by omega) (by omega), obind_some]
    exact ok_ite (fun _ => nx v1) (fun _ => nx _)
theorem ri_nets {M : Mem} {V : TV} (h : RI M V) : Ok (fun r => RI r.1 V) (t_MO_nets M) := by
  unfold t_MO_nets
  have hC := h.1.1.cells
  exact ok_let (fun M1 e1 => ri_nets_loop (cellsV V).toNat FU M1 0 0 (by omega) (by omega) (fu_big (by omega)) (by rw [e1]; exact h.set0 0))
end
section
/-! ===== quotients; the reference's way ===== -/
theorem bm32 {x : Int} (h : InR x) : x.bmod (2 ^ 32) = x := by
  unfold InR at h
  have : ((2 ^ 32 : Nat) : Int) = 4294967296 := by decide
  rw [Int.bmod_def, this]
  by_cases h0 : 0 ≤ x
  · rw [Int.emod_eq_of_lt h0 (by omega), if_pos (by omega)]
  · have e : x % 4294967296 = x + 4294967296 := by omega
    rw [e, if_neg (by omega)]; omega
theorem q_div_nn {x y : Int} (hx : InR x) (hy : InR y) (x0 : 0 ≤ x) (y0 : 0 < y) : q_div x y = x / y := by
  unfold q_div
  have h1 : 0 ≤ x / y := Int.ediv_nonneg x0 (by omega)
  have h2 : x / y ≤ x := Int.ediv_le_self y x0
  rw [Int32.toInt_div, q_toInt_of hx, q_toInt_of hy, Int.tdiv_eq_ediv_of_nonneg x0]
  exact bm32 (by unfold InR at *; omega)
theorem q_rem_nn {x y : Int} (hx : InR x) (hy : InR y) (x0 : 0 ≤ x) (y0 : 0 < y) : q_rem x y = x % y := by
  have hd := q_div_nn hx hy x0 y0
  unfold q_div at hd
  have h1 : 0 ≤ x / y := Int.ediv_nonneg x0 (by omega)
  have h2 : x / y ≤ x := Int.ediv_le_self y x0
  have h3 := Int.emod_nonneg x (b := y) (by omega)
  have h4 := Int.emod_lt_of_pos x y0
  have h5 : x / y * y = x - x % y := by have := Int.emod_add_mul_ediv x y; rw [Int.mul_comm]; omega
  unfold q_rem
  rw [Int32.toInt_sub, Int32.toInt_mul, hd, q_toInt_of hx, q_toInt_of hy, h5, bm32 (x := x - x % y) (by unfold InR at *; omega), bm32 (by unfold InR at *; omega)]
  omega
theorem m_way_loop {V : TV} {M : Mem} {x1 x2 c : Int} {f : Int → Int} (hN : ∀ d, 0 ≤ d → d < cellsV V → t_MO_nextOf M 0 d = some (f d)) {m : Nat} (hm : ∀ a, a ≤ m → 0 ≤ itr f c a ∧ itr f c a < cellsV V) (hm2 : m < 1000) : ∀ (n i fu : Nat), i + n = m → n < fu → t_MO_way_L68 x1 x2 fu M (m : Int) (itr f c i) (i : Int) = some (M, itr f c m) := by
  intro n
  induction n with
  | zero =>
    intro i fu g0 g1
    obtain ⟨g, rfl⟩ : ∃ g, fu = g + 1 := ⟨fu - 1, by omega⟩
    rw [t_MO_way_L68, if_pos (by omega)]
    have : i = m := by omega
    rw [this]
  | succ n ih =>
    intro i fu g0 g1
    obtain ⟨g, rfl⟩ : ∃ g, fu = g + 1 := ⟨fu - 1, by omega⟩
    have hb := hm i (by omega)
    rw [t_MO_way_L68, if_neg (by omega), hN _ hb.1 hb.2, obind_some, w32_succ (t := i) (by omega)]
    exact ih (i + 1) g (by omega) (by omega)
/-- the cell of a way by number -/
def wayAt (f : Int → Int) (c k : Int) : Int := if k ≤ wAhead (wayS f c) then itr f c k.toNat else if wRound (wayS f c) = 0 then -2 else itr f c (wAhead (wayS f c) + (k - wAhead (wayS f c)) % wRound (wayS f c)).toNat
theorem way_facts {f : Int → Int} {c N : Int} (hN : N ≤ 48) (hf : stepOK f N) (h0 : 0 ≤ c) (h1 : c < N) : 0 ≤ wAhead (wayS f c) ∧ 0 ≤ wRound (wayS f c) ∧ wAhead (wayS f c) ≤ ((wayS f c).1 : Int) ∧ wAhead (wayS f c) + wRound (wayS f c) ≤ ((wayS f c).1 : Int) + 1 ∧ (wayS f c).1 < 48 ∧ ∀ a, a ≤ (wayS f c).1 → 0 ≤ itr f c a ∧ itr f c a < N := by
  obtain ⟨s1, s2, s3⟩ := way_spec hN hf h0 h1
  have hlt := s1.lt
  generalize wayS f c = r at *
  have hp : ∀ a, a ≤ r.1 → 0 ≤ itr f c a ∧ itr f c a < N := fun a ha => ⟨(s1.1 a ha).1, s2 a ha⟩
  unfold wAhead wRound
  rcases s3 with ⟨e, -⟩ | ⟨a, e, ha, -⟩
  · rw [e]; simp only []; exact ⟨by omega, by omega, by omega, by omega, hlt, hp⟩
  · rw [e]; simp only []; exact ⟨by omega, by omega, by omega, by omega, hlt, hp⟩
theorem m_way {M : Mem} {V : TV} (h : RI M V) {x1 x2 : Int} (hx : InR x2) : ∃ N, t_MO_way M x1 x2 = some (N, if opV V x1 ∧ 0 ≤ x2 then wayAt (nxR M 0 V) x1 x2 else -1) ∧ RI N V := by
  unfold t_MO_way
  simp only [qlet]
  have h1 : RI (setI M 191 0 0) V := h.set0 0
  have hn : nxR (setI M 191 0 0) 0 V = nxR M 0 V := nxR_fr (W := fun k j => k = 191 ∧ j = 0) (Fr.rf.setI ⟨rfl, rfl⟩) (fun k j hk q => by omega)
  generalize setI M 191 0 0 = M1 at *
  rcases m_isOpen h1.1.2.1 h1.1.1 x1 with ⟨o, e⟩ | ⟨o, e⟩
  · rw [e, obind_some, if_neg (by decide)]
    by_cases hk : 0 ≤ x2
    · have hop : opV V x1 ∧ 0 ≤ x2 := ⟨o, hk⟩
      rw [if_pos hk, if_pos hop]
      obtain ⟨N, e1, e2, e3, e4, -⟩ := h1.goes (a := 0) (by omega) h1.row0 o.1 o.2.1
      have hN := h1.goesFr e2
      have hC := h.1.1.cells
      have hs := nx_ok h.1.1 (DN M 0) (M.2 210 0) (wlV V)
      have hnN : nxR N 0 V = nxR M 0 V := (nxR_fr e2 (fun k j hk q => by unfold W_MO_goesFrom at q; omega)).trans hn
      have hnx : ∀ d, 0 ≤ d → d < cellsV V → t_MO_nextOf N 0 d = some (nxR M 0 V d) := fun d a b => by rw [hN.next (by omega) hN.row0 a b, hnN]
      rw [hn] at e3 e4
      have hs2 : stepOK (nxR M 0 V) (cellsV V) := hs
      obtain ⟨w1, w2, w3, w4, w5, w6⟩ := way_facts hC.2 hs2 o.1 o.2.1
      rw [e1, obind_some, e3, e4]
      unfold wayAt
      have fin : ∀ v : Int, 0 ≤ v → v ≤ ((wayS (nxR M 0 V) x1).1 : Int) → t_MO_way_L62 x1 x2 N v = some (N, itr (nxR M 0 V) x1 v.toNat) := by
        intro v a b
        unfold t_MO_way_L62
        have := m_way_loop (x1 := x1) (x2 := x2) hnx (m := v.toNat) (fun q hq => w6 q (by omega)) (by omega) v.toNat 0 FU (by omega) (fu_big (by omega))
        rw [Int.toNat_of_nonneg a] at this
        exact this
      generalize wAhead (wayS (nxR M 0 V) x1) = wa at *
      generalize wRound (wayS (nxR M 0 V) x1) = wr at *
      by_cases c1 : x2 ≤ wa
      · rw [if_pos c1, if_pos c1]
        exact ⟨N, fin x2 hk (by omega), hN⟩
      · rw [if_neg c1, if_neg c1]
        by_cases c2 : wr = 0
        · rw [if_pos c2, if_pos c2]; exact ⟨N, rfl, hN⟩
        · have i1 : InR (x2 - wa) := by unfold InR at *; omega
          have i2 : InR wr := by unfold InR; omega
          have b1 := Int.emod_nonneg (x2 - wa) (b := wr) (by omega)
          have b2 := Int.emod_lt_of_pos (x2 - wa) (b := wr) (by omega)
          rw [if_neg c2, if_neg c2, if_neg c2, w32_id i1, q_rem_nn i1 i2 (by omega) (by omega), w32_id (by unfold InR; omega)]
          exact ⟨N, fin _ (by omega) (by omega), hN⟩
    · rw [if_neg hk, if_neg (fun q => hk q.2)]; exact ⟨M1, rfl, h1⟩
  · rw [e, obind_some, if_pos rfl, if_neg (fun q => o q.1)]; exact ⟨M1, rfl, h1⟩
theorem ri_way {M : Mem} {V : TV} (h : RI M V) {x1 x2 : Int} (hx : InR x2) : Ok (fun r => RI r.1 V) (t_MO_way M x1 x2) := by
  obtain ⟨N, e, hN⟩ := m_way h (x1 := x1) hx
  exact ⟨_, e, hN⟩
end
section
/-! ===== the reference's rows that can be brought back ===== -/
theorem RowEq.other {M N : Mem} {a b : Int} (hF : Fr (CW b) M N) (h : a ≠ b) : RowEq N a M a := RowEq.fr hF (fun k j h1 h2 => by unfold CW at h1 h2; omega)
/-- what keepNow writes -/
def KW : Nat → Int → Prop := fun k j => (k = 191 ∧ j = 43) ∨ ((207 ≤ k ∧ k ≤ 211) ∧ 3 ≤ j) ∨ (k = 212 ∧ 12 ≤ j) ∨ ((213 ≤ k ∧ k ≤ 215) ∧ 24 ≤ j)
theorem CW_KW {a : Int} (h : 3 ≤ a) : ∀ k j, CW a k j → KW k j := by
  intro k j hk; unfold CW at hk; unfold KW; omega
theorem m_keepNow_L45 {M0 M : Mem} {u : Int} (hu : 0 ≤ u ∧ u < 20) (hF : Fr KW M0 M) (e : M.1 191 43 = u) : ∃ N, t_MO_keepNow_L45 M = some N ∧ Fr KW M0 N ∧ Fr (fun k j => CW (3 + u) k j ∨ (k = 191 ∧ j = 43)) M N ∧ RowEq N (3 + u) M 0 ∧ N.1 191 43 = u + 1 := by
  unfold t_MO_keepNow_L45
  rw [e, w32_id (by unfold InR; omega)]
  obtain ⟨N, e1, e2, e3⟩ := m_copies (M := M) (x1 := 3 + u) (x2 := 0) (by omega) (by omega) (by omega)
  rw [e1, obind_some]
  simp only [qlet]
  have e4 : N.1 191 43 = u := by rw [(e2 191 43 (by unfold CW; omega)).1]; exact e
  rw [e4, w32_id (by unfold InR; omega)]
  refine ⟨_, rfl, (hF.trans (e2.mono (CW_KW (by omega)))).setI (Or.inl ⟨rfl, rfl⟩), (e2.mono (fun k j h => Or.inl h)).setI (Or.inr ⟨rfl, rfl⟩), ?_, sI_self _ _ _ _⟩
  exact (RowEq.fr (W := fun k j => k = 191 ∧ j = 43) (M := N) (Fr.rf.setI ⟨rfl, rfl⟩) (fun k j h q => by unfold CW at h; omega)).trans e3
theorem m_keepNow_L11 {M0 : Mem} (h20 : M0.1 191 43 = 20) : ∀ (n fu : Nat) (M : Mem) (v : Int), v + (n : Int) = 20 → 1 ≤ v → n < fu → Fr (fun k j => KW k j ∧ ¬ (k = 191 ∧ j = 43)) M0 M → (∀ k, 0 ≤ k → k < v - 1 → RowEq M (3 + k) M0 (4 + k)) → (∀ k, v - 1 ≤ k → k < 20 → RowEq M (3 + k) M0 (3 + k)) →
    ∃ N, t_MO_keepNow_L11 fu M v = some N ∧ Fr KW M0 N ∧ (∀ k, 0 ≤ k → k < 19 → RowEq N (3 + k) M0 (4 + k)) ∧ RowEq N 22 M0 0 ∧ N.1 191 43 = 20 := by
  intro n
  induction n with
  | zero =>
    intro fu M v g0 g1 g2 hF ha hb
    obtain ⟨g, rfl⟩ : ∃ g, fu = g + 1 := ⟨fu - 1, by omega⟩
    have hv : v = 20 := by omega
    have e43 : M.1 191 43 = 20 := by rw [(hF 191 43 (by omega)).1]; exact h20
    rw [t_MO_keepNow_L11, if_pos (by omega), e43, w32_id (by unfold InR; omega)]
    simp only [qlet]
    have hF1 : Fr KW M0 (setI M 191 43 (20 - 1)) := (hF.mono (fun k j h => h.1)).setI (Or.inl ⟨rfl, rfl⟩)
    have hs : ∀ a : Int, RowEq (setI M 191 43 (20 - 1)) a M a := fun a => RowEq.fr (W := fun k j => k = 191 ∧ j = 43) (Fr.rf.setI ⟨rfl, rfl⟩) (fun k j h q => by unfold CW at h; omega)
    obtain ⟨N, e1, e2, e3, e4, e5⟩ := m_keepNow_L45 (u := 19) (by omega) hF1 (by rw [sI_self]; rfl)
    have hr : ∀ a : Int, a ≠ 22 → RowEq N a (setI M 191 43 (20 - 1)) a := fun a h => RowEq.fr e3 (fun k j h1 h2 => by unfold CW at h1 h2; omega)
    refine ⟨N, e1, e2, fun k a b => ((hr _ (by omega)).trans (hs _)).trans (ha k a (by omega)), ?_, by rw [e5]; rfl⟩
    refine (e4.trans (hs 0)).trans ?_
    exact RowEq.fr hF (fun k j h1 h2 => by unfold CW at h1; unfold KW at h2; omega)
  | succ n ih =>
    intro fu M v g0 g1 g2 hF ha hb
    obtain ⟨g, rfl⟩ : ∃ g, fu = g + 1 := ⟨fu - 1, by omega⟩
    rw [t_MO_keepNow_L11, if_neg (by omega), w32_id (x := 3 + v) (by unfold InR; omega), w32_id (x := 3 + v - 1) (by unfold InR; omega), w32_id (x := v + 1) (by unfold InR; omega)]
    obtain ⟨N, e1, e2, e3⟩ := m_copies (M := M) (x1 := 3 + v - 1) (x2 := 3 + v) (by omega) (by omega) (by omega)
    rw [e1, obind_some]
    refine ih g N (v + 1) (by omega) (by omega) (by omega) (hF.trans (e2.mono (fun k j h => ⟨CW_KW (by omega) k j h, fun q => by unfold CW at h; omega⟩))) (fun k a b => ?_) (fun k a b => ?_)
    · by_cases e : k = v - 1
      · subst e
        have r := hb v (by omega) (by omega)
        rw [show 3 + (v - 1) = 3 + v - 1 by omega, show 4 + (v - 1) = 3 + v by omega]
        exact e3.trans r
      · exact (RowEq.other e2 (by omega)).trans (ha k a (by omega))
    · exact (RowEq.other e2 (by omega)).trans (hb k (by omega) b)
theorem m_keepNow_less {M : Mem} {u : Int} (hu : 0 ≤ u ∧ u < 20) (e : M.1 191 43 = u) : ∃ N, t_MO_keepNow M = some N ∧ Fr KW M N ∧ Fr (fun k j => CW (3 + u) k j ∨ (k = 191 ∧ j = 43)) M N ∧ RowEq N (3 + u) M 0 ∧ N.1 191 43 = u + 1 := by
  unfold t_MO_keepNow
  rw [if_neg (by omega)]
  exact m_keepNow_L45 hu Fr.rf e
theorem m_keepNow_full {M : Mem} (e : M.1 191 43 = 20) : ∃ N, t_MO_keepNow M = some N ∧ Fr KW M N ∧ (∀ k, 0 ≤ k → k < 19 → RowEq N (3 + k) M (4 + k)) ∧ RowEq N 22 M 0 ∧ N.1 191 43 = 20 := by
  unfold t_MO_keepNow
  rw [if_pos e]
  exact m_keepNow_L11 e 19 FU M 1 (by omega) (by omega) (fu_big (by omega)) Fr.rf (fun k a b => by omega) (fun k a b => RowEq.rf)
/-- RI through writes to the rows that can be brought back -/
theorem RI.keep {M N : Mem} {V : TV} (h : RI M V) (hF : Fr KW M N) (h0 : 0 ≤ N.1 191 43 ∧ N.1 191 43 ≤ 20) (hr : ∀ k, 0 ≤ k → k < N.1 191 43 → ∃ b, RowEq N (3 + k) M b ∧ (b = 0 ∨ ∃ i, b = 3 + i ∧ 0 ≤ i ∧ i < M.1 191 43)) : RI N V := by
  obtain ⟨⟨a1, a2, a3, a4⟩, b, ⟨c1, c2⟩, ⟨d1, d2⟩, ⟨e1, e2, e3⟩, f⟩ := h
  have row : ∀ a : Int, 0 ≤ a → a < 3 → RowEq N a M a := fun a x y => RowEq.fr hF (fun k j hk q => by unfold CW at hk; unfold KW at q; omega)
  have q : ∀ j : Int, (j = 42 ∨ j = 44) → N.1 191 j = M.1 191 j := fun j hj => (hF 191 j (by unfold KW; omega)).1
  have q0 := row 0 (by omega) (by omega)
  refine ⟨⟨a1, MT0.fr hF (fun k j x y => by unfold KW; omega) a2, a3, MF1.fr hF (fun k j x y => by unfold KW; omega) a4.1, MF1.fr hF (fun k j x y => by unfold KW; omega) a4.2⟩, by rw [q 44 (by omega)]; exact b, ⟨c1.of a1 q0, by rw [q0.1.1, q0.1.2.2.1]; exact c2⟩, ⟨by rw [q 42 (by omega)]; exact d1, fun h => ?_⟩, ⟨h0.1, h0.2, fun k x y => ?_⟩, f.fr hF (fun k j x => by unfold KW; omega)⟩
  · have q2 := row 2 (by omega) (by omega)
    obtain ⟨r1, r2⟩ := d2 (by rw [← q 42 (by omega)]; exact h)
    exact ⟨r1.of a1 q2, by rw [q2.1.1, q2.1.2.2.1]; exact r2⟩
  · obtain ⟨bb, r, hb⟩ := hr k x y
    have hq : RowOK M bb V ∧ M.1 207 bb = M.1 207 0 ∧ M.1 208 bb = M.1 208 0 ∧ M.1 209 bb = M.1 209 0 := by
      rcases hb with rfl | ⟨i, rfl, i0, i1⟩
      · exact ⟨c1, rfl, rfl, rfl⟩
      · exact e3 i i0 i1
    exact ⟨hq.1.of a1 r, by rw [r.1.1, q0.1.1]; exact hq.2.1, by rw [r.1.2.1, q0.1.2.1]; exact hq.2.2.1, by rw [r.1.2.2.1, q0.1.2.2.1]; exact hq.2.2.2⟩
theorem ri_keepNow {M : Mem} {V : TV} (h : RI M V) : Ok (fun N => RI N V ∧ Fr KW M N) (t_MO_keepNow M) := by
  have hu := h.2.2.2.2.1
  by_cases c : M.1 191 43 = 20
  · obtain ⟨N, e1, e2, e3, e4, e5⟩ := m_keepNow_full c
    refine ⟨N, e1, h.keep e2 (by omega) (fun k a b => ?_), e2⟩
    by_cases q : k = 19
    · subst q; exact ⟨0, e4, Or.inl rfl⟩
    · exact ⟨4 + k, e3 k a (by omega), Or.inr ⟨1 + k, by omega, by omega, by omega⟩⟩
  · obtain ⟨N, e1, e2, e3, e4, e5⟩ := m_keepNow_less (M := M) (u := M.1 191 43) (by omega) rfl
    refine ⟨N, e1, h.keep e2 (by omega) (fun k a b => ?_), e2⟩
    by_cases q : k = M.1 191 43
    · rw [q]; exact ⟨0, e4, Or.inl rfl⟩
    · exact ⟨3 + k, RowEq.fr e3 (fun k' j h1 h2 => by unfold CW at h1 h2; omega), Or.inr ⟨k, by omega, by omega, by omega⟩⟩
end
section
/-! ===== the reference's moves ===== -/
theorem RI.now {W : Nat → Int → Prop} {M N : Mem} {V : TV} (h : RI M V) (hF : Fr W M N) (hd : ∀ k j, RIc k j → W k j → CW 0 k j ∨ (k = 191 ∧ j = 43)) (hr : RowOK N 0 V) (hy : 0 ≤ N.1 207 0 ∧ N.1 207 0 ≤ 99) (hs : 0 ≤ N.1 209 0 ∧ N.1 209 0 ≤ 2147483647) (hu : 0 ≤ N.1 191 43 ∧ N.1 191 43 ≤ M.1 191 43) (hq : 0 < N.1 191 43 → N.1 207 0 = M.1 207 0 ∧ N.1 208 0 = M.1 208 0 ∧ N.1 209 0 = M.1 209 0) : RI N V := by
  obtain ⟨⟨a1, a2, a3, a4⟩, b, ⟨c1, c2⟩, ⟨d1, d2⟩, ⟨e1, e2, e3⟩, f⟩ := h
  have row : ∀ a : Int, 2 ≤ a → RowEq N a M a := fun a x => RowEq.fr hF (fun k j hk q => by
    rcases hd k j (CW_RIc (by omega) k j hk) q with q | q
    · unfold CW at hk q; omega
    · unfold CW at hk; omega)
  have nn : ∀ k j, RIc k j → ¬ CW 0 k j → ¬ (k = 191 ∧ j = 43) → ¬ W k j := fun k j x y z q => (hd k j x q).elim y z
  have q : ∀ j : Int, (j = 42 ∨ j = 44) → N.1 191 j = M.1 191 j := fun j hj => (hF 191 j (nn _ _ (by unfold RIc; omega) (by unfold CW; omega) (by omega))).1
  refine ⟨⟨a1, MT0.fr hF (fun k j x y => nn _ _ (by unfold RIc; omega) (by unfold CW; omega) (by omega)) a2, a3, MF1.fr hF (fun k j x y => nn _ _ (by unfold RIc; omega) (by unfold CW; omega) (by omega)) a4.1, MF1.fr hF (fun k j x y => nn _ _ (by unfold RIc; omega) (by unfold CW; omega) (by omega)) a4.2⟩, by rw [q 44 (by omega)]; exact b, ⟨hr, hy.1, hy.2, hs.1, hs.2⟩, ⟨by rw [q 42 (by omega)]; exact d1, fun h => ?_⟩, ⟨hu.1, by omega, fun k x y => ?_⟩, f.fr hF (fun k j x => nn _ _ (by unfold RIc; omega) (by unfold CW; omega) (by omega))⟩
  · have q2 := row 2 (by omega)
    obtain ⟨r1, r2⟩ := d2 (by rw [← q 42 (by omega)]; exact h)
    exact ⟨r1.of a1 q2, by rw [q2.1.1, q2.1.2.2.1]; exact r2⟩
  · have q3 := row (3 + k) (by omega)
    obtain ⟨r1, r2, r3, r4⟩ := e3 k x (by omega)
    obtain ⟨s1, s2, s3⟩ := hq (by omega)
    exact ⟨r1.of a1 q3, by rw [q3.1.1, s1]; exact r2, by rw [q3.1.2.1, s2]; exact r3, by rw [q3.1.2.2.1, s3]; exact r4⟩
/-- what a step needs -/
def NB (M : Mem) (a : Int) (V : TV) : Prop := VOK V ∧ MT0 M V ∧ M.1 191 44 = -1 ∧ ∀ w, 0 ≤ w → w < V 0 2 → 0 ≤ M.1 212 (4 * a + w) ∧ M.1 212 (4 * a + w) ≤ 4
theorem RI.nb {M : Mem} {V : TV} (h : RI M V) {a : Int} (hr : RowOK M a V) : NB M a V := ⟨h.1.1, h.1.2.1, h.2.1, hr.1⟩
theorem NB.fr {W : Nat → Int → Prop} {M N : Mem} {a : Int} {V : TV} (h : NB M a V) (hF : Fr W M N) (hd : ∀ k j, ((193 ≤ k ∧ k ≤ 202) ∨ k = 212 ∨ (k = 191 ∧ j = 44)) → ¬ W k j) : NB N a V :=
  ⟨h.1, h.2.1.fr hF (fun k j x y => hd k j (by omega)), by rw [(hF 191 44 (hd _ _ (by omega))).1]; exact h.2.2.1, fun w x y => by rw [(hF 212 _ (hd _ _ (by omega))).1]; exact h.2.2.2 w x y⟩
theorem NB.next {M : Mem} {a : Int} {V : TV} (h : NB M a V) (ha : 0 ≤ a ∧ a < 23) {c : Int} (h0 : 0 ≤ c) (h1 : c < cellsV V) : t_MO_nextOf M a c = some (nxR M a V c) := m_next h.2.1 h.1 (MSc.self M a V) h.2.2.2 h.2.2.1 ha h0 h1
theorem NB.floods {M : Mem} {a : Int} {V : TV} (h : NB M a V) (ha : 0 ≤ a ∧ a < 23) : ∃ N, t_MO_floods M a = some N ∧ N.2 211 a = flS (nxR M a V) (M.2 211 a) (cellsV V).toNat ∧ Fr (fun k j => k = 211 ∧ j = a) M N := by
  have hC := h.1.cells
  refine m_floods ha ⟨by omega, hC.2⟩ (nx_ok h.1 _ _ _) (fun N hF => ?_)
  have hN := h.fr hF (fun k j x q => by omega)
  have e : nxR N a V = nxR M a V := nxR_fr hF (fun k j x q => by omega)
  exact ⟨m_cells hN.2.1 h.1, fun c x y => by rw [hN.next ha x y, e]⟩
theorem NB.pours {M : Mem} {a x2 : Int} {V : TV} (h : NB M a V) (ha : 0 ≤ a ∧ a < 23) (c0 : 0 ≤ x2) (c1 : x2 < cellsV V) : ∃ N, t_MO_pours M a x2 = some (N, (prS (nxR M a V) 49 (M.2 211 a) x2).2) ∧ N.2 211 a = (prS (nxR M a V) 49 (M.2 211 a) x2).1 ∧ Fr (fun k j => k = 211 ∧ j = a) M N :=
  m_pours ha h.1.cells.2 (nx_ok h.1 _ _ _) (fun c x y => h.next ha x y) c0 c1
theorem prS_bits {f : Int → Int} {C i : Int} (hf : stepOK f C) (hC : C ≤ 48) (hi : C ≤ i ∧ i < 64) (c9 : 0 ≤ C) : ∀ (n : Nat) (w : Int64) (c : Int), 0 ≤ c → c < C → tb w i = false → tb (prS f n w c).1 i = false := by
  intro n
  induction n with
  | zero => intro w c _ _ h; exact h
  | succ n ih =>
    intro w c h0 h1 h
    have hs := hf c h0 h1
    rw [prS]
    by_cases e : f c < 0 ∨ tb w (f c) = true
    · rw [if_pos e]
      by_cases e2 : tb w c = true
      · rw [if_pos e2]; exact h
      · rw [if_neg e2]
        show tb (w ||| q_lshl 1 c) i = false
        rw [tb_or w h0 (by omega) (by omega) hi.2, h]
        simp; omega
    · rw [if_neg e]
      exact ih w (f c) (by omega) (by omega) h
theorem flS_bits {f : Int → Int} {C i : Int} {was : Int64} (hf : stepOK f C) (hC : C ≤ 48) (hi : C ≤ i ∧ i < 64) (c9 : 0 ≤ C) : ∀ (n : Nat), (n : Int) ≤ C → tb (flS f was n) i = false := by
  intro n
  induction n with
  | zero => intro _; exact tb_zero i
  | succ n ih =>
    intro hn
    rw [flS]
    split
    · exact prS_bits hf hC hi c9 49 _ _ (by omega) (by omega) (ih (by omega))
    · exact ih (by omega)
theorem ri_vote {M : Mem} {V : TV} (h : RI M V) (x1 x2 : Int) : Ok (fun r => RI r.1 V) (t_MO_vote M x1 x2) := by
  unfold t_MO_vote
  refine ok_let (fun M1 e1 => ?_)
  have h1 : RI M1 V := by rw [e1]; exact h.set0 0
  simp only [qlet]
  rw [m_isWard h1.1.2.1]
  by_cases c1 : 0 ≤ x1 ∧ x1 < V 0 2
  · have hv := h.1.1.1
    have hC := h.1.1.cells
    rw [if_pos c1, if_neg (by decide)]
    by_cases c2 : 0 ≤ x2 ∧ x2 ≤ 4
    · have ed : t_MO_isDown M1 x2 = 1 := by unfold t_MO_isDown; rw [if_neg (by omega), if_neg (by omega)]
      rw [ed, if_neg (by decide), qguard_pos ⟨c1.1, by omega⟩]
      refine ok_ite (fun _ => ok_some h1) (fun _ => ?_)
      refine ok_bind (ri_keepNow h1) (fun N hN => ?_)
      rw [qguard_pos ⟨c1.1, by omega⟩]
      have hr0 := hN.1.row0
      have hs : RowOK (setI N 212 x1 x2) 0 V := by
        refine ⟨fun w a b => ?_, fun t a b => ?_, hr0.2.2⟩
        · by_cases e : 4 * 0 + w = x1
          · rw [e, sI_self]; exact c2
          · rw [sI_ne (by omega)]; exact hr0.1 w a b
        · rw [sI_ne (by omega)]; exact hr0.2.1 t a b
      have hy := hN.1.2.2.1.2
      have h3 : RI (setI N 212 x1 x2) V := by
        refine hN.1.now (W := fun k j => k = 212 ∧ j = x1) (Fr.rf.setI ⟨rfl, rfl⟩) (fun k j _ q => Or.inl (by unfold CW; omega)) hs ?_ ?_ ?_ (fun _ => ?_)
        · rw [sI_ne (by omega)]; exact ⟨hy.1, hy.2.1⟩
        · rw [sI_ne (by omega)]; exact ⟨hy.2.2.1, hy.2.2.2⟩
        · rw [sI_ne (by omega)]; exact ⟨hN.1.2.2.2.2.1.1, Int.le_refl _⟩
        · rw [sI_ne (by omega), sI_ne (by omega), sI_ne (by omega)]; exact ⟨rfl, rfl, rfl⟩
      generalize setI N 212 x1 x2 = M14 at *
      obtain ⟨O, e1, e2, e3⟩ := (h3.nb h3.row0).floods (by omega)
      rw [e1, obind_some]
      refine ok_some ?_
      have hy3 := h3.2.2.1.2
      have hr3 := h3.row0
      refine h3.now e3 (fun k j _ q => Or.inl (by unfold CW; omega)) ⟨fun w a b => ?_, fun t a b => ?_, fun c a b => ⟨?_, ?_⟩⟩ ?_ ?_ ?_ (fun _ => ?_)
      · rw [(e3 212 _ (by omega)).1]; exact hr3.1 w a b
      · rw [(e3 213 _ (by omega)).1]; exact hr3.2.1 t a b
      · rw [(e3 210 _ (by omega)).2]; exact (hr3.2.2 c a b).1
      · rw [e2]; exact flS_bits (nx_ok h.1.1 _ _ _) hC.2 ⟨a, b⟩ (by omega) _ (by omega)
      · rw [(e3 207 _ (by omega)).1]; exact ⟨hy3.1, hy3.2.1⟩
      · rw [(e3 209 _ (by omega)).1]; exact ⟨hy3.2.2.1, hy3.2.2.2⟩
      · rw [(e3 191 _ (by omega)).1]; exact ⟨h3.2.2.2.2.1.1, Int.le_refl _⟩
      · rw [(e3 207 _ (by omega)).1, (e3 208 _ (by omega)).1, (e3 209 _ (by omega)).1]; exact ⟨rfl, rfl, rfl⟩
    · have ed : t_MO_isDown M1 x2 = 0 := by
        unfold t_MO_isDown
        by_cases q : x2 < 0
        · rw [if_pos q]
        · rw [if_neg q, if_pos (by omega)]
      rw [ed, if_pos rfl]; exact ok_some h1
  · rw [if_neg c1, if_pos rfl]; exact ok_some h1
end
section
/-! ===== net, lay, pour, drain, flood, beats ===== -/
/-- writes to row 0 that leave year, beats, draws and what can be brought back -/
theorem RI.now0 {W : Nat → Int → Prop} {M N : Mem} {V : TV} (h : RI M V) (hF : Fr W M N) (hd : ∀ k j, RIc k j → W k j → (k = 210 ∨ k = 211) ∧ j = 0 ∨ (k = 212 ∧ 0 ≤ j ∧ j < 4) ∨ ((k = 213 ∨ k = 214 ∨ k = 215) ∧ 0 ≤ j ∧ j < 8)) (hr : RowOK N 0 V) : RI N V := by
  have nn : ∀ k j, (k = 207 ∨ k = 208 ∨ k = 209) ∧ j = 0 ∨ (k = 191 ∧ j = 43) → ¬ W k j := fun k j x q => by
    have := hd k j (by unfold RIc; omega) q
    omega
  have hy := h.2.2.1.2
  refine h.now hF (fun k j a b => Or.inl ?_) hr ?_ ?_ ?_ (fun _ => ?_)
  · have := hd k j a b
    unfold CW; omega
  · rw [(hF 207 _ (nn _ _ (by omega))).1]; exact ⟨hy.1, hy.2.1⟩
  · rw [(hF 209 _ (nn _ _ (by omega))).1]; exact ⟨hy.2.2.1, hy.2.2.2⟩
  · rw [(hF 191 _ (nn _ _ (by omega))).1]; exact ⟨h.2.2.2.2.1.1, Int.le_refl _⟩
  · rw [(hF 207 _ (nn _ _ (by omega))).1, (hF 208 _ (nn _ _ (by omega))).1, (hF 209 _ (nn _ _ (by omega))).1]; exact ⟨rfl, rfl, rfl⟩
theorem ri_net {M : Mem} {V : TV} (h : RI M V) (x1 x2 : Int) : Ok (fun r => RI r.1 V) (t_MO_net M x1 x2) := by
  unfold t_MO_net
  refine ok_let (fun M1 e1 => ?_)
  have h1 : RI M1 V := by rw [e1]; exact h.set0 0
  have hC := h.1.1.cells
  rcases m_isOpen h1.1.2.1 h1.1.1 x1 with ⟨o, e⟩ | ⟨o, e⟩
  · rw [e, obind_some, if_neg (by decide)]
    have main : ∀ v3 : Int, Ok (fun r => RI r.1 V) (t_MO_net_L33 x1 x2 M1 v3) := by
      intro v3
      unfold t_MO_net_L33
      refine ok_ite (fun _ => ok_some h1) (fun _ => ?_)
      refine ok_bind (ri_keepNow h1) (fun N hN => ?_)
      refine ok_let (fun M9 e9 => ok_some ?_)
      have hr := hN.1.row0
      rw [e9]
      refine hN.1.now0 (W := fun k j => k = 210 ∧ j = 0) (Fr.rf.setL ⟨rfl, rfl⟩) (fun k j _ q => by omega) ⟨hr.1, hr.2.1, fun c a b => ⟨?_, ?_⟩⟩
      · rw [sL_self, tb_xor _ o.1 (by omega) (by omega) b, (hr.2.2 c a b).1]
        simp; omega
      · rw [sL_ne (by omega)]; exact (hr.2.2 c a b).2
    exact ok_ite (fun _ => main 1) (fun _ => main 0)
  · rw [e, obind_some, if_pos rfl]; exact ok_some h1
theorem RI.th {M : Mem} {V : TV} (h : RI M V) (a : Int) : MTh M a V (M.1 191 44) (M.1 191 45) (AT M a) (ST M a) (LN M a) := fun t _ _ => Or.inr ⟨fun q => by have := h.2.1; omega, rfl, rfl, rfl⟩
theorem ri_lay {M : Mem} {V : TV} (h : RI M V) (x1 x2 : Int) : Ok (fun r => RI r.1 V) (t_MO_lay M x1 x2) := by
  unfold t_MO_lay
  refine ok_let (fun M1 e1 => ?_)
  have h1 : RI M1 V := by rw [e1]; exact h.set0 0
  have hv := h.1.1.1
  simp only [qlet]
  rw [m_isThing h1.1.2.1]
  by_cases c1 : 0 ≤ x1 ∧ x1 < V 0 3
  · rw [if_pos c1, if_neg (by decide)]
    rcases m_isOpen h1.1.2.1 h1.1.1 x2 with ⟨o, e⟩ | ⟨o, e⟩
    · rw [e, obind_some, if_neg (by decide), m_thingIn (by omega) h1.1.1 h1.1.2.1 o.1 (h1.th 0), obind_some]
      refine ok_ite (fun _ => ?_) (fun _ => ok_some h1)
      refine ok_bind (ri_keepNow h1) (fun N hN => ?_)
      rw [qguard_pos ⟨c1.1, by omega⟩]
      refine ok_some ?_
      have hr := hN.1.row0
      refine hN.1.now0 (W := fun k j => k = 213 ∧ j = x1) (Fr.rf.setI ⟨rfl, rfl⟩) (fun k j _ q => by omega) ⟨fun w a b => ?_, fun t a b => ?_, hr.2.2⟩
      · rw [sI_ne (by omega)]; exact hr.1 w a b
      · by_cases e : 8 * 0 + t = x1
        · rw [e, sI_self]; exact ⟨o.1, o.2.1⟩
        · rw [sI_ne (by omega)]; exact hr.2.1 t a b
    · rw [e, obind_some, if_pos rfl]; exact ok_some h1
  · rw [if_neg c1, if_pos rfl]; exact ok_some h1
theorem RI.cp1 {M : Mem} {V : TV} (h : RI M V) : Ok (fun N => RI N V ∧ RowOK N 1 V ∧ RowEq N 1 M 0 ∧ Fr (CW 1) M N) (t_MO_copies M 1 0) := by
  obtain ⟨N, e1, e2, e3⟩ := m_copies (M := M) (x1 := 1) (x2 := 0) (by omega) (by omega) (by omega)
  exact ⟨N, e1, h.fr e2 (fun k j a q => by unfold RIc at a; unfold CW at q; omega), h.row0.of h.1.1 e3, e3, e2⟩
theorem RowOK.water {M N : Mem} {a : Int} {V : TV} (hF : Fr (fun k j => k = 211 ∧ j = a) M N) (h : RowOK M a V) (hb : ∀ c, cellsV V ≤ c → c < 64 → tb (N.2 211 a) c = false) : RowOK N a V :=
  ⟨fun w x y => by rw [(hF 212 _ (by omega)).1]; exact h.1 w x y, fun t x y => by rw [(hF 213 _ (by omega)).1]; exact h.2.1 t x y, fun c x y => ⟨by rw [(hF 210 _ (by omega)).2]; exact (h.2.2 c x y).1, hb c x y⟩⟩
theorem ri_pour_loop {x1 x2 : Int} {V : TV} (hx : 0 ≤ x1 ∧ x1 < cellsV V) (h2 : x2 ≤ 99) : ∀ (n fu : Nat) (M : Mem) (v3 v4 : Int), v4 + (n : Int) = x2 → 0 ≤ v4 → n < fu → RI M V → RowOK M 1 V → Ok (fun r => RI r.1 V) (t_MO_pour_L37 x1 x2 fu M v3 v4) := by
  intro n
  induction n with
  | zero =>
    intro fu M v3 v4 g0 g1 g2 h hr
    obtain ⟨g, rfl⟩ : ∃ g, fu = g + 1 := ⟨fu - 1, by omega⟩
    rw [t_MO_pour_L37, if_pos (by omega)]
    refine ok_ite (fun _ => ok_some h) (fun _ => ?_)
    refine ok_bind (ri_keepNow h) (fun N hN => ?_)
    refine ok_let (fun M9 e9 => ok_some ?_)
    have hr0 := hN.1.row0
    rw [e9]
    refine hN.1.now0 (W := fun k j => k = 211 ∧ j = 0) (Fr.rf.setL ⟨rfl, rfl⟩) (fun k j _ q => by omega) (RowOK.water (Fr.rf.setL ⟨rfl, rfl⟩) hr0 (fun c a b => ?_))
    rw [sL_self, (hN.2 211 1 (by unfold KW; omega)).2]
    exact (hr.2.2 c a b).2
  | succ n ih =>
    intro fu M v3 v4 g0 g1 g2 h hr
    obtain ⟨g, rfl⟩ : ∃ g, fu = g + 1 := ⟨fu - 1, by omega⟩
    have hC := h.1.1.cells
    rw [t_MO_pour_L37, if_neg (by omega)]
    obtain ⟨N, e1, e2, e3⟩ := (h.nb hr).pours (x2 := x1) (by omega) hx.1 hx.2
    rw [e1, obind_some]
    have hN : RI N V := h.fr e3 (fun k j a q => by unfold RIc at a; omega)
    have hrN : RowOK N 1 V := RowOK.water e3 hr (fun c a b => by rw [e2]; exact prS_bits (nx_ok h.1.1 _ _ _) hC.2 ⟨a, b⟩ (by omega) 49 _ _ hx.1 hx.2 (hr.2.2 c a b).2)
    unfold t_MO_pour_L58
    rw [w32_id (x := v4 + 1) (by unfold InR; omega)]
    exact ok_ite (fun _ => ih g N _ (v4 + 1) (by omega) (by omega) (by omega) hN hrN) (fun _ => ih g N _ (v4 + 1) (by omega) (by omega) (by omega) hN hrN)
theorem ri_pour {M : Mem} {V : TV} (h : RI M V) (x1 x2 : Int) : Ok (fun r => RI r.1 V) (t_MO_pour M x1 x2) := by
  unfold t_MO_pour
  refine ok_let (fun M1 e1 => ?_)
  have h1 : RI M1 V := by rw [e1]; exact h.set0 0
  rcases m_isOpen h1.1.2.1 h1.1.1 x1 with ⟨o, e⟩ | ⟨o, e⟩
  · rw [e, obind_some, if_neg (by decide)]
    refine ok_ite (fun _ => ok_some h1) (fun c1 => ok_ite (fun c2 => ?_) (fun _ => ok_some h1))
    refine ok_bind h1.cp1 (fun N hN => ?_)
    exact ri_pour_loop ⟨o.1, o.2.1⟩ c2 x2.toNat FU N 0 0 (by omega) (by omega) (fu_big (by omega)) hN.1 hN.2.1
  · rw [e, obind_some, if_pos rfl]; exact ok_some h1
theorem bitsOf_ok {x1 : Int64} : ∀ (n fu : Nat) (M : Mem) (v1 v2 : Int), v2 + (n : Int) = 48 → 0 ≤ v2 → n < fu → Ok (fun _ => True) (t_MO_bitsOf_L4 x1 fu M v1 v2) := by
  intro n
  induction n with
  | zero =>
    intro fu M v1 v2 g0 g1 g2
    obtain ⟨g, rfl⟩ : ∃ g, fu = g + 1 := ⟨fu - 1, by omega⟩
    rw [t_MO_bitsOf_L4, if_pos (by omega)]
    exact ok_some trivial
  | succ n ih =>
    intro fu M v1 v2 g0 g1 g2
    obtain ⟨g, rfl⟩ : ∃ g, fu = g + 1 := ⟨fu - 1, by omega⟩
    rw [t_MO_bitsOf_L4, if_neg (by omega), w32_id (x := v2 + 1) (by unfold InR; omega)]
    exact ih g M _ (v2 + 1) (by omega) (by omega) (by omega)
theorem ri_drain {M : Mem} {V : TV} (h : RI M V) : Ok (fun r => RI r.1 V) (t_MO_drain M) := by
  unfold t_MO_drain
  refine ok_let (fun M1 e1 => ?_)
  have h1 : RI M1 V := by rw [e1]; exact h.set0 0
  refine ok_ite (fun _ => ok_some h1) (fun _ => ?_)
  refine ok_bind (ri_keepNow h1) (fun N hN => ?_)
  refine ok_bind (Q := fun _ => True) (by unfold t_MO_bitsOf; exact bitsOf_ok 48 FU _ _ _ (by omega) (by omega) (fu_big (by omega))) (fun _ _ => ?_)
  refine ok_let (fun M9 e9 => ok_some ?_)
  rw [e9]
  exact hN.1.now0 (W := fun k j => k = 211 ∧ j = 0) (Fr.rf.setL ⟨rfl, rfl⟩) (fun k j _ q => by omega) (RowOK.water (Fr.rf.setL ⟨rfl, rfl⟩) hN.1.row0 (fun c a b => by rw [sL_self]; exact tb_zero c))
theorem ri_flood {M : Mem} {V : TV} (h : RI M V) (x1 x2 : Int) : Ok (fun r => RI r.1 V) (t_MO_flood M x1 x2) := by
  unfold t_MO_flood
  refine ok_let (fun M1 e1 => ?_)
  have h1 : RI M1 V := by rw [e1]; exact h.set0 0
  have hv := h.1.1.1
  simp only [qlet]
  rw [m_isWard h1.1.2.1]
  by_cases c1 : 0 ≤ x1 ∧ x1 < V 0 2
  · rw [if_pos c1, if_neg (by decide)]
    by_cases c2 : 0 ≤ x2 ∧ x2 ≤ 4
    · have ed : t_MO_isDown M1 x2 = 1 := by unfold t_MO_isDown; rw [if_neg (by omega), if_neg (by omega)]
      rw [ed, if_neg (by decide)]
      refine ok_bind h1.cp1 (fun N hN => ?_)
      rw [w32_id (x := 4 + x1) (by unfold InR; omega), qguard_pos ⟨by omega, by omega⟩]
      have h2 : RI (setI N 212 (4 + x1) x2) V := hN.1.fr (W := fun k j => k = 212 ∧ j = 4 + x1) (Fr.rf.setI ⟨rfl, rfl⟩) (fun k j a q => by unfold RIc at a; omega)
      have hr := hN.2.1
      have nb : NB (setI N 212 (4 + x1) x2) 1 V := ⟨h2.1.1, h2.1.2.1, h2.2.1, fun w a b => by
        by_cases e : 4 * 1 + w = 4 + x1
        · rw [e, sI_self]; exact c2
        · rw [sI_ne (by omega)]; exact hr.1 w a b⟩
      obtain ⟨O, e1, e2, e3⟩ := nb.floods (by omega)
      rw [e1, obind_some]
      exact ok_some (h2.fr e3 (fun k j a q => by unfold RIc at a; omega))
    · have ed : t_MO_isDown M1 x2 = 0 := by
        unfold t_MO_isDown
        by_cases q : x2 < 0
        · rw [if_pos q]
        · rw [if_neg q, if_pos (by omega)]
      rw [ed, if_pos rfl]; exact ok_some h1
  · rw [if_neg c1, if_pos rfl]; exact ok_some h1
end
section
/-! ===== beats, tries, undo, keep, back ===== -/
theorem RI.beat {M : Mem} {V : TV} (h : RI M V) (hu : M.1 191 43 = 0) : ∃ N, t_MO_beat M 0 = some (N, (btS V (nxR M 0 V) true (AT M 0) (ST M 0) (LN M 0) (V 0 3).toNat).2.2.2) ∧ RI N V ∧ N.1 191 43 = 0 ∧ Fr (BW 0) M N ∧ (∀ t, 0 ≤ t → t < V 0 3 → AT N 0 t = (btS V (nxR M 0 V) true (AT M 0) (ST M 0) (LN M 0) (V 0 3).toNat).1 t ∧ ST N 0 t = (btS V (nxR M 0 V) true (AT M 0) (ST M 0) (LN M 0) (V 0 3).toNat).2.1 t ∧ LN N 0 t = (btS V (nxR M 0 V) true (AT M 0) (ST M 0) (LN M 0) (V 0 3).toNat).2.2.1 t) ∧ N.1 208 0 = w32 (M.1 208 0 + 1) := by
  have hC := h.1.1.cells
  have hr := h.row0
  have hv := h.1.1.1
  have hs : stepOK (nxR M 0 V) (cellsV V) := nx_ok h.1.1 _ _ _
  have h44 := h.2.1
  have hA : ∀ t, 0 ≤ t → t < V 0 3 → -1 ≤ AT M 0 t ∧ AT M 0 t < cellsV V := fun t a b => by have := hr.2.1 t a b; unfold AT; omega
  have hd : decide (M.1 191 44 ≠ 1) = true := by rw [h44]; decide
  obtain ⟨N, e1, e2, e3, e4⟩ := m_beat (M := M) (at_ := 0) (f := nxR M 0 V) (A := AT M 0) (S := ST M 0) (L := LN M 0) (by omega) h.1.1 hC.2 hs hA (fun t a b _ => (hr.2.1 t a b).1) (fun N hF => by
    have hN := (h.nb hr).fr hF (fun k j x q => by unfold TW at q; omega)
    have e : nxR N 0 V = nxR M 0 V := nxR_fr hF (fun k j x q => by unfold TW at q; omega)
    exact ⟨hN.2.1, fun c x y => by rw [hN.next (by omega) x y, e]⟩) (h.th 0)
  rw [hd] at e1 e3
  have h43 : N.1 191 43 = 0 := by rw [(e2 191 43 (by unfold BW; omega)).1]; exact hu
  have hT : ∀ t, 0 ≤ t → t < V 0 3 → AT N 0 t = (btS V (nxR M 0 V) true (AT M 0) (ST M 0) (LN M 0) (V 0 3).toNat).1 t ∧ ST N 0 t = (btS V (nxR M 0 V) true (AT M 0) (ST M 0) (LN M 0) (V 0 3).toNat).2.1 t ∧ LN N 0 t = (btS V (nxR M 0 V) true (AT M 0) (ST M 0) (LN M 0) (V 0 3).toNat).2.2.1 t := fun t a b => by
    rcases e3 t a b with q | q
    · exact absurd q.1 (by omega)
    · exact q.2
  have hy := h.2.2.1.2
  refine ⟨N, e1, ?_, h43, e2, hT, e4⟩
  refine h.now e2 (fun k j _ q => Or.inl (by unfold BW at q; unfold CW; omega)) ⟨fun w a b => ?_, fun t a b => ?_, fun c a b => ?_⟩ ?_ ?_ ⟨by omega, by omega⟩ (fun q => by omega)
  · rw [(e2 212 _ (by unfold BW; omega)).1]; exact hr.1 w a b
  · have q1 := (hT t a b).1
    have q2 := btS_rng (way := true) (S := ST M 0) (L := LN M 0) hs hA (V 0 3).toNat (by omega) t a b
    have q3 := btS_nn (V := V) (f := nxR M 0 V) (way := true) (A := AT M 0) (S := ST M 0) (L := LN M 0) (t := t) (hr.2.1 t a b).1 (V 0 3).toNat
    have q4 : N.1 213 (8 * 0 + t) = (btS V (nxR M 0 V) true (AT M 0) (ST M 0) (LN M 0) (V 0 3).toNat).1 t := q1
    rw [q4]
    exact ⟨q3, q2.2⟩
  · rw [(e2 210 _ (by unfold BW; omega)).2, (e2 211 _ (by unfold BW; omega)).2]; exact hr.2.2 c a b
  · rw [(e2 207 _ (by unfold BW; omega)).1]; exact ⟨hy.1, hy.2.1⟩
  · rw [(e2 209 _ (by unfold BW; omega)).1]; exact ⟨hy.2.2.1, hy.2.2.2⟩
theorem RI.no_undo {M : Mem} {V : TV} (h : RI M V) : RI (setI M 191 43 0) V := by
  have hy := h.2.2.1.2
  have hu := h.2.2.2.2.1
  refine h.now (W := fun k j => k = 191 ∧ j = 43) (Fr.rf.setI ⟨rfl, rfl⟩) (fun k j _ q => Or.inr q) ⟨fun w a b => ?_, fun t a b => ?_, fun c a b => ?_⟩ ?_ ?_ ?_ (fun q => ?_)
  · rw [sI_ne (by omega)]; exact h.row0.1 w a b
  · rw [sI_ne (by omega)]; exact h.row0.2.1 t a b
  · exact h.row0.2.2 c a b
  · rw [sI_ne (by omega)]; exact ⟨hy.1, hy.2.1⟩
  · rw [sI_ne (by omega)]; exact ⟨hy.2.2.1, hy.2.2.2⟩
  · rw [sI_self]; exact ⟨by omega, hu.1⟩
  · rw [sI_self] at q; omega
theorem ri_beats_loop {x1 : Int} {V : TV} (h2 : x1 ≤ 200) : ∀ (n fu : Nat) (M : Mem) (v2 v3 : Int), v3 + (n : Int) = x1 → 0 ≤ v3 → n < fu → RI M V → (0 < n → M.1 191 43 = 0) → Ok (fun r => RI r.1 V) (t_MO_beats_L31 x1 fu M v2 v3) := by
  intro n
  induction n with
  | zero =>
    intro fu M v2 v3 g0 g1 g2 h hu
    obtain ⟨g, rfl⟩ : ∃ g, fu = g + 1 := ⟨fu - 1, by omega⟩
    rw [t_MO_beats_L31, if_pos (by omega)]
    exact ok_some h
  | succ n ih =>
    intro fu M v2 v3 g0 g1 g2 h hu
    obtain ⟨g, rfl⟩ : ∃ g, fu = g + 1 := ⟨fu - 1, by omega⟩
    rw [t_MO_beats_L31, if_neg (by omega), w32_id (x := v3 + 1) (by unfold InR; omega)]
    obtain ⟨N, e1, e2, e3, -⟩ := h.beat (hu (by omega))
    rw [e1, obind_some]
    exact ih g N _ (v3 + 1) (by omega) (by omega) (by omega) e2 (fun _ => e3)
theorem ri_beats {M : Mem} {V : TV} (h : RI M V) (x1 : Int) : Ok (fun r => RI r.1 V) (t_MO_beats M x1) := by
  unfold t_MO_beats t_MO_beats_L27
  refine ok_let (fun M1 e1 => ?_)
  have h1 : RI M1 V := by rw [e1]; exact h.set0 0
  refine ok_ite (fun _ => ok_some h1) (fun c1 => ok_ite (fun c2 => ?_) (fun _ => ok_some h1))
  refine ok_ite (fun c3 => ?_) (fun c3 => ok_let (fun M5 e5 => ?_))
  · exact ri_beats_loop c2 x1.toNat FU M1 0 0 (by omega) (by omega) (fu_big (by omega)) h1 (fun q => by omega)
  · exact ri_beats_loop c2 x1.toNat FU M5 0 0 (by omega) (by omega) (fu_big (by omega)) (by rw [e5]; exact h1.no_undo) (fun _ => by rw [e5, sI_self])
theorem ri_tried_loop {x1 x2 x3 : Int} {V : TV} {M0 : Mem} (h : RI M0 V) (hr : RowOK M0 1 V) (h2 : x3 ≤ 200) : ∀ (n fu : Nat) (M : Mem) (A S L : Int → Int) (v2 v3 : Int), v3 + (n : Int) = x3 → 0 ≤ v3 → n < fu → Fr (fun k j => BW 1 k j ∨ (k = 191 ∧ (j = 44 ∨ j = 45))) M0 M → M.2 191 44 = M0.2 191 44 → M.1 191 44 = x1 → M.1 191 45 = x2 → MTh M 1 V x1 x2 A S L → (∀ t, 0 ≤ t → t < V 0 3 → -1 ≤ A t ∧ A t < cellsV V) → (∀ t, 0 ≤ t → t < V 0 3 → ¬ (x1 = 4 ∧ x2 = t) → 0 ≤ A t) → Ok (fun r => RI r.1 V) (t_MO_tried_L91 x1 x2 x3 fu M v2 v3) := by
  intro n
  induction n with
  | zero =>
    intro fu M A S L v2 v3 g0 g1 g2 hF hL e44 e45 hT hA hA2
    obtain ⟨g, rfl⟩ : ∃ g, fu = g + 1 := ⟨fu - 1, by omega⟩
    rw [t_MO_tried_L91, if_pos (by omega)]
    simp only [qlet]
    refine ok_some (h.fr (W := fun k j => BW 1 k j ∨ (k = 191 ∧ j = 45)) (fun k j hk => ?_) (fun k j a q => by unfold RIc at a; unfold BW at q; omega))
    by_cases q : k = 191 ∧ j = 44
    · obtain ⟨rfl, rfl⟩ := q
      refine ⟨?_, hL⟩
      · show (setI (setI M 191 44 (-1)) 191 45 (-1)).1 191 44 = M0.1 191 44
        rw [sI_ne (by omega), sI_self, h.2.1]
    · have hk2 : ¬ (BW 1 k j ∨ (k = 191 ∧ (j = 44 ∨ j = 45))) := fun p => p.elim (fun p => hk (Or.inl p)) (fun p => p.2.elim (fun p2 => q ⟨p.1, p2⟩) (fun p2 => hk (Or.inr ⟨p.1, p2⟩)))
      refine ⟨?_, (hF k j hk2).2⟩
      show (setI (setI M 191 44 (-1)) 191 45 (-1)).1 k j = M0.1 k j
      rw [sI_ne (fun p => hk (Or.inr p)), sI_ne q]
      exact (hF k j hk2).1
  | succ n ih =>
    intro fu M A S L v2 v3 g0 g1 g2 hF hL e44 e45 hT hA hA2
    obtain ⟨g, rfl⟩ : ∃ g, fu = g + 1 := ⟨fu - 1, by omega⟩
    have hC := h.1.1.cells
    rw [t_MO_tried_L91, if_neg (by omega), w32_id (x := v3 + 1) (by unfold InR; omega)]
    have hs : stepOK (nxV V (trD x1 x2 (DN M0 1)) (trN x1 (M0.2 210 1)) (trW x1 (wlV V))) (cellsV V) := nx_ok h.1.1 _ _ _
    have hmt : ∀ N, Fr (fun k j => BW 1 k j ∨ (k = 191 ∧ (j = 44 ∨ j = 45))) M0 N → N.1 191 44 = x1 → N.1 191 45 = x2 → MT0 N V ∧ ∀ c, 0 ≤ c → c < cellsV V → t_MO_nextOf N 1 c = some (nxV V (trD x1 x2 (DN M0 1)) (trN x1 (M0.2 210 1)) (trW x1 (wlV V)) c) := by
      intro N hN a b
      have m0 : MT0 N V := h.1.2.1.fr hN (fun k j x y q => by unfold BW at q; omega)
      refine ⟨m0, fun c p q => ?_⟩
      have := m_nextT (M := N) (at_ := 1) (D := DN M0 1) (A := AT N 1) (nets := M0.2 210 1) m0 h.1.1 ⟨fun w x y => (hN 212 _ (by unfold BW; omega)).1, fun t x y => rfl, (hN 210 1 (by unfold BW; omega)).2⟩ hr.1 (by omega) p q
      rw [a, b] at this; exact this
    obtain ⟨N, e1, e2, e3, e4⟩ := m_beat (M := M) (at_ := 1) (A := A) (S := S) (L := L) (by omega) h.1.1 hC.2 hs hA (by rw [e44, e45]; exact hA2) (fun N hN => hmt N (hF.trans (hN.mono (fun k j q => Or.inl (Or.inr q)))) (by rw [(hN 191 44 (by unfold TW; omega)).1]; exact e44) (by rw [(hN 191 45 (by unfold TW; omega)).1]; exact e45)) (by rw [e44, e45]; exact hT)
    rw [e1, obind_some]
    rw [e44, e45] at e3
    refine ih g N _ _ _ _ (v3 + 1) (by omega) (by omega) (by omega) (hF.trans (e2.mono (fun k j q => Or.inl q))) ((e2 191 44 (by unfold BW; omega)).2.trans hL) (by rw [(e2 191 44 (by unfold BW; omega)).1]; exact e44) (by rw [(e2 191 45 (by unfold BW; omega)).1]; exact e45) e3 (fun t a b => btS_rng hs hA _ (by have := h.1.1.1; omega) t a b) (fun t a b q => btS_nn (hA2 t a b q) _)
theorem ri_tried {M : Mem} {V : TV} (h : RI M V) (x1 x2 x3 : Int) : Ok (fun r => RI r.1 V) (t_MO_tried M x1 x2 x3) := by
  unfold t_MO_tried t_MO_tried_L48
  refine ok_let (fun M1 e1 => ?_)
  have h1 : RI M1 V := by rw [e1]; exact h.set0 0
  have main : ∀ v4 : Int, Ok (fun r => RI r.1 V) (t_MO_tried_L49 x1 x2 x3 M1 v4) := by
    intro v4
    unfold t_MO_tried_L49
    refine ok_ite (fun _ => ok_some h1) (fun _ => ok_ite (fun _ => ok_some h1) (fun c1 => ok_ite (fun c2 => ?_) (fun _ => ok_some h1)))
    refine ok_bind h1.cp1 (fun N hN => ?_)
    simp only [qlet]
    have hr := hN.2.1
    refine ri_tried_loop hN.1 hr c2 x3.toNat FU _ (fun t => if x1 = 4 ∧ x2 = t then -1 else AT N 1 t) (ST N 1) (LN N 1) 0 0 (by omega) (by omega) (fu_big (by omega)) ((Fr.rf.setI (Or.inr ⟨rfl, Or.inl rfl⟩)).setI (Or.inr ⟨rfl, Or.inr rfl⟩)) rfl ?_ (sI_self _ _ _ _) (fun t a b => ?_) (fun t a b => ?_) (fun t a b q => ?_)
    · rw [sI_ne (by omega), sI_self]
    · by_cases q : x1 = 4 ∧ x2 = t
      · exact Or.inl ⟨q.1, q.2, if_pos q⟩
      · refine Or.inr ⟨q, ?_, ?_, ?_⟩
        · rw [sI_ne (by omega), sI_ne (by omega)]; exact (if_neg q).symm
        · rw [sI_ne (by omega), sI_ne (by omega)]; rfl
        · rw [sI_ne (by omega), sI_ne (by omega)]; rfl
    · have := hr.2.1 t a b
      show -1 ≤ (if x1 = 4 ∧ x2 = t then -1 else AT N 1 t) ∧ (if x1 = 4 ∧ x2 = t then -1 else AT N 1 t) < cellsV V
      have hC := h.1.1.cells
      split
      · omega
      · unfold AT; omega
    · show 0 ≤ (if x1 = 4 ∧ x2 = t then -1 else AT N 1 t)
      rw [if_neg q]
      exact (hr.2.1 t a b).1
  exact ok_ite (fun _ => ok_let (fun _ _ => main _)) (fun _ => ok_ite (fun _ => ok_let (fun _ _ => main _)) (fun _ => ok_ite (fun _ => main _) (fun _ => ok_ite (fun _ => main _) (fun _ => ok_ite (fun _ => main _) (fun _ => main _)))))
def LW (to : Int) : Nat → Int → Prop := fun k j => (k = 216 ∨ k = 217 ∨ k = 218) ∧ 100 * to ≤ j ∧ j < 100 * to + 100
theorem m_copiesLog_loop {M0 : Mem} {x1 x2 : Int} (h1 : 0 ≤ x1 ∧ x1 < 3) (h2 : 0 ≤ x2 ∧ x2 < 3) (hne : x1 ≠ x2) : ∀ (n fu : Nat) (M : Mem) (v : Int), v + (n : Int) = 100 → 0 ≤ v → n < fu → Fr (LW x1) M0 M → (∀ k t, (k = 216 ∨ k = 217 ∨ k = 218) → 0 ≤ t → t < v → M.1 k (100 * x1 + t) = M0.1 k (100 * x2 + t)) →
    ∃ N, t_MO_copiesLog_L2 x1 x2 fu M v = some N ∧ Fr (LW x1) M0 N ∧ (∀ k t, (k = 216 ∨ k = 217 ∨ k = 218) → 0 ≤ t → t < 100 → N.1 k (100 * x1 + t) = M0.1 k (100 * x2 + t)) := by
  intro n
  induction n with
  | zero =>
    intro fu M v g0 g1 g2 hF hc
    obtain ⟨g, rfl⟩ : ∃ g, fu = g + 1 := ⟨fu - 1, by omega⟩
    rw [t_MO_copiesLog_L2, if_pos (by omega)]
    exact ⟨M, rfl, hF, fun k t q a b => hc k t q a (by omega)⟩
  | succ n ih =>
    intro fu M v g0 g1 g2 hF hc
    obtain ⟨g, rfl⟩ : ∃ g, fu = g + 1 := ⟨fu - 1, by omega⟩
    rw [t_MO_copiesLog_L2, if_neg (by omega), w32_id (x := 100 * x2) (by unfold InR; omega), w32_id (x := 100 * x1) (by unfold InR; omega), w32_id (x := 100 * x2 + v) (by unfold InR; omega), w32_id (x := 100 * x1 + v) (by unfold InR; omega), w32_id (x := v + 1) (by unfold InR; omega)]
    simp only [qlet]
    rw [qguard_pos ⟨by omega, by omega⟩, qguard_pos ⟨by omega, by omega⟩, qguard_pos ⟨by omega, by omega⟩, qguard_pos ⟨by omega, by omega⟩, qguard_pos ⟨by omega, by omega⟩, qguard_pos ⟨by omega, by omega⟩]
    have s1 : ∀ k, (k = 216 ∨ k = 217 ∨ k = 218) → M.1 k (100 * x2 + v) = M0.1 k (100 * x2 + v) := fun k hk => (hF k _ (by unfold LW; omega)).1
    refine ih g _ (v + 1) (by omega) (by omega) (by omega) (((hF.setI (by unfold LW; omega)).setI (by unfold LW; omega)).setI (by unfold LW; omega)) (fun k t hk a b => ?_)
    by_cases e : t = v
    · subst e
      rcases hk with rfl | rfl | rfl
      · rw [sI_ne (by omega), sI_ne (by omega), sI_self]; exact s1 216 (by omega)
      · rw [sI_ne (by omega), sI_self, uI_ne _ _ (by omega)]; exact s1 217 (by omega)
      · rw [sI_self, uI_ne _ _ (by omega), uI_ne _ _ (by omega)]; exact s1 218 (by omega)
    · rw [sI_ne (by omega), sI_ne (by omega), sI_ne (by omega)]; exact hc k t hk a (by omega)
theorem m_copiesLog {M : Mem} {x1 x2 : Int} (h1 : 0 ≤ x1 ∧ x1 < 3) (h2 : 0 ≤ x2 ∧ x2 < 3) (hne : x1 ≠ x2) : ∃ N, t_MO_copiesLog M x1 x2 = some N ∧ Fr (LW x1) M N ∧ (∀ k t, (k = 216 ∨ k = 217 ∨ k = 218) → 0 ≤ t → t < 100 → N.1 k (100 * x1 + t) = M.1 k (100 * x2 + t)) := m_copiesLog_loop h1 h2 hne 100 FU M 0 (by omega) (by omega) (fu_big (by omega)) Fr.rf (fun k t _ a b => by omega)
theorem RI.img {W : Nat → Int → Prop} {M N : Mem} {V : TV} (h : RI M V) (hF : Fr W M N) (hd : ∀ k j, RIc k j → W k j → CW 2 k j ∨ (k = 191 ∧ j = 42)) (h42 : N.1 191 42 = 1) (hr : RowEq N 2 M 0) : RI N V := by
  obtain ⟨⟨a1, a2, a3, a4⟩, b, ⟨c1, c2⟩, ⟨d1, d2⟩, ⟨e1, e2, e3⟩, f⟩ := h
  have row : ∀ a : Int, 0 ≤ a → a ≠ 1 → a ≠ 2 → RowEq N a M a := fun a x y z => RowEq.fr hF (fun k j hk q => by
    rcases hd k j (CW_RIc ⟨x, y⟩ k j hk) q with q | q
    · unfold CW at hk q; omega
    · unfold CW at hk; omega)
  have nn : ∀ k j, RIc k j → ¬ CW 2 k j → ¬ (k = 191 ∧ j = 42) → ¬ W k j := fun k j x y z q => (hd k j x q).elim y z
  have q : ∀ j : Int, (j = 43 ∨ j = 44) → N.1 191 j = M.1 191 j := fun j hj => (hF 191 j (nn _ _ (by unfold RIc; omega) (by unfold CW; omega) (by omega))).1
  have q0 := row 0 (by omega) (by omega) (by omega)
  refine ⟨⟨a1, MT0.fr hF (fun k j x y => nn _ _ (by unfold RIc; omega) (by unfold CW; omega) (by omega)) a2, a3, MF1.fr hF (fun k j x y => nn _ _ (by unfold RIc; omega) (by unfold CW; omega) (by omega)) a4.1, MF1.fr hF (fun k j x y => nn _ _ (by unfold RIc; omega) (by unfold CW; omega) (by omega)) a4.2⟩, by rw [q 44 (by omega)]; exact b, ⟨c1.of a1 q0, by rw [q0.1.1, q0.1.2.2.1]; exact c2⟩, ⟨Or.inr h42, fun _ => ⟨c1.of a1 hr, by rw [hr.1.1, hr.1.2.2.1]; exact c2⟩⟩, ⟨by rw [q 43 (by omega)]; exact e1, by rw [q 43 (by omega)]; exact e2, fun k x y => ?_⟩, f.fr hF (fun k j x => nn _ _ (by unfold RIc; omega) (by unfold CW; omega) (by omega))⟩
  rw [q 43 (by omega)] at y
  have q3 := row (3 + k) (by omega) (by omega) (by omega)
  obtain ⟨r1, r2, r3, r4⟩ := e3 k x y
  exact ⟨r1.of a1 q3, by rw [q3.1.1, q0.1.1]; exact r2, by rw [q3.1.2.1, q0.1.2.1]; exact r3, by rw [q3.1.2.2.1, q0.1.2.2.1]; exact r4⟩
theorem ri_keep {M : Mem} {V : TV} (h : RI M V) : Ok (fun r => RI r.1 V) (t_MO_keep M) := by
  unfold t_MO_keep
  refine ok_let (fun M1 e1 => ?_)
  have h1 : RI M1 V := by rw [e1]; exact h.set0 0
  obtain ⟨N, n1, n2, n3⟩ := m_copies (M := M1) (x1 := 2) (x2 := 0) (by omega) (by omega) (by omega)
  obtain ⟨O, o1, o2, -⟩ := m_copiesLog (M := N) (x1 := 2) (x2 := 0) (by omega) (by omega) (by omega)
  rw [n1, obind_some, o1, obind_some]
  refine ok_let (fun M6 e6 => ok_some ?_)
  have hF : Fr (fun k j => CW 2 k j ∨ LW 2 k j ∨ (k = 191 ∧ j = 42)) M1 M6 := by
    rw [e6]
    exact ((n2.mono (fun k j q => Or.inl q)).trans (o2.mono (fun k j q => Or.inr (Or.inl q)))).setI (Or.inr (Or.inr ⟨rfl, rfl⟩))
  have hF2 : Fr (fun k j => LW 2 k j ∨ (k = 191 ∧ j = 42)) N M6 := by
    rw [e6]
    exact (o2.mono (fun k j q => Or.inl q)).setI (Or.inr ⟨rfl, rfl⟩)
  exact h1.img hF (fun k j a q => q.elim Or.inl (fun q => q.elim (fun q => by unfold RIc at a; unfold LW at q; omega) Or.inr)) (by rw [e6, sI_self]) ((RowEq.fr hF2 (fun k j a q => by unfold CW at a; unfold LW at q; omega)).trans n3)
theorem ri_back {M : Mem} {V : TV} (h : RI M V) : Ok (fun r => RI r.1 V) (t_MO_back M) := by
  unfold t_MO_back
  refine ok_let (fun M1 e1 => ?_)
  have h1 : RI M1 V := by rw [e1]; exact h.set0 0
  refine ok_ite (fun _ => ok_some h1) (fun c => ?_)
  have hi := h1.2.2.2.1
  have h2 := hi.2 (by omega)
  obtain ⟨N, n1, n2, n3⟩ := m_copies (M := M1) (x1 := 0) (x2 := 2) (by omega) (by omega) (by omega)
  obtain ⟨O, o1, o2, -⟩ := m_copiesLog (M := N) (x1 := 0) (x2 := 2) (by omega) (by omega) (by omega)
  rw [n1, obind_some, o1, obind_some]
  refine ok_let (fun M6 e6 => ok_some ?_)
  have hF : Fr (fun k j => CW 0 k j ∨ LW 0 k j ∨ (k = 191 ∧ j = 43)) M1 M6 := by
    rw [e6]
    exact ((n2.mono (fun k j q => Or.inl q)).trans (o2.mono (fun k j q => Or.inr (Or.inl q)))).setI (Or.inr (Or.inr ⟨rfl, rfl⟩))
  have hF2 : Fr (fun k j => LW 0 k j ∨ (k = 191 ∧ j = 43)) N M6 := by
    rw [e6]
    exact (o2.mono (fun k j q => Or.inl q)).setI (Or.inr ⟨rfl, rfl⟩)
  have hr := (RowEq.fr hF2 (a := 0) (fun k j a q => by unfold CW at a; unfold LW at q; omega)).trans n3
  have h43 : M6.1 191 43 = 0 := by rw [e6, sI_self]
  exact h1.now hF (fun k j a q => q.elim Or.inl (fun q => q.elim (fun q => by unfold RIc at a; unfold LW at q; omega) Or.inr)) (h2.1.of h.1.1 hr) (by rw [hr.1.1]; exact ⟨h2.2.1, h2.2.2.1⟩) (by rw [hr.1.2.2.1]; exact h2.2.2.2) (by rw [h43]; exact ⟨by omega, h1.2.2.2.2.1.1⟩) (fun q => absurd q (by show ¬ 0 < M6.1 191 43; rw [h43]; decide))
theorem ri_undo {M : Mem} {V : TV} (h : RI M V) : Ok (fun r => RI r.1 V) (t_MO_undo M) := by
  unfold t_MO_undo
  refine ok_let (fun M1 e1 => ?_)
  have h1 : RI M1 V := by rw [e1]; exact h.set0 0
  refine ok_ite (fun _ => ok_some h1) (fun c => ?_)
  have hu := h1.2.2.2.2.1
  rw [w32_id (x := M1.1 191 43 - 1) (by unfold InR; omega)]
  refine ok_let (fun M5 e5 => ?_)
  have e43 : M5.1 191 43 = M1.1 191 43 - 1 := by rw [e5, sI_self]
  rw [e43, w32_id (by unfold InR; omega)]
  obtain ⟨N, n1, n2, n3⟩ := m_copies (M := M5) (x1 := 0) (x2 := 3 + (M1.1 191 43 - 1)) (by omega) (by omega) (by omega)
  rw [n1, obind_some]
  refine ok_some ?_
  have hF5 : Fr (fun k j => k = 191 ∧ j = 43) M1 M5 := by rw [e5]; exact Fr.rf.setI ⟨rfl, rfl⟩
  have hr := n3.trans (RowEq.fr hF5 (fun k j a q => by unfold CW at a; omega))
  obtain ⟨r1, r2, r3, r4⟩ := hu.2.2 (M1.1 191 43 - 1) (by omega) (by omega)
  have n43 : N.1 191 43 = M1.1 191 43 - 1 := by rw [(n2 191 43 (by unfold CW; omega)).1]; exact e43
  have hy := h1.2.2.1.2
  refine h1.now (W := fun k j => CW 0 k j ∨ (k = 191 ∧ j = 43)) ((hF5.mono (fun k j q => Or.inr q)).trans (n2.mono (fun k j q => Or.inl q))) (fun k j a q => q) (r1.of h.1.1 hr) (by rw [hr.1.1, r2]; exact ⟨hy.1, hy.2.1⟩) (by rw [hr.1.2.2.1, r4]; exact hy.2.2) (by rw [n43]; omega) (fun _ => ⟨by rw [hr.1.1]; exact r2, by rw [hr.1.2.1]; exact r3, by rw [hr.1.2.2.1]; exact r4⟩)
end
