/-! ===== the reference's things and beats ===== -/
/-- row at_'s things: what is tried to be away stands as -1 -/
def MTh (M : Mem) (at_ : Int) (V : TV) (tw ti : Int) (A S L : Int → Int) : Prop := ∀ t, 0 ≤ t → t < V 0 3 → (tw = 4 ∧ ti = t ∧ A t = -1) ∨ (¬ (tw = 4 ∧ ti = t) ∧ M.1 213 (8 * at_ + t) = A t ∧ M.1 214 (8 * at_ + t) = S t ∧ M.1 215 (8 * at_ + t) = L t)
def fI (o : Option Nat) : Int := match o with | some a => (a : Int) | none => -1
theorem w32_succ {t : Nat} (h : t < 1000000) : w32 ((t : Int) + 1) = ((t + 1 : Nat) : Int) := by rw [w32_id (by unfold InR; omega)]; omega
theorem m_thingIn_loop {M : Mem} {at_ d : Int} {V : TV} {A S L : Int → Int} (ha : 0 ≤ at_ ∧ at_ < 23) (hV : VOK V) (h : MT0 M V) (hd : 0 ≤ d) (hT : MTh M at_ V (M.1 191 44) (M.1 191 45) A S L) : ∀ (n t fu : Nat), (t : Int) + (n : Int) = V 0 3 → n < fu → (∀ b : Nat, b < t → A (b : Int) ≠ d) → t_MO_thingIn_L2 at_ d fu M (t : Int) = some (fI (fnd (fun a => A (a : Int)) d (V 0 3).toNat)) := by
  have h3 := hV.1
  intro n
  induction n with
  | zero =>
    intro t fu g0 g1 hb
    obtain ⟨g, rfl⟩ : ∃ g, fu = g + 1 := ⟨fu - 1, by omega⟩
    rw [t_MO_thingIn_L2, h.1.2.2.2.1, if_pos (by omega)]
    cases e : fnd (fun a => A (a : Int)) d (V 0 3).toNat with
    | none => rfl
    | some a =>
      have := fnd_some e
      exact absurd this.2.1 (hb a (by omega))
  | succ n ih =>
    intro t fu g0 g1 hb
    obtain ⟨g, rfl⟩ : ∃ g, fu = g + 1 := ⟨fu - 1, by omega⟩
    rw [t_MO_thingIn_L2, h.1.2.2.2.1, if_neg (by omega), w32_id (x := 8 * at_) (by unfold InR; omega), w32_id (x := 8 * at_ + (t : Int)) (by unfold InR; omega), qguard_pos ⟨by omega, by omega⟩]
    unfold t_MO_thingIn_L46
    rw [w32_succ (t := t) (by omega)]
    have next : A (t : Int) ≠ d → t_MO_thingIn_L2 at_ d g M ((t + 1 : Nat) : Int) = some (fI (fnd (fun a => A (a : Int)) d (V 0 3).toNat)) := fun hne => ih (t + 1) g (by omega) (by omega) (fun b hb2 => by
      by_cases e : b = t
      · rw [e]; exact hne
      · exact hb b (by omega))
    have found : A (t : Int) = d → some (t : Int) = some (fI (fnd (fun a => A (a : Int)) d (V 0 3).toNat)) := by
      intro he
      cases e : fnd (fun a => A (a : Int)) d (V 0 3).toNat with
      | none => exact absurd he (fnd_none e t (by omega))
      | some a =>
        have hs := fnd_some e
        have : a = t := by
          by_cases q : a < t
          · exact absurd hs.2.1 (hb a q)
          · by_cases q2 : t < a
            · exact absurd he (hs.2.2 t q2)
            · omega
        rw [this]; rfl
    rcases hT (t : Int) (by omega) (by omega) with ⟨w1, w2, w3⟩ | ⟨w1, w2, -⟩
    · have hne : A (t : Int) ≠ d := by rw [w3]; omega
      by_cases e : M.1 213 (8 * at_ + (t : Int)) = d
      · rw [if_pos e, if_pos w1, if_pos w2]; exact next hne
      · rw [if_neg e]; exact next hne
    · rw [w2]
      by_cases e : A (t : Int) = d
      · rw [if_pos e]
        by_cases q1 : M.1 191 44 = 4
        · rw [if_pos q1, if_neg (fun q => w1 ⟨q1, q⟩)]; exact found e
        · rw [if_neg q1]; exact found e
      · rw [if_neg e]; exact next e
theorem m_thingIn {M : Mem} {at_ d : Int} {V : TV} {A S L : Int → Int} (ha : 0 ≤ at_ ∧ at_ < 23) (hV : VOK V) (h : MT0 M V) (hd : 0 ≤ d) (hT : MTh M at_ V (M.1 191 44) (M.1 191 45) A S L) : t_MO_thingIn M at_ d = some (fI (fnd (fun a => A (a : Int)) d (V 0 3).toNat)) := m_thingIn_loop ha hV h hd hT (V 0 3).toNat 0 FU (by have := hV.1; omega) (fu_big (by have := hV.1; omega)) (fun b hb => by omega)
/-- the cells that a beat writes -/
def TW (at_ : Int) : Nat → Int → Prop := fun k j => (k = 213 ∨ k = 214 ∨ k = 215) ∧ 8 * at_ ≤ j ∧ j < 8 * at_ + 8
def BW (at_ : Int) : Nat → Int → Prop := fun k j => (k = 208 ∧ j = at_) ∨ ((k = 213 ∨ k = 214 ∨ k = 215) ∧ 8 * at_ ≤ j ∧ j < 8 * at_ + 8)
theorem btS_rng {V : TV} {f : Int → Int} {way : Bool} {A S L : Int → Int} {C : Int} (hf : stepOK f C) (hA : ∀ t, 0 ≤ t → t < V 0 3 → -1 ≤ A t ∧ A t < C) : ∀ n : Nat, (n : Int) ≤ V 0 3 → ∀ t, 0 ≤ t → t < V 0 3 → -1 ≤ (btS V f way A S L n).1 t ∧ (btS V f way A S L n).1 t < C := by
  intro n
  induction n with
  | zero => intro _ t a b; exact hA t a b
  | succ n ih =>
    intro hn t a b
    have h0 := ih (by omega)
    rw [btS]
    split
    · exact h0 t a b
    · split
      · exact h0 t a b
      · split
        · exact h0 t a b
        · show -1 ≤ upA _ _ _ t ∧ upA _ _ _ t < C
          by_cases e : t = (n : Int)
          · subst e
            rw [upA_self]
            have := h0 (n : Int) a b
            exact hf _ (by omega) this.2
          · rw [upA_ne _ e]; exact h0 t a b
theorem btS_n {V : TV} {f : Int → Int} {way : Bool} {A S L : Int → Int} : ∀ n : Nat, 0 ≤ (btS V f way A S L n).2.2.2 ∧ (btS V f way A S L n).2.2.2 ≤ (n : Int) := by
  intro n
  induction n with
  | zero => exact ⟨Int.le_refl _, Int.le_refl _⟩
  | succ n ih =>
    rw [btS]
    split
    · omega
    · split
      · omega
      · split
        · omega
        · show 0 ≤ (btS V f way A S L n).2.2.2 + 1 ∧ (btS V f way A S L n).2.2.2 + 1 ≤ ((n + 1 : Nat) : Int)
          omega
/-- away stays away -/
theorem btS_away {V : TV} {f : Int → Int} {way : Bool} {A S L : Int → Int} {t : Int} (h : A t = -1) : ∀ n : Nat, (btS V f way A S L n).1 t = -1 := by
  intro n
  induction n with
  | zero => exact h
  | succ n ih =>
    rw [btS]
    split
    · exact ih
    · split
      · exact ih
      · split
        · exact ih
        · show upA _ _ _ t = -1
          by_cases e : t = (n : Int)
          · subst e; omega
          · rw [upA_ne _ e]; exact ih
/-- what is there stays there -/
theorem btS_nn {V : TV} {f : Int → Int} {way : Bool} {A S L : Int → Int} {t : Int} (h : 0 ≤ A t) : ∀ n : Nat, 0 ≤ (btS V f way A S L n).1 t := by
  intro n
  induction n with
  | zero => exact h
  | succ n ih =>
    rw [btS]
    split
    · exact ih
    · split
      · exact ih
      · rename_i h1 h2
        split
        · exact ih
        · show 0 ≤ upA _ _ _ t
          by_cases e : t = (n : Int)
          · subst e; rw [upA_self]; omega
          · rw [upA_ne _ e]; exact ih
theorem m_beat_loop {M0 : Mem} {at_ C : Int} {V : TV} {f : Int → Int} {A S L : Int → Int} (ha : 0 ≤ at_ ∧ at_ < 23) (hV : VOK V) (hC : C ≤ 48) (hf : stepOK f C) (hA : ∀ t, 0 ≤ t → t < V 0 3 → -1 ≤ A t ∧ A t < C) (hA2 : ∀ t, 0 ≤ t → t < V 0 3 → ¬ (M0.1 191 44 = 4 ∧ M0.1 191 45 = t) → 0 ≤ A t)
    (hN : ∀ M, Fr (TW at_) M0 M → MT0 M V ∧ ∀ c, 0 ≤ c → c < C → t_MO_nextOf M at_ c = some (f c)) : ∀ (n t fu : Nat) (M : Mem), (t : Int) + (n : Int) = V 0 3 → n < fu → Fr (TW at_) M0 M → MTh M at_ V (M0.1 191 44) (M0.1 191 45) (btS V f (decide (M0.1 191 44 ≠ 1)) A S L t).1 (btS V f (decide (M0.1 191 44 ≠ 1)) A S L t).2.1 (btS V f (decide (M0.1 191 44 ≠ 1)) A S L t).2.2.1 →
    ∃ N, t_MO_beat_L4 at_ fu M (btS V f (decide (M0.1 191 44 ≠ 1)) A S L t).2.2.2 (t : Int) = some (N, (btS V f (decide (M0.1 191 44 ≠ 1)) A S L (V 0 3).toNat).2.2.2) ∧ Fr (BW at_) M0 N ∧ MTh N at_ V (M0.1 191 44) (M0.1 191 45) (btS V f (decide (M0.1 191 44 ≠ 1)) A S L (V 0 3).toNat).1 (btS V f (decide (M0.1 191 44 ≠ 1)) A S L (V 0 3).toNat).2.1 (btS V f (decide (M0.1 191 44 ≠ 1)) A S L (V 0 3).toNat).2.2.1 ∧ N.1 208 at_ = w32 (M0.1 208 at_ + 1) := by
  have h3 := hV.1
  intro n
  induction n with
  | zero =>
    intro t fu M g0 g1 hF hT
    obtain ⟨g, rfl⟩ : ∃ g, fu = g + 1 := ⟨fu - 1, by omega⟩
    have et : (V 0 3).toNat = t := by omega
    rw [et, t_MO_beat_L4, (hN M hF).1.1.2.2.2.1, if_pos (by omega), qguard_pos ha, qguard_pos ha]
    simp only [qlet]
    refine ⟨_, rfl, (hF.mono (V := BW at_) (fun k j hk => Or.inr hk)).setI (Or.inl ⟨rfl, rfl⟩), fun t' a b => ?_, ?_⟩
    · rcases hT t' a b with h | ⟨h, h4, h5, h6⟩
      · exact Or.inl h
      · exact Or.inr ⟨h, by rw [sI_ne (by omega)]; exact h4, by rw [sI_ne (by omega)]; exact h5, by rw [sI_ne (by omega)]; exact h6⟩
    · rw [sI_self, (hF 208 at_ (by unfold TW; omega)).1]
  | succ n ih =>
    intro t fu M g0 g1 hF hT
    obtain ⟨g, rfl⟩ : ∃ g, fu = g + 1 := ⟨fu - 1, by omega⟩
    have e44 : M.1 191 44 = M0.1 191 44 := (hF 191 44 (by unfold TW; omega)).1
    have e45 : M.1 191 45 = M0.1 191 45 := (hF 191 45 (by unfold TW; omega)).1
    have ih2 := ih (t + 1) g
    have hbn := btS_n (V := V) (f := f) (way := decide (M0.1 191 44 ≠ 1)) (A := A) (S := S) (L := L) t
    have hbr := btS_rng (V := V) (f := f) (way := decide (M0.1 191 44 ≠ 1)) (A := A) (S := S) (L := L) hf hA t (by omega) (t : Int) (by omega) (by omega)
    have hnn : ¬ (M0.1 191 44 = 4 ∧ M0.1 191 45 = (t : Int)) → 0 ≤ (btS V f (decide (M0.1 191 44 ≠ 1)) A S L t).1 (t : Int) := fun h => btS_nn (hA2 _ (by omega) (by omega) h) t
    rw [btS] at ih2
    generalize btS V f (decide (M0.1 191 44 ≠ 1)) A S L t = B at *
    have stay : (if B.1 (t : Int) < 0 then B else if f (B.1 (t : Int)) < 0 then B else if decide (M0.1 191 44 ≠ 1) = true ∧ fnd (fun a => B.1 (a : Int)) (f (B.1 (t : Int))) (V 0 3).toNat ≠ none then B else (upA B.1 (t : Int) (f (B.1 (t : Int))), upA B.2.1 (t : Int) (w32 (B.2.1 (t : Int) + 1)), upA B.2.2.1 (t : Int) (w32 (B.2.2.1 (t : Int) + lnV V (B.1 (t : Int)) (f (B.1 (t : Int))))), B.2.2.2 + 1)) = B →
        ∃ N, t_MO_beat_L138 at_ (fun a0_ a1_ a2_ => t_MO_beat_L4 at_ g a0_ a1_ a2_) M B.2.2.2 (t : Int) = some (N, (btS V f (decide (M0.1 191 44 ≠ 1)) A S L (V 0 3).toNat).2.2.2) ∧ Fr (BW at_) M0 N ∧ MTh N at_ V (M0.1 191 44) (M0.1 191 45) (btS V f (decide (M0.1 191 44 ≠ 1)) A S L (V 0 3).toNat).1 (btS V f (decide (M0.1 191 44 ≠ 1)) A S L (V 0 3).toNat).2.1 (btS V f (decide (M0.1 191 44 ≠ 1)) A S L (V 0 3).toNat).2.2.1 ∧ N.1 208 at_ = w32 (M0.1 208 at_ + 1) := by
      intro he
      rw [he] at ih2
      unfold t_MO_beat_L138
      rw [w32_succ (t := t) (by omega)]
      exact ih2 M (by omega) (by omega) hF hT
    rw [t_MO_beat_L4, (hN M hF).1.1.2.2.2.1, if_neg (by omega), e44, e45]
    have main : ¬ (M0.1 191 44 = 4 ∧ M0.1 191 45 = (t : Int)) → ∃ N, t_MO_beat_L34 at_ (fun a0_ a1_ a2_ => t_MO_beat_L4 at_ g a0_ a1_ a2_) M B.2.2.2 (t : Int) = some (N, (btS V f (decide (M0.1 191 44 ≠ 1)) A S L (V 0 3).toNat).2.2.2) ∧ Fr (BW at_) M0 N ∧ MTh N at_ V (M0.1 191 44) (M0.1 191 45) (btS V f (decide (M0.1 191 44 ≠ 1)) A S L (V 0 3).toNat).1 (btS V f (decide (M0.1 191 44 ≠ 1)) A S L (V 0 3).toNat).2.1 (btS V f (decide (M0.1 191 44 ≠ 1)) A S L (V 0 3).toNat).2.2.1 ∧ N.1 208 at_ = w32 (M0.1 208 at_ + 1) := by
      intro hs
      have h0 := hnn hs
      obtain ⟨-, r4, r5, r6⟩ : ¬ (M0.1 191 44 = 4 ∧ M0.1 191 45 = (t : Int)) ∧ _ := by
        rcases hT (t : Int) (by omega) (by omega) with h | h
        · exact absurd ⟨h.1, h.2.1⟩ hs
        · exact h
      unfold t_MO_beat_L34
      rw [w32_id (x := 8 * at_) (by unfold InR; omega), w32_id (x := 8 * at_ + (t : Int)) (by unfold InR; omega), qguard_pos ⟨by omega, by omega⟩, r4, (hN M hF).2 _ h0 hbr.2, obind_some]
      have hfr := hf _ h0 hbr.2
      by_cases ef : f (B.1 (t : Int)) < 0
      · rw [if_pos (by omega)]
        exact stay (by rw [if_neg (by omega), if_pos ef])
      rw [if_neg (by omega), e44]
      have e84 : ¬ (decide (M0.1 191 44 ≠ 1) = true ∧ fnd (fun a => B.1 (a : Int)) (f (B.1 (t : Int))) (V 0 3).toNat ≠ none) → ∃ N, t_MO_beat_L84 at_ (fun a0_ a1_ a2_ => t_MO_beat_L4 at_ g a0_ a1_ a2_) M B.2.2.2 (t : Int) (8 * at_ + (t : Int)) (f (B.1 (t : Int))) = some (N, (btS V f (decide (M0.1 191 44 ≠ 1)) A S L (V 0 3).toNat).2.2.2) ∧ Fr (BW at_) M0 N ∧ MTh N at_ V (M0.1 191 44) (M0.1 191 45) (btS V f (decide (M0.1 191 44 ≠ 1)) A S L (V 0 3).toNat).1 (btS V f (decide (M0.1 191 44 ≠ 1)) A S L (V 0 3).toNat).2.1 (btS V f (decide (M0.1 191 44 ≠ 1)) A S L (V 0 3).toNat).2.2.1 ∧ N.1 208 at_ = w32 (M0.1 208 at_ + 1) := by
        intro hw
        rw [if_neg (by omega), if_neg ef, if_neg hw] at ih2
        dsimp only at ih2
        unfold t_MO_beat_L84
        rw [qguard_pos ⟨by omega, by omega⟩, qguard_pos ⟨by omega, by omega⟩, r4, m_line (hN M hF).1 h0 (by omega) (by omega) (by omega), obind_some]
        have e113 : ∀ v9 : Int, v9 = lnV V (B.1 (t : Int)) (f (B.1 (t : Int))) → ∃ N, t_MO_beat_L113 at_ (fun a0_ a1_ a2_ => t_MO_beat_L4 at_ g a0_ a1_ a2_) M B.2.2.2 (t : Int) (8 * at_ + (t : Int)) (f (B.1 (t : Int))) (8 * at_ + (t : Int)) (M.1 215 (8 * at_ + (t : Int))) v9 = some (N, (btS V f (decide (M0.1 191 44 ≠ 1)) A S L (V 0 3).toNat).2.2.2) ∧ Fr (BW at_) M0 N ∧ MTh N at_ V (M0.1 191 44) (M0.1 191 45) (btS V f (decide (M0.1 191 44 ≠ 1)) A S L (V 0 3).toNat).1 (btS V f (decide (M0.1 191 44 ≠ 1)) A S L (V 0 3).toNat).2.1 (btS V f (decide (M0.1 191 44 ≠ 1)) A S L (V 0 3).toNat).2.2.1 ∧ N.1 208 at_ = w32 (M0.1 208 at_ + 1) := by
          intro v9 hv9
          unfold t_MO_beat_L113 t_MO_beat_L138
          simp only [qlet]
          rw [qguard_pos ⟨by omega, by omega⟩, qguard_pos ⟨by omega, by omega⟩, qguard_pos ⟨by omega, by omega⟩, qguard_pos ⟨by omega, by omega⟩, w32_succ (t := t) (by omega), w32_id (x := B.2.2.2 + 1) (by unfold InR; omega)]
          refine ih2 _ (by omega) (by omega) (((hF.setI (by unfold TW; omega)).setI (by unfold TW; omega)).setI (by unfold TW; omega)) (fun t' a b => ?_)
          by_cases e : t' = (t : Int)
          · subst e
            refine Or.inr ⟨hs, ?_, ?_, ?_⟩
            · rw [sI_self, upA_self]
            · rw [sI_ne (by omega), sI_self, upA_self, uI_ne _ _ (by omega), r5]
            · rw [sI_ne (by omega), sI_ne (by omega), sI_self, upA_self, r6, hv9]
          · rcases hT t' a b with h | ⟨h, h4, h5, h6⟩
            · exact Or.inl ⟨h.1, h.2.1, (upA_ne _ e).trans h.2.2⟩
            · refine Or.inr ⟨h, ?_, ?_, ?_⟩
              · rw [sI_ne (by omega), sI_ne (by omega), sI_ne (by omega), upA_ne _ e]; exact h4
              · rw [sI_ne (by omega), sI_ne (by omega), sI_ne (by omega), upA_ne _ e]; exact h5
              · rw [sI_ne (by omega), sI_ne (by omega), sI_ne (by omega), upA_ne _ e]; exact h6
        have hl := ln_rng V (B.1 (t : Int)) (f (B.1 (t : Int)))
        by_cases el : lnV V (B.1 (t : Int)) (f (B.1 (t : Int))) = 0
        · rw [if_pos el]; exact e113 0 el.symm
        · rw [if_neg el]; exact e113 1 (by omega)
      by_cases e1 : M0.1 191 44 = 1
      · rw [if_pos e1]
        exact e84 (fun q => absurd q.1 (by simp [e1]))
      · rw [if_neg e1, m_thingIn (A := B.1) (S := B.2.1) (L := B.2.2.1) ha hV (hN M hF).1 (by omega) (by rw [e44, e45]; exact hT), obind_some]
        cases en : fnd (fun a => B.1 (a : Int)) (f (B.1 (t : Int))) (V 0 3).toNat with
        | none => rw [if_pos (show fI none = -1 from rfl)]; exact e84 (fun q => q.2 en)
        | some a =>
          rw [if_neg (show ¬ fI (some a) = -1 by unfold fI; simp only []; omega)]
          exact stay (by rw [if_neg (by omega), if_neg ef, if_pos ⟨by simp [e1], by rw [en]; exact fun q => by cases q⟩])
    by_cases q4 : M0.1 191 44 = 4
    · rw [if_pos q4]
      by_cases q5 : M0.1 191 45 = (t : Int)
      · rw [if_pos q5]
        refine stay ?_
        rcases hT (t : Int) (by omega) (by omega) with h | h
        · rw [if_pos (by omega)]
        · exact absurd ⟨q4, q5⟩ h.1
      · rw [if_neg q5]; exact main (fun q => q5 q.2)
    · rw [if_neg q4]; exact main (fun q => q4 q.1)
theorem m_beat {M : Mem} {at_ C : Int} {V : TV} {f : Int → Int} {A S L : Int → Int} (ha : 0 ≤ at_ ∧ at_ < 23) (hV : VOK V) (hC : C ≤ 48) (hf : stepOK f C) (hA : ∀ t, 0 ≤ t → t < V 0 3 → -1 ≤ A t ∧ A t < C) (hA2 : ∀ t, 0 ≤ t → t < V 0 3 → ¬ (M.1 191 44 = 4 ∧ M.1 191 45 = t) → 0 ≤ A t)
    (hN : ∀ N, Fr (TW at_) M N → MT0 N V ∧ ∀ c, 0 ≤ c → c < C → t_MO_nextOf N at_ c = some (f c)) (hT : MTh M at_ V (M.1 191 44) (M.1 191 45) A S L) :
    ∃ N, t_MO_beat M at_ = some (N, (btS V f (decide (M.1 191 44 ≠ 1)) A S L (V 0 3).toNat).2.2.2) ∧ Fr (BW at_) M N ∧ MTh N at_ V (M.1 191 44) (M.1 191 45) (btS V f (decide (M.1 191 44 ≠ 1)) A S L (V 0 3).toNat).1 (btS V f (decide (M.1 191 44 ≠ 1)) A S L (V 0 3).toNat).2.1 (btS V f (decide (M.1 191 44 ≠ 1)) A S L (V 0 3).toNat).2.2.1 ∧ N.1 208 at_ = w32 (M.1 208 at_ + 1) :=
  m_beat_loop ha hV hC hf hA hA2 hN (V 0 3).toNat 0 FU M (by have := hV.1; omega) (fu_big (by have := hV.1; omega)) Fr.rf hT
