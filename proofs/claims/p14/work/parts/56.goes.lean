/-! ===== the reference's ways ===== -/
/-- the ward (by one more) into which the first line of the first n steps leads -/
def foV (V : TV) (f : Int → Int) (c : Int) : Nat → Int
  | 0 => -1
  | n + 1 => if lcV V f c n = 0 then (if lnV V (itr f c n) (itr f c (n + 1)) = 0 then foV V f c n else V 7 (itr f c (n + 1)) + 1) else foV V f c n
def wEnd (f : Int → Int) (c : Int) (r : Nat × Option Nat) : Int := match r.2 with | none => itr f c r.1 | some a => itr f c a
def wFirst (V : TV) (f : Int → Int) (c : Int) (r : Nat × Option Nat) : Int := match r.2 with | none => foV V f c r.1 | some _ => foV V f c (r.1 + 1)
def GoR (N : Mem) (V : TV) (f : Int → Int) (c : Int) (r : Nat × Option Nat) : Prop := N.1 191 46 = wAhead r ∧ N.1 191 48 = wRound r ∧ N.1 191 47 = wEnd f c r ∧ N.1 191 49 = wLines V f c r ∧ N.1 191 50 = wFirst V f c r
theorem m_goes_loop {M0 : Mem} {at_ : Int} {V : TV} {D A : Int → Int} {nets : Int64} {x2 c : Int} (hV : VOK V) (h0 : MT0 M0 V) (hm : MSc M0 at_ V D A nets) (hD : ∀ w, 0 ≤ w → w < V 0 2 → 0 ≤ D w ∧ D w ≤ 4) (ht : M0.1 191 44 = -1) (ha : 0 ≤ at_ ∧ at_ < 23) :
    ∀ (n i fu : Nat) (M : Mem), n + i = 48 → n < fu → Fr W_MO_goesFrom M0 M → wI (nxV V D nets (wlV V)) c i → (∀ a, a ≤ i → itr (nxV V D nets (wlV V)) c a < cellsV V) → (∀ a : Nat, a < i → M.1 219 (itr (nxV V D nets (wlV V)) c a) = (a : Int)) → (∀ x, 0 ≤ x → x < 48 → (∀ a : Nat, a < i → itr (nxV V D nets (wlV V)) c a ≠ x) → M.1 219 x = -1) → M.1 191 48 = 0 → M.1 191 49 = lcV V (nxV V D nets (wlV V)) c i → M.1 191 50 = foV V (nxV V D nets (wlV V)) c i →
      ∃ N, t_MO_goesFrom_L41 at_ x2 fu M (itr (nxV V D nets (wlV V)) c i) (i : Int) = some N ∧ Fr W_MO_goesFrom M0 N ∧ GoR N V (nxV V D nets (wlV V)) c (wS (nxV V D nets (wlV V)) c n i) := by
  have hC := hV.cells
  generalize hf : nxV V D nets (wlV V) = f at *
  intro n
  induction n with
  | zero => intro i fu M h1 _ _ hw; have := hw.lt; omega
  | succ n ih =>
    intro i fu M h1 h2 hF hw hlt hp hq h3 h4 h5
    obtain ⟨g, rfl⟩ : ∃ g, fu = g + 1 := ⟨fu - 1, by omega⟩
    have hi := hw.lt
    have hr := hw.1 i (Nat.le_refl _)
    have hl := hlt i (Nat.le_refl _)
    rw [t_MO_goesFrom_L41, qguard_pos ⟨hr.1, hr.2⟩]
    simp only [qlet]
    generalize hM8 : setI M 219 (itr f c i) (i : Int) = M8
    have hF8 : Fr W_MO_goesFrom M0 M8 := by rw [← hM8]; exact hF.setI (by unfold W_MO_goesFrom; omega)
    have c0 : MT0 M8 V := h0.fr hF8 (fun q j g1 g2 => by unfold W_MO_goesFrom; omega)
    have cc : MSc M8 at_ V D A nets := hm.fr hF8 (fun q j g1 => by unfold W_MO_goesFrom; omega)
    have ct : M8.1 191 44 = -1 := (hF8 191 44 (by unfold W_MO_goesFrom; omega)).1.trans ht
    have r48 : M8.1 191 48 = 0 := by rw [← hM8, sI_ne (by omega)]; exact h3
    have r49 : M8.1 191 49 = lcV V f c i := by rw [← hM8, sI_ne (by omega)]; exact h4
    have r50 : M8.1 191 50 = foV V f c i := by rw [← hM8, sI_ne (by omega)]; exact h5
    have rp : ∀ a : Nat, a < i + 1 → M8.1 219 (itr f c a) = (a : Int) := by
      intro a ha
      rw [← hM8]
      by_cases e : a = i
      · rw [e, sI_self]
      · rw [sI_ne (fun q => e (hw.2 a i (by omega) (Nat.le_refl _) q.2))]; exact hp a (by omega)
    have rq : ∀ x, 0 ≤ x → x < 48 → (∀ a : Nat, a < i + 1 → itr f c a ≠ x) → M8.1 219 x = -1 := by
      intro x x0 x1 hx
      rw [← hM8, sI_ne (fun q => hx i (by omega) q.2.symm)]
      exact hq x x0 x1 (fun a ha => hx a (by omega))
    have hst : itr f c (i + 1) = f (itr f c i) := rfl
    have hn := nx_rng hV D nets (wlV V) hr.1 hl
    rw [hf, ← hst] at hn
    rw [m_next c0 hV cc hD ct ha hr.1 hl, hf, obind_some, ← hst, wS]
    by_cases e0 : itr f c (i + 1) < 0
    · rw [if_pos (by omega), if_pos e0]
      refine ⟨_, rfl, (hF8.setI (by unfold W_MO_goesFrom; omega)).setI (by unfold W_MO_goesFrom; omega), ?_, ?_, ?_, ?_, ?_⟩
      · rw [sI_ne (by omega), sI_self]; rfl
      · rw [sI_ne (by omega), sI_ne (by omega), r48]; rfl
      · rw [sI_self]; rfl
      · rw [sI_ne (by omega), sI_ne (by omega), r49]; rfl
      · rw [sI_ne (by omega), sI_ne (by omega), r50]; rfl
    · rw [if_neg (by omega), if_neg e0, m_line c0 hr.1 (by omega) (by omega) (by omega), obind_some]
      have lnr := ln_rng V (itr f c i) (itr f c (i + 1))
      have go : ∀ M9 : Mem, Fr W_MO_goesFrom M0 M9 → M9.1 191 48 = 0 → M9.1 191 49 = lcV V f c (i + 1) → M9.1 191 50 = foV V f c (i + 1) → (∀ a : Nat, a < i + 1 → M9.1 219 (itr f c a) = (a : Int)) → (∀ x, 0 ≤ x → x < 48 → (∀ a : Nat, a < i + 1 → itr f c a ≠ x) → M9.1 219 x = -1) → ∃ N, t_MO_goesFrom_L113 at_ x2 (fun a0_ a1_ a2_ => t_MO_goesFrom_L41 at_ x2 g a0_ a1_ a2_) M9 (i : Int) (itr f c (i + 1)) = some N ∧ Fr W_MO_goesFrom M0 N ∧ GoR N V f c (match fnd (itr f c) (itr f c (i + 1)) (i + 1) with | some a => (i, some a) | none => wS f c n (i + 1)) := by
        intro M9 hF9 q48 q49 q50 qp qq
        unfold t_MO_goesFrom_L113
        rw [qguard_pos ⟨by omega, by omega⟩]
        cases ef : fnd (itr f c) (itr f c (i + 1)) (i + 1) with
        | some a =>
          have hfs := fnd_some ef
          have hsa : M9.1 219 (itr f c (i + 1)) = (a : Int) := by rw [← hfs.2.1]; exact qp a hfs.1
          rw [hsa, if_neg (by omega), qguard_pos ⟨by omega, by omega⟩]
          simp only [qlet]
          rw [qguard_pos ⟨by omega, by omega⟩]
          have u : uI M9.1 191 46 (a : Int) 219 (itr f c (i + 1)) = (a : Int) := by rw [uI_ne _ _ (by omega)]; exact hsa
          rw [u, w32_id (x := (i : Int) + 1) (by unfold InR; omega), w32_id (x := (i : Int) + 1 - (a : Int)) (by unfold InR; omega)]
          refine ⟨_, rfl, ((hF9.setI (by unfold W_MO_goesFrom; omega)).setI (by unfold W_MO_goesFrom; omega)).setI (by unfold W_MO_goesFrom; omega), ?_, ?_, ?_, ?_, ?_⟩
          · rw [sI_ne (by omega), sI_ne (by omega), sI_self]; rfl
          · rw [sI_ne (by omega), sI_self]; rfl
          · rw [sI_self]; exact hfs.2.1.symm
          · rw [sI_ne (by omega), sI_ne (by omega), sI_ne (by omega), q49]; rfl
          · rw [sI_ne (by omega), sI_ne (by omega), sI_ne (by omega), q50]; rfl
        | none =>
          have hfn := fnd_none ef
          rw [qq _ (by omega) (by omega) (fun a ha => hfn a ha), if_pos rfl, w32_id (x := (i : Int) + 1) (by unfold InR; omega)]
          have hi2 : ((i : Int) + 1) = ((i + 1 : Nat) : Int) := by omega
          rw [hi2]
          exact ih (i + 1) g M9 (by omega) (by omega) hF9 (hw.next (by omega) (by omega) ef) (fun a ha => by
            by_cases ea : a = i + 1
            · rw [ea]; omega
            · exact hlt a (by omega)) qp qq q48 q49 q50
      have hlc := lc_rng V f c i
      by_cases el : lnV V (itr f c i) (itr f c (i + 1)) = 0
      · rw [if_pos el]
        refine go M8 hF8 r48 (by rw [r49, lcV, el]; omega) ?_ rp rq
        rw [r50, foV]
        by_cases e2 : lcV V f c i = 0
        · rw [if_pos e2, if_pos el]
        · rw [if_neg e2]
      · have up : ∀ M9 : Mem, Fr W_MO_goesFrom M0 M9 → M9.1 191 48 = 0 → M9.1 191 49 = lcV V f c i → M9.1 191 50 = foV V f c (i + 1) → (∀ a : Nat, a < i + 1 → M9.1 219 (itr f c a) = (a : Int)) → (∀ x, 0 ≤ x → x < 48 → (∀ a : Nat, a < i + 1 → itr f c a ≠ x) → M9.1 219 x = -1) → ∃ N, t_MO_goesFrom_L103 at_ x2 (fun a0_ a1_ a2_ => t_MO_goesFrom_L41 at_ x2 g a0_ a1_ a2_) M9 (i : Int) (itr f c (i + 1)) = some N ∧ Fr W_MO_goesFrom M0 N ∧ GoR N V f c (match fnd (itr f c) (itr f c (i + 1)) (i + 1) with | some a => (i, some a) | none => wS f c n (i + 1)) := by
          intro M9 hF9 q48 q49 q50 qp qq
          unfold t_MO_goesFrom_L103
          simp only [qlet]
          rw [q49, w32_id (by unfold InR; omega)]
          refine go _ (hF9.setI (by unfold W_MO_goesFrom; omega)) ?_ ?_ ?_ (fun a h9 => ?_) (fun x x0 x1 hx => ?_)
          · rw [sI_ne (by omega)]; exact q48
          · rw [sI_self, lcV]; omega
          · rw [sI_ne (by omega)]; exact q50
          · rw [sI_ne (by omega)]; exact qp a h9
          · rw [sI_ne (by omega)]; exact qq x x0 x1 hx
        have r49u : uI M.1 219 (itr f c i) (i : Int) 191 49 = lcV V f c i := by rw [uI_ne _ _ (by omega)]; exact h4
        rw [if_neg el, r49u]
        by_cases e2 : lcV V f c i = 0
        · rw [if_pos e2, qguard_pos ⟨by omega, by omega⟩]
          have o : uI M.1 219 (itr f c i) (i : Int) 197 (itr f c (i + 1)) = V 7 (itr f c (i + 1)) + 1 := by
            rw [uI_ne _ _ (by omega)]
            have o := (c0.2.2.2 (itr f c (i + 1)) (by omega) (by omega)).1
            rw [← hM8, sI_ne (by omega)] at o; exact o
          rw [o]
          refine up _ (hF8.setI (by unfold W_MO_goesFrom; omega)) ?_ ?_ ?_ (fun a h9 => ?_) (fun x x0 x1 hx => ?_)
          · rw [sI_ne (by omega)]; exact r48
          · rw [sI_ne (by omega)]; exact r49
          · rw [sI_self, foV, if_pos e2, if_neg el]
          · rw [sI_ne (by omega)]; exact rp a h9
          · rw [sI_ne (by omega)]; exact rq x x0 x1 hx
        · rw [if_neg e2]
          exact up M8 hF8 r48 r49 (by rw [r50, foV, if_neg e2]) rp rq
theorem m_goes_clear {M0 : Mem} {at_ x2 : Int} : ∀ (n fu : Nat) (M : Mem) (v : Int), 0 ≤ v → v + (n : Int) = 48 → n < fu → Fr W_MO_goesFrom M0 M → (∀ x, 0 ≤ x → x < v → M.1 219 x = -1) → ∃ N, t_MO_goesFrom_L2 at_ x2 fu M v = t_MO_goesFrom_L41 at_ x2 FU N x2 0 ∧ Fr W_MO_goesFrom M0 N ∧ (∀ x, 0 ≤ x → x < 48 → N.1 219 x = -1) ∧ N.1 191 48 = 0 ∧ N.1 191 49 = 0 ∧ N.1 191 50 = -1 := by
  intro n
  induction n with
  | zero =>
    intro fu M v h0 h1 h2 hF hx
    obtain ⟨g, rfl⟩ : ∃ g, fu = g + 1 := ⟨fu - 1, by omega⟩
    rw [t_MO_goesFrom_L2, if_pos (by omega)]
    simp only [qlet]
    refine ⟨_, rfl, ((hF.setI (by unfold W_MO_goesFrom; omega)).setI (by unfold W_MO_goesFrom; omega)).setI (by unfold W_MO_goesFrom; omega), fun x x0 x1 => ?_, ?_, ?_, ?_⟩
    · rw [sI_ne (by omega), sI_ne (by omega), sI_ne (by omega)]; exact hx x x0 (by omega)
    · rw [sI_self]
    · rw [sI_ne (by omega), sI_ne (by omega), sI_self]
    · rw [sI_ne (by omega), sI_self]
  | succ n ih =>
    intro fu M v h0 h1 h2 hF hx
    obtain ⟨g, rfl⟩ : ∃ g, fu = g + 1 := ⟨fu - 1, by omega⟩
    rw [t_MO_goesFrom_L2, if_neg (by omega), qguard_pos ⟨h0, by omega⟩]
    simp only [qlet]
    rw [w32_id (x := v + 1) (by unfold InR; omega)]
    refine ih g _ (v + 1) (by omega) (by omega) (by omega) (hF.setI (by unfold W_MO_goesFrom; omega)) (fun x x0 x1 => ?_)
    by_cases e : x = v
    · rw [e, sI_self]
    · rw [sI_ne (by omega)]; exact hx x x0 (by omega)
theorem m_goes {M : Mem} {at_ : Int} {V : TV} {D A : Int → Int} {nets : Int64} {c : Int} (hV : VOK V) (h0 : MT0 M V) (hm : MSc M at_ V D A nets) (hD : ∀ w, 0 ≤ w → w < V 0 2 → 0 ≤ D w ∧ D w ≤ 4) (ht : M.1 191 44 = -1) (ha : 0 ≤ at_ ∧ at_ < 23) (c0 : 0 ≤ c) (c1 : c < cellsV V) :
    ∃ N, t_MO_goesFrom M at_ c = some N ∧ Fr W_MO_goesFrom M N ∧ GoR N V (nxV V D nets (wlV V)) c (wayS (nxV V D nets (wlV V)) c) := by
  have hC := hV.cells
  unfold t_MO_goesFrom
  obtain ⟨N, a1, a2, a3, a4, a5, a6⟩ := m_goes_clear (M0 := M) (at_ := at_) (x2 := c) 48 FU M 0 (by decide) (by decide) (fu_big (by omega)) Fr.rf (fun x x0 x1 => by omega)
  rw [a1]
  exact m_goes_loop hV h0 hm hD ht ha 48 0 FU N (by omega) (fu_big (by omega)) a2 (wI0 c0 (by omega)) (fun a h => by
    have : a = 0 := by omega
    subst this
    exact c1) (fun a h => by omega) (fun x x0 x1 _ => a3 x x0 x1) a4 (by rw [a5]; rfl) (by rw [a6]; rfl)
