/-! ===== fits: what is to come out, and the reference's side ===== -/
def kmS (b n : Int) : Int := if b = -1 then n else b
/-- struck ones: notes m - 1, .., 0 are looked at -/
def skS (I F : Int → Int) : Nat → (Int → Bool) → Int → Bool
  | 0, s => s
  | m + 1, s => skS I F m (if s (m : Int) = false ∧ ¬ I (m : Int) = 0 then (fun x => if x = F (m : Int) then true else s x) else s)
abbrev wyOK (f : Int → Int) (c t : Int) : Prop := if t = -1 then ¬ wRound (wayS f c) = 0 else wRound (wayS f c) ≤ 0 ∧ wEnd f c (wayS f c) = t
def foS (f F T I : Int → Int) (s : Int → Bool) : Nat → Bool
  | 0 => true
  | n + 1 => foS f F T I s n && decide (s (n : Int) = true ∨ ¬ I (n : Int) = 0 ∨ wyOK f (F (n : Int)) (T (n : Int)))
theorem foS_mono {f F T I : Int → Int} {s : Int → Bool} : ∀ {n m : Nat}, n ≤ m → foS f F T I s n = false → foS f F T I s m = false := by
  intro n m h e
  induction m with
  | zero => rw [show n = 0 by omega] at e; exact e
  | succ m ih =>
    by_cases q : n = m + 1
    · rw [← q]; exact e
    · rw [foS, ih (by omega)]; rfl
/-- the notes' rows -/
abbrev ntF (M : Mem) : Int → Int := fun k => M.1 226 k
abbrev ntT (M : Mem) : Int → Int := fun k => M.1 227 k
abbrev ntI (M : Mem) : Int → Int := fun k => M.1 228 k
def dgV : Nat → Int → Int
  | 0, x => q_rem x 5
  | n + 1, x => dgV n (q_div x 5)
def dcV (code : Int) : Int → Int := fun w => dgV w.toNat code
def p5 : Nat → Int
  | 0 => 1
  | n + 1 => p5 n * 5
def fcS (t : Int → Bool) : Nat → Int
  | 0 => 0
  | n + 1 => fcS t n + (if t (n : Int) = true then 1 else 0)
def fmS (t : Int → Bool) (w : Int) : Nat → Int
  | 0 => 0
  | n + 1 => if t (n : Int) = true then q_or (fmS t w n) (q_shl 1 (dcV (n : Int) w)) else fmS t w n
theorem fcS_rng (t : Int → Bool) : ∀ n : Nat, 0 ≤ fcS t n ∧ fcS t n ≤ (n : Int) := by
  intro n
  induction n with
  | zero => rw [fcS]; omega
  | succ n ih => rw [fcS]; split <;> omega
theorem q5 {x : Int} (h0 : 0 ≤ x) (h1 : x < 1000000) : q_rem x 5 = x % 5 ∧ q_div x 5 = x / 5 := ⟨q_rem_nn (by unfold InR; omega) (by unfold InR; omega) h0 (by omega), q_div_nn (by unfold InR; omega) (by unfold InR; omega) h0 (by omega)⟩
theorem dg_rng : ∀ (n : Nat) (x : Int), 0 ≤ x → x < 1000000 → 0 ≤ dgV n x ∧ dgV n x ≤ 4 := by
  intro n
  induction n with
  | zero => intro x h0 h1; rw [dgV, (q5 h0 h1).1]; omega
  | succ n ih => intro x h0 h1; rw [dgV, (q5 h0 h1).2]; exact ih _ (by omega) (by omega)
theorem p5_rng {n : Int} (h0 : 0 ≤ n) (h1 : n ≤ 4) : 1 ≤ p5 n.toNat ∧ p5 n.toNat ≤ 625 := by
  obtain ⟨k, rfl⟩ : ∃ k : Nat, n = (k : Int) := ⟨n.toNat, by omega⟩
  rw [Int.toNat_natCast]
  have hk : k = 0 ∨ k = 1 ∨ k = 2 ∨ k = 3 ∨ k = 4 := by omega
  rcases hk with rfl | rfl | rfl | rfl | rfl <;> decide
def LF : Nat → Int → Prop := fun k j => W_MO_goesFrom k j ∨ CW 1 k j ∨ (k = 191 ∧ j = 66) ∨ k = 229 ∨ k = 230
theorem LF_RIc : ∀ k j, RIc k j → ¬ LF k j := by
  intro k j a q
  unfold RIc at a
  unfold LF W_MO_goesFrom CW at q
  omega
theorem m_known {M : Mem} {V : TV} (h : RI M V) : t_MO_knownMany M = kmS (M.1 191 61) (M.1 191 60) ∧ 0 ≤ kmS (M.1 191 61) (M.1 191 60) ∧ kmS (M.1 191 61) (M.1 191 60) ≤ 24 ∧ kmS (M.1 191 61) (M.1 191 60) ≤ M.1 191 60 := by
  have hn := h.2.2.2.2.2
  unfold NotesOK at hn
  unfold t_MO_knownMany kmS
  split <;> omega
theorem m_fitsBy_loop {M0 : Mem} {V : TV} {D A : Int → Int} {nets : Int64} {s : Int → Bool} (h : RI M0 V) (hm : MSc M0 1 V D A nets) (hD : ∀ w, 0 ≤ w → w < V 0 2 → 0 ≤ D w ∧ D w ≤ 4) (hs : ∀ k, 0 ≤ k → k < kmS (M0.1 191 61) (M0.1 191 60) → M0.1 229 k = if s k = true then 1 else 0) : ∀ (n k fu : Nat) (M : Mem), (k : Int) + (n : Int) = kmS (M0.1 191 61) (M0.1 191 60) → n < fu → Fr W_MO_goesFrom M0 M → foS (nxV V D nets (wlV V)) (ntF M0) (ntT M0) (ntI M0) s k = true →
    ∃ N, t_MO_fitsBy_L2 1 fu M (k : Int) = some (N, if foS (nxV V D nets (wlV V)) (ntF M0) (ntT M0) (ntI M0) s (kmS (M0.1 191 61) (M0.1 191 60)).toNat = true then 1 else 0) ∧ Fr W_MO_goesFrom M0 N := by
  have hk0 := (m_known h).2
  intro n
  induction n with
  | zero =>
    intro k fu M g0 g1 hF e
    obtain ⟨g, rfl⟩ : ∃ g, fu = g + 1 := ⟨fu - 1, by omega⟩
    have hM : RI M V := h.goesFr hF
    have e60 : M.1 191 60 = M0.1 191 60 := (hF 191 60 (by unfold W_MO_goesFrom; omega)).1
    have e61 : M.1 191 61 = M0.1 191 61 := (hF 191 61 (by unfold W_MO_goesFrom; omega)).1
    rw [t_MO_fitsBy_L2]
    simp only [qlet]
    rw [(m_known hM).1, e60, e61, if_pos (by omega), show (kmS (M0.1 191 61) (M0.1 191 60)).toNat = k by omega, if_pos e]
    exact ⟨M, rfl, hF⟩
  | succ n ih =>
    intro k fu M g0 g1 hF e
    obtain ⟨g, rfl⟩ : ∃ g, fu = g + 1 := ⟨fu - 1, by omega⟩
    have hM : RI M V := h.goesFr hF
    have hmM : MSc M 1 V D A nets := hm.fr hF (fun q j x y => by unfold W_MO_goesFrom at y; omega)
    have fr : ∀ (q : Nat) (j : Int), (q = 226 ∨ q = 227 ∨ q = 228 ∨ q = 229 ∨ (q = 191 ∧ (j = 60 ∨ j = 61))) → M.1 q j = M0.1 q j := fun q j hq => (hF q j (by unfold W_MO_goesFrom; omega)).1
    have nx := fun N (q : Fr W_MO_goesFrom M0 N) (e2 : foS (nxV V D nets (wlV V)) (ntF M0) (ntT M0) (ntI M0) s (k + 1) = true) => ih (k + 1) g N (by omega) (by omega) q e2
    have hn := h.2.2.2.2.2.2.2.2.2 (k : Int) (by omega) (by omega)
    have hC := h.1.1.cells
    have gd : 0 ≤ (k : Int) ∧ (k : Int) < 24 := by omega
    have yes : foS (nxV V D nets (wlV V)) (ntF M0) (ntT M0) (ntI M0) s (k + 1) = true → ∀ N, Fr W_MO_goesFrom M0 N → ∃ O, t_MO_fitsBy_L84 1 (fun a0_ a1_ => t_MO_fitsBy_L2 1 g a0_ a1_) N (k : Int) = some (O, if foS (nxV V D nets (wlV V)) (ntF M0) (ntT M0) (ntI M0) s (kmS (M0.1 191 61) (M0.1 191 60)).toNat = true then 1 else 0) ∧ Fr W_MO_goesFrom M0 O := by
      intro e2 N q
      unfold t_MO_fitsBy_L84
      rw [w32_succ (by omega)]
      exact nx N q e2
    have no : foS (nxV V D nets (wlV V)) (ntF M0) (ntT M0) (ntI M0) s (k + 1) = false → ∀ N, Fr W_MO_goesFrom M0 N → ∃ O, (some (N, (0 : Int)) : Option (Mem × Int)) = some (O, if foS (nxV V D nets (wlV V)) (ntF M0) (ntT M0) (ntI M0) s (kmS (M0.1 191 61) (M0.1 191 60)).toNat = true then 1 else 0) ∧ Fr W_MO_goesFrom M0 O := by
      intro e2 N q
      rw [foS_mono (n := k + 1) (by omega) e2, if_neg (by decide)]
      exact ⟨N, rfl, q⟩
    have hfo : foS (nxV V D nets (wlV V)) (ntF M0) (ntT M0) (ntI M0) s (k + 1) = decide (s (k : Int) = true ∨ ¬ ntI M0 (k : Int) = 0 ∨ wyOK (nxV V D nets (wlV V)) (ntF M0 (k : Int)) (ntT M0 (k : Int))) := by rw [foS, e, Bool.true_and]
    rw [t_MO_fitsBy_L2]
    simp only [qlet]
    rw [(m_known hM).1, fr 191 60 (by omega), fr 191 61 (by omega), if_neg (by omega), qguard_pos gd, qguard_pos gd, fr 229 _ (by omega), fr 228 _ (by omega), hs (k : Int) (by omega) (by omega)]
    cases es : s (k : Int) with
    | true =>
      rw [if_pos rfl, if_neg (by decide)]
      exact yes (by rw [hfo, es]; simp) M hF
    | false =>
      rw [if_pos (show (if false = true then (1 : Int) else 0) = 0 from rfl)]
      by_cases ei : M0.1 228 (k : Int) = 0
      · rw [if_pos ei, qguard_pos gd, fr 226 _ (by omega)]
        obtain ⟨-, f0, f1, f2, f3⟩ : M0.1 228 (k : Int) = 0 ∧ 0 ≤ M0.1 226 (k : Int) ∧ M0.1 226 (k : Int) < cellsV V ∧ V 8 (M0.1 226 (k : Int)) = 0 ∧ (M0.1 227 (k : Int) = -1 ∨ (0 ≤ M0.1 227 (k : Int) ∧ M0.1 227 (k : Int) < cellsV V)) := by
          rcases hn with q | q
          · exact q
          · omega
        obtain ⟨N, n1, n2, n3⟩ := m_goes hM.1.1 hM.1.2.1 hmM hD hM.2.1 (by omega) f0 f1
        have hFN := hF.trans n2
        have e227 : N.1 227 (k : Int) = M0.1 227 (k : Int) := (hFN 227 _ (by unfold W_MO_goesFrom; omega)).1
        rw [n1, obind_some, qguard_pos gd, e227, n3.2.1, n3.2.2.1, qguard_pos gd]
        have hd : foS (nxV V D nets (wlV V)) (ntF M0) (ntT M0) (ntI M0) s (k + 1) = decide (wyOK (nxV V D nets (wlV V)) (M0.1 226 (k : Int)) (M0.1 227 (k : Int))) := by
          rw [hfo, es]
          have : ntI M0 (k : Int) = 0 := ei
          simp [this]
        by_cases et : M0.1 227 (k : Int) = -1
        · rw [if_pos et]
          by_cases er : wRound (wayS (nxV V D nets (wlV V)) (M0.1 226 (k : Int))) = 0
          · rw [if_pos er]
            exact no (by rw [hd]; exact decide_eq_false (by unfold wyOK; rw [if_pos et]; exact fun q => q er)) N hFN
          · rw [if_neg er]
            exact yes (by rw [hd]; exact decide_eq_true (by unfold wyOK; rw [if_pos et]; exact er)) N hFN
        · rw [if_neg et]
          by_cases er : 0 < wRound (wayS (nxV V D nets (wlV V)) (M0.1 226 (k : Int)))
          · rw [if_pos er]
            exact no (by rw [hd]; exact decide_eq_false (by unfold wyOK; rw [if_neg et]; exact fun q => by omega)) N hFN
          · rw [if_neg er]
            by_cases ee : wEnd (nxV V D nets (wlV V)) (M0.1 226 (k : Int)) (wayS (nxV V D nets (wlV V)) (M0.1 226 (k : Int))) = M0.1 227 (k : Int)
            · rw [if_pos ee]
              exact yes (by rw [hd]; exact decide_eq_true (by unfold wyOK; rw [if_neg et]; exact ⟨by omega, ee⟩)) N hFN
            · rw [if_neg ee]
              exact no (by rw [hd]; exact decide_eq_false (by unfold wyOK; rw [if_neg et]; exact fun q => ee q.2)) N hFN
      · rw [if_neg ei]
        exact yes (by rw [hfo]; exact decide_eq_true (Or.inr (Or.inl ei))) M hF
theorem m_fitsBy {M : Mem} {V : TV} {D A : Int → Int} {nets : Int64} {s : Int → Bool} (h : RI M V) (hm : MSc M 1 V D A nets) (hD : ∀ w, 0 ≤ w → w < V 0 2 → 0 ≤ D w ∧ D w ≤ 4) (hs : ∀ k, 0 ≤ k → k < kmS (M.1 191 61) (M.1 191 60) → M.1 229 k = if s k = true then 1 else 0) :
    ∃ N, t_MO_fitsBy M 1 = some (N, if foS (nxV V D nets (wlV V)) (ntF M) (ntT M) (ntI M) s (kmS (M.1 191 61) (M.1 191 60)).toNat = true then 1 else 0) ∧ Fr W_MO_goesFrom M N :=
  m_fitsBy_loop h hm hD hs (kmS (M.1 191 61) (M.1 191 60)).toNat 0 FU M (by have := (m_known h).2; omega) (fu_big (by have := (m_known h).2; omega)) Fr.rf rfl
/-- what one code's test asks -/
def ftS (V : TV) (nets : Int64) (F T I : Int → Int) (s : Int → Bool) (km : Int) (code : Int) : Bool := foS (nxV V (dcV code) nets (wlV V)) F T I s km.toNat
theorem m_layFits_L181 {bk : Mem → Int → Int → Option Mem} {V : TV} {v1 v2 : Int} (h2 : 0 ≤ v2 ∧ v2 < 100000) : ∀ (n fu : Nat) (M : Mem) (w : Int), w + (n : Int) = V 0 2 → 0 ≤ w → n < fu → RI M V →
    ∃ N, t_MO_layFits_L181 bk fu M v1 v2 w = bk N v1 (v2 + 1) ∧ Fr (fun k j => k = 230) M N ∧ ∀ x, 0 ≤ x → x < V 0 2 → N.1 230 x = if w ≤ x then q_or (M.1 230 x) (q_shl 1 (M.1 212 (4 * 1 + x))) else M.1 230 x := by
  intro n
  induction n with
  | zero =>
    intro fu M w g0 g1 g2 h
    obtain ⟨g, rfl⟩ : ∃ g, fu = g + 1 := ⟨fu - 1, by omega⟩
    rw [t_MO_layFits_L181, h.1.2.1.1.2.2.1, if_pos (by omega)]
    unfold t_MO_layFits_L219
    rw [w32_id (x := v2 + 1) (by unfold InR; omega)]
    exact ⟨M, rfl, Fr.rf, fun x a b => by rw [if_neg (by omega)]⟩
  | succ n ih =>
    intro fu M w g0 g1 g2 h
    obtain ⟨g, rfl⟩ : ∃ g, fu = g + 1 := ⟨fu - 1, by omega⟩
    have hv := h.1.1.1
    rw [t_MO_layFits_L181, h.1.2.1.1.2.2.1, if_neg (by omega), w32_id (x := 4 + w) (by unfold InR; omega), w32_id (x := w + 1) (by unfold InR; omega), qguard_pos ⟨by omega, by omega⟩, qguard_pos ⟨by omega, by omega⟩, qguard_pos ⟨by omega, by omega⟩]
    simp only [qlet]
    have hF : Fr (fun k (j : Int) => k = 230) M (setI M 230 w (q_or (M.1 230 w) (q_shl 1 (M.1 212 (4 + w))))) := Fr.rf.setI rfl
    obtain ⟨N, n1, n2, n3⟩ := ih g _ (w + 1) (by omega) (by omega) (by omega) (h.fr hF (fun k j a q => by unfold RIc at a; omega))
    refine ⟨N, n1, hF.trans n2, fun x a b => ?_⟩
    rw [n3 x a b, (hF 212 _ (by omega)).1]
    by_cases e : x = w
    · subst e; rw [if_neg (by omega), if_pos (by omega), sI_self, show 4 * 1 + x = 4 + x by omega]
    · rw [sI_ne (by omega)]
      by_cases e2 : w ≤ x
      · rw [if_pos (by omega), if_pos e2]
      · rw [if_neg (by omega), if_neg e2]
/-- what stays while codes are tried -/
def RwF (M : Mem) (V : TV) (nets : Int64) (s : Int → Bool) (km : Int) : Prop := M.2 210 1 = nets ∧ ∀ k, 0 ≤ k → k < km → M.1 229 k = if s k = true then 1 else 0
theorem m_layFits_L124 {bk : Mem → Int → Int → Option Mem} {V : TV} {v1 v2 : Int} (h2 : 0 ≤ v2 ∧ v2 < 100000) : ∀ (n w fu : Nat) (M : Mem) (r : Int), (w : Int) + (n : Int) = V 0 2 → n < fu → 0 ≤ r → r < 100000 → RI M V → (∀ x : Nat, dgV x r = dgV (w + x) v2) → (∀ x, 0 ≤ x → x < (w : Int) → M.1 212 (4 * 1 + x) = dcV v2 x) →
    ∃ N, t_MO_layFits_L124 bk fu M v1 v2 r (w : Int) = (obind (t_MO_fitsBy N 1) fun q29 => (if (q29.2) = 0 then (t_MO_layFits_L219 bk (q29.1) v1 v2) else (qlet (setI (q29.1) 191 66 (w32 (((q29.1).1 191 66) + 1))) fun M33 => (t_MO_layFits_L181 bk FU M33 v1 v2 0)))) ∧ Fr (fun k j => k = 212 ∧ 4 ≤ j ∧ j < 8) M N ∧ ∀ x, 0 ≤ x → x < V 0 2 → N.1 212 (4 * 1 + x) = dcV v2 x := by
  intro n
  induction n with
  | zero =>
    intro w fu M r g0 g1 g2 g3 h hd hx
    obtain ⟨g, rfl⟩ : ∃ g, fu = g + 1 := ⟨fu - 1, by omega⟩
    rw [t_MO_layFits_L124, h.1.2.1.1.2.2.1, if_pos (by omega)]
    exact ⟨M, rfl, Fr.rf, fun x a b => hx x a (by omega)⟩
  | succ n ih =>
    intro w fu M r g0 g1 g2 g3 h hd hx
    obtain ⟨g, rfl⟩ : ∃ g, fu = g + 1 := ⟨fu - 1, by omega⟩
    have hv := h.1.1.1
    have hq := q5 g2 (by omega)
    rw [t_MO_layFits_L124, h.1.2.1.1.2.2.1, if_neg (by omega), w32_id (x := 4 + (w : Int)) (by unfold InR; omega), w32_succ (by omega), qguard_pos ⟨by omega, by omega⟩]
    simp only [qlet]
    have hF : Fr (fun k j => k = 212 ∧ 4 ≤ j ∧ j < 8) M (setI M 212 (4 + (w : Int)) (q_rem r 5)) := Fr.rf.setI ⟨rfl, by omega, by omega⟩
    obtain ⟨N, n1, n2, n3⟩ := ih (w + 1) g _ (q_div r 5) (by omega) (by omega) (by rw [hq.2]; omega) (by rw [hq.2]; omega) (h.fr hF (fun k j a q => by unfold RIc at a; omega)) (fun x => by
      have := hd (x + 1)
      rw [dgV] at this
      rw [this, show w + (x + 1) = w + 1 + x by omega]) (fun x a b => by
      by_cases e : x = (w : Int)
      · subst e
        rw [show 4 * 1 + (w : Int) = 4 + (w : Int) by omega, sI_self]
        have := hd 0
        rw [dgV, Nat.add_zero] at this
        unfold dcV
        rw [Int.toNat_natCast]
        exact this
      · rw [sI_ne (by omega)]; exact hx x a (by omega))
    exact ⟨N, n1, hF.trans n2, n3⟩
theorem m_layFits_L114 {V : TV} {M0 : Mem} {s : Int → Bool} {all : Nat} (h : RI M0 V) (hall : all ≤ 625) : ∀ (n code fu : Nat) (M : Mem), code + n = all → n < fu → Fr LF M0 M → RwF M V (M0.2 210 0) s (kmS (M0.1 191 61) (M0.1 191 60)) → M.1 191 66 = fcS (ftS V (M0.2 210 0) (ntF M0) (ntT M0) (ntI M0) s (kmS (M0.1 191 61) (M0.1 191 60))) code → (∀ w, 0 ≤ w → w < V 0 2 → M.1 230 w = fmS (ftS V (M0.2 210 0) (ntF M0) (ntT M0) (ntI M0) s (kmS (M0.1 191 61) (M0.1 191 60))) w code) →
    ∃ N, t_MO_layFits_L114 fu M (all : Int) (code : Int) = some N ∧ Fr LF M0 N ∧ N.1 191 66 = fcS (ftS V (M0.2 210 0) (ntF M0) (ntT M0) (ntI M0) s (kmS (M0.1 191 61) (M0.1 191 60))) all ∧ (∀ w, 0 ≤ w → w < V 0 2 → N.1 230 w = fmS (ftS V (M0.2 210 0) (ntF M0) (ntT M0) (ntI M0) s (kmS (M0.1 191 61) (M0.1 191 60))) w all) := by
  have hv := h.1.1.1
  intro n
  induction n with
  | zero =>
    intro code fu M g0 g1 hF hR h66 h230
    obtain ⟨g, rfl⟩ : ∃ g, fu = g + 1 := ⟨fu - 1, by omega⟩
    rw [t_MO_layFits_L114, if_pos (by omega), show all = code by omega]
    exact ⟨M, rfl, hF, h66, h230⟩
  | succ n ih =>
    intro code fu M g0 g1 hF hR h66 h230
    obtain ⟨g, rfl⟩ : ∃ g, fu = g + 1 := ⟨fu - 1, by omega⟩
    have hM : RI M V := h.fr hF LF_RIc
    have hfc := fcS_rng (ftS V (M0.2 210 0) (ntF M0) (ntT M0) (ntI M0) s (kmS (M0.1 191 61) (M0.1 191 60))) code
    rw [t_MO_layFits_L114, if_neg (by omega)]
    obtain ⟨N, n1, n2, n3⟩ := m_layFits_L124 (bk := fun a0_ a1_ a2_ => t_MO_layFits_L114 g a0_ a1_ a2_) (v1 := (all : Int)) (v2 := (code : Int)) (by omega) (V 0 2).toNat 0 FU M (code : Int) (by omega) (fu_big (by omega)) (by omega) (by omega) hM (fun x => by rw [Nat.zero_add]) (fun x a b => by omega)
    rw [show ((0 : Nat) : Int) = 0 from rfl] at n1
    rw [n1]
    have hFN : Fr LF M0 N := hF.trans (n2.mono (fun k j q => Or.inr (Or.inl (by unfold CW; omega))))
    have hN : RI N V := h.fr hFN LF_RIc
    have e60 : N.1 191 60 = M0.1 191 60 := (hFN 191 60 (by unfold LF W_MO_goesFrom CW; omega)).1
    have e61 : N.1 191 61 = M0.1 191 61 := (hFN 191 61 (by unfold LF W_MO_goesFrom CW; omega)).1
    have eF : ntF N = ntF M0 := funext fun k => (hFN 226 k (by unfold LF W_MO_goesFrom CW; omega)).1
    have eT : ntT N = ntT M0 := funext fun k => (hFN 227 k (by unfold LF W_MO_goesFrom CW; omega)).1
    have eI : ntI N = ntI M0 := funext fun k => (hFN 228 k (by unfold LF W_MO_goesFrom CW; omega)).1
    have hnet : N.2 210 1 = M0.2 210 0 := ((n2 210 1 (by omega)).2).trans hR.1
    obtain ⟨O, o1, o2⟩ := m_fitsBy (A := AT N 1) (nets := M0.2 210 0) (s := s) hN ⟨n3, fun _ _ _ => rfl, hnet⟩ (fun w a b => dg_rng _ _ (by omega) (by omega)) (fun k a b => by
      rw [e60, e61] at b
      rw [(n2 229 k (by omega)).1]; exact hR.2 k a b)
    rw [o1, obind_some, e60, e61, eF, eT, eI]
    have hFO : Fr LF M0 O := hFN.trans (o2.mono (fun k j q => Or.inl q))
    have hRO : RwF O V (M0.2 210 0) s (kmS (M0.1 191 61) (M0.1 191 60)) := ⟨((o2 210 1 (by unfold W_MO_goesFrom; omega)).2).trans hnet, fun k a b => by rw [(o2 229 k (by unfold W_MO_goesFrom; omega)).1, (n2 229 k (by omega)).1]; exact hR.2 k a b⟩
    have o66 : O.1 191 66 = M.1 191 66 := ((o2 191 66 (by unfold W_MO_goesFrom; omega)).1).trans (n2 191 66 (by omega)).1
    have o230 : ∀ x, O.1 230 x = M.1 230 x := fun x => ((o2 230 x (by unfold W_MO_goesFrom; omega)).1).trans (n2 230 x (by omega)).1
    have o212 : ∀ x, 0 ≤ x → x < V 0 2 → O.1 212 (4 * 1 + x) = dcV (code : Int) x := fun x a b => ((o2 212 _ (by unfold W_MO_goesFrom; omega)).1).trans (n3 x a b)
    have eft : foS (nxV V (dcV (code : Int)) (M0.2 210 0) (wlV V)) (ntF M0) (ntT M0) (ntI M0) s (kmS (M0.1 191 61) (M0.1 191 60)).toNat = ftS V (M0.2 210 0) (ntF M0) (ntT M0) (ntI M0) s (kmS (M0.1 191 61) (M0.1 191 60)) (code : Int) := rfl
    rw [eft]
    cases e : ftS V (M0.2 210 0) (ntF M0) (ntT M0) (ntI M0) s (kmS (M0.1 191 61) (M0.1 191 60)) (code : Int) with
    | false =>
      rw [if_pos (show (if false = true then (1 : Int) else 0) = 0 from rfl)]
      unfold t_MO_layFits_L219
      rw [w32_succ (by omega)]
      refine ih (code + 1) g O (by omega) (by omega) hFO hRO ?_ (fun w a b => ?_)
      · rw [o66, h66, fcS, e, if_neg (by decide)]; omega
      · rw [o230, h230 w a b, fmS, e, if_neg (by decide)]
    | true =>
      rw [if_neg (show ¬ (if true = true then (1 : Int) else 0) = 0 by decide), o66, h66, w32_id (by unfold InR; omega)]
      simp only [qlet]
      have hF66 : Fr LF M0 (setI O 191 66 (fcS (ftS V (M0.2 210 0) (ntF M0) (ntT M0) (ntI M0) s (kmS (M0.1 191 61) (M0.1 191 60))) code + 1)) := hFO.setI (by unfold LF; omega)
      obtain ⟨P, p1, p2, p3⟩ := m_layFits_L181 (bk := fun a0_ a1_ a2_ => t_MO_layFits_L114 g a0_ a1_ a2_) (v1 := (all : Int)) (v2 := (code : Int)) (by omega) (V 0 2).toNat FU (setI O 191 66 (fcS (ftS V (M0.2 210 0) (ntF M0) (ntT M0) (ntI M0) s (kmS (M0.1 191 61) (M0.1 191 60))) code + 1)) 0 (by omega) (by omega) (fu_big (by omega)) (h.fr hF66 LF_RIc)
      rw [p1, show (code : Int) + 1 = ((code + 1 : Nat) : Int) by omega]
      refine ih (code + 1) g P (by omega) (by omega) (hF66.trans (p2.mono (fun k j q => by unfold LF; omega))) ⟨((p2 210 1 (by omega)).2).trans hRO.1, fun k a b => ((p2 229 k (by omega)).1).trans ((sI_ne (by omega)).trans (hRO.2 k a b))⟩ ?_ (fun w a b => ?_)
      · rw [(p2 191 66 (by omega)).1, sI_self, fcS, e, if_pos rfl]
      · rw [p3 w a b, if_pos a, sI_ne (by omega), sI_ne (by omega), o230, h230 w a b, o212 w a b, fmS, e, if_pos rfl]
theorem m_layFits_L85 {V : TV} : ∀ (n w fu : Nat) (M : Mem), (w : Int) + (n : Int) = V 0 2 → n < fu → RI M V → (∀ x, 0 ≤ x → x < (w : Int) → M.1 230 x = 0) →
    ∃ N, t_MO_layFits_L85 fu M (p5 w) (w : Int) = t_MO_layFits_L114 FU N (p5 (V 0 2).toNat) 0 ∧ Fr (fun k j => k = 230) M N ∧ ∀ x, 0 ≤ x → x < V 0 2 → N.1 230 x = 0 := by
  intro n
  induction n with
  | zero =>
    intro w fu M g0 g1 h hx
    obtain ⟨g, rfl⟩ : ∃ g, fu = g + 1 := ⟨fu - 1, by omega⟩
    rw [t_MO_layFits_L85, h.1.2.1.1.2.2.1, if_pos (by omega), show (V 0 2).toNat = w by omega]
    exact ⟨M, rfl, Fr.rf, fun x a b => hx x a (by omega)⟩
  | succ n ih =>
    intro w fu M g0 g1 h hx
    obtain ⟨g, rfl⟩ : ∃ g, fu = g + 1 := ⟨fu - 1, by omega⟩
    have hv := h.1.1.1
    have hp := p5_rng (n := (w : Int)) (by omega) (by omega)
    rw [Int.toNat_natCast] at hp
    rw [t_MO_layFits_L85, h.1.2.1.1.2.2.1, if_neg (by omega), w32_succ (by omega), w32_id (x := p5 w * 5) (by unfold InR; omega), qguard_pos ⟨by omega, by omega⟩]
    simp only [qlet]
    have hF : Fr (fun k (j : Int) => k = 230) M (setI M 230 (w : Int) 0) := Fr.rf.setI rfl
    obtain ⟨N, n1, n2, n3⟩ := ih (w + 1) g _ (by omega) (by omega) (h.fr hF (fun k j a q => by unfold RIc at a; omega)) (fun x a b => by
      by_cases e : x = (w : Int)
      · subst e; rw [sI_self]
      · rw [sI_ne (by omega)]; exact hx x a (by omega))
    rw [p5] at n1
    exact ⟨N, n1, hF.trans n2, n3⟩
abbrev skM (M : Mem) : Int → Bool := skS (ntI M) (ntF M) (kmS (M.1 191 61) (M.1 191 60)).toNat (fun _ => false)
abbrev ftM (M : Mem) (V : TV) : Int → Bool := ftS V (M.2 210 0) (ntF M) (ntT M) (ntI M) (skM M) (kmS (M.1 191 61) (M.1 191 60))
theorem m_layFits_L30 {V : TV} {M0 : Mem} (h : RI M0 V) : ∀ (m fu : Nat) (M : Mem) (s : Int → Bool), (m : Int) ≤ kmS (M0.1 191 61) (M0.1 191 60) → m < fu → Fr LF M0 M → (∀ k, 0 ≤ k → k < kmS (M0.1 191 61) (M0.1 191 60) → M.1 229 k = if s k = true then 1 else 0) →
    ∃ N, t_MO_layFits_L30 fu M ((m : Int) - 1) = some N ∧ Fr LF M0 N ∧ N.1 191 66 = fcS (ftS V (M0.2 210 0) (ntF M0) (ntT M0) (ntI M0) (skS (ntI M0) (ntF M0) m s) (kmS (M0.1 191 61) (M0.1 191 60))) (p5 (V 0 2).toNat).toNat ∧ (∀ w, 0 ≤ w → w < V 0 2 → N.1 230 w = fmS (ftS V (M0.2 210 0) (ntF M0) (ntT M0) (ntI M0) (skS (ntI M0) (ntF M0) m s) (kmS (M0.1 191 61) (M0.1 191 60))) w (p5 (V 0 2).toNat).toNat) := by
  have hv := h.1.1.1
  have hk0 := (m_known h).2
  intro m
  induction m with
  | zero =>
    intro fu M s g0 g1 hF hs
    obtain ⟨g, rfl⟩ : ∃ g, fu = g + 1 := ⟨fu - 1, by omega⟩
    have hM : RI M V := h.fr hF LF_RIc
    rw [t_MO_layFits_L30, if_pos (by omega)]
    obtain ⟨N, n1, n2, n3⟩ := m_copies (M := M) (x1 := 1) (x2 := 0) (by omega) (by omega) (by omega)
    rw [n1, obind_some]
    simp only [qlet]
    have hF1 : Fr LF M0 (setI N 191 66 0) := (hF.trans (n2.mono (fun k j q => Or.inr (Or.inl q)))).setI (by unfold LF; omega)
    have hp := p5_rng (n := V 0 2) (by omega) (by omega)
    obtain ⟨O, o1, o2, o3⟩ := m_layFits_L85 (V := V) (V 0 2).toNat 0 FU (setI N 191 66 0) (by omega) (fu_big (by omega)) (h.fr hF1 LF_RIc) (fun x a b => by omega)
    have o1' : t_MO_layFits_L85 FU (setI N 191 66 0) 1 0 = t_MO_layFits_L114 FU O (p5 (V 0 2).toNat) 0 := o1
    rw [o1']
    have q1 := RowEq.fr (a := 0) hF (fun k j a q => by unfold CW at a; unfold LF W_MO_goesFrom CW at q; omega)
    obtain ⟨P, p1, p2, p3, p4⟩ := m_layFits_L114 (s := s) (all := (p5 (V 0 2).toNat).toNat) h (by omega) (p5 (V 0 2).toNat).toNat 0 FU O (by omega) (fu_big (by omega)) (hF1.trans (o2.mono (fun k j q => by unfold LF; omega))) ⟨((o2 210 1 (by omega)).2).trans ((n3.1.2.2.2.1).trans q1.1.2.2.2.1), fun k a b => ((o2 229 k (by omega)).1).trans ((sI_ne (by omega)).trans (((n2 229 k (by unfold CW; omega)).1).trans (hs k a b)))⟩ (by rw [(o2 191 66 (by omega)).1, sI_self]; rfl) (fun w a b => by rw [o3 w a b]; rfl)
    rw [Int.toNat_of_nonneg (by omega)] at p1
    exact ⟨P, p1, p2, p3, p4⟩
  | succ m ih =>
    intro fu M s g0 g1 hF hs
    obtain ⟨g, rfl⟩ : ∃ g, fu = g + 1 := ⟨fu - 1, by omega⟩
    have hM : RI M V := h.fr hF LF_RIc
    have fr : ∀ (q : Nat) (j : Int), (q = 226 ∨ q = 227 ∨ q = 228) → M.1 q j = M0.1 q j := fun q j hq => (hF q j (by unfold LF W_MO_goesFrom CW; omega)).1
    have gd : 0 ≤ (m : Int) ∧ (m : Int) < 24 := by omega
    have hn := h.2.2.2.2.2.2.2.2.2 (m : Int) (by omega) (by omega)
    rw [show ((m + 1 : Nat) : Int) - 1 = (m : Int) by omega, t_MO_layFits_L30, if_neg (by omega), qguard_pos gd, qguard_pos gd, qguard_pos gd, hs (m : Int) (by omega) (by omega), fr 228 _ (by omega), fr 226 _ (by omega), skS]
    unfold t_MO_layFits_L64
    rw [w32_id (x := (m : Int) + (-1)) (by unfold InR; omega), show (m : Int) + (-1) = (m : Int) - 1 by omega]
    by_cases c : s (m : Int) = false ∧ ¬ ntI M0 (m : Int) = 0
    · have c2 : ¬ M0.1 228 (m : Int) = 0 := c.2
      have hf : 0 ≤ M0.1 226 (m : Int) ∧ M0.1 226 (m : Int) < (m : Int) := by
        rcases hn with q | q
        · exact absurd q.1 c2
        · exact q.2
      rw [if_pos c, c.1, if_pos (show (if false = true then (1 : Int) else 0) = 0 from rfl), if_neg c2, qguard_pos ⟨by omega, by omega⟩]
      simp only [qlet]
      refine ih g _ _ (by omega) (by omega) (hF.setI (by unfold LF; omega)) (fun k a b => ?_)
      by_cases e : k = M0.1 226 (m : Int)
      · subst e; rw [sI_self, if_pos rfl, if_pos rfl]
      · rw [sI_ne (by omega), hs k a b, if_neg e]
    · rw [if_neg c]
      by_cases c1 : s (m : Int) = true
      · rw [if_pos c1, if_neg (by decide)]
        exact ih g M s (by omega) (by omega) hF hs
      · have c3 : M0.1 228 (m : Int) = 0 := by
          by_cases q : M0.1 228 (m : Int) = 0
          · exact q
          · exact absurd ⟨Bool.eq_false_iff.mpr c1, q⟩ c
        rw [if_neg c1, if_pos rfl, if_pos c3]
        exact ih g M s (by omega) (by omega) hF hs
theorem m_layFits_L2 {V : TV} {M0 : Mem} (h : RI M0 V) : ∀ (n fu : Nat) (M : Mem) (k : Int), k + (n : Int) = kmS (M0.1 191 61) (M0.1 191 60) → 0 ≤ k → n < fu → Fr LF M0 M → (∀ x, 0 ≤ x → x < k → M.1 229 x = 0) →
    ∃ N, t_MO_layFits_L2 fu M k = some N ∧ Fr LF M0 N ∧ N.1 191 66 = fcS (ftM M0 V) (p5 (V 0 2).toNat).toNat ∧ (∀ w, 0 ≤ w → w < V 0 2 → N.1 230 w = fmS (ftM M0 V) w (p5 (V 0 2).toNat).toNat) := by
  have hk0 := (m_known h).2
  intro n
  induction n with
  | zero =>
    intro fu M k g0 g1 g2 hF hx
    obtain ⟨g, rfl⟩ : ∃ g, fu = g + 1 := ⟨fu - 1, by omega⟩
    have hM : RI M V := h.fr hF LF_RIc
    have e60 : M.1 191 60 = M0.1 191 60 := (hF 191 60 (by unfold LF W_MO_goesFrom CW; omega)).1
    have e61 : M.1 191 61 = M0.1 191 61 := (hF 191 61 (by unfold LF W_MO_goesFrom CW; omega)).1
    rw [t_MO_layFits_L2]
    simp only [qlet]
    rw [(m_known hM).1, e60, e61, if_pos (by omega), w32_id (by unfold InR; omega)]
    have := m_layFits_L30 h (kmS (M0.1 191 61) (M0.1 191 60)).toNat FU M (fun _ => false) (by omega) (fu_big (by omega)) hF (fun x a b => by rw [hx x a (by omega)]; rfl)
    rw [Int.toNat_of_nonneg hk0.1] at this
    exact this
  | succ n ih =>
    intro fu M k g0 g1 g2 hF hx
    obtain ⟨g, rfl⟩ : ∃ g, fu = g + 1 := ⟨fu - 1, by omega⟩
    have hM : RI M V := h.fr hF LF_RIc
    have e60 : M.1 191 60 = M0.1 191 60 := (hF 191 60 (by unfold LF W_MO_goesFrom CW; omega)).1
    have e61 : M.1 191 61 = M0.1 191 61 := (hF 191 61 (by unfold LF W_MO_goesFrom CW; omega)).1
    rw [t_MO_layFits_L2]
    simp only [qlet]
    rw [(m_known hM).1, e60, e61, if_neg (by omega), qguard_pos ⟨by omega, by omega⟩, w32_id (x := k + 1) (by unfold InR; omega)]
    exact ih g _ (k + 1) (by omega) (by omega) (by omega) (hF.setI (by unfold LF; omega)) (fun x a b => by
      by_cases e : x = k
      · subst e; rw [sI_self]
      · rw [sI_ne (by omega)]; exact hx x a (by omega))
theorem m_layFits {M : Mem} {V : TV} (h : RI M V) : ∃ N, t_MO_layFits M = some N ∧ Fr LF M N ∧ N.1 191 66 = fcS (ftM M V) (p5 (V 0 2).toNat).toNat ∧ (∀ w, 0 ≤ w → w < V 0 2 → N.1 230 w = fmS (ftM M V) w (p5 (V 0 2).toNat).toNat) :=
  m_layFits_L2 h (kmS (M.1 191 61) (M.1 191 60)).toNat FU M 0 (by have := (m_known h).2; omega) (by omega) (fu_big (by have := (m_known h).2; omega)) Fr.rf (fun x a b => by omega)
def LF0 : Nat → Int → Prop := fun k j => LF k j ∨ (k = 191 ∧ j = 0)
theorem LF0_RIc : ∀ k j, RIc k j → ¬ LF0 k j := by
  intro k j a q
  rcases q with q | q
  · exact LF_RIc k j a q
  · unfold RIc at a; omega
theorem m_fits {M : Mem} {V : TV} (h : RI M V) : ∃ N, t_MO_fits M = some (N, fcS (ftM M V) (p5 (V 0 2).toNat).toNat) ∧ Fr LF0 M N := by
  unfold t_MO_fits
  simp only [qlet]
  obtain ⟨N, n1, n2, n3, -⟩ := m_layFits (h.set0 0)
  rw [n1, obind_some, n3]
  exact ⟨N, rfl, (Fr.rf.setI (Or.inr ⟨rfl, rfl⟩) : Fr LF0 M (setI M 191 0 0)).trans (n2.mono (fun k j q => Or.inl q))⟩
theorem m_may {M : Mem} {V : TV} (h : RI M V) (x1 : Int) : ∃ N, t_MO_may M x1 = some (N, if 0 ≤ x1 ∧ x1 < V 0 2 then fmS (ftM M V) x1 (p5 (V 0 2).toNat).toNat else -1) ∧ Fr LF0 M N := by
  have hv := h.1.1.1
  have F0 : Fr LF0 M (setI M 191 0 0) := Fr.rf.setI (Or.inr ⟨rfl, rfl⟩)
  unfold t_MO_may
  simp only [qlet]
  rw [m_isWard (h.set0 0).1.2.1]
  by_cases c : 0 ≤ x1 ∧ x1 < V 0 2
  · rw [if_pos c, if_neg (by decide), if_pos c]
    obtain ⟨N, n1, n2, -, n4⟩ := m_layFits (h.set0 0)
    rw [n1, obind_some, qguard_pos ⟨by omega, by omega⟩, n4 x1 c.1 c.2]
    exact ⟨N, rfl, F0.trans (n2.mono (fun k j q => Or.inl q))⟩
  · rw [if_neg c, if_pos rfl, if_neg c]
    exact ⟨_, rfl, F0⟩
theorem ri_fits {M : Mem} {V : TV} (h : RI M V) : Ok (fun r => RI r.1 V) (t_MO_fits M) := by
  obtain ⟨N, n1, n2⟩ := m_fits h
  exact ⟨_, n1, h.fr n2 LF0_RIc⟩
theorem ri_may {M : Mem} {V : TV} (h : RI M V) (x1 : Int) : Ok (fun r => RI r.1 V) (t_MO_may M x1) := by
  obtain ⟨N, n1, n2⟩ := m_may h x1
  exact ⟨_, n1, h.fr n2 LF0_RIc⟩
