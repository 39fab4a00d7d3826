section
/-! ===== ward, law; joys by all votes: the reference's side ===== -/
theorem RI.goW {W : Nat → Int → Prop} {M N : Mem} {V : TV} (h : RI M V) (hF : Fr W M N) (hd : ∀ k j, RIc k j → ¬ W k j) : RI N V := h.fr hF hd
def wardS (V : TV) (D A f : Int → Int) (yr x1 x2 : Int) : Int := if 0 ≤ x1 ∧ x1 < V 0 2 then (if x2 = 0 then D x1 else if x2 = 1 then V 3 x1 else if x2 = 2 then szV V x1 else if x2 = 3 then joyS V f A x1 yr else -1) else -1
def JW0 : Nat → Int → Prop := fun k j => JW k j ∨ (k = 191 ∧ j = 0)
theorem JW0_RIc : ∀ k j, RIc k j → ¬ JW0 k j := by
  intro k j a q
  unfold RIc at a
  unfold JW0 JW W_MO_goesFrom GO at q
  omega
theorem at0_fr {M : Mem} {v : Int} : Fr JW0 M (setI M 191 0 v) := Fr.rf.setI (Or.inr ⟨rfl, rfl⟩)
theorem m_ward {M : Mem} {V : TV} (h : RI M V) (x1 x2 : Int) : ∃ N, t_MO_ward M x1 x2 = some (N, wardS V (DN M 0) (AT M 0) (nxR M 0 V) (M.1 207 0) x1 x2) ∧ Fr JW0 M N := by
  have h1 := h.set0 0
  have hv := h.1.1.1
  unfold t_MO_ward wardS
  simp only [qlet]
  rw [m_isWard h1.1.2.1]
  by_cases hw : 0 ≤ x1 ∧ x1 < V 0 2
  · rw [if_pos hw, if_pos hw, if_neg (by decide)]
    by_cases e0 : x2 = 0
    · rw [if_pos e0, if_pos e0, qguard_pos ⟨by omega, by omega⟩]
      refine ⟨_, ?_, at0_fr (v := 0)⟩
      rw [uI_ne _ _ (by omega)]
      unfold DN
      rw [show 4 * 0 + x1 = x1 by omega]
    · rw [if_neg e0, if_neg e0]
      by_cases e1 : x2 = 1
      · rw [if_pos e1, if_pos e1, qguard_pos ⟨by omega, by omega⟩, uI_ne _ _ (by omega), (h.1.2.1.2.1 x1 hw.1 hw.2).2.2]
        exact ⟨_, rfl, at0_fr⟩
      · rw [if_neg e1, if_neg e1]
        by_cases e2 : x2 = 2
        · rw [if_pos e2, if_pos e2, m_sizeOf h1.1.2.1 h1.1.1 (by omega), obind_some]
          exact ⟨_, rfl, at0_fr⟩
        · rw [if_neg e2, if_neg e2]
          by_cases e3 : x2 = 3
          · rw [if_pos e3, if_pos e3]
            obtain ⟨N, n1, n2⟩ := m_joyOf0 (by omega) h1 h1.row0 hw
            rw [n1, obind_some]
            exact ⟨N, rfl, at0_fr.trans (n2.mono (fun k j q => Or.inl q))⟩
          · rw [if_neg e3, if_neg e3]
            exact ⟨_, rfl, at0_fr⟩
  · rw [if_neg hw, if_neg hw, if_pos rfl]
    exact ⟨_, rfl, at0_fr⟩
theorem ri_ward {M : Mem} {V : TV} (h : RI M V) (x1 x2 : Int) : Ok (fun r => RI r.1 V) (t_MO_ward M x1 x2) := by
  obtain ⟨N, n1, n2⟩ := m_ward h x1 x2
  exact ⟨_, n1, h.fr n2 JW0_RIc⟩
def eM (o : Option Int64) : Int64 := match o with | none => -9223372036854775808 | some v => v
def lawS (V : TV) (D A f : Int → Int) (yr x1 x2 x3 : Int) : Int64 :=
  if x1 = 1 then (if (0 ≤ x2 ∧ x2 < V 0 2) ∧ 0 < V 0 12 then eM (valS (V 12) (V 13) (nmJ V f A x2 yr) (V 0 12)) else -9223372036854775808)
  else if x1 = 0 then (if opV V x2 ∧ (0 ≤ x3 ∧ x3 ≤ 3) ∧ opV V (bsV V x2 x3) ∧ 0 < V 0 11 then eM (valS (V 10) (V 11) (nmP V D A x2 x3 yr) (V 0 11)) else -9223372036854775808)
  else -9223372036854775808
theorem m_law_L92 {M : Mem} {V : TV} {x1 x2 x3 n : Int} {K L : Int → Int} (hs : 0 ≤ x1 ∧ x1 < 2) (hF : MF1 M x1 K L n) (hK : KOK K n) (h0 : 0 < n) : ∃ N, t_MO_law_L92 x1 x2 x3 M = some (N, eM (valS K L (nmM M) n)) ∧ Fr GO M N := by
  obtain ⟨N, r, n1, n2, n3⟩ := m_goesV hs hF hK h0
  unfold t_MO_law_L92
  rw [n1, obind_some]
  rcases n3 with ⟨r0, hv⟩ | ⟨r1, hv⟩
  · rw [if_pos (show (N, r).2 = 0 from r0), hv]; exact ⟨N, rfl, n2⟩
  · rw [if_neg (by show ¬ r = 0; omega), hv]; exact ⟨N, rfl, n2⟩
theorem m_law {M : Mem} {V : TV} (h : RI M V) (x1 x2 x3 : Int) : ∃ N, t_MO_law M x1 x2 x3 = some (N, lawS V (DN M 0) (AT M 0) (nxR M 0 V) (M.1 207 0) x1 x2 x3) ∧ Fr JW0 M N := by
  have h1 := h.set0 0
  have hv := h.1.1.1
  have hF := h1.1.2.2.2
  have hK := h1.1.2.2.1
  unfold t_MO_law lawS
  simp only [qlet]
  by_cases a0 : x1 < 0
  · rw [if_pos a0, if_neg (by omega), if_neg (by omega)]; exact ⟨_, rfl, at0_fr⟩
  · rw [if_neg a0]
    by_cases a1 : 1 < x1
    · rw [if_pos a1, if_neg (by omega), if_neg (by omega)]; exact ⟨_, rfl, at0_fr⟩
    · rw [if_neg a1]
      by_cases a2 : x1 = 1
      · subst a2
        rw [m_hasLaw (by omega) hF.2, obind_some, if_pos (show (1 : Int) = 1 from rfl), if_pos (show (1 : Int) = 1 from rfl)]
        by_cases hn : 0 < V 0 12
        · rw [if_pos hn, if_neg (show ¬ (1 : Int) = 0 by decide), m_isWard h1.1.2.1]
          by_cases hw : 0 ≤ x2 ∧ x2 < V 0 2
          · rw [if_pos hw, if_neg (show ¬ (1 : Int) = 0 by decide), if_pos ⟨hw, hn⟩]
            obtain ⟨N, n1, n2, n3⟩ := m_callsJoy (by omega) h1 (MSc.self _ 0 V) h1.row0.1 h1.row0.2.1 hw
            rw [n1, obind_some]
            have hN : RI N V := h1.fr n2 CJ_RIc
            obtain ⟨O, o1, o2⟩ := m_law_L92 (V := V) (x2 := x2) (x3 := x3) (by omega) hN.1.2.2.2.2 hN.1.2.2.1.2.1 hn
            rw [o1, valS_congr (nm := nmM N) (nm' := nmJ V (nxR M 0 V) (AT M 0) x2 (M.1 207 0)) (fun j p q => n3 j p q)]
            exact ⟨O, rfl, (at0_fr.trans (n2.mono (fun k j q => Or.inl (CJ_JW k j q)))).trans (o2.mono (fun k j q => Or.inl (GO_JW k j q)))⟩
          · rw [if_neg hw, if_pos (show (0 : Int) = 0 from rfl), if_neg (fun q => hw q.1)]; exact ⟨_, rfl, at0_fr⟩
        · rw [if_neg hn, if_pos (show (0 : Int) = 0 from rfl), if_neg (fun q => hn q.2)]; exact ⟨_, rfl, at0_fr⟩
      · have e0 : x1 = 0 := by omega
        subst e0
        rw [m_hasLaw (by omega) hF.1, obind_some, if_neg (show ¬ (0 : Int) = 1 by decide), if_neg (show ¬ (0 : Int) = 1 by decide), if_pos (show (0 : Int) = 0 from rfl)]
        by_cases hn : 0 < V 0 11
        · rw [if_pos hn, if_neg (show ¬ (1 : Int) = 0 by decide)]
          rcases m_isOpen h1.1.2.1 h1.1.1 x2 with ⟨o, e⟩ | ⟨o, e⟩
          · rw [e, obind_some, if_neg (by decide)]
            by_cases d0 : x3 < 0
            · rw [if_pos d0, if_neg (fun q => by omega)]; exact ⟨_, rfl, at0_fr⟩
            · rw [if_neg d0]
              by_cases d1 : 3 < x3
              · rw [if_pos d1, if_neg (fun q => by omega)]; exact ⟨_, rfl, at0_fr⟩
              · rw [if_neg d1, m_beside h1.1.2.1 h1.1.1 o.1 o.2.1 (by omega) (by omega), obind_some]
                rcases m_isOpen h1.1.2.1 h1.1.1 (bsV V x2 x3) with ⟨o2, e2⟩ | ⟨o2, e2⟩
                · rw [e2, obind_some, if_neg (by decide), if_pos ⟨o, ⟨by omega, by omega⟩, o2, hn⟩]
                  obtain ⟨N, n1, n2, n3⟩ := m_callsPush h1 o.1 o.2.1 (d := x3) (by omega) (by omega) o2.1
                  rw [n1, obind_some]
                  have hN : RI N V := h1.fr n2 W20_RIc
                  obtain ⟨O, o1, o2⟩ := m_law_L92 (V := V) (x2 := x2) (x3 := x3) (by omega) hN.1.2.2.2.1 hN.1.2.2.1.1 hn
                  rw [o1, valS_congr (nm := nmM N) (nm' := nmP V (DN M 0) (AT M 0) x2 x3 (M.1 207 0)) (fun j p q => n3 j p q)]
                  exact ⟨O, rfl, (at0_fr.trans (n2.mono (fun k j q => Or.inl (Or.inr (Or.inl q))))).trans (o2.mono (fun k j q => Or.inl (GO_JW k j q)))⟩
                · rw [e2, obind_some, if_pos rfl, if_neg (fun q => o2 q.2.2.1)]; exact ⟨_, rfl, at0_fr⟩
          · rw [e, obind_some, if_pos rfl, if_neg (fun q => o q.1)]; exact ⟨_, rfl, at0_fr⟩
        · rw [if_neg hn, if_pos (show (0 : Int) = 0 from rfl), if_neg (fun q => hn q.2.2.2)]; exact ⟨_, rfl, at0_fr⟩
theorem ri_law {M : Mem} {V : TV} (h : RI M V) (x1 x2 x3 : Int) : Ok (fun r => RI r.1 V) (t_MO_law M x1 x2 x3) := by
  obtain ⟨N, n1, n2⟩ := m_law h x1 x2 x3
  exact ⟨_, n1, h.fr n2 JW0_RIc⟩
/-! votes -/
def vtV (n : Int) : Int := q_shl 1 (2 * n)
def dvV (v : Int) : Int → Int := fun w => q_and (q_shr v (2 * w)) 3
def wiV (v w d : Int) : Int := q_or (q_and v (q_xor (q_shl 3 (2 * w)) (-1))) (q_shl d (2 * w))
theorem vt_all : ∀ n : Nat, n < 5 → vtV n = ((4 ^ n : Nat) : Int) := by decide +kernel
theorem dv_all : ∀ v : Nat, v < 256 → ∀ w : Nat, w < 4 → 0 ≤ dvV v w ∧ dvV v w ≤ 3 := by decide +kernel
theorem wi_all : ∀ n : Nat, n < 5 → ∀ v : Nat, v < 4 ^ n → ∀ w : Nat, w < n → ∀ d : Nat, d < 4 → 0 ≤ wiV v w d ∧ wiV v w d < ((4 ^ n : Nat) : Int) := by decide +kernel
theorem vt_eq {n : Int} (h0 : 0 ≤ n) (h1 : n ≤ 4) : vtV n = ((4 ^ n.toNat : Nat) : Int) ∧ 1 ≤ vtV n ∧ vtV n ≤ 256 := by
  obtain ⟨k, rfl⟩ : ∃ k : Nat, n = (k : Int) := ⟨n.toNat, by omega⟩
  have := vt_all k (by omega)
  rw [Int.toNat_natCast, this]
  have hk : k = 0 ∨ k = 1 ∨ k = 2 ∨ k = 3 ∨ k = 4 := by omega
  rcases hk with rfl | rfl | rfl | rfl | rfl <;> decide
theorem dv_rng {v w : Int} (h0 : 0 ≤ v) (h1 : v < 256) (w0 : 0 ≤ w) (w1 : w < 4) : 0 ≤ dvV v w ∧ dvV v w ≤ 3 := by
  have := dv_all v.toNat (by omega) w.toNat (by omega)
  rwa [Int.toNat_of_nonneg h0, Int.toNat_of_nonneg w0] at this
theorem wi_rng {n v w d : Int} (n0 : 0 ≤ n) (n1 : n ≤ 4) (h0 : 0 ≤ v) (h1 : v < vtV n) (w0 : 0 ≤ w) (w1 : w < n) (d0 : 0 ≤ d) (d1 : d < 4) : 0 ≤ wiV v w d ∧ wiV v w d < vtV n := by
  have e := (vt_eq n0 n1).1
  rw [e] at h1 ⊢
  have := wi_all n.toNat (by omega) v.toNat (by omega) w.toNat (by omega) d.toNat (by omega)
  rwa [Int.toNat_of_nonneg h0, Int.toNat_of_nonneg w0, Int.toNat_of_nonneg d0] at this
theorem m_votes {M : Mem} {V : TV} (h : MT0 M V) (hV : VOK V) : t_MO_votes M = vtV (V 0 2) := by
  have := hV.1
  unfold t_MO_votes vtV
  rw [h.1.2.2.1, w32_id (x := 2 * V 0 2) (by unfold InR; omega)]
theorem m_with {M : Mem} {v w d : Int} (w0 : 0 ≤ w) (w1 : w < 4) : t_MO_with M v w d = wiV v w d := by
  unfold t_MO_with wiV
  rw [w32_id (x := 2 * w) (by unfold InR; omega)]
/-- the joys by all votes -/
def jvS (V : TV) (A : Int → Int) (nets : Int64) (wl : Int → Bool) (yr v w : Int) : Int := joyS V (nxV V (dvV v) nets wl) A w yr
def LJ : Nat → Int → Prop := fun k j => JW k j ∨ CW 1 k j ∨ k = 224
theorem LJ_RIc : ∀ k j, RIc k j → ¬ LJ k j := by
  intro k j a q
  unfold RIc at a
  unfold LJ JW W_MO_goesFrom GO CW at q
  omega
/-- what a row for tries must hold while joys are laid -/
def RwJ (M : Mem) (V : TV) (A : Int → Int) (nets : Int64) (yr : Int) : Prop := (∀ t, 0 ≤ t → t < V 0 3 → M.1 213 (8 * 1 + t) = A t) ∧ M.2 210 1 = nets ∧ M.1 207 1 = yr
theorem RwJ.fr {W : Nat → Int → Prop} {M N : Mem} {V : TV} {A : Int → Int} {nets : Int64} {yr : Int} (h : RwJ M V A nets yr) (hF : Fr W M N) (hd : ∀ k j, k = 213 ∨ k = 210 ∨ k = 207 → ¬ W k j) : RwJ N V A nets yr :=
  ⟨fun t a b => (hF 213 _ (hd _ _ (by omega))).1.trans (h.1 t a b), (hF 210 _ (hd _ _ (by omega))).2.trans h.2.1, (hF 207 _ (hd _ _ (by omega))).1.trans h.2.2⟩
theorem m_layJoys_L18 {bk : Mem → Int → Option Mem} {V : TV} {v : Int} (hv : 0 ≤ v ∧ v < 256) : ∀ (n : Nat) (fu : Nat) (M : Mem) (w : Int), w + (n : Int) = V 0 2 → 0 ≤ w → n < fu → RI M V → (∀ x, 0 ≤ x → x < w → M.1 212 (4 * 1 + x) = dvV v x) →
    ∃ N, t_MO_layJoys_L18 bk fu M v w = t_MO_layJoys_L51 bk FU N v 0 ∧ Fr (fun k j => k = 212 ∧ 4 ≤ j ∧ j < 8) M N ∧ ∀ x, 0 ≤ x → x < V 0 2 → N.1 212 (4 * 1 + x) = dvV v x := by
  intro n
  induction n with
  | zero =>
    intro fu M w g0 g1 g2 h hx
    obtain ⟨g, rfl⟩ : ∃ g, fu = g + 1 := ⟨fu - 1, by omega⟩
    rw [t_MO_layJoys_L18, h.1.2.1.1.2.2.1, if_pos (by omega)]
    exact ⟨M, rfl, Fr.rf, fun x a b => hx x a (by omega)⟩
  | succ n ih =>
    intro fu M w g0 g1 g2 h hx
    obtain ⟨g, rfl⟩ : ∃ g, fu = g + 1 := ⟨fu - 1, by omega⟩
    have hv2 := h.1.1.1
    rw [t_MO_layJoys_L18, h.1.2.1.1.2.2.1, if_neg (by omega), w32_id (x := 4 + w) (by unfold InR; omega), w32_id (x := 2 * w) (by unfold InR; omega), w32_id (x := w + 1) (by unfold InR; omega), qguard_pos ⟨by omega, by omega⟩]
    simp only [qlet]
    have hF : Fr (fun k j => k = 212 ∧ 4 ≤ j ∧ j < 8) M (setI M 212 (4 + w) (q_and (q_shr v (2 * w)) 3)) := Fr.rf.setI ⟨rfl, by omega, by omega⟩
    obtain ⟨N, n1, n2, n3⟩ := ih g (setI M 212 (4 + w) (q_and (q_shr v (2 * w)) 3)) (w + 1) (by omega) (by omega) (by omega) (h.fr hF (fun k j a q => by unfold RIc at a; omega)) (fun x a b => by
      by_cases e : x = w
      · subst e; rw [show 4 * 1 + x = 4 + x by omega, sI_self]; rfl
      · rw [sI_ne (by omega)]; exact hx x a (by omega))
    exact ⟨N, n1, hF.trans n2, n3⟩
def J51 (v : Int) : Nat → Int → Prop := fun k j => JW k j ∨ (k = 224 ∧ 4 * v ≤ j ∧ j < 4 * v + 4)
theorem m_layJoys_L51 {bk : Mem → Int → Option Mem} {V : TV} {v yr : Int} {A : Int → Int} {nets : Int64} (hv : 0 ≤ v ∧ v < 256) (hA : ∀ t, 0 ≤ t → t < V 0 3 → 0 ≤ A t ∧ A t < cellsV V) : ∀ (n : Nat) (fu : Nat) (M : Mem) (w : Int), w + (n : Int) = V 0 2 → 0 ≤ w → n < fu → RI M V → RwJ M V A nets yr → (∀ x, 0 ≤ x → x < V 0 2 → M.1 212 (4 * 1 + x) = dvV v x) → (∀ x, 0 ≤ x → x < w → M.1 224 (4 * v + x) = jvS V A nets (wlV V) yr v x) →
    ∃ N, t_MO_layJoys_L51 bk fu M v w = bk N (v + 1) ∧ Fr (J51 v) M N ∧ ∀ x, 0 ≤ x → x < V 0 2 → N.1 224 (4 * v + x) = jvS V A nets (wlV V) yr v x := by
  intro n
  induction n with
  | zero =>
    intro fu M w g0 g1 g2 h hR hd hx
    obtain ⟨g, rfl⟩ : ∃ g, fu = g + 1 := ⟨fu - 1, by omega⟩
    rw [t_MO_layJoys_L51, h.1.2.1.1.2.2.1, if_pos (by omega), w32_id (x := v + 1) (by unfold InR; omega)]
    exact ⟨M, rfl, Fr.rf, fun x a b => hx x a (by omega)⟩
  | succ n ih =>
    intro fu M w g0 g1 g2 h hR hd hx
    obtain ⟨g, rfl⟩ : ∃ g, fu = g + 1 := ⟨fu - 1, by omega⟩
    have hv2 := h.1.1.1
    rw [t_MO_layJoys_L51, h.1.2.1.1.2.2.1, if_neg (by omega)]
    have hm : MSc M 1 V (dvV v) A nets := ⟨hd, hR.1, hR.2.1⟩
    obtain ⟨N, n1, n2⟩ := m_joyOf (w := w) (by omega) h hm (fun w a b => by have := dv_rng hv.1 hv.2 (w := w) a (by omega); omega) hA (by omega)
    rw [n1, obind_some, w32_id (x := 4 * v) (by unfold InR; omega), w32_id (x := 4 * v + w) (by unfold InR; omega), w32_id (x := w + 1) (by unfold InR; omega), qguard_pos ⟨by omega, by omega⟩]
    simp only [qlet]
    rw [hR.2.2]
    have hF : Fr (J51 v) M (setI N 224 (4 * v + w) (joyS V (nxV V (dvV v) nets (wlV V)) A w yr)) := (n2.mono (fun k j q => Or.inl q)).setI (Or.inr ⟨rfl, by omega, by omega⟩)
    obtain ⟨O, o1, o2, o3⟩ := ih g _ (w + 1) (by omega) (by omega) (by omega) (h.fr hF (fun k j a q => by unfold RIc at a; unfold J51 JW W_MO_goesFrom GO at q; omega)) (hR.fr hF (fun k j a q => by unfold J51 JW W_MO_goesFrom GO at q; omega)) (fun x a b => by rw [(hF 212 _ (by unfold J51 JW W_MO_goesFrom GO; omega)).1]; exact hd x a b) (fun x a b => by
      by_cases e : x = w
      · subst e; rw [sI_self]; rfl
      · rw [sI_ne (by omega), (n2 224 _ (by unfold JW W_MO_goesFrom GO; omega)).1]; exact hx x a (by omega))
    exact ⟨O, o1, hF.trans o2, o3⟩
theorem m_layJoys_L8 {V : TV} {yr : Int} {A : Int → Int} {nets : Int64} (hA : ∀ t, 0 ≤ t → t < V 0 3 → 0 ≤ A t ∧ A t < cellsV V) : ∀ (n : Nat) (fu : Nat) (M : Mem) (v : Int), v + (n : Int) = vtV (V 0 2) → 0 ≤ v → n < fu → RI M V → RwJ M V A nets yr → (∀ u, 0 ≤ u → u < v → ∀ x, 0 ≤ x → x < V 0 2 → M.1 224 (4 * u + x) = jvS V A nets (wlV V) yr u x) →
    ∃ N, t_MO_layJoys_L8 fu M v = some N ∧ Fr LJ M N ∧ ∀ u, 0 ≤ u → u < vtV (V 0 2) → ∀ x, 0 ≤ x → x < V 0 2 → N.1 224 (4 * u + x) = jvS V A nets (wlV V) yr u x := by
  intro n
  induction n with
  | zero =>
    intro fu M v g0 g1 g2 h hR hx
    obtain ⟨g, rfl⟩ : ∃ g, fu = g + 1 := ⟨fu - 1, by omega⟩
    rw [t_MO_layJoys_L8]
    simp only [qlet]
    rw [m_votes h.1.2.1 h.1.1, if_pos (by omega)]
    exact ⟨M, rfl, Fr.rf, fun u a b => hx u a (by omega)⟩
  | succ n ih =>
    intro fu M v g0 g1 g2 h hR hx
    obtain ⟨g, rfl⟩ : ∃ g, fu = g + 1 := ⟨fu - 1, by omega⟩
    have hv2 := h.1.1.1
    have hvt := vt_eq (n := V 0 2) (by omega) (by omega)
    rw [t_MO_layJoys_L8]
    simp only [qlet]
    rw [m_votes h.1.2.1 h.1.1, if_neg (by omega)]
    obtain ⟨N, n1, n2, n3⟩ := m_layJoys_L18 (bk := fun a0_ a1_ => t_MO_layJoys_L8 g a0_ a1_) (v := v) (by omega) (V 0 2).toNat FU M 0 (by omega) (by omega) (fu_big (by omega)) h (fun x a b => by omega)
    have hN : RI N V := h.fr n2 (fun k j a q => by unfold RIc at a; omega)
    obtain ⟨O, o1, o2, o3⟩ := m_layJoys_L51 (bk := fun a0_ a1_ => t_MO_layJoys_L8 g a0_ a1_) (v := v) (yr := yr) (nets := nets) (by omega) hA (V 0 2).toNat FU N 0 (by omega) (by omega) (fu_big (by omega)) hN (hR.fr n2 (fun k j a q => by omega)) n3 (fun x a b => by omega)
    rw [n1, o1]
    have hO : RI O V := hN.fr o2 (fun k j a q => by unfold RIc at a; unfold J51 JW W_MO_goesFrom GO at q; omega)
    have hFO : Fr LJ M O := (n2.mono (fun k j q => by unfold LJ CW; omega)).trans (o2.mono (fun k j q => q.elim (fun z => Or.inl z) (fun z => Or.inr (Or.inr z.1))))
    obtain ⟨P, p1, p2, p3⟩ := ih g O (v + 1) (by omega) (by omega) (by omega) hO ((hR.fr n2 (fun k j a q => by omega)).fr o2 (fun k j a q => by unfold J51 JW W_MO_goesFrom GO at q; omega)) (fun u a b x c d => by
      by_cases e : u = v
      · subst e; exact o3 x c d
      · rw [(o2 224 _ (by unfold J51 JW W_MO_goesFrom GO; omega)).1, (n2 224 _ (by omega)).1]; exact hx u a (by omega) x c d)
    exact ⟨P, p1, hFO.trans p2, p3⟩
/-- the joys' row -/
def JT (M : Mem) (V : TV) (J : Int → Int → Int) : Prop := ∀ u, 0 ≤ u → u < vtV (V 0 2) → ∀ x, 0 ≤ x → x < V 0 2 → M.1 224 (4 * u + x) = J u x
def Rw0 (M : Mem) (V : TV) (A : Int → Int) (nets : Int64) (yr : Int) : Prop := (∀ t, 0 ≤ t → t < V 0 3 → M.1 213 (8 * 0 + t) = A t) ∧ M.2 210 0 = nets ∧ M.1 207 0 = yr
theorem Rw0.self (M : Mem) (V : TV) : Rw0 M V (AT M 0) (M.2 210 0) (M.1 207 0) := ⟨fun _ _ _ => rfl, rfl, rfl⟩
theorem m_layJoys {M : Mem} {V : TV} {A : Int → Int} {nets : Int64} {yr : Int} (h : RI M V) (h0 : Rw0 M V A nets yr) : ∃ N, t_MO_layJoys M = some N ∧ Fr LJ M N ∧ JT N V (jvS V A nets (wlV V) yr) := by
  have hv2 := h.1.1.1
  have hvt := vt_eq (n := V 0 2) (by omega) (by omega)
  unfold t_MO_layJoys
  obtain ⟨N, n1, n2, n3⟩ := m_copies (M := M) (x1 := 1) (x2 := 0) (by omega) (by omega) (by omega)
  rw [n1, obind_some]
  have hN : RI N V := h.fr n2 (fun k j a q => by unfold RIc at a; unfold CW at q; omega)
  obtain ⟨O, o1, o2, o3⟩ := m_layJoys_L8 (V := V) (yr := yr) (A := A) (nets := nets) (fun t a b => by rw [← h0.1 t a b]; exact h.row0.2.1 t a b) (vtV (V 0 2)).toNat FU N 0 (by omega) (by omega) (fu_big (by omega)) hN ⟨fun t a b => ((n3.2.2 t a (by omega)).1).trans (h0.1 t a b), n3.1.2.2.2.1.trans h0.2.1, n3.1.1.trans h0.2.2⟩ (fun u a b => by omega)
  exact ⟨O, o1, (n2.mono (fun k j q => Or.inr (Or.inl q))).trans o2, o3⟩
/-- joys lie from 0 to 9999 -/
theorem put_rng {v : Int64} {m : Int} (h0 : 0 ≤ m) (h1 : m ≤ 9999) : 0 ≤ q_l2i (q_maxl 0 (q_minl (q_i2l m) v)) ∧ q_l2i (q_maxl 0 (q_minl (q_i2l m) v)) ≤ m := by
  have e0 : (0 : Int64).toInt = 0 := rfl
  have em : (q_i2l m).toInt = m := by
    unfold q_i2l
    rw [Int32.toInt_toInt64, q_toInt_of (by unfold InR; omega)]
  have key : ∀ x : Int64, 0 ≤ x.toInt → x.toInt ≤ m → 0 ≤ q_l2i x ∧ q_l2i x ≤ m := by
    intro x a b
    have : q_l2i x = x.toInt := by
      unfold q_l2i
      rw [Int64.toInt_toInt32, bm32 (by unfold InR; omega)]
    omega
  have hz : (q_minl (q_i2l m) v).toInt ≤ m := by
    unfold q_minl
    by_cases c : v < q_i2l m
    · rw [if_pos c]; rw [Int64.lt_iff_toInt_lt, em] at c; omega
    · rw [if_neg c, em]; omega
  generalize q_minl (q_i2l m) v = z at *
  unfold q_maxl
  by_cases c : z < 0
  · rw [if_pos c]; exact key 0 (by rw [e0]; omega) (by rw [e0]; omega)
  · rw [if_neg c]; rw [Int64.lt_iff_toInt_lt, e0] at c; exact key z (by omega) hz
end
section
/-! ===== stays, treaty, moves: the reference's side ===== -/
section STAY
variable {M : Mem} {V : TV} {J : Int → Int → Int}
/-- the ward-wise test: no down of the first n (of ward w) is better -/
def nbS (J : Int → Int → Int) (v w : Int) : Nat → Bool
  | 0 => true
  | n + 1 => nbS J v w n && decide (J (wiV v w (n : Int)) w ≤ J v w)
def stS (J : Int → Int → Int) (v : Int) : Nat → Bool
  | 0 => true
  | n + 1 => stS J v n && nbS J v (n : Int) 4
theorem nbS_mono {J : Int → Int → Int} {v w : Int} : ∀ {n m : Nat}, n ≤ m → nbS J v w n = false → nbS J v w m = false := by
  intro n m h e
  induction m with
  | zero => rw [show n = 0 by omega] at e; exact e
  | succ m ih =>
    by_cases q : n = m + 1
    · rw [← q]; exact e
    · rw [nbS, ih (by omega)]; rfl
theorem stS_mono {J : Int → Int → Int} {v : Int} : ∀ {n m : Nat}, n ≤ m → stS J v n = false → stS J v m = false := by
  intro n m h e
  induction m with
  | zero => rw [show n = 0 by omega] at e; exact e
  | succ m ih =>
    by_cases q : n = m + 1
    · rw [← q]; exact e
    · rw [stS, ih (by omega)]; rfl
theorem m_isStay_L14 (h : RI M V) (hJ : JT M V J) {v w : Int} {bk : Mem → Int → Option Int} (hv : 0 ≤ v ∧ v < vtV (V 0 2)) (hw : 0 ≤ w ∧ w < V 0 2) : ∀ (n d fu : Nat), d + n = 4 → n < fu → nbS J v w d = true → t_MO_isStay_L14 v bk fu M w (d : Int) = if nbS J v w 4 = true then bk M (w + 1) else some 0 := by
  have hv2 := h.1.1.1
  have hvt := vt_eq (n := V 0 2) (by omega) (by omega)
  intro n
  induction n with
  | zero =>
    intro d fu g0 g1 e
    obtain ⟨g, rfl⟩ : ∃ g, fu = g + 1 := ⟨fu - 1, by omega⟩
    have hd : d = 4 := by omega
    subst hd
    rw [t_MO_isStay_L14, if_pos (by omega), if_pos e, w32_id (x := w + 1) (by unfold InR; omega)]
  | succ n ih =>
    intro d fu g0 g1 e
    obtain ⟨g, rfl⟩ : ∃ g, fu = g + 1 := ⟨fu - 1, by omega⟩
    have hwi := wi_rng (n := V 0 2) (v := v) (w := w) (d := (d : Int)) (by omega) (by omega) hv.1 hv.2 hw.1 hw.2 (by omega) (by omega)
    rw [t_MO_isStay_L14, if_neg (by omega)]
    simp only [qlet]
    rw [m_with hw.1 (by omega), w32_id (x := 4 * wiV v w (d : Int)) (by unfold InR; omega), w32_id (x := 4 * wiV v w (d : Int) + w) (by unfold InR; omega), w32_id (x := 4 * v) (by unfold InR; omega), w32_id (x := 4 * v + w) (by unfold InR; omega), qguard_pos ⟨by omega, by omega⟩, qguard_pos ⟨by omega, by omega⟩, hJ _ hwi.1 hwi.2 w hw.1 hw.2, hJ v hv.1 hv.2 w hw.1 hw.2, w32_succ (by omega)]
    by_cases c : J (wiV v w (d : Int)) w ≤ J v w
    · rw [if_pos c]
      exact ih (d + 1) g (by omega) (by omega) (by rw [nbS, e, decide_eq_true c]; rfl)
    · rw [if_neg c, if_neg (by rw [nbS_mono (n := d + 1) (by omega) (by rw [nbS, decide_eq_false c, Bool.and_false])]; decide)]
theorem m_isStay_L2 (h : RI M V) (hJ : JT M V J) {v : Int} (hv : 0 ≤ v ∧ v < vtV (V 0 2)) : ∀ (n w fu : Nat), (w : Int) + (n : Int) = V 0 2 → n < fu → stS J v w = true → t_MO_isStay_L2 v fu M (w : Int) = some (if stS J v (V 0 2).toNat = true then 1 else 0) := by
  have hv2 := h.1.1.1
  intro n
  induction n with
  | zero =>
    intro w fu g0 g1 e
    obtain ⟨g, rfl⟩ : ∃ g, fu = g + 1 := ⟨fu - 1, by omega⟩
    rw [t_MO_isStay_L2, h.1.2.1.1.2.2.1, if_pos (by omega), show (V 0 2).toNat = w by omega, if_pos e]
  | succ n ih =>
    intro w fu g0 g1 e
    obtain ⟨g, rfl⟩ : ∃ g, fu = g + 1 := ⟨fu - 1, by omega⟩
    rw [t_MO_isStay_L2, h.1.2.1.1.2.2.1, if_neg (by omega)]
    have := m_isStay_L14 h hJ (w := (w : Int)) (bk := fun a0_ a1_ => t_MO_isStay_L2 v g a0_ a1_) hv (by omega) 4 0 FU (by omega) (fu_big (by omega)) rfl
    rw [show ((0 : Nat) : Int) = 0 from rfl] at this
    rw [this]
    cases c : nbS J v (w : Int) 4 with
    | true =>
      rw [if_pos rfl]
      have hi : (w : Int) + 1 = ((w + 1 : Nat) : Int) := by omega
      rw [hi]
      exact ih (w + 1) g (by omega) (by omega) (by rw [stS, e, c]; rfl)
    | false =>
      rw [if_neg (by decide), stS_mono (n := w + 1) (by omega) (by rw [stS, c, Bool.and_false]), if_neg (by decide)]
theorem m_isStay (h : RI M V) (hJ : JT M V J) {v : Int} (hv : 0 ≤ v ∧ v < vtV (V 0 2)) : t_MO_isStay M v = some (if stS J v (V 0 2).toNat = true then 1 else 0) := by
  have := m_isStay_L2 h hJ hv (V 0 2).toNat 0 FU (by have := h.1.1.1; omega) (fu_big (by have := h.1.1.1; omega)) rfl
  exact this
/-- the k-th stay from v on, m more of votes, n found -/
def soS (J : Int → Int → Int) (nw : Nat) (k : Int) : Nat → Int → Int → Int
  | 0, _, n => if k = -1 then n else -2
  | m + 1, v, n => if stS J v nw = true then (if n = k then v else soS J nw k m (v + 1) (n + 1)) else soS J nw k m (v + 1) n
theorem m_stayOf_L8 (h : RI M V) (hJ : JT M V J) {k : Int} : ∀ (m fu : Nat) (v n : Int), v + (m : Int) = vtV (V 0 2) → 0 ≤ v → 0 ≤ n → n ≤ v → m < fu → t_MO_stayOf_L8 k fu M n v = some (M, soS J (V 0 2).toNat k m v n) := by
  have hv2 := h.1.1.1
  have hvt := vt_eq (n := V 0 2) (by omega) (by omega)
  intro m
  induction m with
  | zero =>
    intro fu v n g0 g1 g2 g3 g4
    obtain ⟨g, rfl⟩ : ∃ g, fu = g + 1 := ⟨fu - 1, by omega⟩
    rw [t_MO_stayOf_L8]
    simp only [qlet]
    rw [m_votes h.1.2.1 h.1.1, if_pos (by omega), soS]
    split <;> rfl
  | succ m ih =>
    intro fu v n g0 g1 g2 g3 g4
    obtain ⟨g, rfl⟩ : ∃ g, fu = g + 1 := ⟨fu - 1, by omega⟩
    rw [t_MO_stayOf_L8]
    simp only [qlet]
    unfold t_MO_stayOf_L37
    rw [m_votes h.1.2.1 h.1.1, if_neg (by omega), m_isStay h hJ ⟨g1, by omega⟩, obind_some, soS, w32_id (x := v + 1) (by unfold InR; omega), w32_id (x := n + 1) (by unfold InR; omega)]
    cases c : stS J v (V 0 2).toNat with
    | false =>
      rw [if_pos (show (if false = true then (1 : Int) else 0) = 0 from rfl), if_neg (show ¬ false = true by decide)]
      exact ih g (v + 1) n (by omega) (by omega) (by omega) (by omega) (by omega)
    | true =>
      rw [if_neg (show ¬ (if true = true then (1 : Int) else 0) = 0 by decide), if_pos (show true = true from rfl)]
      by_cases e : n = k
      · rw [if_pos e, if_pos e]
      · rw [if_neg e, if_neg e]
        exact ih g (v + 1) (n + 1) (by omega) (by omega) (by omega) (by omega) (by omega)
end STAY
abbrev jvM (M : Mem) (V : TV) : Int → Int → Int := jvS V (AT M 0) (M.2 210 0) (wlV V) (M.1 207 0)
def stayS (V : TV) (J : Int → Int → Int) (k : Int) : Int := soS J (V 0 2).toNat k (vtV (V 0 2)).toNat 0 0
def LJ0 : Nat → Int → Prop := fun k j => LJ k j ∨ (k = 191 ∧ j = 0) ∨ k = 225
theorem LJ0_RIc : ∀ k j, RIc k j → ¬ LJ0 k j := by
  intro k j a q
  unfold RIc at a
  unfold LJ0 LJ JW W_MO_goesFrom GO CW at q
  omega
theorem m_stayOf {M : Mem} {V : TV} (h : RI M V) (k : Int) : ∃ N, t_MO_stayOf M k = some (N, stayS V (jvM M V) k) ∧ Fr LJ M N := by
  have hv2 := h.1.1.1
  have hvt := vt_eq (n := V 0 2) (by omega) (by omega)
  unfold t_MO_stayOf
  obtain ⟨N, n1, n2, n3⟩ := m_layJoys h (Rw0.self _ V)
  rw [n1, obind_some]
  exact ⟨N, m_stayOf_L8 (h.fr n2 LJ_RIc) n3 (vtV (V 0 2)).toNat FU 0 0 (by omega) (by omega) (by omega) (by omega) (fu_big (by omega)), n2⟩
theorem at0L_fr {M : Mem} {v : Int} : Fr LJ0 M (setI M 191 0 v) := Fr.rf.setI (Or.inr (Or.inl ⟨rfl, rfl⟩))
theorem m_stays {M : Mem} {V : TV} (h : RI M V) : ∃ N, t_MO_stays M = some (N, stayS V (jvM M V) (-1)) ∧ Fr LJ0 M N := by
  unfold t_MO_stays
  simp only [qlet]
  obtain ⟨N, n1, n2⟩ := m_stayOf (h.set0 0) (-1)
  rw [n1, obind_some]
  exact ⟨N, rfl, at0L_fr.trans (n2.mono (fun k j q => Or.inl q))⟩
theorem m_stay {M : Mem} {V : TV} (h : RI M V) (k : Int) : ∃ N, t_MO_stay M k = some (N, if 0 ≤ k then stayS V (jvM M V) k else -1) ∧ Fr LJ0 M N := by
  unfold t_MO_stay
  simp only [qlet]
  by_cases e : 0 ≤ k
  · rw [if_pos e, if_pos e]
    obtain ⟨N, n1, n2⟩ := m_stayOf (h.set0 0) k
    rw [n1, obind_some]
    exact ⟨N, rfl, at0L_fr.trans (n2.mono (fun k j q => Or.inl q))⟩
  · rw [if_neg e, if_neg e]
    exact ⟨_, rfl, at0L_fr⟩
theorem ri_stays {M : Mem} {V : TV} (h : RI M V) : Ok (fun r => RI r.1 V) (t_MO_stays M) := by
  obtain ⟨N, n1, n2⟩ := m_stays h
  exact ⟨_, n1, h.fr n2 LJ0_RIc⟩
theorem ri_stay {M : Mem} {V : TV} (h : RI M V) (k : Int) : Ok (fun r => RI r.1 V) (t_MO_stay M k) := by
  obtain ⟨N, n1, n2⟩ := m_stay h k
  exact ⟨_, n1, h.fr n2 LJ0_RIc⟩
/-! moves -/
/-- the best of the first n downs of ward w (-1: none is better) -/
def bsS (J : Int → Int → Int) (v w : Int) : Nat → Int
  | 0 => -1
  | n + 1 => if J (wiV v w (n : Int)) w ≤ J v w then bsS J v w n else if bsS J v w n = -1 then (n : Int) else if J (wiV v w (n : Int)) w ≤ J (wiV v w (bsS J v w n)) w then bsS J v w n else (n : Int)
theorem bsS_rng (J : Int → Int → Int) (v w : Int) : ∀ n : Nat, -1 ≤ bsS J v w n ∧ bsS J v w n < (n : Int) := by
  intro n
  induction n with
  | zero => exact ⟨by show (-1 : Int) ≤ -1; omega, by show (-1 : Int) < 0; omega⟩
  | succ n ih =>
    rw [bsS]
    split
    · omega
    · split
      · omega
      · split <;> omega
/-- the move over wards w .., m more -/
def mvS (J : Int → Int → Int) (v : Int) : Nat → Int → Int
  | 0, _ => v
  | m + 1, w => if bsS J v w 4 = -1 then mvS J v m (w + 1) else wiV v w (bsS J v w 4)
section MOVE
variable {M : Mem} {V : TV} {J : Int → Int → Int}
theorem m_moved_L17 (h : RI M V) (hJ : JT M V J) {v w : Int} {bk : Mem → Int → Option Int} (hv : 0 ≤ v ∧ v < vtV (V 0 2)) (hw : 0 ≤ w ∧ w < V 0 2) : ∀ (n d fu : Nat), d + n = 4 → n < fu → t_MO_moved_L17 v bk fu M w (bsS J v w d) (d : Int) = if bsS J v w 4 = -1 then bk M (w + 1) else some (wiV v w (bsS J v w 4)) := by
  have hv2 := h.1.1.1
  have hvt := vt_eq (n := V 0 2) (by omega) (by omega)
  intro n
  induction n with
  | zero =>
    intro d fu g0 g1
    obtain ⟨g, rfl⟩ : ∃ g, fu = g + 1 := ⟨fu - 1, by omega⟩
    have hd : d = 4 := by omega
    subst hd
    rw [t_MO_moved_L17, if_pos (by omega), w32_id (x := w + 1) (by unfold InR; omega)]
    simp only [qlet]
    rw [m_with hw.1 (by omega)]
  | succ n ih =>
    intro d fu g0 g1
    obtain ⟨g, rfl⟩ : ∃ g, fu = g + 1 := ⟨fu - 1, by omega⟩
    have hwi := wi_rng (n := V 0 2) (v := v) (w := w) (d := (d : Int)) (by omega) (by omega) hv.1 hv.2 hw.1 hw.2 (by omega) (by omega)
    have hb := bsS_rng J v w d
    rw [t_MO_moved_L17, if_neg (by omega)]
    simp only [qlet]
    unfold t_MO_moved_L81 t_MO_moved_L84
    rw [m_with hw.1 (by omega), m_with hw.1 (by omega), w32_id (x := 4 * wiV v w (d : Int)) (by unfold InR; omega), w32_id (x := 4 * wiV v w (d : Int) + w) (by unfold InR; omega), w32_id (x := 4 * v) (by unfold InR; omega), w32_id (x := 4 * v + w) (by unfold InR; omega), qguard_pos ⟨by omega, by omega⟩, qguard_pos ⟨by omega, by omega⟩, hJ _ hwi.1 hwi.2 w hw.1 hw.2, hJ v hv.1 hv.2 w hw.1 hw.2, w32_succ (by omega)]
    have nx := ih (d + 1) g (by omega) (by omega)
    rw [bsS] at nx
    by_cases c : J (wiV v w (d : Int)) w ≤ J v w
    · rw [if_pos c]
      rw [if_pos c] at nx
      exact nx
    · rw [if_neg c]
      rw [if_neg c] at nx
      by_cases e : bsS J v w d = -1
      · rw [if_pos e]
        rw [if_pos e] at nx
        exact nx
      · rw [if_neg e]
        rw [if_neg e] at nx
        have hwb := wi_rng (n := V 0 2) (v := v) (w := w) (d := bsS J v w d) (by omega) (by omega) hv.1 hv.2 hw.1 hw.2 (by omega) (by omega)
        rw [w32_id (x := 4 * wiV v w (bsS J v w d)) (by unfold InR; omega), w32_id (x := 4 * wiV v w (bsS J v w d) + w) (by unfold InR; omega), qguard_pos ⟨by omega, by omega⟩, hJ _ hwb.1 hwb.2 w hw.1 hw.2]
        by_cases c2 : J (wiV v w (d : Int)) w ≤ J (wiV v w (bsS J v w d)) w
        · rw [if_pos c2]
          rw [if_pos c2] at nx
          exact nx
        · rw [if_neg c2]
          rw [if_neg c2] at nx
          exact nx
theorem m_moved_L2 (h : RI M V) (hJ : JT M V J) {v : Int} (hv : 0 ≤ v ∧ v < vtV (V 0 2)) : ∀ (n fu : Nat) (w : Int), w + (n : Int) = V 0 2 → 0 ≤ w → n < fu → t_MO_moved_L2 v fu M w = some (mvS J v n w) := by
  have hv2 := h.1.1.1
  intro n
  induction n with
  | zero =>
    intro fu w g0 g1 g2
    obtain ⟨g, rfl⟩ : ∃ g, fu = g + 1 := ⟨fu - 1, by omega⟩
    rw [t_MO_moved_L2, h.1.2.1.1.2.2.1, if_pos (by omega), mvS]
  | succ n ih =>
    intro fu w g0 g1 g2
    obtain ⟨g, rfl⟩ : ∃ g, fu = g + 1 := ⟨fu - 1, by omega⟩
    rw [t_MO_moved_L2, h.1.2.1.1.2.2.1, if_neg (by omega), mvS]
    have := m_moved_L17 h hJ (w := w) (bk := fun a0_ a1_ => t_MO_moved_L2 v g a0_ a1_) hv (by omega) 4 0 FU (by omega) (fu_big (by omega))
    rw [show ((0 : Nat) : Int) = 0 from rfl, show bsS J v w 0 = -1 from rfl] at this
    rw [this]
    by_cases e : bsS J v w 4 = -1
    · rw [if_pos e, if_pos e]; exact ih g (w + 1) (by omega) (by omega) (by omega)
    · rw [if_neg e, if_neg e]
theorem m_moved (h : RI M V) (hJ : JT M V J) {v : Int} (hv : 0 ≤ v ∧ v < vtV (V 0 2)) : t_MO_moved M v = some (mvS J v (V 0 2).toNat 0) := m_moved_L2 h hJ hv (V 0 2).toNat FU 0 (by have := h.1.1.1; omega) (by omega) (fu_big (by have := h.1.1.1; omega))
theorem mv_rng {J : Int → Int → Int} {n v : Int} (n0 : 0 ≤ n) (n1 : n ≤ 4) (h0 : 0 ≤ v) (h1 : v < vtV n) : ∀ (m : Nat) (w : Int), w + (m : Int) = n → 0 ≤ w → 0 ≤ mvS J v m w ∧ mvS J v m w < vtV n := by
  intro m
  induction m with
  | zero => intro w _ _; rw [mvS]; exact ⟨h0, h1⟩
  | succ m ih =>
    intro w g0 g1
    rw [mvS]
    have hb := bsS_rng J v w 4
    by_cases e : bsS J v w 4 = -1
    · rw [if_pos e]; exact ih (w + 1) (by omega) (by omega)
    · rw [if_neg e]; exact wi_rng n0 n1 h0 h1 g1 (by omega) (by omega) (by omega)
/-- moves: m more may be made -/
def msS (J : Int → Int → Int) (nw : Nat) (what : Int) : Nat → Int → Int
  | 0, v => if mvS J v nw 0 = v then (if what = 0 then 40 else v) else -2
  | m + 1, v => if mvS J v nw 0 = v then (if what = 0 then 40 - ((m : Int) + 1) else v) else msS J nw what m (mvS J v nw 0)
theorem m_moves_L37 (h : RI M V) (hJ : JT M V J) {x1 x2 : Int} : ∀ (m fu : Nat) (v n : Int), n + (m : Int) = 40 → 0 ≤ n → 0 ≤ v → v < vtV (V 0 2) → m < fu → t_MO_moves_L37 x1 x2 fu M v n = some (M, msS J (V 0 2).toNat x2 m v) := by
  have hv2 := h.1.1.1
  intro m
  induction m with
  | zero =>
    intro fu v n g0 g1 g2 g3 g4
    obtain ⟨g, rfl⟩ : ∃ g, fu = g + 1 := ⟨fu - 1, by omega⟩
    rw [t_MO_moves_L37, m_moved h hJ ⟨g2, g3⟩, obind_some, msS, show n = 40 by omega]
    by_cases e : mvS J v (V 0 2).toNat 0 = v
    · rw [if_pos e, if_pos e]; split <;> rfl
    · rw [if_neg e, if_neg e, if_pos rfl]
  | succ m ih =>
    intro fu v n g0 g1 g2 g3 g4
    obtain ⟨g, rfl⟩ : ∃ g, fu = g + 1 := ⟨fu - 1, by omega⟩
    rw [t_MO_moves_L37, m_moved h hJ ⟨g2, g3⟩, obind_some, msS]
    by_cases e : mvS J v (V 0 2).toNat 0 = v
    · rw [if_pos e, if_pos e, show n = 40 - ((m : Int) + 1) by omega]; split <;> rfl
    · have hr := mv_rng (J := J) (n := V 0 2) (v := v) (by omega) (by omega) g2 g3 (V 0 2).toNat 0 (by omega) (by omega)
      rw [if_neg e, if_neg e, if_neg (by omega), obind_some, w32_id (x := n + 1) (by unfold InR; omega)]
      exact ih g _ (n + 1) (by omega) (by omega) hr.1 hr.2 (by omega)
end MOVE
def movesS (V : TV) (J : Int → Int → Int) (x1 x2 : Int) : Int := if (0 ≤ x1 ∧ x1 < vtV (V 0 2)) ∧ 0 ≤ x2 ∧ x2 ≤ 1 then msS J (V 0 2).toNat x2 40 x1 else -1
theorem m_moves {M : Mem} {V : TV} (h : RI M V) (x1 x2 : Int) : ∃ N, t_MO_moves M x1 x2 = some (N, movesS V (jvM M V) x1 x2) ∧ Fr LJ0 M N := by
  have h1 := h.set0 0
  unfold t_MO_moves movesS
  simp only [qlet]
  by_cases a0 : x1 < 0
  · rw [if_pos a0, if_neg (by omega)]; exact ⟨_, rfl, at0L_fr⟩
  · rw [if_neg a0, m_votes h1.1.2.1 h1.1.1]
    by_cases a1 : vtV (V 0 2) ≤ x1
    · rw [if_pos a1, if_neg (by omega)]; exact ⟨_, rfl, at0L_fr⟩
    · rw [if_neg a1]
      by_cases a2 : x2 < 0
      · rw [if_pos a2, if_neg (by omega)]; exact ⟨_, rfl, at0L_fr⟩
      · rw [if_neg a2]
        by_cases a3 : x2 ≤ 1
        · rw [if_pos a3, if_pos (by omega)]
          obtain ⟨N, n1, n2, n3⟩ := m_layJoys h1 (Rw0.self _ V)
          rw [n1, obind_some]
          exact ⟨N, m_moves_L37 (h1.fr n2 LJ_RIc) n3 40 FU x1 0 (by omega) (by omega) (by omega) (by omega) (fu_big (by omega)), at0L_fr.trans (n2.mono (fun k j q => Or.inl q))⟩
        · rw [if_neg a3, if_neg (by omega)]; exact ⟨_, rfl, at0L_fr⟩
theorem ri_moves {M : Mem} {V : TV} (h : RI M V) (x1 x2 : Int) : Ok (fun r => RI r.1 V) (t_MO_moves M x1 x2) := by
  obtain ⟨N, n1, n2⟩ := m_moves h x1 x2
  exact ⟨_, n1, h.fr n2 LJ0_RIc⟩
/-! treaty -/
def suS (J : Int → Int → Int) (v : Int) : Nat → Int
  | 0 => 0
  | n + 1 => suS J v n + J v (n : Int)
def geS (J : Int → Int → Int) (Nw : Int → Int) (v : Int) : Nat → Bool
  | 0 => true
  | n + 1 => geS J Nw v n && decide (Nw (n : Int) ≤ J v (n : Int))
/-- m more votes from v on; the best so far, its sum -/
def trS (J : Int → Int → Int) (Nw : Int → Int) (nw : Nat) (what : Int) : Nat → Int → Int → Int → Int
  | 0, _, best, most => if best = -1 then -2 else if what = 0 then most else best
  | m + 1, v, best, most => if stS J v nw = true ∧ geS J Nw v nw = true ∧ (best = -1 ∨ most < suS J v nw) then trS J Nw nw what m (v + 1) v (suS J v nw) else trS J Nw nw what m (v + 1) best most
section TREATY
variable {M : Mem} {V : TV} {J : Int → Int → Int} {Nw : Int → Int}
theorem suS_rng {J : Int → Int → Int} {v B : Int} (hJ : ∀ w, 0 ≤ w → w < B → 0 ≤ J v w ∧ J v w ≤ 9999) : ∀ n : Nat, (n : Int) ≤ B → 0 ≤ suS J v n ∧ suS J v n ≤ 9999 * (n : Int) := by
  intro n
  induction n with
  | zero => intro _; rw [suS]; omega
  | succ n ih =>
    intro h
    have a := ih (by omega)
    have b := hJ (n : Int) (by omega) (by omega)
    rw [suS]
    omega
theorem q_and01 : q_and 0 0 = 0 ∧ q_and 0 1 = 0 ∧ q_and 1 0 = 0 ∧ q_and 1 1 = 1 := by decide +kernel
theorem m_treaty_L80 (h : RI M V) (hJ : JT M V J) (hN : ∀ w, 0 ≤ w → w < V 0 2 → M.1 225 w = Nw w) (hr : ∀ v, 0 ≤ v → v < vtV (V 0 2) → ∀ w, 0 ≤ w → w < V 0 2 → 0 ≤ J v w ∧ J v w ≤ 9999) {x1 v best most : Int} {s : Bool} {bk : Mem → Int → Int → Int → Option (Mem × Int)} (hv : 0 ≤ v ∧ v < vtV (V 0 2)) : ∀ (n w fu : Nat), (w : Int) + (n : Int) = V 0 2 → n < fu →
    t_MO_treaty_L80 x1 bk fu M best most v (if s = true ∧ geS J Nw v w = true then 1 else 0) (suS J v w) (w : Int) = if s = true ∧ geS J Nw v (V 0 2).toNat = true ∧ (best = -1 ∨ most < suS J v (V 0 2).toNat) then bk M v (suS J v (V 0 2).toNat) (v + 1) else bk M best most (v + 1) := by
  have hv2 := h.1.1.1
  have hvt := vt_eq (n := V 0 2) (by omega) (by omega)
  intro n
  induction n with
  | zero =>
    intro w fu g0 g1
    obtain ⟨g, rfl⟩ : ∃ g, fu = g + 1 := ⟨fu - 1, by omega⟩
    rw [t_MO_treaty_L80, h.1.2.1.1.2.2.1, if_pos (by omega), show (V 0 2).toNat = w by omega]
    unfold t_MO_treaty_L165 t_MO_treaty_L171
    rw [w32_id (x := v + 1) (by unfold InR; omega)]
    by_cases e : s = true ∧ geS J Nw v w = true
    · rw [if_pos e, if_neg (by decide)]
      by_cases e2 : best = -1
      · rw [if_pos e2, if_pos ⟨e.1, e.2, Or.inl e2⟩]
      · rw [if_neg e2]
        by_cases e3 : most < suS J v w
        · rw [if_pos e3, if_pos ⟨e.1, e.2, Or.inr e3⟩]
        · rw [if_neg e3, if_neg (fun q => by rcases q.2.2 with q | q <;> omega)]
    · rw [if_neg e, if_pos rfl, if_neg (fun q => e ⟨q.1, q.2.1⟩)]
  | succ n ih =>
    intro w fu g0 g1
    obtain ⟨g, rfl⟩ : ∃ g, fu = g + 1 := ⟨fu - 1, by omega⟩
    have hs := suS_rng (hr v hv.1 hv.2) w (by omega)
    have hjr := hr v hv.1 hv.2 (w : Int) (by omega) (by omega)
    have nx := ih (w + 1) g (by omega) (by omega)
    rw [geS, suS] at nx
    rw [t_MO_treaty_L80, h.1.2.1.1.2.2.1, if_neg (by omega), w32_id (x := 4 * v) (by unfold InR; omega), w32_id (x := 4 * v + (w : Int)) (by unfold InR; omega), qguard_pos ⟨by omega, by omega⟩, qguard_pos ⟨by omega, by omega⟩, hJ v hv.1 hv.2 (w : Int) (by omega) (by omega), hN (w : Int) (by omega) (by omega)]
    unfold t_MO_treaty_L120
    rw [w32_id (x := 4 * v) (by unfold InR; omega), w32_id (x := 4 * v + (w : Int)) (by unfold InR; omega), qguard_pos ⟨by omega, by omega⟩, qguard_pos ⟨by omega, by omega⟩, hJ v hv.1 hv.2 (w : Int) (by omega) (by omega), w32_id (x := suS J v w + J v (w : Int)) (by unfold InR; omega), w32_succ (by omega)]
    by_cases c : J v (w : Int) < Nw (w : Int)
    · rw [if_pos c]
      rw [decide_eq_false (show ¬ Nw (w : Int) ≤ J v (w : Int) by omega), Bool.and_false, if_neg (fun q => by cases q.2)] at nx
      have : q_and (if s = true ∧ geS J Nw v w = true then 1 else 0) 0 = 0 := by split <;> simp only [q_and01]
      rw [this]
      exact nx
    · rw [if_neg c]
      rw [decide_eq_true (show Nw (w : Int) ≤ J v (w : Int) by omega), Bool.and_true] at nx
      have : q_and (if s = true ∧ geS J Nw v w = true then 1 else 0) 1 = if s = true ∧ geS J Nw v w = true then 1 else 0 := by split <;> simp only [q_and01]
      rw [this]
      exact nx
theorem m_treaty_L57 (h : RI M V) (hJ : JT M V J) (hN : ∀ w, 0 ≤ w → w < V 0 2 → M.1 225 w = Nw w) (hr : ∀ v, 0 ≤ v → v < vtV (V 0 2) → ∀ w, 0 ≤ w → w < V 0 2 → 0 ≤ J v w ∧ J v w ≤ 9999) {x1 : Int} : ∀ (m fu : Nat) (v best most : Int), v + (m : Int) = vtV (V 0 2) → 0 ≤ v → m < fu → t_MO_treaty_L57 x1 fu M best most v = some (M, trS J Nw (V 0 2).toNat x1 m v best most) := by
  have hv2 := h.1.1.1
  have hvt := vt_eq (n := V 0 2) (by omega) (by omega)
  intro m
  induction m with
  | zero =>
    intro fu v best most g0 g1 g2
    obtain ⟨g, rfl⟩ : ∃ g, fu = g + 1 := ⟨fu - 1, by omega⟩
    rw [t_MO_treaty_L57]
    simp only [qlet]
    rw [m_votes h.1.2.1 h.1.1, if_pos (by omega), trS]
    split
    · rfl
    · split <;> rfl
  | succ m ih =>
    intro fu v best most g0 g1 g2
    obtain ⟨g, rfl⟩ : ∃ g, fu = g + 1 := ⟨fu - 1, by omega⟩
    rw [t_MO_treaty_L57]
    simp only [qlet]
    rw [m_votes h.1.2.1 h.1.1, if_neg (by omega), m_isStay h hJ ⟨g1, by omega⟩, obind_some, trS]
    have e := m_treaty_L80 h hJ hN hr (x1 := x1) (best := best) (most := most) (s := stS J v (V 0 2).toNat) (bk := fun a0_ a1_ a2_ a3_ => t_MO_treaty_L57 x1 g a0_ a1_ a2_ a3_) (v := v) ⟨g1, by omega⟩ (V 0 2).toNat 0 FU (by omega) (fu_big (by omega))
    have e0 : (if stS J v (V 0 2).toNat = true ∧ geS J Nw v 0 = true then (1 : Int) else 0) = if stS J v (V 0 2).toNat = true then 1 else 0 := by
      show (if stS J v (V 0 2).toNat = true ∧ true = true then (1 : Int) else 0) = _
      simp
    rw [e0] at e
    have e1 : t_MO_treaty_L80 x1 (fun a0_ a1_ a2_ a3_ => t_MO_treaty_L57 x1 g a0_ a1_ a2_ a3_) FU M best most v (if stS J v (V 0 2).toNat = true then 1 else 0) 0 0 = _ := e
    rw [e1]
    split
    · exact ih g (v + 1) _ _ (by omega) (by omega) (by omega)
    · exact ih g (v + 1) _ _ (by omega) (by omega) (by omega)
theorem m_treaty_L18 {x1 : Int} {V : TV} {M0 : Mem} (h : RI M0 V) (hr : ∀ v, 0 ≤ v → v < vtV (V 0 2) → ∀ w, 0 ≤ w → w < V 0 2 → 0 ≤ jvM M0 V v w ∧ jvM M0 V v w ≤ 9999) : ∀ (n : Nat) (fu : Nat) (M : Mem) (w : Int), w + (n : Int) = V 0 2 → 0 ≤ w → n < fu → Fr LJ0 M0 M → (∀ x, 0 ≤ x → x < w → M.1 225 x = joyS V (nxR M0 0 V) (AT M0 0) x (M0.1 207 0)) →
    ∃ N, t_MO_treaty_L18 x1 fu M w = some (N, trS (jvM M0 V) (fun x => joyS V (nxR M0 0 V) (AT M0 0) x (M0.1 207 0)) (V 0 2).toNat x1 (vtV (V 0 2)).toNat 0 (-1) 0) ∧ Fr LJ0 M0 N := by
  have hv2 := h.1.1.1
  have hvt := vt_eq (n := V 0 2) (by omega) (by omega)
  intro n
  induction n with
  | zero =>
    intro fu M w g0 g1 g2 hF hx
    obtain ⟨g, rfl⟩ : ∃ g, fu = g + 1 := ⟨fu - 1, by omega⟩
    have hM : RI M V := h.fr hF LJ0_RIc
    rw [t_MO_treaty_L18, hM.1.2.1.1.2.2.1, if_pos (by omega)]
    have q0 := RowEq.fr (a := 0) hF (fun k j a q => by unfold CW at a; unfold LJ0 LJ JW W_MO_goesFrom GO CW at q; omega)
    obtain ⟨N, n1, n2, n3⟩ := m_layJoys (A := AT M0 0) (nets := M0.2 210 0) (yr := M0.1 207 0) hM ⟨fun t a b => (q0.2.2 t a (by omega)).1, q0.1.2.2.2.1, q0.1.1⟩
    rw [n1, obind_some]
    have hN : RI N V := hM.fr n2 LJ_RIc
    exact ⟨N, m_treaty_L57 hN n3 (fun w a b => by rw [(n2 225 w (by unfold LJ JW W_MO_goesFrom GO CW; omega)).1]; exact hx w a (by omega)) hr (vtV (V 0 2)).toNat FU 0 (-1) 0 (by omega) (by omega) (fu_big (by omega)), hF.trans (n2.mono (fun k j q => Or.inl q))⟩
  | succ n ih =>
    intro fu M w g0 g1 g2 hF hx
    obtain ⟨g, rfl⟩ : ∃ g, fu = g + 1 := ⟨fu - 1, by omega⟩
    have hM : RI M V := h.fr hF LJ0_RIc
    have q0 := RowEq.fr (a := 0) hF (fun k j a q => by unfold CW at a; unfold LJ0 LJ JW W_MO_goesFrom GO CW at q; omega)
    rw [t_MO_treaty_L18, hM.1.2.1.1.2.2.1, if_neg (by omega)]
    obtain ⟨N, n1, n2⟩ := m_joyOf (a := 0) (w := w) (D := DN M0 0) (A := AT M0 0) (nets := M0.2 210 0) (by omega) hM ⟨fun w a b => q0.2.1 w a (by omega), fun t a b => (q0.2.2 t a (by omega)).1, q0.1.2.2.2.1⟩ h.row0.1 h.row0.2.1 ⟨g1, by omega⟩
    rw [n1, obind_some, qguard_pos ⟨by omega, by omega⟩, w32_id (x := w + 1) (by unfold InR; omega)]
    simp only [qlet]
    rw [q0.1.1]
    refine ih g _ (w + 1) (by omega) (by omega) (by omega) ((hF.trans (n2.mono (fun k j q => Or.inl (Or.inl q)))).setI (Or.inr (Or.inr rfl))) (fun x a b => ?_)
    by_cases e : x = w
    · subst e; rw [sI_self]; rfl
    · rw [sI_ne (by omega), (n2 225 _ (by unfold JW W_MO_goesFrom GO; omega)).1]; exact hx x a (by omega)
end TREATY
theorem joy_rng {V : TV} (hV : VOK V) (f A : Int → Int) (w yr : Int) : 0 ≤ joyS V f A w yr ∧ joyS V f A w yr ≤ 9999 := by
  have hv := hV.1
  have hj := jyS_rng hV f A w (V 0 3).toNat (by omega)
  unfold joyS witS
  split
  · split
    · omega
    · exact put_rng (by omega) (by omega)
  · omega
def treatyS (V : TV) (J : Int → Int → Int) (Nw : Int → Int) (x1 : Int) : Int := if 0 ≤ x1 ∧ x1 ≤ 1 then trS J Nw (V 0 2).toNat x1 (vtV (V 0 2)).toNat 0 (-1) 0 else -1
theorem m_treaty {M : Mem} {V : TV} (h : RI M V) (x1 : Int) : ∃ N, t_MO_treaty M x1 = some (N, treatyS V (jvM M V) (fun x => joyS V (nxR M 0 V) (AT M 0) x (M.1 207 0)) x1) ∧ Fr LJ0 M N := by
  have h1 := h.set0 0
  have hv2 := h.1.1.1
  unfold t_MO_treaty treatyS
  simp only [qlet]
  by_cases a0 : x1 < 0
  · rw [if_pos a0, if_neg (by omega)]; exact ⟨_, rfl, at0L_fr⟩
  · rw [if_neg a0]
    by_cases a1 : x1 ≤ 1
    · rw [if_pos a1, if_pos (by omega)]
      obtain ⟨N, n1, n2⟩ := m_treaty_L18 (x1 := x1) h1 (fun v _ _ w _ _ => joy_rng h.1.1 _ _ _ _) (V 0 2).toNat FU (setI M 191 0 0) 0 (by omega) (by omega) (fu_big (by omega)) Fr.rf (fun x a b => by omega)
      exact ⟨N, n1, at0L_fr.trans n2⟩
    · rw [if_neg a1, if_neg (by omega)]; exact ⟨_, rfl, at0L_fr⟩
theorem ri_treaty {M : Mem} {V : TV} (h : RI M V) (x1 : Int) : Ok (fun r => RI r.1 V) (t_MO_treaty M x1) := by
  obtain ⟨N, n1, n2⟩ := m_treaty h x1
  exact ⟨_, n1, h.fr n2 LJ0_RIc⟩
end
section
/-! ===== fits: what is to come out, and the reference's side ===== -/
def kmS (b n : Int) : Int := if b = -1 then n else b
/-- struck ones: notes m - 1, .., 0 are looked at -/
def skS (I F : Int → Int) : Nat → (Int → Bool) → Int → Bool
  | 0, s => s
  | m + 1, s => skS I F m (if s (m : Int) = false ∧ ¬ I (m : Int) = 0 then (fun x => if x = F (m : Int) then true else s x) else s)
abbrev wyOK (f : Int → Int) (c t : Int) : Prop := if t = -1 then ¬ wRound (wayS f c) = 0 else wRound (wayS f c) ≤ 0 ∧ wEnd f c (wayS f c) = t
def foS (f F T I : Int → Int) (s : Int → Bool) : Nat → Bool
  | 0 => true
  | n + 1 => foS f F T I s n && decide (s (n : Int) = true ∨ ¬ I (n : Int) = 0 ∨ wyOK f (F (n : Int)) (T (n : Int)))
theorem foS_mono {f F T I : Int → Int} {s : Int → Bool} : ∀ {n m : Nat}, n ≤ m → foS f F T I s n = false → foS f F T I s m = false := by
  intro n m h e
  induction m with
  | zero => rw [show n = 0 by omega] at e; exact e
  | succ m ih =>
    by_cases q : n = m + 1
    · rw [← q]; exact e
    · rw [foS, ih (by omega)]; rfl
/-- the notes' rows -/
abbrev ntF (M : Mem) : Int → Int := fun k => M.1 226 k
abbrev ntT (M : Mem) : Int → Int := fun k => M.1 227 k
abbrev ntI (M : Mem) : Int → Int := fun k => M.1 228 k
def dgV : Nat → Int → Int
  | 0, x => q_rem x 5
  | n + 1, x => dgV n (q_div x 5)
def dcV (code : Int) : Int → Int := fun w => dgV w.toNat code
def p5 : Nat → Int
  | 0 => 1
  | n + 1 => p5 n * 5
def fcS (t : Int → Bool) : Nat → Int
  | 0 => 0
  | n + 1 => fcS t n + (if t (n : Int) = true then 1 else 0)
def fmS (t : Int → Bool) (w : Int) : Nat → Int
  | 0 => 0
  | n + 1 => if t (n : Int) = true then q_or (fmS t w n) (q_shl 1 (dcV (n : Int) w)) else fmS t w n
theorem fcS_rng (t : Int → Bool) : ∀ n : Nat, 0 ≤ fcS t n ∧ fcS t n ≤ (n : Int) := by
  intro n
  induction n with
  | zero => rw [fcS]; omega
  | succ n ih => rw [fcS]; split <;> omega
theorem q5 {x : Int} (h0 : 0 ≤ x) (h1 : x < 1000000) : q_rem x 5 = x % 5 ∧ q_div x 5 = x / 5 := ⟨q_rem_nn (by unfold InR; omega) (by unfold InR; omega) h0 (by omega), q_div_nn (by unfold InR; omega) (by unfold InR; omega) h0 (by omega)⟩
theorem dg_rng : ∀ (n : Nat) (x : Int), 0 ≤ x → x < 1000000 → 0 ≤ dgV n x ∧ dgV n x ≤ 4 := by
  intro n
  induction n with
  | zero => intro x h0 h1; rw [dgV, (q5 h0 h1).1]; omega
  | succ n ih => intro x h0 h1; rw [dgV, (q5 h0 h1).2]; exact ih _ (by omega) (by omega)
theorem p5_rng {n : Int} (h0 : 0 ≤ n) (h1 : n ≤ 4) : 1 ≤ p5 n.toNat ∧ p5 n.toNat ≤ 625 := by
  obtain ⟨k, rfl⟩ : ∃ k : Nat, n = (k : Int) := ⟨n.toNat, by omega⟩
  rw [Int.toNat_natCast]
  have hk : k = 0 ∨ k = 1 ∨ k = 2 ∨ k = 3 ∨ k = 4 := by omega
  rcases hk with rfl | rfl | rfl | rfl | rfl <;> decide
def LF : Nat → Int → Prop := fun k j => W_MO_goesFrom k j ∨ CW 1 k j ∨ (k = 191 ∧ j = 66) ∨ k = 229 ∨ k = 230
theorem LF_RIc : ∀ k j, RIc k j → ¬ LF k j := by
  intro k j a q
  unfold RIc at a
  unfold LF W_MO_goesFrom CW at q
  omega
theorem m_known {M : Mem} {V : TV} (h : RI M V) : t_MO_knownMany M = kmS (M.1 191 61) (M.1 191 60) ∧ 0 ≤ kmS (M.1 191 61) (M.1 191 60) ∧ kmS (M.1 191 61) (M.1 191 60) ≤ 24 ∧ kmS (M.1 191 61) (M.1 191 60) ≤ M.1 191 60 := by
  have hn := h.2.2.2.2.2
  unfold NotesOK at hn
  unfold t_MO_knownMany kmS
  split <;> omega
theorem m_fitsBy_loop {M0 : Mem} {V : TV} {D A : Int → Int} {nets : Int64} {s : Int → Bool} (h : RI M0 V) (hm : MSc M0 1 V D A nets) (hD : ∀ w, 0 ≤ w → w < V 0 2 → 0 ≤ D w ∧ D w ≤ 4) (hs : ∀ k, 0 ≤ k → k < kmS (M0.1 191 61) (M0.1 191 60) → M0.1 229 k = if s k = true then 1 else 0) : ∀ (n k fu : Nat) (M : Mem), (k : Int) + (n : Int) = kmS (M0.1 191 61) (M0.1 191 60) → n < fu → Fr W_MO_goesFrom M0 M → foS (nxV V D nets (wlV V)) (ntF M0) (ntT M0) (ntI M0) s k = true →
    ∃ N, t_MO_fitsBy_L2 1 fu M (k : Int) = some (N, if foS (nxV V D nets (wlV V)) (ntF M0) (ntT M0) (ntI M0) s (kmS (M0.1 191 61) (M0.1 191 60)).toNat = true then 1 else 0) ∧ Fr W_MO_goesFrom M0 N := by
  have hk0 := (m_known h).2
  intro n
  induction n with
  | zero =>
    intro k fu M g0 g1 hF e
    obtain ⟨g, rfl⟩ : ∃ g, fu = g + 1 := ⟨fu - 1, by omega⟩
    have hM : RI M V := h.goesFr hF
    have e60 : M.1 191 60 = M0.1 191 60 := (hF 191 60 (by unfold W_MO_goesFrom; omega)).1
    have e61 : M.1 191 61 = M0.1 191 61 := (hF 191 61 (by unfold W_MO_goesFrom; omega)).1
    rw [t_MO_fitsBy_L2]
    simp only [qlet]
    rw [(m_known hM).1, e60, e61, if_pos (by omega), show (kmS (M0.1 191 61) (M0.1 191 60)).toNat = k by omega, if_pos e]
    exact ⟨M, rfl, hF⟩
  | succ n ih =>
    intro k fu M g0 g1 hF e
    obtain ⟨g, rfl⟩ : ∃ g, fu = g + 1 := ⟨fu - 1, by omega⟩
    have hM : RI M V := h.goesFr hF
    have hmM : MSc M 1 V D A nets := hm.fr hF (fun q j x y => by unfold W_MO_goesFrom at y; omega)
    have fr : ∀ (q : Nat) (j : Int), (q = 226 ∨ q = 227 ∨ q = 228 ∨ q = 229 ∨ (q = 191 ∧ (j = 60 ∨ j = 61))) → M.1 q j = M0.1 q j := fun q j hq => (hF q j (by unfold W_MO_goesFrom; omega)).1
    have nx := fun N (q : Fr W_MO_goesFrom M0 N) (e2 : foS (nxV V D nets (wlV V)) (ntF M0) (ntT M0) (ntI M0) s (k + 1) = true) => ih (k + 1) g N (by omega) (by omega) q e2
    have hn := h.2.2.2.2.2.2.2.2.2 (k : Int) (by omega) (by omega)
    have hC := h.1.1.cells
    have gd : 0 ≤ (k : Int) ∧ (k : Int) < 24 := by omega
    have yes : foS (nxV V D nets (wlV V)) (ntF M0) (ntT M0) (ntI M0) s (k + 1) = true → ∀ N, Fr W_MO_goesFrom M0 N → ∃ O, t_MO_fitsBy_L84 1 (fun a0_ a1_ => t_MO_fitsBy_L2 1 g a0_ a1_) N (k : Int) = some (O, if foS (nxV V D nets (wlV V)) (ntF M0) (ntT M0) (ntI M0) s (kmS (M0.1 191 61) (M0.1 191 60)).toNat = true then 1 else 0) ∧ Fr W_MO_goesFrom M0 O := by
      intro e2 N q
      unfold t_MO_fitsBy_L84
      rw [w32_succ (by omega)]
      exact nx N q e2
    have no : foS (nxV V D nets (wlV V)) (ntF M0) (ntT M0) (ntI M0) s (k + 1) = false → ∀ N, Fr W_MO_goesFrom M0 N → ∃ O, (some (N, (0 : Int)) : Option (Mem × Int)) = some (O, if foS (nxV V D nets (wlV V)) (ntF M0) (ntT M0) (ntI M0) s (kmS (M0.1 191 61) (M0.1 191 60)).toNat = true then 1 else 0) ∧ Fr W_MO_goesFrom M0 O := by
      intro e2 N q
      rw [foS_mono (n := k + 1) (by omega) e2, if_neg (by decide)]
      exact ⟨N, rfl, q⟩
    have hfo : foS (nxV V D nets (wlV V)) (ntF M0) (ntT M0) (ntI M0) s (k + 1) = decide (s (k : Int) = true ∨ ¬ ntI M0 (k : Int) = 0 ∨ wyOK (nxV V D nets (wlV V)) (ntF M0 (k : Int)) (ntT M0 (k : Int))) := by rw [foS, e, Bool.true_and]
    rw [t_MO_fitsBy_L2]
    simp only [qlet]
    rw [(m_known hM).1, fr 191 60 (by omega), fr 191 61 (by omega), if_neg (by omega), qguard_pos gd, qguard_pos gd, fr 229 _ (by omega), fr 228 _ (by omega), hs (k : Int) (by omega) (by omega)]
    cases es : s (k : Int) with
    | true =>
      rw [if_pos rfl, if_neg (by decide)]
      exact yes (by rw [hfo, es]; simp) M hF
    | false =>
      rw [if_pos (show (if false = true then (1 : Int) else 0) = 0 from rfl)]
      by_cases ei : M0.1 228 (k : Int) = 0
      · rw [if_pos ei, qguard_pos gd, fr 226 _ (by omega)]
        obtain ⟨-, f0, f1, f2, f3⟩ : M0.1 228 (k : Int) = 0 ∧ 0 ≤ M0.1 226 (k : Int) ∧ M0.1 226 (k : Int) < cellsV V ∧ V 8 (M0.1 226 (k : Int)) = 0 ∧ (M0.1 227 (k : Int) = -1 ∨ (0 ≤ M0.1 227 (k : Int) ∧ M0.1 227 (k : Int) < cellsV V)) := by
          rcases hn with q | q
          · exact q
          · omega
        obtain ⟨N, n1, n2, n3⟩ := m_goes hM.1.1 hM.1.2.1 hmM hD hM.2.1 (by omega) f0 f1
        have hFN := hF.trans n2
        have e227 : N.1 227 (k : Int) = M0.1 227 (k : Int) := (hFN 227 _ (by unfold W_MO_goesFrom; omega)).1
        rw [n1, obind_some, qguard_pos gd, e227, n3.2.1, n3.2.2.1, qguard_pos gd]
        have hd : foS (nxV V D nets (wlV V)) (ntF M0) (ntT M0) (ntI M0) s (k + 1) = decide (wyOK (nxV V D nets (wlV V)) (M0.1 226 (k : Int)) (M0.1 227 (k : Int))) := by
          rw [hfo, es]
          have : ntI M0 (k : Int) = 0 := ei
          simp [this]
        by_cases et : M0.1 227 (k : Int) = -1
        · rw [if_pos et]
          by_cases er : wRound (wayS (nxV V D nets (wlV V)) (M0.1 226 (k : Int))) = 0
          · rw [if_pos er]
            exact no (by rw [hd]; exact decide_eq_false (by unfold wyOK; rw [if_pos et]; exact fun q => q er)) N hFN
          · rw [if_neg er]
            exact yes (by rw [hd]; exact decide_eq_true (by unfold wyOK; rw [if_pos et]; exact er)) N hFN
        · rw [if_neg et]
          by_cases er : 0 < wRound (wayS (nxV V D nets (wlV V)) (M0.1 226 (k : Int)))
          · rw [if_pos er]
            exact no (by rw [hd]; exact decide_eq_false (by unfold wyOK; rw [if_neg et]; exact fun q => by omega)) N hFN
          · rw [if_neg er]
            by_cases ee : wEnd (nxV V D nets (wlV V)) (M0.1 226 (k : Int)) (wayS (nxV V D nets (wlV V)) (M0.1 226 (k : Int))) = M0.1 227 (k : Int)
            · rw [if_pos ee]
              exact yes (by rw [hd]; exact decide_eq_true (by unfold wyOK; rw [if_neg et]; exact ⟨by omega, ee⟩)) N hFN
            · rw [if_neg ee]
              exact no (by rw [hd]; exact decide_eq_false (by unfold wyOK; rw [if_neg et]; exact fun q => ee q.2)) N hFN
      · rw [if_neg ei]
        exact yes (by rw [hfo]; exact decide_eq_true (Or.inr (Or.inl ei))) M hF
theorem m_fitsBy {M : Mem} {V : TV} {D A : Int → Int} {nets : Int64} {s : Int → Bool} (h : RI M V) (hm : MSc M 1 V D A nets) (hD : ∀ w, 0 ≤ w → w < V 0 2 → 0 ≤ D w ∧ D w ≤ 4) (hs : ∀ k, 0 ≤ k → k < kmS (M.1 191 61) (M.1 191 60) → M.1 229 k = if s k = true then 1 else 0) :
    ∃ N, t_MO_fitsBy M 1 = some (N, if foS (nxV V D nets (wlV V)) (ntF M) (ntT M) (ntI M) s (kmS (M.1 191 61) (M.1 191 60)).toNat = true then 1 else 0) ∧ Fr W_MO_goesFrom M N :=
  m_fitsBy_loop h hm hD hs (kmS (M.1 191 61) (M.1 191 60)).toNat 0 FU M (by have := (m_known h).2; omega) (fu_big (by have := (m_known h).2; omega)) Fr.rf rfl
/-- what one code's test asks -/
def ftS (V : TV) (nets : Int64) (F T I : Int → Int) (s : Int → Bool) (km : Int) (code : Int) : Bool := foS (nxV V (dcV code) nets (wlV V)) F T I s km.toNat
theorem m_layFits_L181 {bk : Mem → Int → Int → Option Mem} {V : TV} {v1 v2 : Int} (h2 : 0 ≤ v2 ∧ v2 < 100000) : ∀ (n fu : Nat) (M : Mem) (w : Int), w + (n : Int) = V 0 2 → 0 ≤ w → n < fu → RI M V →
    ∃ N, t_MO_layFits_L181 bk fu M v1 v2 w = bk N v1 (v2 + 1) ∧ Fr (fun k j => k = 230) M N ∧ ∀ x, 0 ≤ x → x < V 0 2 → N.1 230 x = if w ≤ x then q_or (M.1 230 x) (q_shl 1 (M.1 212 (4 * 1 + x))) else M.1 230 x := by
  intro n
  induction n with
  | zero =>
    intro fu M w g0 g1 g2 h
    obtain ⟨g, rfl⟩ : ∃ g, fu = g + 1 := ⟨fu - 1, by omega⟩
    rw [t_MO_layFits_L181, h.1.2.1.1.2.2.1, if_pos (by omega)]
    unfold t_MO_layFits_L219
    rw [w32_id (x := v2 + 1) (by unfold InR; omega)]
    exact ⟨M, rfl, Fr.rf, fun x a b => by rw [if_neg (by omega)]⟩
  | succ n ih =>
    intro fu M w g0 g1 g2 h
    obtain ⟨g, rfl⟩ : ∃ g, fu = g + 1 := ⟨fu - 1, by omega⟩
    have hv := h.1.1.1
    rw [t_MO_layFits_L181, h.1.2.1.1.2.2.1, if_neg (by omega), w32_id (x := 4 + w) (by unfold InR; omega), w32_id (x := w + 1) (by unfold InR; omega), qguard_pos ⟨by omega, by omega⟩, qguard_pos ⟨by omega, by omega⟩, qguard_pos ⟨by omega, by omega⟩]
    simp only [qlet]
    have hF : Fr (fun k (j : Int) => k = 230) M (setI M 230 w (q_or (M.1 230 w) (q_shl 1 (M.1 212 (4 + w))))) := Fr.rf.setI rfl
    obtain ⟨N, n1, n2, n3⟩ := ih g _ (w + 1) (by omega) (by omega) (by omega) (h.fr hF (fun k j a q => by unfold RIc at a; omega))
    refine ⟨N, n1, hF.trans n2, fun x a b => ?_⟩
    rw [n3 x a b, (hF 212 _ (by omega)).1]
    by_cases e : x = w
    · subst e; rw [if_neg (by omega), if_pos (by omega), sI_self, show 4 * 1 + x = 4 + x by omega]
    · rw [sI_ne (by omega)]
      by_cases e2 : w ≤ x
      · rw [if_pos (by omega), if_pos e2]
      · rw [if_neg (by omega), if_neg e2]
/-- what stays while codes are tried -/
def RwF (M : Mem) (V : TV) (nets : Int64) (s : Int → Bool) (km : Int) : Prop := M.2 210 1 = nets ∧ ∀ k, 0 ≤ k → k < km → M.1 229 k = if s k = true then 1 else 0
theorem m_layFits_L124 {bk : Mem → Int → Int → Option Mem} {V : TV} {v1 v2 : Int} (h2 : 0 ≤ v2 ∧ v2 < 100000) : ∀ (n w fu : Nat) (M : Mem) (r : Int), (w : Int) + (n : Int) = V 0 2 → n < fu → 0 ≤ r → r < 100000 → RI M V → (∀ x : Nat, dgV x r = dgV (w + x) v2) → (∀ x, 0 ≤ x → x < (w : Int) → M.1 212 (4 * 1 + x) = dcV v2 x) →
    ∃ N, t_MO_layFits_L124 bk fu M v1 v2 r (w : Int) = (obind (t_MO_fitsBy N 1) fun q29 => (if (q29.2) = 0 then (t_MO_layFits_L219 bk (q29.1) v1 v2) else (qlet (setI (q29.1) 191 66 (w32 (((q29.1).1 191 66) + 1))) fun M33 => (t_MO_layFits_L181 bk FU M33 v1 v2 0)))) ∧ Fr (fun k j => k = 212 ∧ 4 ≤ j ∧ j < 8) M N ∧ ∀ x, 0 ≤ x → x < V 0 2 → N.1 212 (4 * 1 + x) = dcV v2 x := by
  intro n
  induction n with
  | zero =>
    intro w fu M r g0 g1 g2 g3 h hd hx
    obtain ⟨g, rfl⟩ : ∃ g, fu = g + 1 := ⟨fu - 1, by omega⟩
    rw [t_MO_layFits_L124, h.1.2.1.1.2.2.1, if_pos (by omega)]
    exact ⟨M, rfl, Fr.rf, fun x a b => hx x a (by omega)⟩
  | succ n ih =>
    intro w fu M r g0 g1 g2 g3 h hd hx
    obtain ⟨g, rfl⟩ : ∃ g, fu = g + 1 := ⟨fu - 1, by omega⟩
    have hv := h.1.1.1
    have hq := q5 g2 (by omega)
    rw [t_MO_layFits_L124, h.1.2.1.1.2.2.1, if_neg (by omega), w32_id (x := 4 + (w : Int)) (by unfold InR; omega), w32_succ (by omega), qguard_pos ⟨by omega, by omega⟩]
    simp only [qlet]
    have hF : Fr (fun k j => k = 212 ∧ 4 ≤ j ∧ j < 8) M (setI M 212 (4 + (w : Int)) (q_rem r 5)) := Fr.rf.setI ⟨rfl, by omega, by omega⟩
    obtain ⟨N, n1, n2, n3⟩ := ih (w + 1) g _ (q_div r 5) (by omega) (by omega) (by rw [hq.2]; omega) (by rw [hq.2]; omega) (h.fr hF (fun k j a q => by unfold RIc at a; omega)) (fun x => by
      have := hd (x + 1)
      rw [dgV] at this
      rw [this, show w + (x + 1) = w + 1 + x by omega]) (fun x a b => by
      by_cases e : x = (w : Int)
      · subst e
        rw [show 4 * 1 + (w : Int) = 4 + (w : Int) by omega, sI_self]
        have := hd 0
        rw [dgV, Nat.add_zero] at this
        unfold dcV
        rw [Int.toNat_natCast]
        exact this
      · rw [sI_ne (by omega)]; exact hx x a (by omega))
    exact ⟨N, n1, hF.trans n2, n3⟩
theorem m_layFits_L114 {V : TV} {M0 : Mem} {s : Int → Bool} {all : Nat} (h : RI M0 V) (hall : all ≤ 625) : ∀ (n code fu : Nat) (M : Mem), code + n = all → n < fu → Fr LF M0 M → RwF M V (M0.2 210 0) s (kmS (M0.1 191 61) (M0.1 191 60)) → M.1 191 66 = fcS (ftS V (M0.2 210 0) (ntF M0) (ntT M0) (ntI M0) s (kmS (M0.1 191 61) (M0.1 191 60))) code → (∀ w, 0 ≤ w → w < V 0 2 → M.1 230 w = fmS (ftS V (M0.2 210 0) (ntF M0) (ntT M0) (ntI M0) s (kmS (M0.1 191 61) (M0.1 191 60))) w code) →
    ∃ N, t_MO_layFits_L114 fu M (all : Int) (code : Int) = some N ∧ Fr LF M0 N ∧ N.1 191 66 = fcS (ftS V (M0.2 210 0) (ntF M0) (ntT M0) (ntI M0) s (kmS (M0.1 191 61) (M0.1 191 60))) all ∧ (∀ w, 0 ≤ w → w < V 0 2 → N.1 230 w = fmS (ftS V (M0.2 210 0) (ntF M0) (ntT M0) (ntI M0) s (kmS (M0.1 191 61) (M0.1 191 60))) w all) := by
  have hv := h.1.1.1
  intro n
  induction n with
  | zero =>
    intro code fu M g0 g1 hF hR h66 h230
    obtain ⟨g, rfl⟩ : ∃ g, fu = g + 1 := ⟨fu - 1, by omega⟩
    rw [t_MO_layFits_L114, if_pos (by omega), show all = code by omega]
    exact ⟨M, rfl, hF, h66, h230⟩
  | succ n ih =>
    intro code fu M g0 g1 hF hR h66 h230
    obtain ⟨g, rfl⟩ : ∃ g, fu = g + 1 := ⟨fu - 1, by omega⟩
    have hM : RI M V := h.fr hF LF_RIc
    have hfc := fcS_rng (ftS V (M0.2 210 0) (ntF M0) (ntT M0) (ntI M0) s (kmS (M0.1 191 61) (M0.1 191 60))) code
    rw [t_MO_layFits_L114, if_neg (by omega)]
    obtain ⟨N, n1, n2, n3⟩ := m_layFits_L124 (bk := fun a0_ a1_ a2_ => t_MO_layFits_L114 g a0_ a1_ a2_) (v1 := (all : Int)) (v2 := (code : Int)) (by omega) (V 0 2).toNat 0 FU M (code : Int) (by omega) (fu_big (by omega)) (by omega) (by omega) hM (fun x => by rw [Nat.zero_add]) (fun x a b => by omega)
    rw [show ((0 : Nat) : Int) = 0 from rfl] at n1
    rw [n1]
    have hFN : Fr LF M0 N := hF.trans (n2.mono (fun k j q => Or.inr (Or.inl (by unfold CW; omega))))
    have hN : RI N V := h.fr hFN LF_RIc
    have e60 : N.1 191 60 = M0.1 191 60 := (hFN 191 60 (by unfold LF W_MO_goesFrom CW; omega)).1
    have e61 : N.1 191 61 = M0.1 191 61 := (hFN 191 61 (by unfold LF W_MO_goesFrom CW; omega)).1
    have eF : ntF N = ntF M0 := funext fun k => (hFN 226 k (by unfold LF W_MO_goesFrom CW; omega)).1
    have eT : ntT N = ntT M0 := funext fun k => (hFN 227 k (by unfold LF W_MO_goesFrom CW; omega)).1
    have eI : ntI N = ntI M0 := funext fun k => (hFN 228 k (by unfold LF W_MO_goesFrom CW; omega)).1
    have hnet : N.2 210 1 = M0.2 210 0 := ((n2 210 1 (by omega)).2).trans hR.1
    obtain ⟨O, o1, o2⟩ := m_fitsBy (A := AT N 1) (nets := M0.2 210 0) (s := s) hN ⟨n3, fun _ _ _ => rfl, hnet⟩ (fun w a b => dg_rng _ _ (by omega) (by omega)) (fun k a b => by
      rw [e60, e61] at b
      rw [(n2 229 k (by omega)).1]; exact hR.2 k a b)
    rw [o1, obind_some, e60, e61, eF, eT, eI]
    have hFO : Fr LF M0 O := hFN.trans (o2.mono (fun k j q => Or.inl q))
    have hRO : RwF O V (M0.2 210 0) s (kmS (M0.1 191 61) (M0.1 191 60)) := ⟨((o2 210 1 (by unfold W_MO_goesFrom; omega)).2).trans hnet, fun k a b => by rw [(o2 229 k (by unfold W_MO_goesFrom; omega)).1, (n2 229 k (by omega)).1]; exact hR.2 k a b⟩
    have o66 : O.1 191 66 = M.1 191 66 := ((o2 191 66 (by unfold W_MO_goesFrom; omega)).1).trans (n2 191 66 (by omega)).1
    have o230 : ∀ x, O.1 230 x = M.1 230 x := fun x => ((o2 230 x (by unfold W_MO_goesFrom; omega)).1).trans (n2 230 x (by omega)).1
    have o212 : ∀ x, 0 ≤ x → x < V 0 2 → O.1 212 (4 * 1 + x) = dcV (code : Int) x := fun x a b => ((o2 212 _ (by unfold W_MO_goesFrom; omega)).1).trans (n3 x a b)
    have eft : foS (nxV V (dcV (code : Int)) (M0.2 210 0) (wlV V)) (ntF M0) (ntT M0) (ntI M0) s (kmS (M0.1 191 61) (M0.1 191 60)).toNat = ftS V (M0.2 210 0) (ntF M0) (ntT M0) (ntI M0) s (kmS (M0.1 191 61) (M0.1 191 60)) (code : Int) := rfl
    rw [eft]
    cases e : ftS V (M0.2 210 0) (ntF M0) (ntT M0) (ntI M0) s (kmS (M0.1 191 61) (M0.1 191 60)) (code : Int) with
    | false =>
      rw [if_pos (show (if false = true then (1 : Int) else 0) = 0 from rfl)]
      unfold t_MO_layFits_L219
      rw [w32_succ (by omega)]
      refine ih (code + 1) g O (by omega) (by omega) hFO hRO ?_ (fun w a b => ?_)
      · rw [o66, h66, fcS, e, if_neg (by decide)]; omega
      · rw [o230, h230 w a b, fmS, e, if_neg (by decide)]
    | true =>
      rw [if_neg (show ¬ (if true = true then (1 : Int) else 0) = 0 by decide), o66, h66, w32_id (by unfold InR; omega)]
      simp only [qlet]
      have hF66 : Fr LF M0 (setI O 191 66 (fcS (ftS V (M0.2 210 0) (ntF M0) (ntT M0) (ntI M0) s (kmS (M0.1 191 61) (M0.1 191 60))) code + 1)) := hFO.setI (by unfold LF; omega)
      obtain ⟨P, p1, p2, p3⟩ := m_layFits_L181 (bk := fun a0_ a1_ a2_ => t_MO_layFits_L114 g a0_ a1_ a2_) (v1 := (all : Int)) (v2 := (code : Int)) (by omega) (V 0 2).toNat FU (setI O 191 66 (fcS (ftS V (M0.2 210 0) (ntF M0) (ntT M0) (ntI M0) s (kmS (M0.1 191 61) (M0.1 191 60))) code + 1)) 0 (by omega) (by omega) (fu_big (by omega)) (h.fr hF66 LF_RIc)
      rw [p1, show (code : Int) + 1 = ((code + 1 : Nat) : Int) by omega]
      refine ih (code + 1) g P (by omega) (by omega) (hF66.trans (p2.mono (fun k j q => by unfold LF; omega))) ⟨((p2 210 1 (by omega)).2).trans hRO.1, fun k a b => ((p2 229 k (by omega)).1).trans ((sI_ne (by omega)).trans (hRO.2 k a b))⟩ ?_ (fun w a b => ?_)
      · rw [(p2 191 66 (by omega)).1, sI_self, fcS, e, if_pos rfl]
      · rw [p3 w a b, if_pos a, sI_ne (by omega), sI_ne (by omega), o230, h230 w a b, o212 w a b, fmS, e, if_pos rfl]
theorem m_layFits_L85 {V : TV} : ∀ (n w fu : Nat) (M : Mem), (w : Int) + (n : Int) = V 0 2 → n < fu → RI M V → (∀ x, 0 ≤ x → x < (w : Int) → M.1 230 x = 0) →
    ∃ N, t_MO_layFits_L85 fu M (p5 w) (w : Int) = t_MO_layFits_L114 FU N (p5 (V 0 2).toNat) 0 ∧ Fr (fun k j => k = 230) M N ∧ ∀ x, 0 ≤ x → x < V 0 2 → N.1 230 x = 0 := by
  intro n
  induction n with
  | zero =>
    intro w fu M g0 g1 h hx
    obtain ⟨g, rfl⟩ : ∃ g, fu = g + 1 := ⟨fu - 1, by omega⟩
    rw [t_MO_layFits_L85, h.1.2.1.1.2.2.1, if_pos (by omega), show (V 0 2).toNat = w by omega]
    exact ⟨M, rfl, Fr.rf, fun x a b => hx x a (by omega)⟩
  | succ n ih =>
    intro w fu M g0 g1 h hx
    obtain ⟨g, rfl⟩ : ∃ g, fu = g + 1 := ⟨fu - 1, by omega⟩
    have hv := h.1.1.1
    have hp := p5_rng (n := (w : Int)) (by omega) (by omega)
    rw [Int.toNat_natCast] at hp
    rw [t_MO_layFits_L85, h.1.2.1.1.2.2.1, if_neg (by omega), w32_succ (by omega), w32_id (x := p5 w * 5) (by unfold InR; omega), qguard_pos ⟨by omega, by omega⟩]
    simp only [qlet]
    have hF : Fr (fun k (j : Int) => k = 230) M (setI M 230 (w : Int) 0) := Fr.rf.setI rfl
    obtain ⟨N, n1, n2, n3⟩ := ih (w + 1) g _ (by omega) (by omega) (h.fr hF (fun k j a q => by unfold RIc at a; omega)) (fun x a b => by
      by_cases e : x = (w : Int)
      · subst e; rw [sI_self]
      · rw [sI_ne (by omega)]; exact hx x a (by omega))
    rw [p5] at n1
    exact ⟨N, n1, hF.trans n2, n3⟩
abbrev skM (M : Mem) : Int → Bool := skS (ntI M) (ntF M) (kmS (M.1 191 61) (M.1 191 60)).toNat (fun _ => false)
abbrev ftM (M : Mem) (V : TV) : Int → Bool := ftS V (M.2 210 0) (ntF M) (ntT M) (ntI M) (skM M) (kmS (M.1 191 61) (M.1 191 60))
theorem m_layFits_L30 {V : TV} {M0 : Mem} (h : RI M0 V) : ∀ (m fu : Nat) (M : Mem) (s : Int → Bool), (m : Int) ≤ kmS (M0.1 191 61) (M0.1 191 60) → m < fu → Fr LF M0 M → (∀ k, 0 ≤ k → k < kmS (M0.1 191 61) (M0.1 191 60) → M.1 229 k = if s k = true then 1 else 0) →
    ∃ N, t_MO_layFits_L30 fu M ((m : Int) - 1) = some N ∧ Fr LF M0 N ∧ N.1 191 66 = fcS (ftS V (M0.2 210 0) (ntF M0) (ntT M0) (ntI M0) (skS (ntI M0) (ntF M0) m s) (kmS (M0.1 191 61) (M0.1 191 60))) (p5 (V 0 2).toNat).toNat ∧ (∀ w, 0 ≤ w → w < V 0 2 → N.1 230 w = fmS (ftS V (M0.2 210 0) (ntF M0) (ntT M0) (ntI M0) (skS (ntI M0) (ntF M0) m s) (kmS (M0.1 191 61) (M0.1 191 60))) w (p5 (V 0 2).toNat).toNat) := by
  have hv := h.1.1.1
  have hk0 := (m_known h).2
  intro m
  induction m with
  | zero =>
    intro fu M s g0 g1 hF hs
    obtain ⟨g, rfl⟩ : ∃ g, fu = g + 1 := ⟨fu - 1, by omega⟩
    have hM : RI M V := h.fr hF LF_RIc
    rw [t_MO_layFits_L30, if_pos (by omega)]
    obtain ⟨N, n1, n2, n3⟩ := m_copies (M := M) (x1 := 1) (x2 := 0) (by omega) (by omega) (by omega)
    rw [n1, obind_some]
    simp only [qlet]
    have hF1 : Fr LF M0 (setI N 191 66 0) := (hF.trans (n2.mono (fun k j q => Or.inr (Or.inl q)))).setI (by unfold LF; omega)
    have hp := p5_rng (n := V 0 2) (by omega) (by omega)
    obtain ⟨O, o1, o2, o3⟩ := m_layFits_L85 (V := V) (V 0 2).toNat 0 FU (setI N 191 66 0) (by omega) (fu_big (by omega)) (h.fr hF1 LF_RIc) (fun x a b => by omega)
    have o1' : t_MO_layFits_L85 FU (setI N 191 66 0) 1 0 = t_MO_layFits_L114 FU O (p5 (V 0 2).toNat) 0 := o1
    rw [o1']
    have q1 := RowEq.fr (a := 0) hF (fun k j a q => by unfold CW at a; unfold LF W_MO_goesFrom CW at q; omega)
    obtain ⟨P, p1, p2, p3, p4⟩ := m_layFits_L114 (s := s) (all := (p5 (V 0 2).toNat).toNat) h (by omega) (p5 (V 0 2).toNat).toNat 0 FU O (by omega) (fu_big (by omega)) (hF1.trans (o2.mono (fun k j q => by unfold LF; omega))) ⟨((o2 210 1 (by omega)).2).trans ((n3.1.2.2.2.1).trans q1.1.2.2.2.1), fun k a b => ((o2 229 k (by omega)).1).trans ((sI_ne (by omega)).trans (((n2 229 k (by unfold CW; omega)).1).trans (hs k a b)))⟩ (by rw [(o2 191 66 (by omega)).1, sI_self]; rfl) (fun w a b => by rw [o3 w a b]; rfl)
    rw [Int.toNat_of_nonneg (by omega)] at p1
    exact ⟨P, p1, p2, p3, p4⟩
  | succ m ih =>
    intro fu M s g0 g1 hF hs
    obtain ⟨g, rfl⟩ : ∃ g, fu = g + 1 := ⟨fu - 1, by omega⟩
    have hM : RI M V := h.fr hF LF_RIc
    have fr : ∀ (q : Nat) (j : Int), (q = 226 ∨ q = 227 ∨ q = 228) → M.1 q j = M0.1 q j := fun q j hq => (hF q j (by unfold LF W_MO_goesFrom CW; omega)).1
    have gd : 0 ≤ (m : Int) ∧ (m : Int) < 24 := by omega
    have hn := h.2.2.2.2.2.2.2.2.2 (m : Int) (by omega) (by omega)
    rw [show ((m + 1 : Nat) : Int) - 1 = (m : Int) by omega, t_MO_layFits_L30, if_neg (by omega), qguard_pos gd, qguard_pos gd, qguard_pos gd, hs (m : Int) (by omega) (by omega), fr 228 _ (by omega), fr 226 _ (by omega), skS]
    unfold t_MO_layFits_L64
    rw [w32_id (x := (m : Int) + (-1)) (by unfold InR; omega), show (m : Int) + (-1) = (m : Int) - 1 by omega]
    by_cases c : s (m : Int) = false ∧ ¬ ntI M0 (m : Int) = 0
    · have c2 : ¬ M0.1 228 (m : Int) = 0 := c.2
      have hf : 0 ≤ M0.1 226 (m : Int) ∧ M0.1 226 (m : Int) < (m : Int) := by
        rcases hn with q | q
        · exact absurd q.1 c2
        · exact q.2
      rw [if_pos c, c.1, if_pos (show (if false = true then (1 : Int) else 0) = 0 from rfl), if_neg c2, qguard_pos ⟨by omega, by omega⟩]
      simp only [qlet]
      refine ih g _ _ (by omega) (by omega) (hF.setI (by unfold LF; omega)) (fun k a b => ?_)
      by_cases e : k = M0.1 226 (m : Int)
      · subst e; rw [sI_self, if_pos rfl, if_pos rfl]
      · rw [sI_ne (by omega), hs k a b, if_neg e]
    · rw [if_neg c]
      by_cases c1 : s (m : Int) = true
      · rw [if_pos c1, if_neg (by decide)]
        exact ih g M s (by omega) (by omega) hF hs
      · have c3 : M0.1 228 (m : Int) = 0 := by
          by_cases q : M0.1 228 (m : Int) = 0
          · exact q
          · exact absurd ⟨Bool.eq_false_iff.mpr c1, q⟩ c
        rw [if_neg c1, if_pos rfl, if_pos c3]
        exact ih g M s (by omega) (by omega) hF hs
theorem m_layFits_L2 {V : TV} {M0 : Mem} (h : RI M0 V) : ∀ (n fu : Nat) (M : Mem) (k : Int), k + (n : Int) = kmS (M0.1 191 61) (M0.1 191 60) → 0 ≤ k → n < fu → Fr LF M0 M → (∀ x, 0 ≤ x → x < k → M.1 229 x = 0) →
    ∃ N, t_MO_layFits_L2 fu M k = some N ∧ Fr LF M0 N ∧ N.1 191 66 = fcS (ftM M0 V) (p5 (V 0 2).toNat).toNat ∧ (∀ w, 0 ≤ w → w < V 0 2 → N.1 230 w = fmS (ftM M0 V) w (p5 (V 0 2).toNat).toNat) := by
  have hk0 := (m_known h).2
  intro n
  induction n with
  | zero =>
    intro fu M k g0 g1 g2 hF hx
    obtain ⟨g, rfl⟩ : ∃ g, fu = g + 1 := ⟨fu - 1, by omega⟩
    have hM : RI M V := h.fr hF LF_RIc
    have e60 : M.1 191 60 = M0.1 191 60 := (hF 191 60 (by unfold LF W_MO_goesFrom CW; omega)).1
    have e61 : M.1 191 61 = M0.1 191 61 := (hF 191 61 (by unfold LF W_MO_goesFrom CW; omega)).1
    rw [t_MO_layFits_L2]
    simp only [qlet]
    rw [(m_known hM).1, e60, e61, if_pos (by omega), w32_id (by unfold InR; omega)]
    have := m_layFits_L30 h (kmS (M0.1 191 61) (M0.1 191 60)).toNat FU M (fun _ => false) (by omega) (fu_big (by omega)) hF (fun x a b => by rw [hx x a (by omega)]; rfl)
    rw [Int.toNat_of_nonneg hk0.1] at this
    exact this
  | succ n ih =>
    intro fu M k g0 g1 g2 hF hx
    obtain ⟨g, rfl⟩ : ∃ g, fu = g + 1 := ⟨fu - 1, by omega⟩
    have hM : RI M V := h.fr hF LF_RIc
    have e60 : M.1 191 60 = M0.1 191 60 := (hF 191 60 (by unfold LF W_MO_goesFrom CW; omega)).1
    have e61 : M.1 191 61 = M0.1 191 61 := (hF 191 61 (by unfold LF W_MO_goesFrom CW; omega)).1
    rw [t_MO_layFits_L2]
    simp only [qlet]
    rw [(m_known hM).1, e60, e61, if_neg (by omega), qguard_pos ⟨by omega, by omega⟩, w32_id (x := k + 1) (by unfold InR; omega)]
    exact ih g _ (k + 1) (by omega) (by omega) (by omega) (hF.setI (by unfold LF; omega)) (fun x a b => by
      by_cases e : x = k
      · subst e; rw [sI_self]
      · rw [sI_ne (by omega)]; exact hx x a (by omega))
theorem m_layFits {M : Mem} {V : TV} (h : RI M V) : ∃ N, t_MO_layFits M = some N ∧ Fr LF M N ∧ N.1 191 66 = fcS (ftM M V) (p5 (V 0 2).toNat).toNat ∧ (∀ w, 0 ≤ w → w < V 0 2 → N.1 230 w = fmS (ftM M V) w (p5 (V 0 2).toNat).toNat) :=
  m_layFits_L2 h (kmS (M.1 191 61) (M.1 191 60)).toNat FU M 0 (by have := (m_known h).2; omega) (by omega) (fu_big (by have := (m_known h).2; omega)) Fr.rf (fun x a b => by omega)
def LF0 : Nat → Int → Prop := fun k j => LF k j ∨ (k = 191 ∧ j = 0)
theorem LF0_RIc : ∀ k j, RIc k j → ¬ LF0 k j := by
  intro k j a q
  rcases q with q | q
  · exact LF_RIc k j a q
  · unfold RIc at a; omega
theorem m_fits {M : Mem} {V : TV} (h : RI M V) : ∃ N, t_MO_fits M = some (N, fcS (ftM M V) (p5 (V 0 2).toNat).toNat) ∧ Fr LF0 M N := by
  unfold t_MO_fits
  simp only [qlet]
  obtain ⟨N, n1, n2, n3, -⟩ := m_layFits (h.set0 0)
  rw [n1, obind_some, n3]
  exact ⟨N, rfl, (Fr.rf.setI (Or.inr ⟨rfl, rfl⟩) : Fr LF0 M (setI M 191 0 0)).trans (n2.mono (fun k j q => Or.inl q))⟩
theorem m_may {M : Mem} {V : TV} (h : RI M V) (x1 : Int) : ∃ N, t_MO_may M x1 = some (N, if 0 ≤ x1 ∧ x1 < V 0 2 then fmS (ftM M V) x1 (p5 (V 0 2).toNat).toNat else -1) ∧ Fr LF0 M N := by
  have hv := h.1.1.1
  have F0 : Fr LF0 M (setI M 191 0 0) := Fr.rf.setI (Or.inr ⟨rfl, rfl⟩)
  unfold t_MO_may
  simp only [qlet]
  rw [m_isWard (h.set0 0).1.2.1]
  by_cases c : 0 ≤ x1 ∧ x1 < V 0 2
  · rw [if_pos c, if_neg (by decide), if_pos c]
    obtain ⟨N, n1, n2, -, n4⟩ := m_layFits (h.set0 0)
    rw [n1, obind_some, qguard_pos ⟨by omega, by omega⟩, n4 x1 c.1 c.2]
    exact ⟨N, rfl, F0.trans (n2.mono (fun k j q => Or.inl q))⟩
  · rw [if_neg c, if_pos rfl, if_neg c]
    exact ⟨_, rfl, F0⟩
theorem ri_fits {M : Mem} {V : TV} (h : RI M V) : Ok (fun r => RI r.1 V) (t_MO_fits M) := by
  obtain ⟨N, n1, n2⟩ := m_fits h
  exact ⟨_, n1, h.fr n2 LF0_RIc⟩
theorem ri_may {M : Mem} {V : TV} (h : RI M V) (x1 : Int) : Ok (fun r => RI r.1 V) (t_MO_may M x1) := by
  obtain ⟨N, n1, n2⟩ := m_may h x1
  exact ⟨_, n1, h.fr n2 LF0_RIc⟩
end
