/-! ===== ward, law; joys by all votes: the reference's side ===== -/
theorem RI.goW {W : Nat → Int → Prop} {M N : Mem} {V : TV} (h : RI M V) (hF : Fr W M N) (hd : ∀ k j, RIc k j → ¬ W k j) : RI N V := h.fr hF hd
def wardS (V : TV) (D A f : Int → Int) (yr x1 x2 : Int) : Int := if 0 ≤ x1 ∧ x1 < V 0 2 then (if x2 = 0 then D x1 else if x2 = 1 then V 3 x1 else if x2 = 2 then szV V x1 else if x2 = 3 then joyS V f A x1 yr else -1) else -1
def JW0 : Nat → Int → Prop := fun k j => JW k j ∨ (k = 191 ∧ j = 0)
theorem JW0_RIc : ∀ k j, RIc k j → ¬ JW0 k j := by
  intro k j a q
  unfold RIc at a
  unfold JW0 JW W_MO_goesFrom GO at q
  omega
theorem at0_fr {M : Mem} {v : Int} : Fr JW0 M (setI M 191 0 v) := Fr.rf.setI (Or.inr ⟨rfl, rfl⟩)
theorem m_ward {M : Mem} {V : TV} (h : RI M V) (x1 x2 : Int) : ∃ N, t_MO_ward M x1 x2 = some (N, wardS V (DN M 0) (AT M 0) (nxR M 0 V) (M.1 207 0) x1 x2) ∧ Fr JW0 M N := by
  have h1 := h.set0 0
  have hv := h.1.1.1
  unfold t_MO_ward wardS
  simp only [qlet]
  rw [m_isWard h1.1.2.1]
  by_cases hw : 0 ≤ x1 ∧ x1 < V 0 2
  · rw [if_pos hw, if_pos hw, if_neg (by decide)]
    by_cases e0 : x2 = 0
    · rw [if_pos e0, if_pos e0, qguard_pos ⟨by omega, by omega⟩]
      refine ⟨_, ?_, at0_fr (v := 0)⟩
      rw [uI_ne _ _ (by omega)]
      unfold DN
      rw [show 4 * 0 + x1 = x1 by omega]
    · rw [if_neg e0, if_neg e0]
      by_cases e1 : x2 = 1
      · rw [if_pos e1, if_pos e1, qguard_pos ⟨by omega, by omega⟩, uI_ne _ _ (by omega), (h.1.2.1.2.1 x1 hw.1 hw.2).2.2]
        exact ⟨_, rfl, at0_fr⟩
      · rw [if_neg e1, if_neg e1]
        by_cases e2 : x2 = 2
        · rw [if_pos e2, if_pos e2, m_sizeOf h1.1.2.1 h1.1.1 (by omega), obind_some]
          exact ⟨_, rfl, at0_fr⟩
        · rw [if_neg e2, if_neg e2]
          by_cases e3 : x2 = 3
          · rw [if_pos e3, if_pos e3]
            obtain ⟨N, n1, n2⟩ := m_joyOf0 (by omega) h1 h1.row0 hw
            rw [n1, obind_some]
            exact ⟨N, rfl, at0_fr.trans (n2.mono (fun k j q => Or.inl q))⟩
          · rw [if_neg e3, if_neg e3]
            exact ⟨_, rfl, at0_fr⟩
  · rw [if_neg hw, if_neg hw, if_pos rfl]
    exact ⟨_, rfl, at0_fr⟩
theorem ri_ward {M : Mem} {V : TV} (h : RI M V) (x1 x2 : Int) : Ok (fun r => RI r.1 V) (t_MO_ward M x1 x2) := by
  obtain ⟨N, n1, n2⟩ := m_ward h x1 x2
  exact ⟨_, n1, h.fr n2 JW0_RIc⟩
def eM (o : Option Int64) : Int64 := match o with | none => -9223372036854775808 | some v => v
def lawS (V : TV) (D A f : Int → Int) (yr x1 x2 x3 : Int) : Int64 :=
  if x1 = 1 then (if (0 ≤ x2 ∧ x2 < V 0 2) ∧ 0 < V 0 12 then eM (valS (V 12) (V 13) (nmJ V f A x2 yr) (V 0 12)) else -9223372036854775808)
  else if x1 = 0 then (if opV V x2 ∧ (0 ≤ x3 ∧ x3 ≤ 3) ∧ opV V (bsV V x2 x3) ∧ 0 < V 0 11 then eM (valS (V 10) (V 11) (nmP V D A x2 x3 yr) (V 0 11)) else -9223372036854775808)
  else -9223372036854775808
theorem m_law_L92 {M : Mem} {V : TV} {x1 x2 x3 n : Int} {K L : Int → Int} (hs : 0 ≤ x1 ∧ x1 < 2) (hF : MF1 M x1 K L n) (hK : KOK K n) (h0 : 0 < n) : ∃ N, t_MO_law_L92 x1 x2 x3 M = some (N, eM (valS K L (nmM M) n)) ∧ Fr GO M N := by
  obtain ⟨N, r, n1, n2, n3⟩ := m_goesV hs hF hK h0
  unfold t_MO_law_L92
  rw [n1, obind_some]
  rcases n3 with ⟨r0, hv⟩ | ⟨r1, hv⟩
  · rw [if_pos (show (N, r).2 = 0 from r0), hv]; exact ⟨N, rfl, n2⟩
  · rw [if_neg (by show ¬ r = 0; omega), hv]; exact ⟨N, rfl, n2⟩
theorem m_law {M : Mem} {V : TV} (h : RI M V) (x1 x2 x3 : Int) : ∃ N, t_MO_law M x1 x2 x3 = some (N, lawS V (DN M 0) (AT M 0) (nxR M 0 V) (M.1 207 0) x1 x2 x3) ∧ Fr JW0 M N := by
  have h1 := h.set0 0
  have hv := h.1.1.1
  have hF := h1.1.2.2.2
  have hK := h1.1.2.2.1
  unfold t_MO_law lawS
  simp only [qlet]
  by_cases a0 : x1 < 0
  · rw [if_pos a0, if_neg (by omega), if_neg (by omega)]; exact ⟨_, rfl, at0_fr⟩
  · rw [if_neg a0]
    by_cases a1 : 1 < x1
    · rw [if_pos a1, if_neg (by omega), if_neg (by omega)]; exact ⟨_, rfl, at0_fr⟩
    · rw [if_neg a1]
      by_cases a2 : x1 = 1
      · subst a2
        rw [m_hasLaw (by omega) hF.2, obind_some, if_pos (show (1 : Int) = 1 from rfl), if_pos (show (1 : Int) = 1 from rfl)]
        by_cases hn : 0 < V 0 12
        · rw [if_pos hn, if_neg (show ¬ (1 : Int) = 0 by decide), m_isWard h1.1.2.1]
          by_cases hw : 0 ≤ x2 ∧ x2 < V 0 2
          · rw [if_pos hw, if_neg (show ¬ (1 : Int) = 0 by decide), if_pos ⟨hw, hn⟩]
            obtain ⟨N, n1, n2, n3⟩ := m_callsJoy (by omega) h1 (MSc.self _ 0 V) h1.row0.1 h1.row0.2.1 hw
            rw [n1, obind_some]
            have hN : RI N V := h1.fr n2 CJ_RIc
            obtain ⟨O, o1, o2⟩ := m_law_L92 (V := V) (x2 := x2) (x3 := x3) (by omega) hN.1.2.2.2.2 hN.1.2.2.1.2.1 hn
            rw [o1, valS_congr (nm := nmM N) (nm' := nmJ V (nxR M 0 V) (AT M 0) x2 (M.1 207 0)) (fun j p q => n3 j p q)]
            exact ⟨O, rfl, (at0_fr.trans (n2.mono (fun k j q => Or.inl (CJ_JW k j q)))).trans (o2.mono (fun k j q => Or.inl (GO_JW k j q)))⟩
          · rw [if_neg hw, if_pos (show (0 : Int) = 0 from rfl), if_neg (fun q => hw q.1)]; exact ⟨_, rfl, at0_fr⟩
        · rw [if_neg hn, if_pos (show (0 : Int) = 0 from rfl), if_neg (fun q => hn q.2)]; exact ⟨_, rfl, at0_fr⟩
      · have e0 : x1 = 0 := by omega
        subst e0
        rw [m_hasLaw (by omega) hF.1, obind_some, if_neg (show ¬ (0 : Int) = 1 by decide), if_neg (show ¬ (0 : Int) = 1 by decide), if_pos (show (0 : Int) = 0 from rfl)]
        by_cases hn : 0 < V 0 11
        · rw [if_pos hn, if_neg (show ¬ (1 : Int) = 0 by decide)]
          rcases m_isOpen h1.1.2.1 h1.1.1 x2 with ⟨o, e⟩ | ⟨o, e⟩
          · rw [e, obind_some, if_neg (by decide)]
            by_cases d0 : x3 < 0
            · rw [if_pos d0, if_neg (fun q => by omega)]; exact ⟨_, rfl, at0_fr⟩
            · rw [if_neg d0]
              by_cases d1 : 3 < x3
              · rw [if_pos d1, if_neg (fun q => by omega)]; exact ⟨_, rfl, at0_fr⟩
              · rw [if_neg d1, m_beside h1.1.2.1 h1.1.1 o.1 o.2.1 (by omega) (by omega), obind_some]
                rcases m_isOpen h1.1.2.1 h1.1.1 (bsV V x2 x3) with ⟨o2, e2⟩ | ⟨o2, e2⟩
                · rw [e2, obind_some, if_neg (by decide), if_pos ⟨o, ⟨by omega, by omega⟩, o2, hn⟩]
                  obtain ⟨N, n1, n2, n3⟩ := m_callsPush h1 o.1 o.2.1 (d := x3) (by omega) (by omega) o2.1
                  rw [n1, obind_some]
                  have hN : RI N V := h1.fr n2 W20_RIc
                  obtain ⟨O, o1, o2⟩ := m_law_L92 (V := V) (x2 := x2) (x3 := x3) (by omega) hN.1.2.2.2.1 hN.1.2.2.1.1 hn
                  rw [o1, valS_congr (nm := nmM N) (nm' := nmP V (DN M 0) (AT M 0) x2 x3 (M.1 207 0)) (fun j p q => n3 j p q)]
                  exact ⟨O, rfl, (at0_fr.trans (n2.mono (fun k j q => Or.inl (Or.inr (Or.inl q))))).trans (o2.mono (fun k j q => Or.inl (GO_JW k j q)))⟩
                · rw [e2, obind_some, if_pos rfl, if_neg (fun q => o2 q.2.2.1)]; exact ⟨_, rfl, at0_fr⟩
          · rw [e, obind_some, if_pos rfl, if_neg (fun q => o q.1)]; exact ⟨_, rfl, at0_fr⟩
        · rw [if_neg hn, if_pos (show (0 : Int) = 0 from rfl), if_neg (fun q => hn q.2.2.2)]; exact ⟨_, rfl, at0_fr⟩
theorem ri_law {M : Mem} {V : TV} (h : RI M V) (x1 x2 x3 : Int) : Ok (fun r => RI r.1 V) (t_MO_law M x1 x2 x3) := by
  obtain ⟨N, n1, n2⟩ := m_law h x1 x2 x3
  exact ⟨_, n1, h.fr n2 JW0_RIc⟩
/-! votes -/
def vtV (n : Int) : Int := q_shl 1 (2 * n)
def dvV (v : Int) : Int → Int := fun w => q_and (q_shr v (2 * w)) 3
def wiV (v w d : Int) : Int := q_or (q_and v (q_xor (q_shl 3 (2 * w)) (-1))) (q_shl d (2 * w))
theorem vt_all : ∀ n : Nat, n < 5 → vtV n = ((4 ^ n : Nat) : Int) := by decide +kernel
theorem dv_all : ∀ v : Nat, v < 256 → ∀ w : Nat, w < 4 → 0 ≤ dvV v w ∧ dvV v w ≤ 3 := by decide +kernel
theorem wi_all : ∀ n : Nat, n < 5 → ∀ v : Nat, v < 4 ^ n → ∀ w : Nat, w < n → ∀ d : Nat, d < 4 → 0 ≤ wiV v w d ∧ wiV v w d < ((4 ^ n : Nat) : Int) := by decide +kernel
theorem vt_eq {n : Int} (h0 : 0 ≤ n) (h1 : n ≤ 4) : vtV n = ((4 ^ n.toNat : Nat) : Int) ∧ 1 ≤ vtV n ∧ vtV n ≤ 256 := by
  obtain ⟨k, rfl⟩ : ∃ k : Nat, n = (k : Int) := ⟨n.toNat, by omega⟩
  have := vt_all k (by omega)
  rw [Int.toNat_natCast, this]
  have hk : k = 0 ∨ k = 1 ∨ k = 2 ∨ k = 3 ∨ k = 4 := by omega
  rcases hk with rfl | rfl | rfl | rfl | rfl <;> decide
theorem dv_rng {v w : Int} (h0 : 0 ≤ v) (h1 : v < 256) (w0 : 0 ≤ w) (w1 : w < 4) : 0 ≤ dvV v w ∧ dvV v w ≤ 3 := by
  have := dv_all v.toNat (by omega) w.toNat (by omega)
  rwa [Int.toNat_of_nonneg h0, Int.toNat_of_nonneg w0] at this
theorem wi_rng {n v w d : Int} (n0 : 0 ≤ n) (n1 : n ≤ 4) (h0 : 0 ≤ v) (h1 : v < vtV n) (w0 : 0 ≤ w) (w1 : w < n) (d0 : 0 ≤ d) (d1 : d < 4) : 0 ≤ wiV v w d ∧ wiV v w d < vtV n := by
  have e := (vt_eq n0 n1).1
  rw [e] at h1 ⊢
  have := wi_all n.toNat (by omega) v.toNat (by omega) w.toNat (by omega) d.toNat (by omega)
  rwa [Int.toNat_of_nonneg h0, Int.toNat_of_nonneg w0, Int.toNat_of_nonneg d0] at this
theorem m_votes {M : Mem} {V : TV} (h : MT0 M V) (hV : VOK V) : t_MO_votes M = vtV (V 0 2) := by
  have := hV.1
  unfold t_MO_votes vtV
  rw [h.1.2.2.1, w32_id (x := 2 * V 0 2) (by unfold InR; omega)]
theorem m_with {M : Mem} {v w d : Int} (w0 : 0 ≤ w) (w1 : w < 4) : t_MO_with M v w d = wiV v w d := by
  unfold t_MO_with wiV
  rw [w32_id (x := 2 * w) (by unfold InR; omega)]
/-- the joys by all votes -/
def jvS (V : TV) (A : Int → Int) (nets : Int64) (wl : Int → Bool) (yr v w : Int) : Int := joyS V (nxV V (dvV v) nets wl) A w yr
def LJ : Nat → Int → Prop := fun k j => JW k j ∨ CW 1 k j ∨ k = 224
theorem LJ_RIc : ∀ k j, RIc k j → ¬ LJ k j := by
  intro k j a q
  unfold RIc at a
  unfold LJ JW W_MO_goesFrom GO CW at q
  omega
/-- what a row for tries must hold while joys are laid -/
def RwJ (M : Mem) (V : TV) (A : Int → Int) (nets : Int64) (yr : Int) : Prop := (∀ t, 0 ≤ t → t < V 0 3 → M.1 213 (8 * 1 + t) = A t) ∧ M.2 210 1 = nets ∧ M.1 207 1 = yr
theorem RwJ.fr {W : Nat → Int → Prop} {M N : Mem} {V : TV} {A : Int → Int} {nets : Int64} {yr : Int} (h : RwJ M V A nets yr) (hF : Fr W M N) (hd : ∀ k j, k = 213 ∨ k = 210 ∨ k = 207 → ¬ W k j) : RwJ N V A nets yr :=
  ⟨fun t a b => (hF 213 _ (hd _ _ (by omega))).1.trans (h.1 t a b), (hF 210 _ (hd _ _ (by omega))).2.trans h.2.1, (hF 207 _ (hd _ _ (by omega))).1.trans h.2.2⟩
theorem m_layJoys_L18 {bk : Mem → Int → Option Mem} {V : TV} {v : Int} (hv : 0 ≤ v ∧ v < 256) : ∀ (n : Nat) (fu : Nat) (M : Mem) (w : Int), w + (n : Int) = V 0 2 → 0 ≤ w → n < fu → RI M V → (∀ x, 0 ≤ x → x < w → M.1 212 (4 * 1 + x) = dvV v x) →
    ∃ N, t_MO_layJoys_L18 bk fu M v w = t_MO_layJoys_L51 bk FU N v 0 ∧ Fr (fun k j => k = 212 ∧ 4 ≤ j ∧ j < 8) M N ∧ ∀ x, 0 ≤ x → x < V 0 2 → N.1 212 (4 * 1 + x) = dvV v x := by
  intro n
  induction n with
  | zero =>
    intro fu M w g0 g1 g2 h hx
    obtain ⟨g, rfl⟩ : ∃ g, fu = g + 1 := ⟨fu - 1, by omega⟩
    rw [t_MO_layJoys_L18, h.1.2.1.1.2.2.1, if_pos (by omega)]
    exact ⟨M, rfl, Fr.rf, fun x a b => hx x a (by omega)⟩
  | succ n ih =>
    intro fu M w g0 g1 g2 h hx
    obtain ⟨g, rfl⟩ : ∃ g, fu = g + 1 := ⟨fu - 1, by omega⟩
    have hv2 := h.1.1.1
    rw [t_MO_layJoys_L18, h.1.2.1.1.2.2.1, if_neg (by omega), w32_id (x := 4 + w) (by unfold InR; omega), w32_id (x := 2 * w) (by unfold InR; omega), w32_id (x := w + 1) (by unfold InR; omega), qguard_pos ⟨by omega, by omega⟩]
    simp only [qlet]
    have hF : Fr (fun k j => k = 212 ∧ 4 ≤ j ∧ j < 8) M (setI M 212 (4 + w) (q_and (q_shr v (2 * w)) 3)) := Fr.rf.setI ⟨rfl, by omega, by omega⟩
    obtain ⟨N, n1, n2, n3⟩ := ih g (setI M 212 (4 + w) (q_and (q_shr v (2 * w)) 3)) (w + 1) (by omega) (by omega) (by omega) (h.fr hF (fun k j a q => by unfold RIc at a; omega)) (fun x a b => by
      by_cases e : x = w
      · subst e; rw [show 4 * 1 + x = 4 + x by omega, sI_self]; rfl
      · rw [sI_ne (by omega)]; exact hx x a (by omega))
    exact ⟨N, n1, hF.trans n2, n3⟩
def J51 (v : Int) : Nat → Int → Prop := fun k j => JW k j ∨ (k = 224 ∧ 4 * v ≤ j ∧ j < 4 * v + 4)
theorem m_layJoys_L51 {bk : Mem → Int → Option Mem} {V : TV} {v yr : Int} {A : Int → Int} {nets : Int64} (hv : 0 ≤ v ∧ v < 256) (hA : ∀ t, 0 ≤ t → t < V 0 3 → 0 ≤ A t ∧ A t < cellsV V) : ∀ (n : Nat) (fu : Nat) (M : Mem) (w : Int), w + (n : Int) = V 0 2 → 0 ≤ w → n < fu → RI M V → RwJ M V A nets yr → (∀ x, 0 ≤ x → x < V 0 2 → M.1 212 (4 * 1 + x) = dvV v x) → (∀ x, 0 ≤ x → x < w → M.1 224 (4 * v + x) = jvS V A nets (wlV V) yr v x) →
    ∃ N, t_MO_layJoys_L51 bk fu M v w = bk N (v + 1) ∧ Fr (J51 v) M N ∧ ∀ x, 0 ≤ x → x < V 0 2 → N.1 224 (4 * v + x) = jvS V A nets (wlV V) yr v x := by
  intro n
  induction n with
  | zero =>
    intro fu M w g0 g1 g2 h hR hd hx
    obtain ⟨g, rfl⟩ : ∃ g, fu = g + 1 := ⟨fu - 1, by omega⟩
    rw [t_MO_layJoys_L51, h.1.2.1.1.2.2.1, if_pos (by omega), w32_id (x := v + 1) (by unfold InR; omega)]
    exact ⟨M, rfl, Fr.rf, fun x a b => hx x a (by omega)⟩
  | succ n ih =>
    intro fu M w g0 g1 g2 h hR hd hx
    obtain ⟨g, rfl⟩ : ∃ g, fu = g + 1 := ⟨fu - 1, by omega⟩
    have hv2 := h.1.1.1
    rw [t_MO_layJoys_L51, h.1.2.1.1.2.2.1, if_neg (by omega)]
    have hm : MSc M 1 V (dvV v) A nets := ⟨hd, hR.1, hR.2.1⟩
    obtain ⟨N, n1, n2⟩ := m_joyOf (w := w) (by omega) h hm (fun w a b => by have := dv_rng hv.1 hv.2 (w := w) a (by omega); omega) hA (by omega)
    rw [n1, obind_some, w32_id (x := 4 * v) (by unfold InR; omega), w32_id (x := 4 * v + w) (by unfold InR; omega), w32_id (x := w + 1) (by unfold InR; omega), qguard_pos ⟨by omega, by omega⟩]
    simp only [qlet]
    rw [hR.2.2]
    have hF : Fr (J51 v) M (setI N 224 (4 * v + w) (joyS V (nxV V (dvV v) nets (wlV V)) A w yr)) := (n2.mono (fun k j q => Or.inl q)).setI (Or.inr ⟨rfl, by omega, by omega⟩)
    obtain ⟨O, o1, o2, o3⟩ := ih g _ (w + 1) (by omega) (by omega) (by omega) (h.fr hF (fun k j a q => by unfold RIc at a; unfold J51 JW W_MO_goesFrom GO at q; omega)) (hR.fr hF (fun k j a q => by unfold J51 JW W_MO_goesFrom GO at q; omega)) (fun x a b => by rw [(hF 212 _ (by unfold J51 JW W_MO_goesFrom GO; omega)).1]; exact hd x a b) (fun x a b => by
      by_cases e : x = w
      · subst e; rw [sI_self]; rfl
      · rw [sI_ne (by omega), (n2 224 _ (by unfold JW W_MO_goesFrom GO; omega)).1]; exact hx x a (by omega))
    exact ⟨O, o1, hF.trans o2, o3⟩
theorem m_layJoys_L8 {V : TV} {yr : Int} {A : Int → Int} {nets : Int64} (hA : ∀ t, 0 ≤ t → t < V 0 3 → 0 ≤ A t ∧ A t < cellsV V) : ∀ (n : Nat) (fu : Nat) (M : Mem) (v : Int), v + (n : Int) = vtV (V 0 2) → 0 ≤ v → n < fu → RI M V → RwJ M V A nets yr → (∀ u, 0 ≤ u → u < v → ∀ x, 0 ≤ x → x < V 0 2 → M.1 224 (4 * u + x) = jvS V A nets (wlV V) yr u x) →
    ∃ N, t_MO_layJoys_L8 fu M v = some N ∧ Fr LJ M N ∧ ∀ u, 0 ≤ u → u < vtV (V 0 2) → ∀ x, 0 ≤ x → x < V 0 2 → N.1 224 (4 * u + x) = jvS V A nets (wlV V) yr u x := by
  intro n
  induction n with
  | zero =>
    intro fu M v g0 g1 g2 h hR hx
    obtain ⟨g, rfl⟩ : ∃ g, fu = g + 1 := ⟨fu - 1, by omega⟩
    rw [t_MO_layJoys_L8]
    simp only [qlet]
    rw [m_votes h.1.2.1 h.1.1, if_pos (by omega)]
    exact ⟨M, rfl, Fr.rf, fun u a b => hx u a (by omega)⟩
  | succ n ih =>
    intro fu M v g0 g1 g2 h hR hx
    obtain ⟨g, rfl⟩ : ∃ g, fu = g + 1 := ⟨fu - 1, by omega⟩
    have hv2 := h.1.1.1
    have hvt := vt_eq (n := V 0 2) (by omega) (by omega)
    rw [t_MO_layJoys_L8]
    simp only [qlet]
    rw [m_votes h.1.2.1 h.1.1, if_neg (by omega)]
    obtain ⟨N, n1, n2, n3⟩ := m_layJoys_L18 (bk := fun a0_ a1_ => t_MO_layJoys_L8 g a0_ a1_) (v := v) (by omega) (V 0 2).toNat FU M 0 (by omega) (by omega) (fu_big (by omega)) h (fun x a b => by omega)
    have hN : RI N V := h.fr n2 (fun k j a q => by unfold RIc at a; omega)
    obtain ⟨O, o1, o2, o3⟩ := m_layJoys_L51 (bk := fun a0_ a1_ => t_MO_layJoys_L8 g a0_ a1_) (v := v) (yr := yr) (nets := nets) (by omega) hA (V 0 2).toNat FU N 0 (by omega) (by omega) (fu_big (by omega)) hN (hR.fr n2 (fun k j a q => by omega)) n3 (fun x a b => by omega)
    rw [n1, o1]
    have hO : RI O V := hN.fr o2 (fun k j a q => by unfold RIc at a; unfold J51 JW W_MO_goesFrom GO at q; omega)
    have hFO : Fr LJ M O := (n2.mono (fun k j q => by unfold LJ CW; omega)).trans (o2.mono (fun k j q => q.elim (fun z => Or.inl z) (fun z => Or.inr (Or.inr z.1))))
    obtain ⟨P, p1, p2, p3⟩ := ih g O (v + 1) (by omega) (by omega) (by omega) hO ((hR.fr n2 (fun k j a q => by omega)).fr o2 (fun k j a q => by unfold J51 JW W_MO_goesFrom GO at q; omega)) (fun u a b x c d => by
      by_cases e : u = v
      · subst e; exact o3 x c d
      · rw [(o2 224 _ (by unfold J51 JW W_MO_goesFrom GO; omega)).1, (n2 224 _ (by omega)).1]; exact hx u a (by omega) x c d)
    exact ⟨P, p1, hFO.trans p2, p3⟩
/-- the joys' row -/
def JT (M : Mem) (V : TV) (J : Int → Int → Int) : Prop := ∀ u, 0 ≤ u → u < vtV (V 0 2) → ∀ x, 0 ≤ x → x < V 0 2 → M.1 224 (4 * u + x) = J u x
def Rw0 (M : Mem) (V : TV) (A : Int → Int) (nets : Int64) (yr : Int) : Prop := (∀ t, 0 ≤ t → t < V 0 3 → M.1 213 (8 * 0 + t) = A t) ∧ M.2 210 0 = nets ∧ M.1 207 0 = yr
theorem Rw0.self (M : Mem) (V : TV) : Rw0 M V (AT M 0) (M.2 210 0) (M.1 207 0) := ⟨fun _ _ _ => rfl, rfl, rfl⟩
theorem m_layJoys {M : Mem} {V : TV} {A : Int → Int} {nets : Int64} {yr : Int} (h : RI M V) (h0 : Rw0 M V A nets yr) : ∃ N, t_MO_layJoys M = some N ∧ Fr LJ M N ∧ JT N V (jvS V A nets (wlV V) yr) := by
  have hv2 := h.1.1.1
  have hvt := vt_eq (n := V 0 2) (by omega) (by omega)
  unfold t_MO_layJoys
  obtain ⟨N, n1, n2, n3⟩ := m_copies (M := M) (x1 := 1) (x2 := 0) (by omega) (by omega) (by omega)
  rw [n1, obind_some]
  have hN : RI N V := h.fr n2 (fun k j a q => by unfold RIc at a; unfold CW at q; omega)
  obtain ⟨O, o1, o2, o3⟩ := m_layJoys_L8 (V := V) (yr := yr) (A := A) (nets := nets) (fun t a b => by rw [← h0.1 t a b]; exact h.row0.2.1 t a b) (vtV (V 0 2)).toNat FU N 0 (by omega) (by omega) (fu_big (by omega)) hN ⟨fun t a b => ((n3.2.2 t a (by omega)).1).trans (h0.1 t a b), n3.1.2.2.2.1.trans h0.2.1, n3.1.1.trans h0.2.2⟩ (fun u a b => by omega)
  exact ⟨O, o1, (n2.mono (fun k j q => Or.inr (Or.inl q))).trans o2, o3⟩
/-- joys lie from 0 to 9999 -/
theorem put_rng {v : Int64} {m : Int} (h0 : 0 ≤ m) (h1 : m ≤ 9999) : 0 ≤ q_l2i (q_maxl 0 (q_minl (q_i2l m) v)) ∧ q_l2i (q_maxl 0 (q_minl (q_i2l m) v)) ≤ m := by
  have e0 : (0 : Int64).toInt = 0 := rfl
  have em : (q_i2l m).toInt = m := by
    unfold q_i2l
    rw [Int32.toInt_toInt64, q_toInt_of (by unfold InR; omega)]
  have key : ∀ x : Int64, 0 ≤ x.toInt → x.toInt ≤ m → 0 ≤ q_l2i x ∧ q_l2i x ≤ m := by
    intro x a b
    have : q_l2i x = x.toInt := by
      unfold q_l2i
      rw [Int64.toInt_toInt32, bm32 (by unfold InR; omega)]
    omega
  have hz : (q_minl (q_i2l m) v).toInt ≤ m := by
    unfold q_minl
    by_cases c : v < q_i2l m
    · rw [if_pos c]; rw [Int64.lt_iff_toInt_lt, em] at c; omega
    · rw [if_neg c, em]; omega
  generalize q_minl (q_i2l m) v = z at *
  unfold q_maxl
  by_cases c : z < 0
  · rw [if_pos c]; exact key 0 (by rw [e0]; omega) (by rw [e0]; omega)
  · rw [if_neg c]; rw [Int64.lt_iff_toInt_lt, e0] at c; exact key z (by omega) hz
