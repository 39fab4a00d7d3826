/-! ===== quotients; the reference's way ===== -/
theorem bm32 {x : Int} (h : InR x) : x.bmod (2 ^ 32) = x := by
  unfold InR at h
  have : ((2 ^ 32 : Nat) : Int) = 4294967296 := by decide
  rw [Int.bmod_def, this]
  by_cases h0 : 0 ≤ x
  · rw [Int.emod_eq_of_lt h0 (by omega), if_pos (by omega)]
  · have e : x % 4294967296 = x + 4294967296 := by omega
    rw [e, if_neg (by omega)]; omega
theorem q_div_nn {x y : Int} (hx : InR x) (hy : InR y) (x0 : 0 ≤ x) (y0 : 0 < y) : q_div x y = x / y := by
  unfold q_div
  have h1 : 0 ≤ x / y := Int.ediv_nonneg x0 (by omega)
  have h2 : x / y ≤ x := Int.ediv_le_self y x0
  rw [Int32.toInt_div, q_toInt_of hx, q_toInt_of hy, Int.tdiv_eq_ediv_of_nonneg x0]
  exact bm32 (by unfold InR at *; omega)
theorem q_rem_nn {x y : Int} (hx : InR x) (hy : InR y) (x0 : 0 ≤ x) (y0 : 0 < y) : q_rem x y = x % y := by
  have hd := q_div_nn hx hy x0 y0
  unfold q_div at hd
  have h1 : 0 ≤ x / y := Int.ediv_nonneg x0 (by omega)
  have h2 : x / y ≤ x := Int.ediv_le_self y x0
  have h3 := Int.emod_nonneg x (b := y) (by omega)
  have h4 := Int.emod_lt_of_pos x y0
  have h5 : x / y * y = x - x % y := by have := Int.emod_add_mul_ediv x y; rw [Int.mul_comm]; omega
  unfold q_rem
  rw [Int32.toInt_sub, Int32.toInt_mul, hd, q_toInt_of hx, q_toInt_of hy, h5, bm32 (x := x - x % y) (by unfold InR at *; omega), bm32 (by unfold InR at *; omega)]
  omega
theorem m_way_loop {V : TV} {M : Mem} {x1 x2 c : Int} {f : Int → Int} (hN : ∀ d, 0 ≤ d → d < cellsV V → t_MO_nextOf M 0 d = some (f d)) {m : Nat} (hm : ∀ a, a ≤ m → 0 ≤ itr f c a ∧ itr f c a < cellsV V) (hm2 : m < 1000) : ∀ (n i fu : Nat), i + n = m → n < fu → t_MO_way_L68 x1 x2 fu M (m : Int) (itr f c i) (i : Int) = some (M, itr f c m) := by
  intro n
  induction n with
  | zero =>
    intro i fu g0 g1
    obtain ⟨g, rfl⟩ : ∃ g, fu = g + 1 := ⟨fu - 1, by omega⟩
    rw [t_MO_way_L68, if_pos (by omega)]
    have : i = m := by omega
    rw [this]
  | succ n ih =>
    intro i fu g0 g1
    obtain ⟨g, rfl⟩ : ∃ g, fu = g + 1 := ⟨fu - 1, by omega⟩
    have hb := hm i (by omega)
    rw [t_MO_way_L68, if_neg (by omega), hN _ hb.1 hb.2, obind_some, w32_succ (t := i) (by omega)]
    exact ih (i + 1) g (by omega) (by omega)
/-- the cell of a way by number -/
def wayAt (f : Int → Int) (c k : Int) : Int := if k ≤ wAhead (wayS f c) then itr f c k.toNat else if wRound (wayS f c) = 0 then -2 else itr f c (wAhead (wayS f c) + (k - wAhead (wayS f c)) % wRound (wayS f c)).toNat
theorem way_facts {f : Int → Int} {c N : Int} (hN : N ≤ 48) (hf : stepOK f N) (h0 : 0 ≤ c) (h1 : c < N) : 0 ≤ wAhead (wayS f c) ∧ 0 ≤ wRound (wayS f c) ∧ wAhead (wayS f c) ≤ ((wayS f c).1 : Int) ∧ wAhead (wayS f c) + wRound (wayS f c) ≤ ((wayS f c).1 : Int) + 1 ∧ (wayS f c).1 < 48 ∧ ∀ a, a ≤ (wayS f c).1 → 0 ≤ itr f c a ∧ itr f c a < N := by
  obtain ⟨s1, s2, s3⟩ := way_spec hN hf h0 h1
  have hlt := s1.lt
  generalize wayS f c = r at *
  have hp : ∀ a, a ≤ r.1 → 0 ≤ itr f c a ∧ itr f c a < N := fun a ha => ⟨(s1.1 a ha).1, s2 a ha⟩
  unfold wAhead wRound
  rcases s3 with ⟨e, -⟩ | ⟨a, e, ha, -⟩
  · rw [e]; simp only []; exact ⟨by omega, by omega, by omega, by omega, hlt, hp⟩
  · rw [e]; simp only []; exact ⟨by omega, by omega, by omega, by omega, hlt, hp⟩
theorem m_way {M : Mem} {V : TV} (h : RI M V) {x1 x2 : Int} (hx : InR x2) : ∃ N, t_MO_way M x1 x2 = some (N, if opV V x1 ∧ 0 ≤ x2 then wayAt (nxR M 0 V) x1 x2 else -1) ∧ RI N V := by
  unfold t_MO_way
  simp only [qlet]
  have h1 : RI (setI M 191 0 0) V := h.set0 0
  have hn : nxR (setI M 191 0 0) 0 V = nxR M 0 V := nxR_fr (W := fun k j => k = 191 ∧ j = 0) (Fr.rf.setI ⟨rfl, rfl⟩) (fun k j hk q => by omega)
  generalize setI M 191 0 0 = M1 at *
  rcases m_isOpen h1.1.2.1 h1.1.1 x1 with ⟨o, e⟩ | ⟨o, e⟩
  · rw [e, obind_some, if_neg (by decide)]
    by_cases hk : 0 ≤ x2
    · have hop : opV V x1 ∧ 0 ≤ x2 := ⟨o, hk⟩
      rw [if_pos hk, if_pos hop]
      obtain ⟨N, e1, e2, e3, e4, -⟩ := h1.goes (a := 0) (by omega) h1.row0 o.1 o.2.1
      have hN := h1.goesFr e2
      have hC := h.1.1.cells
      have hs := nx_ok h.1.1 (DN M 0) (M.2 210 0) (wlV V)
      have hnN : nxR N 0 V = nxR M 0 V := (nxR_fr e2 (fun k j hk q => by unfold W_MO_goesFrom at q; omega)).trans hn
      have hnx : ∀ d, 0 ≤ d → d < cellsV V → t_MO_nextOf N 0 d = some (nxR M 0 V d) := fun d a b => by rw [hN.next (by omega) hN.row0 a b, hnN]
      rw [hn] at e3 e4
      have hs2 : stepOK (nxR M 0 V) (cellsV V) := hs
      obtain ⟨w1, w2, w3, w4, w5, w6⟩ := way_facts hC.2 hs2 o.1 o.2.1
      rw [e1, obind_some, e3, e4]
      unfold wayAt
      have fin : ∀ v : Int, 0 ≤ v → v ≤ ((wayS (nxR M 0 V) x1).1 : Int) → t_MO_way_L62 x1 x2 N v = some (N, itr (nxR M 0 V) x1 v.toNat) := by
        intro v a b
        unfold t_MO_way_L62
        have := m_way_loop (x1 := x1) (x2 := x2) hnx (m := v.toNat) (fun q hq => w6 q (by omega)) (by omega) v.toNat 0 FU (by omega) (fu_big (by omega))
        rw [Int.toNat_of_nonneg a] at this
        exact this
      generalize wAhead (wayS (nxR M 0 V) x1) = wa at *
      generalize wRound (wayS (nxR M 0 V) x1) = wr at *
      by_cases c1 : x2 ≤ wa
      · rw [if_pos c1, if_pos c1]
        exact ⟨N, fin x2 hk (by omega), hN⟩
      · rw [if_neg c1, if_neg c1]
        by_cases c2 : wr = 0
        · rw [if_pos c2, if_pos c2]; exact ⟨N, rfl, hN⟩
        · have i1 : InR (x2 - wa) := by unfold InR at *; omega
          have i2 : InR wr := by unfold InR; omega
          have b1 := Int.emod_nonneg (x2 - wa) (b := wr) (by omega)
          have b2 := Int.emod_lt_of_pos (x2 - wa) (b := wr) (by omega)
          rw [if_neg c2, if_neg c2, if_neg c2, w32_id i1, q_rem_nn i1 i2 (by omega) (by omega), w32_id (by unfold InR; omega)]
          exact ⟨N, fin _ (by omega) (by omega), hN⟩
    · rw [if_neg hk, if_neg (fun q => hk q.2)]; exact ⟨M1, rfl, h1⟩
  · rw [e, obind_some, if_pos rfl, if_neg (fun q => o q.1)]; exact ⟨M1, rfl, h1⟩
theorem ri_way {M : Mem} {V : TV} (h : RI M V) {x1 x2 : Int} (hx : InR x2) : Ok (fun r => RI r.1 V) (t_MO_way M x1 x2) := by
  obtain ⟨N, e, hN⟩ := m_way h (x1 := x1) hx
  exact ⟨_, e, hN⟩
