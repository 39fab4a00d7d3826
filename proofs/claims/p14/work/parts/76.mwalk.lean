/-! ===== walks: what is to come out, and the reference's side ===== -/
def L0G (to : Int) : Int → Int := fun x => if x = to then 0 else BIG
theorem L0_GI {b wt : Int → Int → Int} {C : Nat} {to : Int} (h0 : 0 ≤ to) (h1 : to < (C : Int)) : GI b wt C to (L0G to) := by
  refine ⟨⟨h0, h1, if_pos rfl⟩, fun c c0 c1 => ?_⟩
  by_cases e : c = to
  · have : L0G to c = 0 := if_pos e
    rw [this]
    exact ⟨by omega, by decide, fun _ => ⟨[], ⟨e, by rw [this]⟩, ⟨(fun y hy => by cases hy), trivial⟩⟩⟩
  · have : L0G to c = BIG := if_neg e
    rw [this]
    exact ⟨by decide, Int.le_refl _, fun q => absurd q (by omega)⟩
def Flg (C : Nat) (L0 L : Int → Int) (v : Int) : Prop := (v = 0 ∧ L = L0) ∨ (v = 1 ∧ ∃ x, 0 ≤ x ∧ x < (C : Int) ∧ L x < L0 x)
abbrev one2 : Int → Int → Int := fun _ _ => 1
theorem Pth.one {b : Int → Int → Int} {C : Nat} {to : Int} {L : Int → Int} : ∀ {l : List Int} {c v : Int}, Pth b one2 C to L l c v → v = (l.length : Int) := by
  intro l
  induction l with
  | nil => intro c v p; rw [p.2]; simp
  | cons d r ih =>
    intro c v p
    obtain ⟨p1, w, p2, p3, p4, p5⟩ := p
    have : v - 1 = (r.length : Int) := ih p5
    simp only [List.length_cons]
    omega
theorem GI.far1 {b : Int → Int → Int} {C : Nat} {to : Int} {L : Int → Int} (hG : GOK b one2 C) (h : GI b one2 C to L) {c : Int} (c0 : 0 ≤ c) (c1 : c < (C : Int)) (hb : L c < BIG) : L c ≤ 47 := by
  obtain ⟨f1, l, p, nd, e⟩ := h.far hG c0 c1 hb
  have := p.one
  omega
abbrev cnS (V : TV) (D : Int → Int) (c d : Int) : Prop := 0 ≤ d ∧ ¬ stV V D c = 0 ∧ ¬ stV V D d = 0 ∧ (lnV V c d = 0 ∨ ¬ V 9 c = 0 ∨ ¬ V 9 d = 0)
def bwW (V : TV) (D : Int → Int) : Int → Int → Int := fun c w => if cnS V D c (bsV V c w) then bsV V c w else -1
def CN (V : TV) : Nat := (cellsV V).toNat
theorem CN_eq {V : TV} (hV : VOK V) : (CN V : Int) = cellsV V := by have := hV.cells; unfold CN; omega
theorem bw_ok {V : TV} (hV : VOK V) (D : Int → Int) : GOK (bwW V D) one2 (CN V) := by
  have hC := hV.cells
  have e := CN_eq hV
  refine ⟨by omega, fun c w c0 c1 w0 w1 => ?_⟩
  have hb := bs_rng hV c0 (by omega) w
  unfold bwW
  refine ⟨?_, fun _ => ⟨by show (1 : Int) ≤ 1; decide, by show (1 : Int) % 64 = 1; decide, by show (1 : Int) ≤ 64000; decide⟩⟩
  split <;> omega
theorem m_canStep {M : Mem} {V : TV} (h : RI M V) {c d : Int} (c0 : 0 ≤ c) (c1 : c < cellsV V) (d0 : -1 ≤ d) (d1 : d < cellsV V) : t_MO_canStep M c d = some (if cnS V (DN M 0) c d then 1 else 0) := by
  have hC := h.1.1.cells
  unfold t_MO_canStep
  by_cases e : d = -1
  · rw [if_pos e, if_neg (fun q => by omega)]
  · rw [if_neg e, h.stands c0 c1, obind_some]
    by_cases s1 : stV V (DN M 0) c = 0
    · rw [if_pos s1, if_neg (fun q => q.2.1 s1)]
    · rw [if_neg s1, h.stands (by omega) d1, obind_some]
      by_cases s2 : stV V (DN M 0) d = 0
      · rw [if_pos s2, if_neg (fun q => q.2.2.1 s2)]
      · rw [if_neg s2, m_line h.1.2.1 c0 (by omega) (by omega) (by omega), obind_some]
        by_cases s3 : lnV V c d = 0
        · rw [if_pos s3, if_pos ⟨by omega, s1, s2, Or.inl s3⟩]
        · rw [if_neg s3, qguard_pos ⟨by omega, by omega⟩, (h.1.2.1.2.2.2 c c0 (by omega)).2.2]
          by_cases s4 : V 9 c = 0
          · rw [if_pos s4, qguard_pos ⟨by omega, by omega⟩, (h.1.2.1.2.2.2 d (by omega) (by omega)).2.2]
            by_cases s5 : V 9 d = 0
            · rw [if_pos s5, if_neg (fun q => by rcases q.2.2.2 with q | q | q <;> contradiction)]
            · rw [if_neg s5, if_pos ⟨by omega, s1, s2, Or.inr (Or.inr s5)⟩]
          · rw [if_neg s4, if_pos ⟨by omega, s1, s2, Or.inr (Or.inl s4)⟩]
def fwR (x : Int) : Int := if x < BIG then x else 1000000
def W22 : Nat → Int → Prop := fun k j => k = 222 ∨ (k = 191 ∧ j = 0)
theorem W22_RIc : ∀ k j, RIc k j → ¬ W22 k j := by intro k j a q; unfold RIc at a; unfold W22 at q; omega
def PW (M : Mem) (V : TV) (L : Int → Int) : Prop := ∀ x, 0 ≤ x → x < cellsV V → M.1 222 x = fwR (L x)
section WALK
variable {V : TV} {M0 : Mem} {to : Int}
theorem m_lw_L53 (h : RI M0 V) {x1 c : Int} {b34 : Mem → Int → Option Mem} {b42 : Mem → Int → Int → Option Mem} (c0 : 0 ≤ c) (c1 : c < cellsV V) (LS Ls : Int → Int) (hs : ∀ x, Ls x ≤ LS x) (hg : GI (bwW V (DN M0 0)) one2 (CN V) to Ls) : ∀ (n w fu : Nat) (M : Mem) (v : Int), w + n = 4 → n < fu → Fr W22 M0 M → PW M V (rcG (bwW V (DN M0 0)) one2 Ls c w) → Flg (CN V) LS (rcG (bwW V (DN M0 0)) one2 Ls c w) v →
    ∃ N u, t_MO_layWalk_L53 x1 b34 b42 fu M v c (w : Int) = b42 N u (c + 1) ∧ Fr W22 M0 N ∧ PW N V (rcG (bwW V (DN M0 0)) one2 Ls c 4) ∧ Flg (CN V) LS (rcG (bwW V (DN M0 0)) one2 Ls c 4) u := by
  have hC := h.1.1.cells
  have hN := CN_eq h.1.1
  have hG := bw_ok h.1.1 (DN M0 0)
  intro n
  induction n with
  | zero =>
    intro w fu M v g0 g1 hF hP hf
    obtain ⟨g, rfl⟩ : ∃ g, fu = g + 1 := ⟨fu - 1, by omega⟩
    have hw : w = 4 := by omega
    subst hw
    rw [t_MO_layWalk_L53, if_pos (by omega), w32_id (x := c + 1) (by unfold InR; omega)]
    exact ⟨M, v, rfl, hF, hP, hf⟩
  | succ n ih =>
    intro w fu M v g0 g1 hF hP hf
    obtain ⟨g, rfl⟩ : ∃ g, fu = g + 1 := ⟨fu - 1, by omega⟩
    have hM : RI M V := h.fr hF W22_RIc
    have eD : DN M 0 = DN M0 0 := DN_fr hF (fun j q => by unfold W22 at q; omega)
    have hb := bs_rng h.1.1 c0 c1 (w : Int)
    have hcur := rcG_GI hG hg c0 (c := c) (by omega) w (by omega)
    have nx := fun N u q1 q2 q3 => ih (w + 1) g N u (by omega) (by omega) q1 q2 q3
    rw [rcG] at nx
    rw [t_MO_layWalk_L53, if_neg (by omega), m_beside hM.1.2.1 hM.1.1 c0 c1 (by omega) (by omega), obind_some, m_canStep hM c0 c1 hb.1 hb.2, obind_some, eD]
    unfold t_MO_layWalk_L116
    rw [w32_succ (by omega)]
    generalize hL : rcG (bwW V (DN M0 0)) one2 Ls c w = L at *
    by_cases e : cnS V (DN M0 0) c (bsV V c (w : Int))
    · have hbw : bwW V (DN M0 0) c (w : Int) = bsV V c (w : Int) := if_pos e
      have hd0 : 0 ≤ bsV V c (w : Int) := e.1
      have hpc := hP c c0 c1
      have hpd := hP (bsV V c (w : Int)) hd0 hb.2
      have hLc := hcur.2 c c0 (by omega)
      have hLd := hcur.2 (bsV V c (w : Int)) hd0 (by omega)
      have f1 : L c < BIG → L c ≤ 47 := fun q => hcur.far1 hG c0 (by omega) q
      have f2 : L (bsV V c (w : Int)) < BIG → L (bsV V c (w : Int)) ≤ 47 := fun q => hcur.far1 hG hd0 (by omega) q
      have hiff : (fwR (L (bsV V c (w : Int))) + 1 < fwR (L c)) ↔ L (bsV V c (w : Int)) + 1 < L c := by
        have hB : BIG = 100000000 := rfl
        unfold fwR
        split <;> split <;> omega
      have hr : 0 ≤ fwR (L (bsV V c (w : Int))) ∧ fwR (L (bsV V c (w : Int))) ≤ 1000000 := by
        unfold fwR
        split <;> omega
      rw [if_pos e, if_neg (by decide), qguard_pos ⟨by omega, by omega⟩, qguard_pos ⟨by omega, by omega⟩, hpc, hpd, w32_id (by unfold InR; omega)]
      by_cases q : L (bsV V c (w : Int)) + 1 < L c
      · have erl : rlG (bwW V (DN M0 0)) one2 L c (w : Int) = updG L c (L (bsV V c (w : Int)) + 1) := by
          unfold rlG
          rw [hbw, if_pos ⟨hd0, q⟩]
        rw [if_pos (hiff.mpr q), qguard_pos ⟨by omega, by omega⟩, qguard_pos ⟨by omega, by omega⟩]
        simp only [qlet]
        rw [erl] at nx
        have hB : BIG = 100000000 := rfl
        refine nx _ _ (hF.setI (Or.inl rfl)) (fun x x0 x1 => ?_) (Or.inr ⟨rfl, c, c0, by omega, ?_⟩)
        · by_cases ex : x = c
          · subst ex
            rw [sI_self]
            unfold updG fwR
            rw [if_pos rfl, if_pos (by omega), if_pos (by omega)]
          · rw [sI_ne (by omega)]
            unfold updG
            rw [if_neg ex]
            exact hP x x0 x1
        · unfold updG
          rw [if_pos rfl]
          have h1 : L c ≤ Ls c := by rw [← hL]; exact rcG_le _ _ _ _
          have := hs c
          omega
      · have erl : rlG (bwW V (DN M0 0)) one2 L c (w : Int) = L := by
          unfold rlG
          rw [hbw, if_neg (fun z => q z.2)]
        rw [if_neg (fun z => q (hiff.mp z))]
        rw [erl] at nx
        exact nx M v hF hP hf
    · have erl : rlG (bwW V (DN M0 0)) one2 L c (w : Int) = L := by
        have : bwW V (DN M0 0) c (w : Int) = -1 := if_neg e
        unfold rlG
        rw [this, if_neg (fun z => by omega)]
      rw [if_neg e, if_pos rfl]
      rw [erl] at nx
      exact nx M v hF hP hf
theorem m_lw_L42 (h : RI M0 V) {x1 : Int} {b34 : Mem → Int → Option Mem} (LS : Int → Int) (hg : GI (bwW V (DN M0 0)) one2 (CN V) to LS) : ∀ (n c fu : Nat) (M : Mem) (v : Int), c + n = CN V → n < fu → Fr W22 M0 M → PW M V (rdG (bwW V (DN M0 0)) one2 LS c) → Flg (CN V) LS (rdG (bwW V (DN M0 0)) one2 LS c) v →
    ∃ N u, t_MO_layWalk_L42 x1 b34 fu M v (c : Int) = b34 N u ∧ Fr W22 M0 N ∧ PW N V (rdG (bwW V (DN M0 0)) one2 LS (CN V)) ∧ Flg (CN V) LS (rdG (bwW V (DN M0 0)) one2 LS (CN V)) u := by
  have hC := h.1.1.cells
  have hN := CN_eq h.1.1
  have hG := bw_ok h.1.1 (DN M0 0)
  intro n
  induction n with
  | zero =>
    intro c fu M v g0 g1 hF hP hf
    obtain ⟨g, rfl⟩ : ∃ g, fu = g + 1 := ⟨fu - 1, by omega⟩
    have hM : RI M V := h.fr hF W22_RIc
    rw [t_MO_layWalk_L42]
    simp only [qlet]
    rw [m_cells hM.1.2.1 hM.1.1, if_pos (by omega)]
    have hc : c = CN V := by omega
    subst hc
    exact ⟨M, v, rfl, hF, hP, hf⟩
  | succ n ih =>
    intro c fu M v g0 g1 hF hP hf
    obtain ⟨g, rfl⟩ : ∃ g, fu = g + 1 := ⟨fu - 1, by omega⟩
    have hM : RI M V := h.fr hF W22_RIc
    rw [t_MO_layWalk_L42]
    simp only [qlet]
    rw [m_cells hM.1.2.1 hM.1.1, if_neg (by omega)]
    obtain ⟨N, u, n1, n2, n3, n4⟩ := m_lw_L53 h (x1 := x1) (b34 := b34) (b42 := fun a0_ a1_ a2_ => t_MO_layWalk_L42 x1 b34 g a0_ a1_ a2_) (c := (c : Int)) (by omega) (by omega) LS (rdG (bwW V (DN M0 0)) one2 LS c) (fun x => rdG_le _ _ _) (rdG_GI hG hg c (by omega)) 4 0 FU M v (by omega) (fu_big (by omega)) hF hP hf
    rw [show ((0 : Nat) : Int) = 0 from rfl] at n1
    rw [n1, show (c : Int) + 1 = ((c + 1 : Nat) : Int) by omega]
    exact ih (c + 1) g N u (by omega) (by omega) n2 n3 n4
theorem m_lw_L34 (h : RI M0 V) {x1 : Int} (LS : Int → Int) (hg : GI (bwW V (DN M0 0)) one2 (CN V) to LS) : ∀ (n j fu : Nat) (M : Mem), j + n = 47 → n + 1 < fu → Fr W22 M0 M → PW M V (itG (bwW V (DN M0 0)) one2 (CN V) LS j) →
    ∃ N, t_MO_layWalk_L34 x1 fu M 1 = some N ∧ Fr W22 M0 N ∧ PW N V (itG (bwW V (DN M0 0)) one2 (CN V) LS 47) := by
  have hC := h.1.1.cells
  have hN := CN_eq h.1.1
  have hG := bw_ok h.1.1 (DN M0 0)
  have cv := it_conv hG hg
  intro n
  induction n with
  | zero =>
    intro j fu M g0 g1 hF hP
    obtain ⟨g, rfl⟩ : ∃ g, fu = g + 2 := ⟨fu - 2, by omega⟩
    have hj : j = 47 := by omega
    subst hj
    rw [t_MO_layWalk_L34, if_neg (by decide)]
    obtain ⟨N, u, n1, n2, n3, n4⟩ := m_lw_L42 h (x1 := x1) (b34 := fun a0_ a1_ => t_MO_layWalk_L34 x1 (g + 1) a0_ a1_) _ (itG_GI hG hg 47) (CN V) 0 FU M 0 (by omega) (fu_big (by omega)) hF hP (Or.inl ⟨rfl, rfl⟩)
    rw [show ((0 : Nat) : Int) = 0 from rfl] at n1
    rw [n1]
    rcases n4 with ⟨u0, e⟩ | ⟨u1, x, x0, x1', lt⟩
    · rw [u0, t_MO_layWalk_L34, if_pos rfl]
      exact ⟨N, rfl, n2, by rw [e] at n3; exact n3⟩
    · have := cv.2 48 (by omega) x x0 x1'
      have e : itG (bwW V (DN M0 0)) one2 (CN V) LS 48 = rdG (bwW V (DN M0 0)) one2 (itG (bwW V (DN M0 0)) one2 (CN V) LS 47) (CN V) := rfl
      rw [e] at this
      omega
  | succ n ih =>
    intro j fu M g0 g1 hF hP
    obtain ⟨g, rfl⟩ : ∃ g, fu = g + 2 := ⟨fu - 2, by omega⟩
    rw [t_MO_layWalk_L34, if_neg (by decide)]
    obtain ⟨N, u, n1, n2, n3, n4⟩ := m_lw_L42 h (x1 := x1) (b34 := fun a0_ a1_ => t_MO_layWalk_L34 x1 (g + 1) a0_ a1_) _ (itG_GI hG hg j) (CN V) 0 FU M 0 (by omega) (fu_big (by omega)) hF hP (Or.inl ⟨rfl, rfl⟩)
    rw [show ((0 : Nat) : Int) = 0 from rfl] at n1
    rw [n1]
    rcases n4 with ⟨u0, e⟩ | ⟨u1, -⟩
    · rw [u0, t_MO_layWalk_L34, if_pos rfl]
      refine ⟨N, rfl, n2, ?_⟩
      have same : ∀ m, itG (bwW V (DN M0 0)) one2 (CN V) LS (j + m) = itG (bwW V (DN M0 0)) one2 (CN V) LS j := by
        intro m
        induction m with
        | zero => rfl
        | succ m im => rw [show j + (m + 1) = (j + m) + 1 by omega, itG, im]; exact e
      rw [show 47 = j + (n + 1) by omega, same]
      rw [e] at n3
      exact n3
    · rw [u1]
      exact ih (j + 1) (g + 1) N (by omega) (by omega) n2 n3
theorem m_lw_L2 (h : RI M0 V) (t0 : 0 ≤ to) (t1 : to < cellsV V) : ∀ (n : Nat) (fu : Nat) (M : Mem) (v : Int), v + (n : Int) = 48 → 0 ≤ v → n < fu → Fr W22 M0 M → (∀ x, 0 ≤ x → x < v → M.1 222 x = fwR (L0G to x)) →
    ∃ N, t_MO_layWalk_L2 to fu M v = some N ∧ Fr W22 M0 N ∧ PW N V (itG (bwW V (DN M0 0)) one2 (CN V) (L0G to) 47) := by
  have hC := h.1.1.cells
  have hN := CN_eq h.1.1
  intro n
  induction n with
  | zero =>
    intro fu M v g0 g1 g2 hF hx
    obtain ⟨g, rfl⟩ : ∃ g, fu = g + 1 := ⟨fu - 1, by omega⟩
    rw [t_MO_layWalk_L2, if_pos (by omega)]
    exact m_lw_L34 h (L0G to) (L0_GI t0 (by omega)) 47 0 FU M (by omega) (fu_big (by omega)) hF (fun x x0 x1 => hx x x0 (by omega))
  | succ n ih =>
    intro fu M v g0 g1 g2 hF hx
    obtain ⟨g, rfl⟩ : ∃ g, fu = g + 1 := ⟨fu - 1, by omega⟩
    rw [t_MO_layWalk_L2, if_neg (by omega)]
    unfold t_MO_layWalk_L25
    rw [qguard_pos ⟨by omega, by omega⟩, qguard_pos ⟨by omega, by omega⟩, w32_id (x := v + 1) (by unfold InR; omega)]
    simp only [qlet]
    by_cases e : v = to
    · rw [if_pos e]
      refine ih g _ (v + 1) (by omega) (by omega) (by omega) (hF.setI (Or.inl rfl)) (fun x x0 x1 => ?_)
      by_cases ex : x = v
      · rw [ex, sI_self]
        unfold L0G
        rw [if_pos e]
        rfl
      · rw [sI_ne (by omega)]; exact hx x x0 (by omega)
    · rw [if_neg e]
      refine ih g _ (v + 1) (by omega) (by omega) (by omega) (hF.setI (Or.inl rfl)) (fun x x0 x1 => ?_)
      by_cases ex : x = v
      · rw [ex, sI_self]
        unfold L0G
        rw [if_neg e]
        rfl
      · rw [sI_ne (by omega)]; exact hx x x0 (by omega)
end WALK
/-- how far all cells are -/
def FW (V : TV) (D : Int → Int) (to : Int) : Int → Int := itG (bwW V D) one2 (CN V) (L0G to) 47
theorem FW_GI {V : TV} (hV : VOK V) (D : Int → Int) {to : Int} (h0 : 0 ≤ to) (h1 : to < cellsV V) : GI (bwW V D) one2 (CN V) to (FW V D to) := itG_GI (bw_ok hV D) (L0_GI h0 (by have := CN_eq hV; omega)) 47
theorem FW_fix {V : TV} (hV : VOK V) (D : Int → Int) {to : Int} (h0 : 0 ≤ to) (h1 : to < cellsV V) : Fix (bwW V D) one2 (CN V) (FW V D to) := (it_conv (bw_ok hV D) (L0_GI h0 (by have := CN_eq hV; omega))).1
theorem m_layWalk {M : Mem} {V : TV} (h : RI M V) {to : Int} (h0 : 0 ≤ to) (h1 : to < cellsV V) : ∃ N, t_MO_layWalk M to = some N ∧ Fr W22 M N ∧ PW N V (FW V (DN M 0) to) := m_lw_L2 h h0 h1 48 FU M 0 (by omega) (by omega) (fu_big (by omega)) Fr.rf (fun x x0 x1 => by omega)
abbrev wkOK (V : TV) (D : Int → Int) (a b : Int) : Prop := (0 ≤ a ∧ a < cellsV V) ∧ (0 ≤ b ∧ b < cellsV V) ∧ ¬ stV V D a = 0 ∧ ¬ stV V D b = 0
theorem m_isWalk {M : Mem} {V : TV} (h : RI M V) (a b : Int) : t_MO_isWalk M a b = some (if wkOK V (DN M 0) a b then 1 else 0) := by
  unfold t_MO_isWalk
  simp only [qlet]
  rw [m_isCell h.1.2.1 h.1.1, m_isCell h.1.2.1 h.1.1]
  by_cases e1 : 0 ≤ a ∧ a < cellsV V
  · rw [if_pos e1, if_neg (by decide)]
    by_cases e2 : 0 ≤ b ∧ b < cellsV V
    · rw [if_pos e2, if_neg (by decide), h.stands e1.1 e1.2, obind_some]
      by_cases e3 : stV V (DN M 0) a = 0
      · rw [if_pos e3, if_neg (fun q => q.2.2.1 e3)]
      · rw [if_neg e3, h.stands e2.1 e2.2, obind_some]
        by_cases e4 : stV V (DN M 0) b = 0
        · rw [if_pos e4, if_neg (fun q => q.2.2.2 e4)]
        · rw [if_neg e4, if_pos ⟨e1, e2, e3, e4⟩]
    · rw [if_neg e2, if_pos rfl, if_neg (fun q => e2 q.2.1)]
  · rw [if_neg e1, if_pos rfl, if_neg (fun q => e1 q.1)]
def walkS (V : TV) (D : Int → Int) (a b : Int) : Int := if wkOK V D a b then (if FW V D b a < BIG then FW V D b a else -2) else -1
theorem fw_lt {V : TV} (hV : VOK V) (D : Int → Int) {to c : Int} (h0 : 0 ≤ to) (h1 : to < cellsV V) (c0 : 0 ≤ c) (c1 : c < cellsV V) : (fwR (FW V D to c) < 1000000 ↔ FW V D to c < BIG) ∧ (FW V D to c < BIG → FW V D to c ≤ 47) ∧ 0 ≤ FW V D to c := by
  have hN := CN_eq hV
  have hg := FW_GI hV D h0 h1
  have f := fun q => hg.far1 (bw_ok hV D) c0 (c := c) (by omega) q
  have g := (hg.2 c c0 (by omega)).1
  refine ⟨?_, f, g⟩
  unfold fwR
  split
  · rename_i q; have := f q; exact ⟨fun _ => q, fun _ => by omega⟩
  · rename_i q; exact ⟨fun z => by omega, fun z => absurd z q⟩
theorem at22 {M : Mem} {v : Int} : Fr W22 M (setI M 191 0 v) := Fr.rf.setI (Or.inr ⟨rfl, rfl⟩)
theorem m_walk {M : Mem} {V : TV} (h : RI M V) (a b : Int) : ∃ N, t_MO_walk M a b = some (N, walkS V (DN M 0) a b) ∧ Fr W22 M N := by
  have h1 := h.set0 0
  have hC := h.1.1.cells
  unfold t_MO_walk walkS
  simp only [qlet]
  rw [m_isWalk h1, obind_some]
  have eD : DN (setI M 191 0 0) 0 = DN M 0 := rfl
  rw [eD]
  by_cases e : wkOK V (DN M 0) a b
  · rw [if_pos e, if_pos e, if_neg (by decide)]
    obtain ⟨N, n1, n2, n3⟩ := m_layWalk h1 e.2.1.1 e.2.1.2
    rw [eD] at n3
    have hf := fw_lt h.1.1 (DN M 0) e.2.1.1 e.2.1.2 e.1.1 e.1.2
    rw [n1, obind_some, qguard_pos ⟨by omega, by omega⟩, qguard_pos ⟨by omega, by omega⟩, n3 a e.1.1 e.1.2]
    refine ⟨N, ?_, at22.trans n2⟩
    by_cases q : FW V (DN M 0) b a < BIG
    · rw [if_pos (hf.1.mpr q), if_pos q]
      unfold fwR
      rw [if_pos q]
    · rw [if_neg (fun z => q (hf.1.mp z)), if_neg q]
  · rw [if_neg e, if_neg e, if_pos rfl]
    exact ⟨_, rfl, at22⟩
theorem ri_walk {M : Mem} {V : TV} (h : RI M V) (a b : Int) : Ok (fun r => RI r.1 V) (t_MO_walk M a b) := by
  obtain ⟨N, n1, n2⟩ := m_walk h a b
  exact ⟨_, n1, h.fr n2 W22_RIc⟩
def stepS (V : TV) (D : Int → Int) (a b k : Int) : Int := if wkOK V D a b ∧ 0 ≤ k then (if FW V D b a < BIG ∧ k ≤ FW V D b a then tkG (bwW V D) one2 (FW V D b) a k.toNat else -2) else -1
theorem m_step_L65 {M : Mem} {V : TV} (h : RI M V) {x1 x2 x3 c i to : Int} {b56 : Mem → Int → Int → Option (Mem × Int)} (t0 : 0 ≤ to) (t1 : to < cellsV V) (hP : PW M V (FW V (DN M 0) to)) (c0 : 0 ≤ c) (c1 : c < cellsV V) (hb : FW V (DN M 0) to c < BIG) (hne : FW V (DN M 0) to c ≠ 0) (hi : 0 ≤ i ∧ i < 100) : ∀ (n fu : Nat) (w : Int), w + (n : Int) = ndG (bwW V (DN M 0)) one2 (FW V (DN M 0) to) c → 0 ≤ w → n < fu → t_MO_step_L65 x1 x2 x3 b56 fu M c i w = b56 M (bwW V (DN M 0) c (ndG (bwW V (DN M 0)) one2 (FW V (DN M 0) to) c)) (i + 1) := by
  have hC := h.1.1.cells
  have hN := CN_eq h.1.1
  have hG := bw_ok h.1.1 (DN M 0)
  have hg := FW_GI h.1.1 (DN M 0) t0 t1
  have nd := nd_some hG hg (FW_fix h.1.1 (DN M 0) t0 t1) c0 (c := c) (by omega) hb hne
  generalize hnd : ndG (bwW V (DN M 0)) one2 (FW V (DN M 0) to) c = m at *
  have hfc := fw_lt h.1.1 (DN M 0) t0 t1 c0 c1
  have hpc : M.1 222 c = FW V (DN M 0) to c := by rw [hP c c0 c1]; unfold fwR; rw [if_pos hb]
  -- the test of one side
  have tst : ∀ w, 0 ≤ w → w < 4 → cnS V (DN M 0) c (bsV V c w) → (fwR (FW V (DN M 0) to (bsV V c w)) = FW V (DN M 0) to c - 1 ↔ mtG (bwW V (DN M 0)) one2 (FW V (DN M 0) to) c w) := by
    intro w w0 w1 e
    have hbw : bwW V (DN M 0) c w = bsV V c w := if_pos e
    have hbr := bs_rng h.1.1 c0 c1 w
    have hfd := fw_lt h.1.1 (DN M 0) t0 t1 e.1 hbr.2
    have h47 := hfc.2.1 hb
    unfold mtG
    rw [hbw]
    unfold fwR
    have hB : BIG = 100000000 := rfl
    split
    · exact ⟨fun z => ⟨e.1, by show _ + (1 : Int) = _; omega⟩, fun z => by have : _ + (1 : Int) = _ := z.2; omega⟩
    · exact ⟨fun z => by omega, fun z => by have : _ + (1 : Int) = _ := z.2; omega⟩
  have pre : ∀ (w : Int) (g : Nat), 0 ≤ w → w < 4 → t_MO_step_L65 x1 x2 x3 b56 (g + 1) M c i w = if 0 ≤ bwW V (DN M 0) c w ∧ FW V (DN M 0) to (bwW V (DN M 0) c w) + 1 = FW V (DN M 0) to c then b56 M (bwW V (DN M 0) c w) (i + 1) else t_MO_step_L65 x1 x2 x3 b56 g M c i (w + 1) := by
    intro w g w0 w1
    have hbr := bs_rng h.1.1 c0 c1 w
    have h47 := hfc.2.1 hb
    rw [t_MO_step_L65, m_beside h.1.2.1 h.1.1 c0 c1 w0 (by omega), obind_some, m_canStep h c0 c1 hbr.1 hbr.2, obind_some]
    unfold t_MO_step_L107
    rw [w32_id (x := w + 1) (by unfold InR; omega)]
    by_cases e : cnS V (DN M 0) c (bsV V c w)
    · have hbw : bwW V (DN M 0) c w = bsV V c w := if_pos e
      have he1 := e.1
      rw [if_pos e, if_neg (by decide), obind_some, qguard_pos ⟨by omega, by omega⟩, qguard_pos ⟨by omega, by omega⟩, hP _ e.1 hbr.2, hpc, w32_id (x := FW V (DN M 0) to c - 1) (by unfold InR; omega), obind_some, w32_id (x := i + 1) (by unfold InR; omega)]
      have ts := tst w w0 w1 e
      unfold mtG at ts
      rw [hbw] at ts ⊢
      by_cases z : fwR (FW V (DN M 0) to (bsV V c w)) = FW V (DN M 0) to c - 1
      · rw [if_pos z, if_pos (ts.mp z)]
      · rw [if_neg z, if_neg (fun q => z (ts.mpr q))]
    · have hbw : bwW V (DN M 0) c w = -1 := if_neg e
      rw [if_neg e, if_pos rfl, hbw, if_neg (fun z => by omega)]
  intro n
  induction n with
  | zero =>
    intro fu w g0 g1 g2
    obtain ⟨g, rfl⟩ : ∃ g, fu = g + 1 := ⟨fu - 1, by omega⟩
    have hw : w = m := by omega
    subst hw
    rw [pre w g nd.1.1 nd.1.2]
    exact if_pos nd.2.1
  | succ n ih =>
    intro fu w g0 g1 g2
    obtain ⟨g, rfl⟩ : ∃ g, fu = g + 1 := ⟨fu - 1, by omega⟩
    rw [pre w g g1 (by omega)]
    refine (if_neg (nd.2.2 w g1 (by omega))).trans ?_
    exact ih g (w + 1) (by omega) (by omega) (by omega)
theorem m_step_L56 {M : Mem} {V : TV} (h : RI M V) {x1 x2 to : Int} {k : Nat} {a : Int} (t0 : 0 ≤ to) (t1 : to < cellsV V) (hP : PW M V (FW V (DN M 0) to)) (a0 : 0 ≤ a) (a1 : a < cellsV V) (hb : FW V (DN M 0) to a < BIG) (hk : (k : Int) ≤ FW V (DN M 0) to a) : ∀ (n i fu : Nat), i + n = k → n < fu → t_MO_step_L56 x1 x2 (k : Int) fu M (tkG (bwW V (DN M 0)) one2 (FW V (DN M 0) to) a i) (i : Int) = some (M, tkG (bwW V (DN M 0)) one2 (FW V (DN M 0) to) a k) := by
  have hC := h.1.1.cells
  have hN := CN_eq h.1.1
  have hG := bw_ok h.1.1 (DN M 0)
  have hg := FW_GI h.1.1 (DN M 0) t0 t1
  have hfx := FW_fix h.1.1 (DN M 0) t0 t1
  have h47 := (fw_lt h.1.1 (DN M 0) t0 t1 a0 a1).2.1 hb
  have hnn := (fw_lt h.1.1 (DN M 0) t0 t1 a0 a1).2.2
  intro n
  induction n with
  | zero =>
    intro i fu g0 g1
    obtain ⟨g, rfl⟩ : ∃ g, fu = g + 1 := ⟨fu - 1, by omega⟩
    rw [t_MO_step_L56, if_pos (by omega), show i = k by omega]
  | succ n ih =>
    intro i fu g0 g1
    obtain ⟨g, rfl⟩ : ∃ g, fu = g + 1 := ⟨fu - 1, by omega⟩
    obtain ⟨q1, q2, q3⟩ := tk_facts hG hg hfx a0 (c := a) (by omega) hb i (by omega)
    rw [t_MO_step_L56, if_neg (by omega)]
    have hne : FW V (DN M 0) to (tkG (bwW V (DN M 0)) one2 (FW V (DN M 0) to) a i) ≠ 0 := by intro e; rw [e] at q3; omega
    have nd := nd_some hG hg hfx q1.1 q1.2 (by omega) hne
    have := m_step_L65 h (x1 := x1) (x2 := x2) (x3 := (k : Int)) (i := (i : Int)) (b56 := fun a0_ a1_ a2_ => t_MO_step_L56 x1 x2 (k : Int) g a0_ a1_ a2_) t0 t1 hP q1.1 (by omega) (by omega) hne (by omega) (ndG (bwW V (DN M 0)) one2 (FW V (DN M 0) to) (tkG (bwW V (DN M 0)) one2 (FW V (DN M 0) to) a i)).toNat FU 0 (by omega) (by omega) (fu_big (by omega))
    rw [this, show (i : Int) + 1 = ((i + 1 : Nat) : Int) by omega]
    exact ih (i + 1) g (by omega) (by omega)
theorem m_step {M : Mem} {V : TV} (h : RI M V) (a b k : Int) : ∃ N, t_MO_step M a b k = some (N, stepS V (DN M 0) a b k) ∧ Fr W22 M N := by
  have h1 := h.set0 0
  have hC := h.1.1.cells
  unfold t_MO_step stepS
  simp only [qlet]
  rw [m_isWalk h1, obind_some]
  have eD : DN (setI M 191 0 0) 0 = DN M 0 := rfl
  rw [eD]
  by_cases e : wkOK V (DN M 0) a b
  · rw [if_pos e, if_neg (by decide)]
    by_cases k0 : 0 ≤ k
    · rw [if_pos k0, if_pos ⟨e, k0⟩]
      obtain ⟨N, n1, n2, n3⟩ := m_layWalk h1 e.2.1.1 e.2.1.2
      rw [eD] at n3
      have hf := fw_lt h.1.1 (DN M 0) e.2.1.1 e.2.1.2 e.1.1 e.1.2
      have hFN := at22.trans n2
      have hN : RI N V := h.fr hFN W22_RIc
      have eN : DN N 0 = DN M 0 := DN_fr hFN (fun j q => by unfold W22 at q; omega)
      rw [n1, obind_some, qguard_pos ⟨by omega, by omega⟩, qguard_pos ⟨by omega, by omega⟩, n3 a e.1.1 e.1.2]
      by_cases q : FW V (DN M 0) b a < BIG
      · have eq : fwR (FW V (DN M 0) b a) = FW V (DN M 0) b a := by unfold fwR; rw [if_pos q]
        have h47 := hf.2.1 q
        rw [eq, if_neg (by omega)]
        by_cases q2 : k ≤ FW V (DN M 0) b a
        · rw [if_pos q2, if_pos ⟨q, q2⟩]
          obtain ⟨k, rfl⟩ : ∃ m : Nat, k = (m : Int) := ⟨k.toNat, by omega⟩
          have k47 : (k : Int) ≤ 47 := by omega
          rw [← eN] at n3 q q2
          have := m_step_L56 hN (x1 := a) (x2 := b) (k := k) e.2.1.1 e.2.1.2 n3 e.1.1 e.1.2 q q2 k 0 FU (by omega) (fu_big (by omega))
          rw [eN] at this
          exact ⟨N, this, hFN⟩
        · rw [if_neg q2, if_neg (fun z => q2 z.2)]
          exact ⟨N, rfl, hFN⟩
      · rw [if_pos (by have := hf.1; omega), if_neg (fun z => q z.1)]
        exact ⟨N, rfl, hFN⟩
    · rw [if_neg k0, if_neg (fun z => k0 z.2)]
      exact ⟨_, rfl, at22⟩
  · rw [if_neg e, if_pos rfl, if_neg (fun z => e z.1)]
    exact ⟨_, rfl, at22⟩
theorem ri_step {M : Mem} {V : TV} (h : RI M V) (a b k : Int) : Ok (fun r => RI r.1 V) (t_MO_step M a b k) := by
  obtain ⟨N, n1, n2⟩ := m_step h a b k
  exact ⟨_, n1, h.fr n2 W22_RIc⟩
