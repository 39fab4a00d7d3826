/-! ===== pushing: what is to come out, and the reference's side ===== -/
theorem Pth.top {b wt : Int → Int → Int} {C : Nat} {to : Int} (hG : GOK b wt C) {L : Int → Int} : ∀ {l : List Int} {c v : Int}, 0 ≤ c → c < (C : Int) → Pth b wt C to L l c v → v ≤ 64000 * (l.length : Int) := by
  intro l
  induction l with
  | nil => intro c v _ _ p; rw [p.2]; simp
  | cons d r ih =>
    intro c v c0 c1 p
    obtain ⟨p1, w, p2, p3, p4, p5⟩ := p
    have hw := (hG.2 c w c0 c1 p2.1 p2.2).2 (by omega)
    have := ih p1.1 p1.2 p5
    simp only [List.length_cons]
    omega
theorem GI.top {b wt : Int → Int → Int} {C : Nat} {to : Int} (hG : GOK b wt C) {L : Int → Int} (h : GI b wt C to L) {c : Int} (c0 : 0 ≤ c) (c1 : c < (C : Int)) (hb : L c < BIG) : L c % 64 ≤ 47 ∧ L c ≤ 3008000 := by
  obtain ⟨f1, l, p, nd, e⟩ := h.far hG c0 c1 hb
  have := p.top hG c0 c1
  exact ⟨f1, by omega⟩
/-- what one step takes -/
def pcS (V : TV) (D A : Int → Int) (nets : Int64) (yr : Int) (c d : Int) : Int := if nxV V D nets (wlV V) c = bsV V c d then 0 else witS (V 10) (V 11) (nmP V D A c d yr) (V 0 11) 999 1
theorem pc_rng {V : TV} (D A : Int → Int) (nets : Int64) (yr c d : Int) : 0 ≤ pcS V D A nets yr c d ∧ pcS V D A nets yr c d ≤ 999 := by
  unfold pcS witS
  split
  · omega
  · split
    · split
      · omega
      · exact put_rng (by omega) (by omega)
    · omega
abbrev pcM (M : Mem) (V : TV) : Int → Int → Int := pcS V (DN M 0) (AT M 0) (M.2 210 0) (M.1 207 0)
def bpW (V : TV) : Int → Int → Int := fun c d => if V 8 c = 0 ∧ 0 ≤ bsV V c d ∧ V 8 (bsV V c d) = 0 then bsV V c d else -1
def wpW (P : Int → Int → Int) : Int → Int → Int := fun c d => P c d * 64 + 1
theorem bp_ok {V : TV} (hV : VOK V) {P : Int → Int → Int} (hP : ∀ c d, 0 ≤ P c d ∧ P c d ≤ 999) : GOK (bpW V) (wpW P) (CN V) := by
  have hC := hV.cells
  have e := CN_eq hV
  refine ⟨by omega, fun c w c0 c1 w0 w1 => ?_⟩
  have hb := bs_rng hV c0 (by omega) w
  have hp := hP c w
  unfold bpW wpW
  refine ⟨?_, fun _ => ⟨by omega, by omega, by omega⟩⟩
  split <;> omega
def PW2 : Nat → Int → Prop := fun k j => k = 220 ∨ GO k j
theorem PW2_RIc : ∀ k j, RIc k j → ¬ PW2 k j := by intro k j a q; unfold RIc at a; unfold PW2 GO at q; omega
theorem m_pushOf {M : Mem} {V : TV} (h : RI M V) {c d : Int} (c0 : 0 ≤ c) (c1 : c < cellsV V) (d0 : 0 ≤ d) (d1 : d < 4) (hb : 0 ≤ bsV V c d) : ∃ N, t_MO_pushOf M c d = some (N, pcM M V c d) ∧ Fr PW2 M N := by
  have hC := h.1.1.cells
  unfold t_MO_pushOf pcM pcS
  rw [h.next (by omega) h.row0 c0 c1, obind_some, m_beside h.1.2.1 h.1.1 c0 c1 d0 (by omega), obind_some]
  have eX : nxR M 0 V c = nxV V (DN M 0) (M.2 210 0) (wlV V) c := rfl
  rw [eX]
  by_cases e : nxV V (DN M 0) (M.2 210 0) (wlV V) c = bsV V c d
  · rw [if_pos e, if_pos e]; exact ⟨M, rfl, Fr.rf⟩
  · rw [if_neg e, if_neg e]
    obtain ⟨N, n1, n2, n3⟩ := m_callsPush h c0 c1 d0 d1 hb
    have hN : RI N V := h.fr n2 W20_RIc
    obtain ⟨O, o1, o2⟩ := m_within (M := N) (s := 0) (most := 999) (wo := 1) (by omega) hN.1.2.2.2.1 hN.1.2.2.1.1
    rw [n1, obind_some, o1, obind_some, witS_congr (nm := nmM N) (nm' := nmP V (DN M 0) (AT M 0) c d (M.1 207 0)) (fun j p q => n3 j p q)]
    exact ⟨O, rfl, (n2.mono (fun k j q => Or.inl q)).trans (o2.mono (fun k j q => Or.inr q))⟩
def W23 : Nat → Int → Prop := fun k j => k = 222 ∨ k = 223 ∨ (k = 191 ∧ j = 0) ∨ PW2 k j
theorem W23_RIc : ∀ k j, RIc k j → ¬ W23 k j := by intro k j a q; unfold RIc at a; unfold W23 PW2 GO at q; omega
/-- the pair of rows as one number -/
def PP (M : Mem) (V : TV) (L : Int → Int) : Prop := ∀ x, 0 ≤ x → x < cellsV V → (L x < BIG → M.1 223 x = L x / 64 ∧ M.1 222 x = L x % 64) ∧ (¬ L x < BIG → M.1 223 x = 1000000 ∧ M.1 222 x = 1000000)
theorem pcM_fr {M0 M : Mem} {V : TV} (hF : Fr W23 M0 M) : pcM M V = pcM M0 V := by
  unfold pcM
  rw [DN_fr hF (fun j q => by unfold W23 PW2 GO at q; omega), AT_fr hF (fun j q => by unfold W23 PW2 GO at q; omega), (hF 210 0 (by unfold W23 PW2 GO; omega)).2, (hF 207 0 (by unfold W23 PW2 GO; omega)).1]
abbrev gpb (V : TV) : Int → Int → Int := bpW V
abbrev gpw (M : Mem) (V : TV) : Int → Int → Int := wpW (pcM M V)
section PUSH
variable {V : TV} {M0 : Mem} {to : Int}
theorem gp_ok (h : RI M0 V) : GOK (gpb V) (gpw M0 V) (CN V) := bp_ok h.1.1 (fun c d => pc_rng _ _ _ _ _ _)
theorem m_lp_L71 (h : RI M0 V) {x1 c : Int} {b52 : Mem → Int → Option Mem} {b60 : Mem → Int → Int → Option Mem} (c0 : 0 ≤ c) (c1 : c < cellsV V) (LS Ls : Int → Int) (hs : ∀ x, Ls x ≤ LS x) (hg : GI (gpb V) (gpw M0 V) (CN V) to Ls) : ∀ (n w fu : Nat) (M : Mem) (v : Int), w + n = 4 → n < fu → Fr W23 M0 M → PP M V (rcG (gpb V) (gpw M0 V) Ls c w) → Flg (CN V) LS (rcG (gpb V) (gpw M0 V) Ls c w) v →
    ∃ N u, t_MO_layPush_L71 x1 b52 b60 fu M v c (w : Int) = b60 N u (c + 1) ∧ Fr W23 M0 N ∧ PP N V (rcG (gpb V) (gpw M0 V) Ls c 4) ∧ Flg (CN V) LS (rcG (gpb V) (gpw M0 V) Ls c 4) u := by
  have hC := h.1.1.cells
  have hN := CN_eq h.1.1
  have hG := gp_ok h
  intro n
  induction n with
  | zero =>
    intro w fu M v g0 g1 hF hP hf
    obtain ⟨g, rfl⟩ : ∃ g, fu = g + 1 := ⟨fu - 1, by omega⟩
    have hw : w = 4 := by omega
    subst hw
    rw [t_MO_layPush_L71, if_pos (by omega)]
    unfold t_MO_layPush_L218
    rw [w32_id (x := c + 1) (by unfold InR; omega)]
    exact ⟨M, v, rfl, hF, hP, hf⟩
  | succ n ih =>
    intro w fu M v g0 g1 hF hP hf
    obtain ⟨g, rfl⟩ : ∃ g, fu = g + 1 := ⟨fu - 1, by omega⟩
    have hM : RI M V := h.fr hF W23_RIc
    have hb := bs_rng h.1.1 c0 c1 (w : Int)
    have hcur := rcG_GI hG hg c0 (c := c) (by omega) w (by omega)
    have hw8 := (hM.1.1.2.2.2 c c0 (by omega)).2.2.1
    have nx := fun N u q1 q2 q3 => ih (w + 1) g N u (by omega) (by omega) q1 q2 q3
    rw [rcG] at nx
    have hB : BIG = 100000000 := rfl
    rw [t_MO_layPush_L71, if_neg (by omega), qguard_pos ⟨by omega, by omega⟩, (hM.1.2.1.2.2.2 c c0 (by omega)).2.1]
    have hmono : rcG (gpb V) (gpw M0 V) Ls c w c ≤ LS c := Int.le_trans (rcG_le _ _ _ _) (hs c)
    by_cases e8 : V 8 c = 0
    · rw [if_pos e8, m_beside hM.1.2.1 hM.1.1 c0 c1 (by omega) (by omega), obind_some]
      unfold t_MO_layPush_L212
      rw [w32_succ (by omega)]
      -- no way there
      have skip : gpb V c (w : Int) = -1 → ∃ N u, (fun a0_ a1_ a2_ a3_ => t_MO_layPush_L71 x1 b52 b60 g a0_ a1_ a2_ a3_) M v c ((w + 1 : Nat) : Int) = b60 N u (c + 1) ∧ Fr W23 M0 N ∧ PP N V (rcG (gpb V) (gpw M0 V) Ls c 4) ∧ Flg (CN V) LS (rcG (gpb V) (gpw M0 V) Ls c 4) u := by
        intro e
        have erl : rlG (gpb V) (gpw M0 V) (rcG (gpb V) (gpw M0 V) Ls c w) c (w : Int) = rcG (gpb V) (gpw M0 V) Ls c w := by
          unfold rlG
          rw [e, if_neg (fun z => by omega)]
        rw [erl] at nx
        exact nx M v hF hP hf
      by_cases e1 : bsV V c (w : Int) = -1
      · rw [if_pos e1]
        exact skip (if_neg (fun q => by omega))
      · have hd8 := (hM.1.1.2.2.2 (bsV V c (w : Int)) (by omega) (by omega)).2.2.1
        rw [if_neg e1, qguard_pos ⟨by omega, by omega⟩, (hM.1.2.1.2.2.2 _ (by omega) (by omega)).2.1]
        by_cases e9 : V 8 (bsV V c (w : Int)) = 0
        · have hbw : gpb V c (w : Int) = bsV V c (w : Int) := if_pos ⟨e8, by omega, e9⟩
          have hpc := hP c c0 c1
          have hpd := hP (bsV V c (w : Int)) (by omega) hb.2
          have hLc := hcur.2 c c0 (by omega)
          have hLd := hcur.2 (bsV V c (w : Int)) (by omega) (by omega)
          have f1 := fun q => hcur.top hG c0 (c := c) (by omega) q
          have f2 := fun q => hcur.top hG (c := bsV V c (w : Int)) (by omega) (by omega) q
          generalize hL : rcG (gpb V) (gpw M0 V) Ls c w = L at *
          have hcs := pc_rng (V := V) (DN M0 0) (AT M0 0) (M0.2 210 0) (M0.1 207 0) c (w : Int)
          have hwt : gpw M0 V c (w : Int) = pcM M0 V c (w : Int) * 64 + 1 := rfl
          change 0 ≤ pcM M0 V c (w : Int) ∧ pcM M0 V c (w : Int) ≤ 999 at hcs
          rw [if_pos e9, qguard_pos ⟨by omega, by omega⟩]
          by_cases eb : L (bsV V c (w : Int)) < BIG
          · have hpd1 := hpd.1 eb
            have f2b := f2 eb
            rw [hpd1.1, if_pos (by omega), qguard_pos ⟨by omega, by omega⟩]
            obtain ⟨N, n1, n2⟩ := m_pushOf hM c0 c1 (d := (w : Int)) (by omega) (by omega) (by omega)
            have hFN : Fr W23 M0 N := hF.trans (n2.mono (fun k j q => Or.inr (Or.inr (Or.inr q))))
            have hPN : PP N V L := by
              intro x x0 x1
              rw [(n2 223 x (by unfold PW2 GO; omega)).1, (n2 222 x (by unfold PW2 GO; omega)).1]
              exact hP x x0 x1
            rw [n1, obind_some, pcM_fr hF, qguard_pos ⟨by omega, by omega⟩, qguard_pos ⟨by omega, by omega⟩]
            have hc2 := hPN c c0 c1
            have hd2 := hPN (bsV V c (w : Int)) (by omega) hb.2
            have hd3 := hd2.1 eb
            generalize hcst : pcM M0 V c (w : Int) = cst at *
            have hd0 := hLd.1
            rw [w32_id (x := L (bsV V c (w : Int)) / 64 + cst) (by unfold InR; omega), qguard_pos ⟨by omega, by omega⟩, qguard_pos ⟨by omega, by omega⟩, hd3.2, w32_id (x := L (bsV V c (w : Int)) % 64 + 1) (by unfold InR; omega)]
            have keep : ¬ L (bsV V c (w : Int)) + gpw M0 V c (w : Int) < L c → ∃ O u, (fun a0_ a1_ a2_ a3_ => t_MO_layPush_L71 x1 b52 b60 g a0_ a1_ a2_ a3_) N v c ((w + 1 : Nat) : Int) = b60 O u (c + 1) ∧ Fr W23 M0 O ∧ PP O V (rcG (gpb V) (gpw M0 V) Ls c 4) ∧ Flg (CN V) LS (rcG (gpb V) (gpw M0 V) Ls c 4) u := by
              intro q
              have erl : rlG (gpb V) (gpw M0 V) L c (w : Int) = L := by
                unfold rlG
                rw [hbw, if_neg (fun z => q z.2)]
              rw [erl] at nx
              exact nx N v hFN hPN hf
            have upd : L (bsV V c (w : Int)) + gpw M0 V c (w : Int) < L c → ∃ O u, t_MO_layPush_L187 x1 b52 b60 (fun a0_ a1_ a2_ a3_ => t_MO_layPush_L71 x1 b52 b60 g a0_ a1_ a2_ a3_) N c (w : Int) (bsV V c (w : Int)) (L (bsV V c (w : Int)) / 64 + cst) = b60 O u (c + 1) ∧ Fr W23 M0 O ∧ PP O V (rcG (gpb V) (gpw M0 V) Ls c 4) ∧ Flg (CN V) LS (rcG (gpb V) (gpw M0 V) Ls c 4) u := by
              intro q
              have erl : rlG (gpb V) (gpw M0 V) L c (w : Int) = updG L c (L (bsV V c (w : Int)) + gpw M0 V c (w : Int)) := by
                unfold rlG
                rw [hbw, if_pos ⟨by omega, q⟩]
              have hdc : bsV V c (w : Int) ≠ c := by intro z; rw [z] at q; omega
              unfold t_MO_layPush_L187 t_MO_layPush_L212
              rw [qguard_pos ⟨by omega, by omega⟩]
              simp only [qlet]
              rw [qguard_pos ⟨by omega, by omega⟩, qguard_pos ⟨by omega, by omega⟩, uI_ne _ _ (by omega), hd3.2, w32_id (x := L (bsV V c (w : Int)) % 64 + 1) (by unfold InR; omega), w32_succ (by omega)]
              rw [erl] at nx
              refine nx _ _ ((hFN.setI (Or.inr (Or.inl rfl))).setI (Or.inl rfl)) (fun x x0 x1 => ?_) (Or.inr ⟨rfl, c, c0, by omega, ?_⟩)
              · by_cases ex : x = c
                · subst ex
                  unfold updG
                  rw [if_pos rfl, sI_ne (by omega), sI_self, sI_self]
                  exact ⟨fun _ => by omega, fun z => by omega⟩
                · rw [sI_ne (by omega), sI_ne (by omega), sI_ne (by omega), sI_ne (by omega)]
                  unfold updG
                  rw [if_neg ex]
                  exact hPN x x0 x1
              · unfold updG
                rw [if_pos rfl]
                omega
            by_cases ec : L c < BIG
            · have hc3 := hc2.1 ec
              have f1c := f1 ec
              rw [hc3.1, hc3.2]
              by_cases q1 : L c / 64 < L (bsV V c (w : Int)) / 64 + cst
              · rw [if_pos q1]; exact keep (by omega)
              · rw [if_neg q1]
                by_cases q2 : L (bsV V c (w : Int)) / 64 + cst = L c / 64
                · rw [if_pos q2]
                  by_cases q3 : L (bsV V c (w : Int)) % 64 + 1 < L c % 64
                  · rw [if_pos q3]; exact upd (by omega)
                  · rw [if_neg q3]; exact keep (by omega)
                · rw [if_neg q2]; exact upd (by omega)
            · have hc3 := hc2.2 ec
              rw [hc3.1, hc3.2, if_neg (by omega), if_neg (by omega)]
              exact upd (by omega)
          · have hpd1 := hpd.2 eb
            rw [hpd1.1, if_neg (by omega)]
            have erl : rlG (gpb V) (gpw M0 V) L c (w : Int) = L := by
              unfold rlG
              rw [hbw, if_neg (fun z => by omega)]
            rw [erl] at nx
            exact nx M v hF hP hf
        · rw [if_neg e9]
          exact skip (if_neg (fun q => e9 q.2.2))
    · rw [if_neg e8]
      unfold t_MO_layPush_L218
      rw [w32_id (x := c + 1) (by unfold InR; omega)]
      have same : ∀ m, m ≤ 4 → rcG (gpb V) (gpw M0 V) Ls c m = Ls := by
        intro m
        induction m with
        | zero => intro _; rfl
        | succ m im =>
          intro hm
          rw [rcG, im (by omega)]
          unfold rlG
          have : gpb V c (m : Int) = -1 := if_neg (fun q => e8 q.1)
          rw [this, if_neg (fun z => by omega)]
      rw [same w (by omega)] at hP hf
      rw [same 4 (by omega)]
      exact ⟨M, v, rfl, hF, hP, hf⟩
theorem m_lp_L60 (h : RI M0 V) {x1 : Int} {b52 : Mem → Int → Option Mem} (LS : Int → Int) (hg : GI (gpb V) (gpw M0 V) (CN V) to LS) : ∀ (n c fu : Nat) (M : Mem) (v : Int), c + n = CN V → n < fu → Fr W23 M0 M → PP M V (rdG (gpb V) (gpw M0 V) LS c) → Flg (CN V) LS (rdG (gpb V) (gpw M0 V) LS c) v →
    ∃ N u, t_MO_layPush_L60 x1 b52 fu M v (c : Int) = b52 N u ∧ Fr W23 M0 N ∧ PP N V (rdG (gpb V) (gpw M0 V) LS (CN V)) ∧ Flg (CN V) LS (rdG (gpb V) (gpw M0 V) LS (CN V)) u := by
  have hC := h.1.1.cells
  have hN := CN_eq h.1.1
  have hG := gp_ok h
  intro n
  induction n with
  | zero =>
    intro c fu M v g0 g1 hF hP hf
    obtain ⟨g, rfl⟩ : ∃ g, fu = g + 1 := ⟨fu - 1, by omega⟩
    have hM : RI M V := h.fr hF W23_RIc
    rw [t_MO_layPush_L60]
    simp only [qlet]
    rw [m_cells hM.1.2.1 hM.1.1, if_pos (by omega)]
    have hc : c = CN V := by omega
    subst hc
    exact ⟨M, v, rfl, hF, hP, hf⟩
  | succ n ih =>
    intro c fu M v g0 g1 hF hP hf
    obtain ⟨g, rfl⟩ : ∃ g, fu = g + 1 := ⟨fu - 1, by omega⟩
    have hM : RI M V := h.fr hF W23_RIc
    rw [t_MO_layPush_L60]
    simp only [qlet]
    rw [m_cells hM.1.2.1 hM.1.1, if_neg (by omega)]
    obtain ⟨N, u, n1, n2, n3, n4⟩ := m_lp_L71 h (x1 := x1) (b52 := b52) (b60 := fun a0_ a1_ a2_ => t_MO_layPush_L60 x1 b52 g a0_ a1_ a2_) (c := (c : Int)) (by omega) (by omega) LS (rdG (gpb V) (gpw M0 V) LS c) (fun x => rdG_le _ _ _) (rdG_GI hG hg c (by omega)) 4 0 FU M v (by omega) (fu_big (by omega)) hF hP hf
    rw [show ((0 : Nat) : Int) = 0 from rfl] at n1
    rw [n1, show (c : Int) + 1 = ((c + 1 : Nat) : Int) by omega]
    exact ih (c + 1) g N u (by omega) (by omega) n2 n3 n4
theorem m_lp_L52 (h : RI M0 V) {x1 : Int} (LS : Int → Int) (hg : GI (gpb V) (gpw M0 V) (CN V) to LS) : ∀ (n j fu : Nat) (M : Mem), j + n = 47 → n + 1 < fu → Fr W23 M0 M → PP M V (itG (gpb V) (gpw M0 V) (CN V) LS j) →
    ∃ N, t_MO_layPush_L52 x1 fu M 1 = some N ∧ Fr W23 M0 N ∧ PP N V (itG (gpb V) (gpw M0 V) (CN V) LS 47) := by
  have hC := h.1.1.cells
  have hN := CN_eq h.1.1
  have hG := gp_ok h
  have cv := it_conv hG hg
  intro n
  induction n with
  | zero =>
    intro j fu M g0 g1 hF hP
    obtain ⟨g, rfl⟩ : ∃ g, fu = g + 2 := ⟨fu - 2, by omega⟩
    have hj : j = 47 := by omega
    subst hj
    rw [t_MO_layPush_L52, if_neg (by decide)]
    obtain ⟨N, u, n1, n2, n3, n4⟩ := m_lp_L60 h (x1 := x1) (b52 := fun a0_ a1_ => t_MO_layPush_L52 x1 (g + 1) a0_ a1_) _ (itG_GI hG hg 47) (CN V) 0 FU M 0 (by omega) (fu_big (by omega)) hF hP (Or.inl ⟨rfl, rfl⟩)
    rw [show ((0 : Nat) : Int) = 0 from rfl] at n1
    rw [n1]
    rcases n4 with ⟨u0, e⟩ | ⟨u1, x, x0, x1', lt⟩
    · rw [u0, t_MO_layPush_L52, if_pos rfl]
      exact ⟨N, rfl, n2, by rw [e] at n3; exact n3⟩
    · have := cv.2 48 (by omega) x x0 x1'
      have e : itG (gpb V) (gpw M0 V) (CN V) LS 48 = rdG (gpb V) (gpw M0 V) (itG (gpb V) (gpw M0 V) (CN V) LS 47) (CN V) := rfl
      rw [e] at this
      omega
  | succ n ih =>
    intro j fu M g0 g1 hF hP
    obtain ⟨g, rfl⟩ : ∃ g, fu = g + 2 := ⟨fu - 2, by omega⟩
    rw [t_MO_layPush_L52, if_neg (by decide)]
    obtain ⟨N, u, n1, n2, n3, n4⟩ := m_lp_L60 h (x1 := x1) (b52 := fun a0_ a1_ => t_MO_layPush_L52 x1 (g + 1) a0_ a1_) _ (itG_GI hG hg j) (CN V) 0 FU M 0 (by omega) (fu_big (by omega)) hF hP (Or.inl ⟨rfl, rfl⟩)
    rw [show ((0 : Nat) : Int) = 0 from rfl] at n1
    rw [n1]
    rcases n4 with ⟨u0, e⟩ | ⟨u1, -⟩
    · rw [u0, t_MO_layPush_L52, if_pos rfl]
      refine ⟨N, rfl, n2, ?_⟩
      have same : ∀ m, itG (gpb V) (gpw M0 V) (CN V) LS (j + m) = itG (gpb V) (gpw M0 V) (CN V) LS j := by
        intro m
        induction m with
        | zero => rfl
        | succ m im => rw [show j + (m + 1) = (j + m) + 1 by omega, itG, im]; exact e
      rw [show 47 = j + (n + 1) by omega, same]
      rw [e] at n3
      exact n3
    · rw [u1]
      exact ih (j + 1) (g + 1) N (by omega) (by omega) n2 n3
theorem m_lp_L2 (h : RI M0 V) (t0 : 0 ≤ to) (t1 : to < cellsV V) : ∀ (n : Nat) (fu : Nat) (M : Mem) (v : Int), v + (n : Int) = 48 → 0 ≤ v → n < fu → Fr W23 M0 M → (∀ x, 0 ≤ x → x < v → M.1 223 x = (if x = to then 0 else 1000000) ∧ M.1 222 x = (if x = to then 0 else 1000000)) →
    ∃ N, t_MO_layPush_L2 to fu M v = some N ∧ Fr W23 M0 N ∧ PP N V (itG (gpb V) (gpw M0 V) (CN V) (L0G to) 47) := by
  have hC := h.1.1.cells
  have hN := CN_eq h.1.1
  intro n
  induction n with
  | zero =>
    intro fu M v g0 g1 g2 hF hx
    obtain ⟨g, rfl⟩ : ∃ g, fu = g + 1 := ⟨fu - 1, by omega⟩
    rw [t_MO_layPush_L2, if_pos (by omega)]
    refine m_lp_L52 h (L0G to) (L0_GI t0 (by omega)) 47 0 FU M (by omega) (fu_big (by omega)) hF (fun x x0 x1 => ?_)
    have := hx x x0 (by omega)
    by_cases e : x = to
    · rw [if_pos e] at this
      have e0 : itG (gpb V) (gpw M0 V) (CN V) (L0G to) 0 x = 0 := if_pos e
      rw [e0]
      exact ⟨fun _ => this, fun z => absurd (show (0 : Int) < BIG by decide) z⟩
    · rw [if_neg e] at this
      have e0 : itG (gpb V) (gpw M0 V) (CN V) (L0G to) 0 x = BIG := if_neg e
      rw [e0]
      exact ⟨fun z => absurd z (by omega), fun _ => this⟩
  | succ n ih =>
    intro fu M v g0 g1 g2 hF hx
    obtain ⟨g, rfl⟩ : ∃ g, fu = g + 1 := ⟨fu - 1, by omega⟩
    rw [t_MO_layPush_L2, if_neg (by omega)]
    unfold t_MO_layPush_L25 t_MO_layPush_L43
    have gd : 0 ≤ v ∧ v < 48 := by omega
    simp only [qguard_pos gd, qlet]
    rw [w32_id (x := v + 1) (by unfold InR; omega)]
    by_cases e : v = to
    · rw [if_pos e, if_pos e]
      refine ih g _ (v + 1) (by omega) (by omega) (by omega) ((hF.setI (Or.inr (Or.inl rfl))).setI (Or.inl rfl)) (fun x x0 x1 => ?_)
      by_cases ex : x = v
      · rw [ex, sI_ne (by omega), sI_self, sI_self, if_pos e]
        exact ⟨rfl, rfl⟩
      · rw [sI_ne (by omega), sI_ne (by omega), sI_ne (by omega), sI_ne (by omega)]; exact hx x x0 (by omega)
    · rw [if_neg e, if_neg e]
      refine ih g _ (v + 1) (by omega) (by omega) (by omega) ((hF.setI (Or.inr (Or.inl rfl))).setI (Or.inl rfl)) (fun x x0 x1 => ?_)
      by_cases ex : x = v
      · rw [ex, sI_ne (by omega), sI_self, sI_self, if_neg e]
        exact ⟨rfl, rfl⟩
      · rw [sI_ne (by omega), sI_ne (by omega), sI_ne (by omega), sI_ne (by omega)]; exact hx x x0 (by omega)
end PUSH
/-- what is left from all cells -/
def FP (V : TV) (P : Int → Int → Int) (to : Int) : Int → Int := itG (bpW V) (wpW P) (CN V) (L0G to) 47
theorem FP_GI {V : TV} (hV : VOK V) {P : Int → Int → Int} (hP : ∀ c d, 0 ≤ P c d ∧ P c d ≤ 999) {to : Int} (h0 : 0 ≤ to) (h1 : to < cellsV V) : GI (bpW V) (wpW P) (CN V) to (FP V P to) := itG_GI (bp_ok hV hP) (L0_GI h0 (by have := CN_eq hV; omega)) 47
theorem FP_fix {V : TV} (hV : VOK V) {P : Int → Int → Int} (hP : ∀ c d, 0 ≤ P c d ∧ P c d ≤ 999) {to : Int} (h0 : 0 ≤ to) (h1 : to < cellsV V) : Fix (bpW V) (wpW P) (CN V) (FP V P to) := (it_conv (bp_ok hV hP) (L0_GI h0 (by have := CN_eq hV; omega))).1
theorem m_layPush {M : Mem} {V : TV} (h : RI M V) {to : Int} (h0 : 0 ≤ to) (h1 : to < cellsV V) : ∃ N, t_MO_layPush M to = some N ∧ Fr W23 M N ∧ PP N V (FP V (pcM M V) to) := m_lp_L2 h h0 h1 48 FU M 0 (by omega) (by omega) (fu_big (by omega)) Fr.rf (fun x x0 x1 => by omega)
def pushS (V : TV) (P : Int → Int → Int) (a b what : Int) : Int := if opV V a ∧ opV V b ∧ 0 ≤ what ∧ what ≤ 1 then (if FP V P b a < BIG then (if what = 0 then FP V P b a / 64 else FP V P b a % 64) else -2) else -1
def pushedS (V : TV) (P : Int → Int → Int) (a b k : Int) : Int := if opV V a ∧ opV V b ∧ 0 ≤ k then (if FP V P b a < BIG ∧ k ≤ FP V P b a % 64 then tkG (bpW V) (wpW P) (FP V P b) a k.toNat else -2) else -1
theorem at23 {M : Mem} {v : Int} : Fr W23 M (setI M 191 0 v) := Fr.rf.setI (Or.inr (Or.inr (Or.inl ⟨rfl, rfl⟩)))
theorem fp_lt {V : TV} (hV : VOK V) {P : Int → Int → Int} (hP : ∀ c d, 0 ≤ P c d ∧ P c d ≤ 999) {to c : Int} (h0 : 0 ≤ to) (h1 : to < cellsV V) (c0 : 0 ≤ c) (c1 : c < cellsV V) : 0 ≤ FP V P to c ∧ FP V P to c ≤ BIG ∧ (FP V P to c < BIG → FP V P to c % 64 ≤ 47 ∧ FP V P to c ≤ 3008000) := by
  have hN := CN_eq hV
  have hg := FP_GI hV hP h0 h1
  have hG := bp_ok hV hP
  have g := hg.2 c c0 (by omega)
  refine ⟨g.1, g.2.1, fun q => ?_⟩
  exact hg.top hG c0 (c := c) (by omega) q
theorem m_push {M : Mem} {V : TV} (h : RI M V) (a b what : Int) : ∃ N, t_MO_push M a b what = some (N, pushS V (pcM M V) a b what) ∧ Fr W23 M N := by
  have h1 := h.set0 0
  have hC := h.1.1.cells
  have hPc : ∀ c d, 0 ≤ pcM M V c d ∧ pcM M V c d ≤ 999 := fun c d => pc_rng _ _ _ _ _ _
  unfold t_MO_push pushS
  simp only [qlet]
  rcases m_isOpen h1.1.2.1 h1.1.1 a with ⟨oa, ea⟩ | ⟨oa, ea⟩
  · rw [ea, obind_some, if_neg (by decide)]
    rcases m_isOpen h1.1.2.1 h1.1.1 b with ⟨ob, eb⟩ | ⟨ob, eb⟩
    · rw [eb, obind_some, if_neg (by decide)]
      by_cases w0 : what < 0
      · rw [if_pos w0, if_neg (fun q => by omega)]; exact ⟨_, rfl, at23⟩
      · rw [if_neg w0]
        by_cases w1 : what ≤ 1
        · rw [if_pos w1, if_pos ⟨oa, ob, by omega, w1⟩]
          obtain ⟨N, n1, n2, n3⟩ := m_layPush h1 ob.1 ob.2.1
          have eP : pcM (setI M 191 0 0) V = pcM M V := pcM_fr at23
          rw [eP] at n3
          have hf := fp_lt h.1.1 hPc ob.1 ob.2.1 oa.1 oa.2.1
          have hp := n3 a oa.1 oa.2.1
          have oa0 := oa.1
          have oa1 := oa.2.1
          rw [n1, obind_some, qguard_pos ⟨by omega, by omega⟩, qguard_pos ⟨by omega, by omega⟩, qguard_pos ⟨by omega, by omega⟩]
          refine ⟨N, ?_, at23.trans n2⟩
          by_cases q : FP V (pcM M V) b a < BIG
          · have hp1 := hp.1 q
            have hf1 := hf.2.2 q
            rw [hp1.1, hp1.2, if_pos (by omega), if_pos q]
            split <;> rfl
          · rw [(hp.2 q).1, if_neg (by omega), if_neg q]
        · rw [if_neg w1, if_neg (fun q => by omega)]; exact ⟨_, rfl, at23⟩
    · rw [eb, obind_some, if_pos rfl, if_neg (fun q => ob q.2.1)]; exact ⟨_, rfl, at23⟩
  · rw [ea, obind_some, if_pos rfl, if_neg (fun q => oa q.1)]; exact ⟨_, rfl, at23⟩
theorem ri_push {M : Mem} {V : TV} (h : RI M V) (a b k : Int) : Ok (fun r => RI r.1 V) (t_MO_push M a b k) := by
  obtain ⟨N, n1, n2⟩ := m_push h a b k
  exact ⟨_, n1, h.fr n2 W23_RIc⟩
theorem m_isPushed {M : Mem} {V : TV} (h : RI M V) {P : Int → Int → Int} (hPe : pcM M V = P) {c w to : Int} (t0 : 0 ≤ to) (t1 : to < cellsV V) (hP : PP M V (FP V P to)) (c0 : 0 ≤ c) (c1 : c < cellsV V) (c8 : V 8 c = 0) (hb : FP V P to c < BIG) (w0 : 0 ≤ w) (w1 : w < 4) :
    ∃ N, t_MO_isPushed M c w = some (N, if 0 ≤ bpW V c w ∧ FP V P to (bpW V c w) + wpW P c w = FP V P to c then 1 else 0) ∧ Fr PW2 M N := by
  have hC := h.1.1.cells
  have hPc : ∀ c d, 0 ≤ P c d ∧ P c d ≤ 999 := fun c d => by rw [← hPe]; exact pc_rng _ _ _ _ _ _
  have hbr := bs_rng h.1.1 c0 c1 w
  have hB : BIG = 100000000 := rfl
  unfold t_MO_isPushed
  rw [m_beside h.1.2.1 h.1.1 c0 c1 w0 (by omega), obind_some]
  by_cases e1 : bsV V c w = -1
  · have : bpW V c w = -1 := if_neg (fun q => by omega)
    rw [if_pos e1, this, if_neg (fun q => by omega)]
    exact ⟨M, rfl, Fr.rf⟩
  · rw [if_neg e1, qguard_pos ⟨by omega, by omega⟩, (h.1.2.1.2.2.2 _ (by omega) (by omega)).2.1]
    by_cases e8 : V 8 (bsV V c w) = 0
    · have hbw : bpW V c w = bsV V c w := if_pos ⟨c8, by omega, e8⟩
      have hc := hP c c0 c1
      have hd := hP (bsV V c w) (by omega) hbr.2
      have fc := fp_lt h.1.1 hPc t0 t1 c0 c1
      have fd := fp_lt h.1.1 hPc t0 t1 (c := bsV V c w) (by omega) hbr.2
      have hcs := hPc c w
      have hc1 := hc.1 hb
      have fc1 := fc.2.2 hb
      rw [if_pos e8, qguard_pos ⟨by omega, by omega⟩, qguard_pos ⟨by omega, by omega⟩, hbw, hc1.2, w32_id (x := FP V P to c % 64 - 1) (by unfold InR; omega)]
      have hwt : wpW P c w = P c w * 64 + 1 := rfl
      rw [hwt]
      by_cases q : M.1 222 (bsV V c w) = FP V P to c % 64 - 1
      · have hdb : FP V P to (bsV V c w) < BIG := by
          apply Classical.byContradiction
          intro z
          have := (hd.2 z).2
          omega
        have hd1 := hd.1 hdb
        have fd1 := fd.2.2 hdb
        obtain ⟨N, n1, n2⟩ := m_pushOf h c0 c1 w0 w1 (d := w) (by omega)
        rw [if_pos q, qguard_pos ⟨by omega, by omega⟩, n1, obind_some, qguard_pos ⟨by omega, by omega⟩, hd1.1, (n2 223 c (by unfold PW2 GO; omega)).1, hc1.1, hPe, w32_id (x := FP V P to (bsV V c w) / 64 + P c w) (by unfold InR; omega)]
        rw [hd1.2] at q
        by_cases z : FP V P to (bsV V c w) / 64 + P c w = FP V P to c / 64
        · rw [if_pos z, if_pos ⟨by omega, by omega⟩]; exact ⟨N, rfl, n2⟩
        · rw [if_neg z, if_neg (fun y => z (by omega))]; exact ⟨N, rfl, n2⟩
      · rw [if_neg q, if_neg (fun y => ?_)]
        · exact ⟨M, rfl, Fr.rf⟩
        · have hdb : FP V P to (bsV V c w) < BIG := by omega
          have hd1 := hd.1 hdb
          have fd1 := fd.2.2 hdb
          rw [hd1.2] at q
          omega
    · have : bpW V c w = -1 := if_neg (fun q => e8 q.2.2)
      rw [if_neg e8, this, if_neg (fun q => by omega)]
      exact ⟨M, rfl, Fr.rf⟩
theorem PP.fr {M N : Mem} {V : TV} {L : Int → Int} (h : PP M V L) (hF : Fr PW2 M N) : PP N V L := by
  intro x x0 x1
  rw [(hF 223 x (by unfold PW2 GO; omega)).1, (hF 222 x (by unfold PW2 GO; omega)).1]
  exact h x x0 x1
theorem pcM_fr2 {M0 M : Mem} {V : TV} (hF : Fr PW2 M0 M) : pcM M V = pcM M0 V := pcM_fr (hF.mono (fun k j q => Or.inr (Or.inr (Or.inr q))))
theorem m_pushed_L72 {V : TV} {P : Int → Int → Int} {x1 x2 x3 c i to : Int} {b63 : Mem → Int → Int → Option (Mem × Int)} (hV : VOK V) (hPc : ∀ c d, 0 ≤ P c d ∧ P c d ≤ 999) (t0 : 0 ≤ to) (t1 : to < cellsV V) (c0 : 0 ≤ c) (c1 : c < cellsV V) (c8 : V 8 c = 0) (hb : FP V P to c < BIG) (hne : FP V P to c ≠ 0) (hi : 0 ≤ i ∧ i < 100) : ∀ (n fu : Nat) (M : Mem) (w : Int), w + (n : Int) = ndG (bpW V) (wpW P) (FP V P to) c → 0 ≤ w → n < fu → RI M V → pcM M V = P → PP M V (FP V P to) →
    ∃ N, t_MO_pushed_L72 x1 x2 x3 b63 fu M c i w = b63 N (bpW V c (ndG (bpW V) (wpW P) (FP V P to) c)) (i + 1) ∧ Fr PW2 M N := by
  have hC := hV.cells
  have hN := CN_eq hV
  have hG := bp_ok hV hPc
  have hg := FP_GI hV hPc t0 t1
  have nd := nd_some hG hg (FP_fix hV hPc t0 t1) c0 (c := c) (by omega) hb hne
  intro n
  induction n with
  | zero =>
    intro fu M w g0 g1 g2 h hPe hP
    obtain ⟨g, rfl⟩ : ∃ g, fu = g + 1 := ⟨fu - 1, by omega⟩
    have hw : w = ndG (bpW V) (wpW P) (FP V P to) c := by omega
    obtain ⟨N, n1, n2⟩ := m_isPushed h hPe t0 t1 hP c0 c1 c8 hb (w := w) g1 (by omega)
    have hm := nd.2.1
    rw [← hw] at hm ⊢
    unfold mtG at hm
    have hm2 := hm.1
    have ebp : bpW V c w = bsV V c w := by
      unfold bpW at hm2 ⊢
      split at hm2
      · rename_i q; rw [if_pos q]
      · omega
    have hN2 : RI N V := h.fr n2 PW2_RIc
    rw [t_MO_pushed_L72, n1, obind_some, if_pos hm, if_neg (show ¬ (1 : Int) = 0 by decide), m_beside hN2.1.2.1 hV c0 c1 g1 (by omega), obind_some, w32_id (x := i + 1) (by unfold InR; omega), ebp]
    exact ⟨N, rfl, n2⟩
  | succ n ih =>
    intro fu M w g0 g1 g2 h hPe hP
    obtain ⟨g, rfl⟩ : ∃ g, fu = g + 1 := ⟨fu - 1, by omega⟩
    obtain ⟨N, n1, n2⟩ := m_isPushed h hPe t0 t1 hP c0 c1 c8 hb (w := w) g1 (by omega)
    have hm := nd.2.2 w g1 (by omega)
    unfold mtG at hm
    rw [t_MO_pushed_L72, n1, obind_some, if_neg hm, if_pos (show (0 : Int) = 0 from rfl), w32_id (x := w + 1) (by unfold InR; omega)]
    obtain ⟨O, o1, o2⟩ := ih g N (w + 1) (by omega) (by omega) (by omega) (h.fr n2 PW2_RIc) ((pcM_fr2 n2).trans hPe) (hP.fr n2)
    exact ⟨O, o1, n2.trans o2⟩
theorem m_pushed_L63 {V : TV} {P : Int → Int → Int} {x1 x2 to : Int} {k : Nat} {a : Int} (hV : VOK V) (hPc : ∀ c d, 0 ≤ P c d ∧ P c d ≤ 999) (t0 : 0 ≤ to) (t1 : to < cellsV V) (a0 : 0 ≤ a) (a1 : a < cellsV V) (a8 : V 8 a = 0) (hb : FP V P to a < BIG) (hk : (k : Int) ≤ FP V P to a % 64) : ∀ (n i fu : Nat) (M : Mem), i + n = k → n < fu → RI M V → pcM M V = P → PP M V (FP V P to) → V 8 (tkG (bpW V) (wpW P) (FP V P to) a i) = 0 →
    ∃ N, t_MO_pushed_L63 x1 x2 (k : Int) fu M (tkG (bpW V) (wpW P) (FP V P to) a i) (i : Int) = some (N, tkG (bpW V) (wpW P) (FP V P to) a k) ∧ Fr PW2 M N := by
  have hC := hV.cells
  have hN := CN_eq hV
  have hG := bp_ok hV hPc
  have hg := FP_GI hV hPc t0 t1
  have hfx := FP_fix hV hPc t0 t1
  have h47 := ((fp_lt hV hPc t0 t1 a0 a1).2.2 hb).1
  intro n
  induction n with
  | zero =>
    intro i fu M g0 g1 h hPe hP h8
    obtain ⟨g, rfl⟩ : ∃ g, fu = g + 1 := ⟨fu - 1, by omega⟩
    rw [t_MO_pushed_L63, if_pos (by omega), show i = k by omega]
    exact ⟨M, rfl, Fr.rf⟩
  | succ n ih =>
    intro i fu M g0 g1 h hPe hP h8
    obtain ⟨g, rfl⟩ : ∃ g, fu = g + 1 := ⟨fu - 1, by omega⟩
    obtain ⟨q1, q2, q3⟩ := tk_facts hG hg hfx a0 (c := a) (by omega) hb i (by omega)
    rw [t_MO_pushed_L63, if_neg (by omega)]
    have hne : FP V P to (tkG (bpW V) (wpW P) (FP V P to) a i) ≠ 0 := by intro e; rw [e] at q3; omega
    have nd := nd_some hG hg hfx q1.1 q1.2 (by omega) hne
    obtain ⟨N, n1, n2⟩ := m_pushed_L72 (x1 := x1) (x2 := x2) (x3 := (k : Int)) (i := (i : Int)) (b63 := fun a0_ a1_ a2_ => t_MO_pushed_L63 x1 x2 (k : Int) g a0_ a1_ a2_) hV hPc t0 t1 q1.1 (by omega) h8 (by omega) hne (by omega) (ndG (bpW V) (wpW P) (FP V P to) (tkG (bpW V) (wpW P) (FP V P to) a i)).toNat FU M 0 (by omega) (by omega) (fu_big (by omega)) h hPe hP
    have h8n : V 8 (tkG (bpW V) (wpW P) (FP V P to) a (i + 1)) = 0 := by
      rw [tkG]
      have hm := nd.2.1.1
      generalize tkG (bpW V) (wpW P) (FP V P to) a i = c at *
      generalize ndG (bpW V) (wpW P) (FP V P to) c = w at *
      unfold bpW at hm ⊢
      split at hm
      · rename_i z; rw [if_pos z]; exact z.2.2
      · omega
    rw [n1, show (i : Int) + 1 = ((i + 1 : Nat) : Int) by omega]
    obtain ⟨O, o1, o2⟩ := ih (i + 1) g N (by omega) (by omega) (h.fr n2 PW2_RIc) ((pcM_fr2 n2).trans hPe) (hP.fr n2) h8n
    exact ⟨O, o1, n2.trans o2⟩
theorem m_pushed {M : Mem} {V : TV} (h : RI M V) (a b k : Int) : ∃ N, t_MO_pushed M a b k = some (N, pushedS V (pcM M V) a b k) ∧ Fr W23 M N := by
  have h1 := h.set0 0
  have hC := h.1.1.cells
  have hPc : ∀ c d, 0 ≤ pcM M V c d ∧ pcM M V c d ≤ 999 := fun c d => pc_rng _ _ _ _ _ _
  unfold t_MO_pushed pushedS
  simp only [qlet]
  rcases m_isOpen h1.1.2.1 h1.1.1 a with ⟨oa, ea⟩ | ⟨oa, ea⟩
  · rw [ea, obind_some, if_neg (by decide)]
    rcases m_isOpen h1.1.2.1 h1.1.1 b with ⟨ob, eb⟩ | ⟨ob, eb⟩
    · rw [eb, obind_some, if_neg (by decide)]
      by_cases k0 : 0 ≤ k
      · rw [if_pos k0, if_pos ⟨oa, ob, k0⟩]
        obtain ⟨N, n1, n2, n3⟩ := m_layPush h1 ob.1 ob.2.1
        have eP : pcM (setI M 191 0 0) V = pcM M V := pcM_fr at23
        rw [eP] at n3
        have hf := fp_lt h.1.1 hPc ob.1 ob.2.1 oa.1 oa.2.1
        have hp := n3 a oa.1 oa.2.1
        have oa0 := oa.1
        have oa1 := oa.2.1
        have hFN := at23.trans n2
        have hN : RI N V := h.fr hFN W23_RIc
        rw [n1, obind_some, qguard_pos ⟨by omega, by omega⟩, qguard_pos ⟨by omega, by omega⟩]
        by_cases q : FP V (pcM M V) b a < BIG
        · have hp1 := hp.1 q
          have hf1 := hf.2.2 q
          rw [hp1.1, hp1.2, if_neg (by omega)]
          by_cases q2 : k ≤ FP V (pcM M V) b a % 64
          · rw [if_pos q2, if_pos ⟨q, q2⟩]
            obtain ⟨k, rfl⟩ : ∃ m : Nat, k = (m : Int) := ⟨k.toNat, by omega⟩
            obtain ⟨O, o1, o2⟩ := m_pushed_L63 (x1 := a) (x2 := b) (k := k) h.1.1 hPc ob.1 ob.2.1 oa.1 oa.2.1 oa.2.2 q q2 k 0 FU N (by omega) (fu_big (by omega)) hN ((pcM_fr hFN).trans rfl) n3 oa.2.2
            exact ⟨O, o1, hFN.trans (o2.mono (fun k j q => Or.inr (Or.inr (Or.inr q))))⟩
          · rw [if_neg q2, if_neg (fun z => q2 z.2)]
            exact ⟨N, rfl, hFN⟩
        · rw [(hp.2 q).1, if_pos (by omega), if_neg (fun z => q z.1)]
          exact ⟨N, rfl, hFN⟩
      · rw [if_neg k0, if_neg (fun z => k0 z.2.2)]; exact ⟨_, rfl, at23⟩
    · rw [eb, obind_some, if_pos rfl, if_neg (fun q => ob q.2.1)]; exact ⟨_, rfl, at23⟩
  · rw [ea, obind_some, if_pos rfl, if_neg (fun q => oa q.1)]; exact ⟨_, rfl, at23⟩
theorem ri_pushed {M : Mem} {V : TV} (h : RI M V) (a b k : Int) : Ok (fun r => RI r.1 V) (t_MO_pushed M a b k) := by
  obtain ⟨N, n1, n2⟩ := m_pushed h a b k
  exact ⟨_, n1, h.fr n2 W23_RIc⟩
