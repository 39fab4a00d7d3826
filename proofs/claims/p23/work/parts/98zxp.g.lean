section
/-! ===== push, pushed, both sides ===== -/
theorem nmP_min (V : TV) (D A : Int → Int) (c d yr : Int) : ∀ j, nMin (nmP V D A c d yr j) := by
  intro j
  have z0 : nMin 0 := fun q => absurd q (by decide +kernel)
  have z1 : nMin 1 := fun q => absurd q (by decide +kernel)
  unfold nmP
  repeat' split
  all_goals first | exact nMin_i2l _ | exact z0 | exact z1
def coP (V : TV) (P : Int → Int → Int) : Int → Int → Int := fun c w => if V 8 c = 0 ∧ 0 ≤ bsV V c w ∧ V 8 (bsV V c w) = 0 then P c w else -1
theorem gc_push (V : TV) {P : Int → Int → Int} (hP : ∀ c d, 0 ≤ P c d ∧ P c d ≤ 999) : GC V (bpW V) (wpW P) (coP V P) := fun c w c0 c1 w0 w1 => by
  have p := hP c w
  unfold coP bpW wpW
  by_cases e : V 8 c = 0 ∧ 0 ≤ bsV V c w ∧ V 8 (bsV V c w) = 0
  · rw [if_pos e, if_pos e]
    exact Or.inr ⟨p.1, p.2, e.2.1, rfl, rfl⟩
  · rw [if_neg e, if_neg e]
    exact Or.inl ⟨rfl, rfl⟩
/-- what the class makes of a push's value -/
def cutS (v : Int64) : Int := if v = -9223372036854775808 then 1 else q_l2i (q_maxl 0 (q_minl 999 v))
theorem cut_pf {V : TV} {D A : Int → Int} {c d yr : Int} (o : opV V c ∧ opV V (bsV V c d)) : cutS (pfS V D A c d yr) = witS (V 10) (V 11) (nmP V D A c d yr) (V 0 11) 999 1 := by
  unfold pfS
  rw [if_pos o]
  unfold cutS witS
  cases e : valS (V 10) (V 11) (nmP V D A c d yr) (V 0 11) with
  | none =>
    have he : eM (none : Option Int64) = -9223372036854775808 := rfl
    rw [if_pos he]
    by_cases h0 : 0 < V 0 11
    · rw [if_pos h0]
    · rw [if_neg h0]
  | some v =>
    have h0 : 0 < V 0 11 := by
      by_cases h0 : 0 < V 0 11
      · exact h0
      · rw [val_zero h0] at e; cases e
    have hn : ¬ eM (some v) = -9223372036854775808 := nMin_val (nmP_min V D A c d yr) e
    rw [if_neg hn, if_pos h0]
    rfl
theorem cut_0 : cutS 0 = 0 := by decide +kernel
section CPUSH
variable {V : TV} {T : Nat} {M M0 : Mem} {D A S L : Int → Int} {nets wat : Int64}
def PaW (T : Nat) : Nat → Int → Prop := fun q _ => q = 178 ∨ q = T + 13 ∨ q = 186
theorem c_pa_L24 (hV : VOK V) (hK : FOK V) (hX : CTx M0 T V) (hT : T = 2 ∨ T = 22) (hS : CScF M0 47 V D A S L nets wat (wlV V)) (hD : ∀ w, 0 ≤ w → w < V 0 2 → 0 ≤ D w ∧ D w ≤ 4) {yr c : Int} {bk : Mem → Int → Option Mem} (c0 : 0 ≤ c) (c1 : c < cellsV V) : ∀ (n fu : Nat) (M : Mem) (w : Int), w + (n : Int) = 4 → 0 ≤ w → n < fu → Fr (PaW T) M0 M → (∀ x y, 0 ≤ x → 0 ≤ y → y < 4 → (x < c ∨ (x = c ∧ y < w)) → M.1 186 (x * 4 + y) = coP V (pcS V D A nets yr) x y) → ∃ N, t_Laws_pushAll_L24 T 47 yr 186 192 bk fu M c (nxV V D nets (wlV V) c) w = bk N (c + 1) ∧ Fr (PaW T) M0 N ∧ (∀ x y, 0 ≤ x → 0 ≤ y → y < 4 → x < c + 1 → N.1 186 (x * 4 + y) = coP V (pcS V D A nets yr) x y) := by
  have hC := hV.cells
  intro n
  induction n with
  | zero =>
    intro fu M w g0 g1 g2 hF hx
    obtain ⟨g, rfl⟩ : ∃ g, fu = g + 1 := ⟨fu - 1, by omega⟩
    rw [t_Laws_pushAll_L24, if_pos (by omega), w32_id (x := c + 1) (by unfold InR; omega)]
    exact ⟨M, rfl, hF, fun x y x0 y0 y1 x1 => hx x y x0 y0 y1 (by omega)⟩
  | succ n ih =>
    intro fu M w g0 g1 g2 hF hx
    obtain ⟨g, rfl⟩ : ∃ g, fu = g + 1 := ⟨fu - 1, by omega⟩
    have XM : CTx M T V := hX.fr hF (fun k j a z => by unfold CxW at a; unfold PaW at z; omega)
    have SM := hS.fr hF (fun q j x z => by unfold CsW at x; unfold PaW at z; omega)
    have hb := bs_rng hV c0 c1 w
    have h8 := (hV.2.2.2 c c0 (by omega)).2.2.1
    have go : ∀ (P : Mem) (k : Int), Fr (PaW T) M0 P → (∀ x y, 0 ≤ x → 0 ≤ y → y < 4 → (x < c ∨ (x = c ∧ y < w)) → P.1 186 (x * 4 + y) = coP V (pcS V D A nets yr) x y) → k = coP V (pcS V D A nets yr) c w → ∃ N, t_Laws_pushAll_L124 T 47 yr 186 192 bk (fun a0_ a1_ a2_ a3_ => t_Laws_pushAll_L24 T 47 yr 186 192 bk g a0_ a1_ a2_ a3_) P c (nxV V D nets (wlV V) c) w k = bk N (c + 1) ∧ Fr (PaW T) M0 N ∧ (∀ x y, 0 ≤ x → 0 ≤ y → y < 4 → x < c + 1 → N.1 186 (x * 4 + y) = coP V (pcS V D A nets yr) x y) := fun P k hP hxP hk => by
      unfold t_Laws_pushAll_L124
      simp (config := { proj := false }) only [qlet]
      rw [w32_id (x := c * 4) (by unfold InR; omega), w32_id (x := c * 4 + w) (by unfold InR; omega), put_in (by omega) (by omega), w32_id (x := w + 1) (by unfold InR; omega)]
      refine ih g _ (w + 1) (by omega) (by omega) (by omega) (hP.setI (by unfold PaW; omega)) (fun x y x0 y0 y1 h => ?_)
      by_cases e : x = c ∧ y = w
      · rw [e.1, e.2, sI_self]; exact hk
      · rw [sI_ne (by omega)]
        exact hxP x y x0 y0 y1 (by omega)
    have bad : ¬ (V 8 c = 0 ∧ 0 ≤ bsV V c w ∧ V 8 (bsV V c w) = 0) → (-1 : Int) = coP V (pcS V D A nets yr) c w := fun e => by unfold coP; rw [if_neg e]
    rw [t_Laws_pushAll_L24, if_neg (by omega)]
    simp (config := { proj := false }) only [qlet]
    rw [c_beside XM.2.1 hV c0 c1 w]
    by_cases b0 : bsV V c w < 0
    · rw [if_pos b0]
      exact go M (-1) hF hx (bad (fun z => by omega))
    rw [if_neg b0, wl_1 hV SM c0 c1, wl_1 hV SM (show 0 ≤ bsV V c w by omega) hb.2]
    by_cases z1 : V 8 c = 0
    rotate_left
    · rw [if_neg z1]
      exact go M (-1) hF hx (bad (fun z => z1 z.1))
    rw [if_pos z1]
    by_cases z2 : V 8 (bsV V c w) = 0
    rotate_left
    · rw [if_neg z2]
      exact go M (-1) hF hx (bad (fun z => z2 z.2.2))
    rw [if_pos z2]
    have good : coP V (pcS V D A nets yr) c w = pcS V D A nets yr c w := by
      unfold coP
      rw [if_pos (show V 8 c = 0 ∧ 0 ≤ bsV V c w ∧ V 8 (bsV V c w) = 0 from ⟨z1, by omega, z2⟩)]
    have l94 : ∀ (P : Mem) (v : Int64), t_Laws_pushAll_L94 T 47 yr 186 192 bk (fun a0_ a1_ a2_ a3_ => t_Laws_pushAll_L24 T 47 yr 186 192 bk g a0_ a1_ a2_ a3_) P c (nxV V D nets (wlV V) c) w v = t_Laws_pushAll_L124 T 47 yr 186 192 bk (fun a0_ a1_ a2_ a3_ => t_Laws_pushAll_L24 T 47 yr 186 192 bk g a0_ a1_ a2_ a3_) P c (nxV V D nets (wlV V) c) w (cutS v) := fun P v => by
      unfold t_Laws_pushAll_L94 t_Laws_pushAll_L122 cutS
      by_cases q : v = -9223372036854775808
      · rw [if_pos q, if_pos q]
      · rw [if_neg q, if_neg q]
    by_cases en : bsV V c w = nxV V D nets (wlV V) c
    · rw [if_pos en, l94, cut_0]
      refine go M 0 hF hx ?_
      rw [good]
      unfold pcS
      rw [if_pos en.symm]
    · rw [if_neg en]
      obtain ⟨P, p1, p2⟩ := c_pushFrom hV hK hT XM SM hD c w yr
      rw [p1, obind_some]
      show ∃ N, t_Laws_pushAll_L94 T 47 yr 186 192 bk (fun a0_ a1_ a2_ a3_ => t_Laws_pushAll_L24 T 47 yr 186 192 bk g a0_ a1_ a2_ a3_) P c (nxV V D nets (wlV V) c) w (pfS V D A c w yr) = bk N (c + 1) ∧ _
      rw [l94, cut_pf ⟨⟨c0, c1, z1⟩, ⟨by omega, hb.2, z2⟩⟩]
      refine go P _ (hF.trans (p2.mono (fun q j z => by unfold PaW; omega))) (fun x y x0 y0 y1 h => by rw [(p2 186 _ (by omega)).1]; exact hx x y x0 y0 y1 h) ?_
      rw [good]
      unfold pcS
      rw [if_neg (fun z => en z.symm)]
theorem c_pa_L3 (hV : VOK V) (hK : FOK V) (hX : CTx M0 T V) (hT : T = 2 ∨ T = 22) (hS : CScF M0 47 V D A S L nets wat (wlV V)) (hD : ∀ w, 0 ≤ w → w < V 0 2 → 0 ≤ D w ∧ D w ≤ 4) {yr : Int} : ∀ (n fu : Nat) (M : Mem) (c : Int), c + (n : Int) = cellsV V → 0 ≤ c → n < fu → Fr (PaW T) M0 M → (∀ x y, 0 ≤ x → 0 ≤ y → y < 4 → x < c → M.1 186 (x * 4 + y) = coP V (pcS V D A nets yr) x y) → ∃ N, t_Laws_pushAll_L3 T 47 yr 186 192 fu M c = some N ∧ Fr (PaW T) M0 N ∧ CoR N V (coP V (pcS V D A nets yr)) := by
  have hC := hV.cells
  intro n
  induction n with
  | zero =>
    intro fu M c g0 g1 g2 hF hx
    obtain ⟨g, rfl⟩ : ∃ g, fu = g + 1 := ⟨fu - 1, by omega⟩
    rw [t_Laws_pushAll_L3, (hF T 13 (by unfold PaW; omega)).1, hX.2.1.1, if_pos (by omega)]
    exact ⟨M, rfl, hF, fun x y x0 x1 y0 y1 => hx x y x0 y0 y1 (by omega)⟩
  | succ n ih =>
    intro fu M c g0 g1 g2 hF hx
    obtain ⟨g, rfl⟩ : ∃ g, fu = g + 1 := ⟨fu - 1, by omega⟩
    have XM : CTx M T V := hX.fr hF (fun k j a z => by unfold CxW at a; unfold PaW at z; omega)
    have SM := hS.fr hF (fun q j x z => by unfold CsW at x; unfold PaW at z; omega)
    rw [t_Laws_pushAll_L3, (hF T 13 (by unfold PaW; omega)).1, hX.2.1.1, if_neg (by omega)]
    simp (config := { proj := false }) only [qlet]
    rw [SM.next hV ⟨XM.1, XM.2.1⟩ g1 (by omega)]
    obtain ⟨N, n1, n2, n3⟩ := c_pa_L24 (yr := yr) (bk := fun a0_ a1_ => t_Laws_pushAll_L3 T 47 yr 186 192 g a0_ a1_) hV hK hX hT hS hD g1 (show c < cellsV V by omega) 4 FU M 0 (by omega) (by omega) (fu_big (by omega)) hF (fun x y x0 y0 y1 h => hx x y x0 y0 y1 (by omega))
    rw [n1]
    exact ih g N (c + 1) (by omega) (by omega) (by omega) n2 n3
def PuW (T : Nat) : Nat → Int → Prop := fun q j => PaW T q j ∨ FndW q j
theorem c_findPushed (hV : VOK V) (hK : FOK V) (h4 : (M.1 0 4).toNat = T) (hX : CTx M T V) (hT : T = 2 ∨ T = 22) (hS : CScF M 47 V D A S L nets wat (wlV V)) (hD : ∀ w, 0 ≤ w → w < V 0 2 → 0 ≤ D w ∧ D w ≤ 4) {a to : Int} (a0 : 0 ≤ a) (a1 : a < cellsV V) (t0 : 0 ≤ to) (t1 : to < cellsV V) : ∃ N, t_WF_findPushed M a to = some N ∧ Fr (PuW T) M N ∧ FdR N (bpW V) (wpW (pcS V D A nets (M.1 62 3))) (FP V (pcS V D A nets (M.1 62 3)) to) a := by
  have hC := hV.cells
  unfold t_WF_findPushed t_Laws_pushAll
  obtain ⟨N, n1, n2, n3⟩ := c_pa_L3 (M0 := M) (yr := M.1 62 3) hV hK hX hT hS hD (cellsV V).toNat FU M 0 (by omega) (by omega) (fu_big (by omega)) Fr.rf (fun x y x0 y0 y1 h => by omega)
  have XN : CTx N T V := hX.fr n2 (fun k j a z => by unfold CxW at a; unfold PaW at z; omega)
  have hP : ∀ c d, 0 ≤ pcS V D A nets (M.1 62 3) c d ∧ pcS V D A nets (M.1 62 3) c d ≤ 999 := fun c d => pc_rng D A nets (M.1 62 3) c d
  obtain ⟨P, p1, p2, p3⟩ := c_find (M := N) (a := a) (to := to) hV hT XN.2.1 n3 (gc_push V hP) (bp_ok hV hP) a0 a1 t0 t1
  rw [h4, n1, obind_some, (n2 0 4 (by unfold PaW; omega)).1, h4, p1, obind_some]
  exact ⟨P, rfl, (n2.mono (fun q j z => Or.inl z)).trans (p2.mono (fun q j z => Or.inr z)), p3⟩
theorem PuW_q (hT : T = 2 ∨ T = 22) : ∀ q j, PuW T q j → QkW q j := fun q j z => by unfold PuW PaW FndW at z; unfold QkW; omega
end CPUSH
theorem w23_qm : ∀ q j, W23 q j → QmW q j := fun q j z => by unfold W23 PW2 GO at z; unfold QmW; omega
theorem pcM_q {M N : Mem} {V : TV} (hF : Fr QkW M N) : pcM N V = pcM M V := by
  unfold pcM
  rw [DN_fr hF (fun j z => by have := qk_ri z; omega), AT_fr hF (fun j z => by have := qk_ri z; omega), (hF 210 0 (fun z => by have := qk_ri z; omega)).2, (hF 207 0 (fun z => by have := qk_ri z; omega)).1]
theorem bs_push {M : Mem} (h : LI M) {x1 x2 x3 : Int} (h1 : InR x1) (h2 : InR x2) (h3 : InR x3) : Ok (fun q => Ok (fun r => q.2 = r.2 ∧ LI r.1) (t_MO_push q.1 x1 x2 x3)) (t_WF_push M x1 x2 x3) := by
  have h' := h
  have hTT := h.T
  obtain ⟨hI, ⟨V, hR, hX, hRL⟩, -⟩ := h
  have hV := hR.1.1
  have hC := hV.cells
  have hK := hR.1.2.2.1
  have hS : CScF M 47 V (DN M 0) (AT M 0) (ST M 0) (LN M 0) (M.2 210 0) (M.2 211 0) (wlV V) := hRL.1
  obtain ⟨k1, -, -, -⟩ := hRL.2.1
  have hcl : ∃ N, t_WF_push M x1 x2 x3 = some (N, pushS V (pcM M V) x1 x2 x3) ∧ Fr QkW M N := by
    unfold t_WF_push pushS
    simp (config := { proj := false }) only [qlet]
    rw [c_isFree hV hX hS, c_isFree hV hX hS]
    by_cases o1 : opV V x1
    rotate_left
    · rw [if_neg o1, if_pos rfl, if_neg (fun z => o1 z.1)]; exact ⟨M, rfl, Fr.rf⟩
    rw [if_pos o1, if_neg (show ¬ (1 : Int) = 0 by decide)]
    by_cases o2 : opV V x2
    rotate_left
    · rw [if_neg o2, if_pos rfl, if_neg (fun z => o2 z.2.1)]; exact ⟨M, rfl, Fr.rf⟩
    rw [if_pos o2, if_neg (show ¬ (1 : Int) = 0 by decide)]
    by_cases o3 : x3 < 0
    · rw [if_pos o3, if_neg (fun z => by have := z.2.2.1; omega)]; exact ⟨M, rfl, Fr.rf⟩
    rw [if_neg o3]
    by_cases o4 : x3 ≤ 1
    rotate_left
    · rw [if_neg o4, if_neg (fun z => o4 z.2.2.2)]; exact ⟨M, rfl, Fr.rf⟩
    obtain ⟨N, n1, n2, n3⟩ := c_findPushed hV hK rfl hX hTT.2 hS (fun w a b => hR.row0.1 w a b) o1.1 o1.2.1 o2.1 o2.2.1
    rw [k1] at n3
    have hf := fp_lt hV (P := pcM M V) (fun c d => pc_rng _ _ _ _ _ _) o2.1 o2.2.1 o1.1 o1.2.1
    rw [if_pos o4, if_pos ⟨o1, o2, by omega, o4⟩, n1, obind_some]
    refine ⟨N, ?_, n2.mono (PuW_q hTT.2)⟩
    rcases n3 with ⟨f1, f2, f3, -⟩ | ⟨f1, f2⟩
    · have f47 := (hf.2.2 f1).1
      rw [f2, if_neg (by omega), if_pos f1]
      by_cases w0 : x3 = 0
      · rw [if_pos w0, if_pos w0, f3]
      · rw [if_neg w0, if_neg w0, w32_id (by unfold InR; omega), show FP V (pcS V (DN M 0) (AT M 0) (M.2 210 0) (M.1 207 0)) x2 x1 % 64 + 1 - 1 = FP V (pcM M V) x2 x1 % 64 from Int.add_sub_cancel _ _]
    · rw [f2, if_pos rfl, if_neg f1]
  obtain ⟨N, n1, n2⟩ := hcl
  obtain ⟨u, e, hu⟩ := sf_WF_push hI h1 h2 h3
  have : u = _ := Option.some.inj (e.symm.trans n1)
  subst this
  have hLN : LI N := h'.q hu.1 n2
  have hRN : RI N V := hR.fr n2 (fun q j a z => by have := qk_ri z; have := ric_lo a; omega)
  obtain ⟨P, p1, p2⟩ := m_push hRN x1 x2 x3
  rw [pcM_q n2] at p1
  have hIP := im_MO_push hu.1 h1 h2 h3 _ p1
  exact ⟨_, n1, _, p1, rfl, hLN.qm hIP.1 (p2.mono w23_qm)⟩
theorem bs_pushed {M : Mem} (h : LI M) {x1 x2 x3 : Int} (h1 : InR x1) (h2 : InR x2) (h3 : InR x3) : Ok (fun q => Ok (fun r => q.2 = r.2 ∧ LI r.1) (t_MO_pushed q.1 x1 x2 x3)) (t_WF_pushed M x1 x2 x3) := by
  have h' := h
  have hTT := h.T
  obtain ⟨hI, ⟨V, hR, hX, hRL⟩, -⟩ := h
  have hV := hR.1.1
  have hC := hV.cells
  have hK := hR.1.2.2.1
  have hS : CScF M 47 V (DN M 0) (AT M 0) (ST M 0) (LN M 0) (M.2 210 0) (M.2 211 0) (wlV V) := hRL.1
  obtain ⟨k1, -, -, -⟩ := hRL.2.1
  have hcl : ∃ N, t_WF_pushed M x1 x2 x3 = some (N, pushedS V (pcM M V) x1 x2 x3) ∧ Fr QkW M N := by
    unfold t_WF_pushed pushedS
    simp (config := { proj := false }) only [qlet]
    rw [c_isFree hV hX hS, c_isFree hV hX hS]
    by_cases o1 : opV V x1
    rotate_left
    · rw [if_neg o1, if_pos rfl, if_neg (fun z => o1 z.1)]; exact ⟨M, rfl, Fr.rf⟩
    rw [if_pos o1, if_neg (show ¬ (1 : Int) = 0 by decide)]
    by_cases o2 : opV V x2
    rotate_left
    · rw [if_neg o2, if_pos rfl, if_neg (fun z => o2 z.2.1)]; exact ⟨M, rfl, Fr.rf⟩
    rw [if_pos o2, if_neg (show ¬ (1 : Int) = 0 by decide)]
    by_cases o3 : 0 ≤ x3
    rotate_left
    · rw [if_neg o3, if_neg (fun z => o3 z.2.2)]; exact ⟨M, rfl, Fr.rf⟩
    obtain ⟨N, n1, n2, n3⟩ := c_findPushed hV hK rfl hX hTT.2 hS (fun w a b => hR.row0.1 w a b) o1.1 o1.2.1 o2.1 o2.2.1
    rw [k1] at n3
    have hf := fp_lt hV (P := pcM M V) (fun c d => pc_rng _ _ _ _ _ _) o2.1 o2.2.1 o1.1 o1.2.1
    rw [if_pos o3, if_pos ⟨o1, o2, o3⟩, n1, obind_some, c_cellAt n3 (fun q => ⟨Int.emod_nonneg _ (by decide), (hf.2.2 q).1⟩) o3]
    exact ⟨N, rfl, n2.mono (PuW_q hTT.2)⟩
  obtain ⟨N, n1, n2⟩ := hcl
  obtain ⟨u, e, hu⟩ := sf_WF_pushed hI h1 h2 h3
  have : u = _ := Option.some.inj (e.symm.trans n1)
  subst this
  have hLN : LI N := h'.q hu.1 n2
  have hRN : RI N V := hR.fr n2 (fun q j a z => by have := qk_ri z; have := ric_lo a; omega)
  obtain ⟨P, p1, p2⟩ := m_pushed hRN x1 x2 x3
  rw [pcM_q n2] at p1
  have hIP := im_MO_pushed hu.1 h1 h2 h3 _ p1
  exact ⟨_, n1, _, p1, rfl, hLN.qm hIP.1 (p2.mono w23_qm)⟩
end
