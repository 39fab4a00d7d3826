/-! ===== a whole token by the reference ===== -/
def SgW : Nat → Int → Prop := fun k j => k = 191 ∧ (j = 20 ∨ j = 22 ∨ j = 23)
/-- behind sort and value -/
theorem m_sign_L106 {M : Mem} {B : Int → Int} {n c a : Int} (h : TpOK M B n) (ha : M.1 191 20 = a) (a0 : 0 ≤ a) (an : a ≤ n) (hv : M.1 191 23 = c) (hc : 0 ≤ c ∧ c ≤ 255) (hc2 : c ≠ 60) : ∃ N, t_MO_sign_L106 c M = some N ∧ Fr SgW M N ∧ N.1 191 22 = M.1 191 22 ∧ N.1 191 23 = (if c = 62 ∧ hrV B n a = 61 then 258 else c) ∧ N.1 191 20 = (if c = 62 ∧ hrV B n a = 61 then a + 1 else a) := by
  have h0 := h.1
  unfold t_MO_sign_L106 t_MO_sign_L128 t_MO_sign_L150
  simp only [qlet]
  rw [if_neg hc2]
  by_cases c62 : c = 62
  · rw [if_pos c62, m_here h ha a0, obind_some]
    by_cases e : hrV B n a = 61
    · rw [if_pos e, uI_self, if_neg (show ¬ (258 : Int) < 256 by decide), uI_ne _ _ (by omega), ha, w32_id (x := a + 1) (by unfold InR; omega), if_pos (show c = 62 ∧ hrV B n a = 61 from ⟨c62, e⟩), if_pos (show c = 62 ∧ hrV B n a = 61 from ⟨c62, e⟩)]
      exact ⟨_, rfl, (Fr.rf.setI (by unfold SgW; omega)).setI (by unfold SgW; omega), by rw [sI_ne (by omega), sI_ne (by omega)], by rw [sI_ne (by omega), sI_self], sI_self _ _ _ _⟩
    · rw [if_neg e, if_pos (show M.1 191 23 < 256 by omega), if_neg (show ¬ (c = 62 ∧ hrV B n a = 61) from fun q => e q.2), if_neg (show ¬ (c = 62 ∧ hrV B n a = 61) from fun q => e q.2)]
      exact ⟨M, rfl, Fr.rf, rfl, hv, ha⟩
  · rw [if_neg c62, if_pos (show M.1 191 23 < 256 by omega), if_neg (show ¬ (c = 62 ∧ hrV B n a = 61) from fun q => c62 q.1), if_neg (show ¬ (c = 62 ∧ hrV B n a = 61) from fun q => c62 q.1)]
    exact ⟨M, rfl, Fr.rf, rfl, hv, ha⟩
theorem m_sign_L106b {M : Mem} {B : Int → Int} {n a v : Int} (h : TpOK M B n) (ha : M.1 191 20 = a) (a0 : 0 ≤ a) (an : a ≤ n) (hv : M.1 191 23 = v) (h1 : (v = 256 ∧ hrV B n a = 61) ∨ (v = 60 ∧ hrV B n a ≠ 61)) : ∃ N, t_MO_sign_L106 60 M = some N ∧ Fr SgW M N ∧ N.1 191 22 = M.1 191 22 ∧ N.1 191 23 = (if hrV B n a = 61 then 256 else if hrV B n a = 62 then 257 else 60) ∧ N.1 191 20 = (if hrV B n a = 61 ∨ hrV B n a = 62 then a + 1 else a) := by
  have h0 := h.1
  unfold t_MO_sign_L106 t_MO_sign_L128 t_MO_sign_L150
  simp only [qlet]
  rw [if_pos trivial, m_here h ha a0, obind_some]
  have n62 : ¬ (60 : Int) = 62 := by decide
  by_cases e : hrV B n a = 61
  · have hv2 : M.1 191 23 = 256 := by omega
    rw [if_neg (show ¬ hrV B n a = 62 by omega), if_neg n62, hv2, if_neg (show ¬ (256 : Int) < 256 by decide), if_pos e, if_pos (show hrV B n a = 61 ∨ hrV B n a = 62 from Or.inl e), ha, w32_id (x := a + 1) (by unfold InR; omega)]
    exact ⟨_, rfl, Fr.rf.setI (by unfold SgW; omega), by rw [sI_ne (by omega)], by rw [sI_ne (by omega)]; exact hv2, sI_self _ _ _ _⟩
  · have hv2 : M.1 191 23 = 60 := by omega
    by_cases e2 : hrV B n a = 62
    · rw [if_pos e2, if_neg n62, uI_self, if_neg (show ¬ (257 : Int) < 256 by decide), if_neg e, if_pos e2, if_pos (show hrV B n a = 61 ∨ hrV B n a = 62 from Or.inr e2), uI_ne _ _ (by omega), ha, w32_id (x := a + 1) (by unfold InR; omega)]
      exact ⟨_, rfl, (Fr.rf.setI (by unfold SgW; omega)).setI (by unfold SgW; omega), by rw [sI_ne (by omega), sI_ne (by omega)], by rw [sI_ne (by omega), sI_self], sI_self _ _ _ _⟩
    · rw [if_neg e2, if_neg n62, hv2, if_pos (show (60 : Int) < 256 by decide), if_neg e, if_neg e2, if_neg (show ¬ (hrV B n a = 61 ∨ hrV B n a = 62) from fun q => by rcases q with q | q <;> contradiction)]
      exact ⟨M, rfl, Fr.rf, rfl, hv2, ha⟩
theorem m_sign {M : Mem} {B : Int → Int} {n c p : Int} (h : TpOK M B n) (ha : M.1 191 20 = p) (p0 : 0 ≤ p) (pn : p < n) (hc : 0 ≤ c ∧ c ≤ 255) : ∃ N, t_MO_sign M c = some N ∧ Fr SgW M N ∧ N.1 191 22 = srtV (sgK c (hrV B n (p + 1))) ∧ (40 ≤ sgK c (hrV B n (p + 1)) → N.1 191 23 = sgV (sgK c (hrV B n (p + 1)))) ∧ N.1 191 20 = p + sgL (sgK c (hrV B n (p + 1))) := by
  have h0 := h.1
  unfold t_MO_sign
  simp only [qlet]
  rw [ha, w32_id (x := p + 1) (by unfold InR; omega)]
  generalize hM2 : setI M 191 20 (p + 1) = M2
  have hF2 : Fr SgW M M2 := by rw [← hM2]; exact Fr.rf.setI (by unfold SgW; omega)
  have h20 : M2.1 191 20 = p + 1 := by rw [← hM2, sI_self]
  -- sort and value
  have L76 : ∀ v3 : Int, ∃ N, t_MO_sign_L76 c M2 v3 = some N ∧ Fr SgW M2 N ∧ N.1 191 22 = v3 ∧ N.1 191 23 = (if c = 60 then (if hrV B n (p + 1) = 61 then 256 else if hrV B n (p + 1) = 62 then 257 else 60) else if c = 62 ∧ hrV B n (p + 1) = 61 then 258 else c) ∧ N.1 191 20 = (if c = 60 then (if hrV B n (p + 1) = 61 ∨ hrV B n (p + 1) = 62 then p + 1 + 1 else p + 1) else if c = 62 ∧ hrV B n (p + 1) = 61 then p + 1 + 1 else p + 1) := by
    intro v3
    unfold t_MO_sign_L76
    simp only [qlet]
    generalize hM4 : setI (setI M2 191 22 v3) 191 23 c = M4
    have hF4 : Fr SgW M2 M4 := by rw [← hM4]; exact (Fr.rf.setI (by unfold SgW; omega)).setI (by unfold SgW; omega)
    have t4 : TpOK M4 B n := (h.fr hF2 (fun k j a q => by unfold SgW at q; omega)).fr hF4 (fun k j a q => by unfold SgW at q; omega)
    have a4 : M4.1 191 20 = p + 1 := by rw [← hM4, sI_ne (by omega), sI_ne (by omega)]; exact h20
    have v4 : M4.1 191 23 = c := by rw [← hM4, sI_self]
    have s4 : M4.1 191 22 = v3 := by rw [← hM4, sI_ne (by omega), sI_self]
    by_cases c60 : c = 60
    · subst c60
      rw [if_pos rfl, if_pos rfl, if_pos rfl, m_here t4 a4 (by omega), obind_some]
      by_cases e : hrV B n (p + 1) = 61
      · rw [if_pos e]
        have hF5 : Fr SgW M4 (setI M4 191 23 256) := Fr.rf.setI (by unfold SgW; omega)
        obtain ⟨N, n1, n2, n3, n4, n5⟩ := m_sign_L106b (t4.fr hF5 (fun k j a q => by unfold SgW at q; omega)) (a := p + 1) (v := 256) (by rw [sI_ne (by omega)]; exact a4) (by omega) (by omega) (sI_self _ _ _ _) (Or.inl ⟨rfl, e⟩)
        exact ⟨N, n1, (hF4.trans hF5).trans n2, by rw [n3, sI_ne (by omega)]; exact s4, n4, n5⟩
      · rw [if_neg e]
        obtain ⟨N, n1, n2, n3, n4, n5⟩ := m_sign_L106b t4 (a := p + 1) (v := 60) a4 (by omega) (by omega) v4 (Or.inr ⟨rfl, e⟩)
        exact ⟨N, n1, hF4.trans n2, n3.trans s4, n4, n5⟩
    · rw [if_neg c60, if_neg c60, if_neg c60]
      obtain ⟨N, n1, n2, n3, n4, n5⟩ := m_sign_L106 t4 (a := p + 1) a4 (by omega) (by omega) v4 hc c60
      exact ⟨N, n1, hF4.trans n2, n3.trans s4, n4, n5⟩
  unfold t_MO_sign_L71
  obtain ⟨N3, a1, a2, a3, a4, a5⟩ := L76 3
  obtain ⟨N5, b1, b2, b3, b4, b5⟩ := L76 5
  rw [a1, b1]
  generalize hrV B n (p + 1) = c2 at *
  by_cases k59 : c = 59
  · subst k59; rw [if_pos rfl]; exact ⟨N3, rfl, hF2.trans a2, by rw [a3]; rfl, fun _ => by rw [a4]; rfl, by rw [a5]; rfl⟩
  rw [if_neg k59]
  by_cases k40 : c = 40
  · subst k40; rw [if_pos rfl]; exact ⟨N3, rfl, hF2.trans a2, by rw [a3]; rfl, fun _ => by rw [a4]; rfl, by rw [a5]; rfl⟩
  rw [if_neg k40]
  by_cases k41 : c = 41
  · subst k41; rw [if_pos rfl]; exact ⟨N3, rfl, hF2.trans a2, by rw [a3]; rfl, fun _ => by rw [a4]; rfl, by rw [a5]; rfl⟩
  rw [if_neg k41]
  by_cases k43 : c = 43
  · subst k43; rw [if_pos rfl]; exact ⟨N3, rfl, hF2.trans a2, by rw [a3]; rfl, fun _ => by rw [a4]; rfl, by rw [a5]; rfl⟩
  rw [if_neg k43]
  by_cases k45 : c = 45
  · subst k45; rw [if_pos rfl]; exact ⟨N3, rfl, hF2.trans a2, by rw [a3]; rfl, fun _ => by rw [a4]; rfl, by rw [a5]; rfl⟩
  rw [if_neg k45]
  by_cases k42 : c = 42
  · subst k42; rw [if_pos rfl]; exact ⟨N3, rfl, hF2.trans a2, by rw [a3]; rfl, fun _ => by rw [a4]; rfl, by rw [a5]; rfl⟩
  rw [if_neg k42]
  by_cases k47 : c = 47
  · subst k47; rw [if_pos rfl]; exact ⟨N3, rfl, hF2.trans a2, by rw [a3]; rfl, fun _ => by rw [a4]; rfl, by rw [a5]; rfl⟩
  rw [if_neg k47]
  by_cases k60 : c = 60
  · subst k60
    rw [if_pos rfl] at a4 a5 ⊢
    refine ⟨N3, rfl, hF2.trans a2, ?_, fun _ => ?_, ?_⟩
    · rw [a3]
      by_cases e : c2 = 61
      · subst e; rfl
      · by_cases e2 : c2 = 62
        · subst e2; rfl
        · have : sgK 60 c2 = 47 := by unfold sgK; simp [e, e2]
          rw [this]; rfl
    · rw [a4]
      by_cases e : c2 = 61
      · subst e; rfl
      · by_cases e2 : c2 = 62
        · subst e2; rfl
        · have : sgK 60 c2 = 47 := by unfold sgK; simp [e, e2]
          rw [this, if_neg e, if_neg e2]; rfl
    · rw [a5]
      by_cases e : c2 = 61
      · subst e; rw [if_pos (Or.inl rfl)]; show p + 1 + 1 = p + 2; omega
      · by_cases e2 : c2 = 62
        · subst e2; rw [if_pos (Or.inr rfl)]; show p + 1 + 1 = p + 2; omega
        · have : sgK 60 c2 = 47 := by unfold sgK; simp [e, e2]
          rw [this, if_neg (fun q => by rcases q with q | q <;> contradiction)]; rfl
  rw [if_neg k60]
  rw [if_neg k60] at a4 a5
  by_cases k61 : c = 61
  · subst k61; rw [if_pos rfl]; exact ⟨N3, rfl, hF2.trans a2, by rw [a3]; rfl, fun _ => by rw [a4]; rfl, by rw [a5]; rfl⟩
  rw [if_neg k61]
  by_cases k62 : c = 62
  · subst k62
    rw [if_pos rfl]
    refine ⟨N3, rfl, hF2.trans a2, ?_, fun _ => ?_, ?_⟩
    · rw [a3]
      by_cases e : c2 = 61
      · subst e; rfl
      · have : sgK 62 c2 = 52 := by unfold sgK; simp [e]
        rw [this]; rfl
    · rw [a4]
      by_cases e : c2 = 61
      · subst e; rfl
      · have : sgK 62 c2 = 52 := by unfold sgK; simp [e]
        rw [this, if_neg (fun q => e q.2)]; rfl
    · rw [a5]
      by_cases e : c2 = 61
      · subst e; rw [if_pos ⟨rfl, rfl⟩]; show p + 1 + 1 = p + 2; omega
      · have : sgK 62 c2 = 52 := by unfold sgK; simp [e]
        rw [this, if_neg (fun q => e q.2)]; rfl
  rw [if_neg k62]
  have k33 : sgK c c2 = 33 := by unfold sgK; simp [k59, k40, k41, k43, k45, k42, k47, k60, k61, k62]
  rw [k33]
  refine ⟨N5, rfl, hF2.trans b2, b3, fun q => by omega, ?_⟩
  rw [b5, if_neg k60, if_neg (fun q => k62 q.1)]
  rfl
theorem m_tok_L64 {M0 : Mem} {B : Int → Int} {n p e : Int} (h : TpOK M0 B n) (p0 : 0 ≤ p) (pe : p < e) (en : e ≤ n) (hd : ∀ x, p ≤ x → x < e → ltB (B x) = true) (he : e < n → ltB (B e) = false) (hp : M0.1 191 21 = p) : ∀ (m fu : Nat) (M : Mem) (a : Int), a + (m : Int) = e → p ≤ a → m < fu → Fr (fun q j => q = 191 ∧ j = 20) M0 M → M.1 191 20 = a →
    ∃ N, t_MO_token_L64 fu M = some N ∧ Fr TkW M0 N ∧ N.1 191 21 = p ∧ N.1 191 20 = e ∧ N.1 191 22 = (if 0 ≤ wordS B p (e - p) then 0 else if e - p ≤ 6 then 1 else 5) ∧ (0 ≤ wordS B p (e - p) → N.1 191 23 = wordS B p (e - p)) ∧ (wordS B p (e - p) < 0 → e - p ≤ 6 → N.1 191 23 = nvS B p e 6) := by
  have h0 := h.1
  intro m
  induction m with
  | zero =>
    intro fu M a g0 g1 g2 hF ha
    obtain ⟨g, rfl⟩ : ∃ g, fu = g + 1 := ⟨fu - 1, by omega⟩
    have hM := h.fr hF (fun q j a z => by omega)
    have hh := m_here hM ha (by omega)
    have hz : ltB (hrV B n a) = false := by
      unfold hrV
      split
      · rw [show a = e by omega]; exact he (by omega)
      · rfl
    have hpM : M.1 191 21 = p := ((hF 191 21 (by omega)).1).trans hp
    have hw := m_word hM hpM ha p0 (by omega) (by omega)
    have hr := wd_rng B p (a - p) 25 0 rfl
    change -1 ≤ wordS B p (a - p) ∧ wordS B p (a - p) ≤ 24 at hr
    have ea : a = e := by omega
    subst ea
    rw [t_MO_token_L64, hh, obind_some]
    simp only [qlet]
    rw [isSmall_eq, hz, if_pos (show (if false = true then (1 : Int) else 0) = 0 from rfl), hw, obind_some, uI_self]
    have e20 : uI M.1 191 23 (wordS B p (a - p)) 191 20 = a := by rw [uI_ne _ _ (by omega)]; exact ha
    have e21 : uI M.1 191 23 (wordS B p (a - p)) 191 21 = p := by rw [uI_ne _ _ (by omega)]; exact hpM
    simp only [e20, e21]
    rw [w32_id (x := a - p) (by unfold InR; omega)]
    unfold t_MO_token_L127
    simp only [qlet]
    simp only [uI_self]
    have hT : Fr TkW M0 M := hF.mono (fun q j z => by unfold TkW; omega)
    by_cases c : wordS B p (a - p) = -1
    · rw [if_pos c, if_neg (show ¬ 0 ≤ wordS B p (a - p) by omega)]
      by_cases c2 : a - p ≤ 6
      · rw [if_pos c2, if_pos c2, if_pos trivial]
        have hF5 : Fr (fun q j => q = 191 ∧ (j = 22 ∨ j = 23)) M (setI (setI M 191 23 (wordS B p (a - p))) 191 22 1) := (Fr.rf.setI (by omega)).setI (by omega)
        obtain ⟨N, n1, n2, n3⟩ := m_name (hM.fr hF5 (fun q j x z => by omega)) p0 (by omega) en hd (by rw [(hF5 191 21 (by omega)).1]; exact hpM) (by rw [(hF5 191 20 (by omega)).1]; exact ha)
        rw [n1, obind_some]
        refine ⟨N, rfl, (hT.trans (hF5.mono (fun q j z => by unfold TkW; omega))).trans (n2.mono (fun q j z => by unfold TkW; omega)), ?_, ?_, ?_, fun q => by omega, fun _ _ => n3⟩
        · rw [(n2 191 21 (by omega)).1, (hF5 191 21 (by omega)).1]; exact hpM
        · rw [(n2 191 20 (by omega)).1, (hF5 191 20 (by omega)).1]; exact ha
        · rw [(n2 191 22 (by omega)).1, sI_self]
      · rw [if_neg c2, if_neg c2, if_neg (show ¬ (5 : Int) = 1 by decide)]
        refine ⟨_, rfl, (hT.setI (by unfold TkW; omega)).setI (by unfold TkW; omega), ?_, ?_, ?_, fun q => by omega, fun _ q => absurd q c2⟩
        · rw [sI_ne (by omega), sI_ne (by omega)]; exact hpM
        · rw [sI_ne (by omega), sI_ne (by omega)]; exact ha
        · rw [sI_self]
    · rw [if_neg c, if_neg (show ¬ (0 : Int) = 1 by decide), if_pos (show 0 ≤ wordS B p (a - p) by omega)]
      refine ⟨_, rfl, (hT.setI (by unfold TkW; omega)).setI (by unfold TkW; omega), ?_, ?_, ?_, fun q => ?_, fun q => by omega⟩
      · rw [sI_ne (by omega), sI_ne (by omega)]; exact hpM
      · rw [sI_ne (by omega), sI_ne (by omega)]; exact ha
      · rw [sI_self]
      · rw [sI_ne (by omega), sI_self]
  | succ m ih =>
    intro fu M a g0 g1 g2 hF ha
    obtain ⟨g, rfl⟩ : ∃ g, fu = g + 1 := ⟨fu - 1, by omega⟩
    have hM := h.fr hF (fun q j a z => by omega)
    have hh := m_here hM ha (by omega)
    have hb : hrV B n a = B a := if_pos (by omega)
    rw [hb] at hh
    rw [t_MO_token_L64, hh, obind_some]
    simp only [qlet]
    rw [isSmall_eq, hd a g1 (by omega), if_neg (show ¬ (if true = true then (1 : Int) else 0) = 0 by decide), ha, w32_id (x := a + 1) (by unfold InR; omega)]
    exact ih g _ (a + 1) (by omega) (by omega) (by omega) (hF.setI ⟨rfl, rfl⟩) (sI_self _ _ _ _)
theorem m_tok_L0 {M0 : Mem} {B : Int → Int} {n a0 : Int} (h : TpOK M0 B n) (h0 : 0 ≤ a0) (h1 : a0 ≤ n) : ∀ (m fu : Nat) (M : Mem) (a : Int), a + (m : Int) = rnE blB B n a0 → a0 ≤ a → m < fu → Fr (fun q j => q = 191 ∧ j = 20) M0 M → M.1 191 20 = a →
    ∃ N, t_MO_token_L0 fu M = some N ∧ Fr TkW M0 N ∧ RTk N (tkS B n a0).1 (tkS B n a0).2.1 (tkS B n a0).2.2.1 (tkS B n a0).2.2.2 := by
  have hn := h.1
  obtain ⟨r1, r2, r3⟩ := rnE_facts (p := blB) (B := B) h0 h1 hn.2
  intro m
  induction m with
  | zero =>
    intro fu M a g0 g1 g2 hF ha
    obtain ⟨g, rfl⟩ : ∃ g, fu = g + 1 := ⟨fu - 1, by omega⟩
    have ea : a = rnE blB B n a0 := by omega
    unfold tkS
    rw [← ea] at r1 r2 r3 ⊢
    have hM := h.fr hF (fun q j a z => by omega)
    have hh := m_here hM ha (by omega)
    have hT : Fr TkW M0 M := hF.mono (fun q j z => by unfold TkW; omega)
    have hF8 : Fr (fun q j => q = 191 ∧ j = 21) M (setI M 191 21 a) := Fr.rf.setI ⟨rfl, rfl⟩
    have hT8 : Fr TkW M0 (setI M 191 21 a) := hT.setI (by unfold TkW; omega)
    have t8 : TpOK (setI M 191 21 a) B n := hM.fr hF8 (fun q j x z => by omega)
    have a8 : (setI M 191 21 a).1 191 20 = a := by rw [sI_ne (by omega)]; exact ha
    have p8 : (setI M 191 21 a).1 191 21 = a := sI_self _ _ _ _
    have hh8 := m_here t8 a8 (by omega)
    rw [t_MO_token_L0, hh, obind_some]
    simp only [qlet]
    by_cases c1 : n ≤ a
    · have hb : hrV B n a = -1 := if_neg (by omega)
      rw [hb] at hh hh8 ⊢
      rw [if_neg (by decide), obind_some, if_neg (by decide), ha, hh8, obind_some, if_pos rfl, if_pos c1]
      refine ⟨_, rfl, hT8.setI (by unfold TkW; omega), ?_, ?_, ?_, ⟨fun q => ?_, fun q => ?_, fun q => ?_, fun q => ?_⟩⟩
      · rw [sI_ne (by omega)]; exact p8
      · rw [sI_ne (by omega)]; exact a8
      · rw [sI_self]; rfl
      · have : (32 : Int) ≤ 24 := q.2; omega
      · have : (32 : Int) = 30 := q; omega
      · have : (32 : Int) = 31 := q; omega
      · have : 40 ≤ (32 : Int) := q; omega
    · have hb : hrV B n a = B a := if_pos (by omega)
      have hbl := r3 (by omega)
      have hbl2 : ¬ (B a = 10 ∨ B a = 32) := of_decide_eq_false hbl
      have hB := h.2.2 a (by omega) (by omega)
      rw [hb] at hh hh8 ⊢
      rw [if_neg (fun q => hbl2 (Or.inl q)), obind_some, if_neg (fun q => hbl2 (Or.inr q)), ha, hh8, obind_some, if_neg (by omega), isSmall_eq, isDigit_eq, if_neg c1]
      cases c2 : ltB (B a) with
      | true =>
        rw [if_neg (show ¬ (if true = true then (1 : Int) else 0) = 0 by decide), if_pos (show true = true from rfl)]
        obtain ⟨l1, l2, l3⟩ := rnE_facts (p := ltB) (B := B) (n := n) (a := a) (by omega) (by omega) hn.2
        have lt : a < rnE ltB B n a := by
          by_cases q : rnE ltB B n a = a
          · have := l3 (by omega)
            rw [q, c2] at this
            cases this
          · omega
        obtain ⟨N, n1, n2, n3, n4, n5, n6, n7⟩ := m_tok_L64 t8 (by omega) lt l1.2 l2 l3 p8 (rnE ltB B n a - a).toNat FU (setI M 191 21 a) a (by omega) (Int.le_refl _) (fu_big (by omega)) Fr.rf a8
        rw [n1]
        refine ⟨N, rfl, hT8.trans n2, ?_⟩
        have hr := wd_rng B a (rnE ltB B n a - a) 25 0 rfl
        change -1 ≤ wordS B a (rnE ltB B n a - a) ∧ wordS B a (rnE ltB B n a - a) ≤ 24 at hr
        by_cases c3 : 0 ≤ wordS B a (rnE ltB B n a - a)
        · rw [if_pos c3] at n5 ⊢
          refine ⟨n3, n4, ?_, ⟨fun q => n6 c3, fun q => ?_, fun q => ?_, fun q => ?_⟩⟩
          · rw [n5]; unfold srtV; rw [if_pos hr.2]
          · have q : wordS B a (rnE ltB B n a - a) = 30 := q; omega
          · have q : wordS B a (rnE ltB B n a - a) = 31 := q; omega
          · have q : 40 ≤ wordS B a (rnE ltB B n a - a) := q; omega
        · rw [if_neg c3] at n5 ⊢
          by_cases c4 : rnE ltB B n a - a ≤ 6
          · rw [if_pos c4] at n5 ⊢
            refine ⟨n3, n4, n5, ⟨fun q => ?_, fun q => n7 (by omega) c4, fun q => ?_, fun q => ?_⟩⟩
            · have : (30 : Int) ≤ 24 := q.2; omega
            · have : (30 : Int) = 31 := q; omega
            · have : 40 ≤ (30 : Int) := q; omega
          · rw [if_neg c4] at n5 ⊢
            refine ⟨n3, n4, n5, ⟨fun q => ?_, fun q => ?_, fun q => ?_, fun q => ?_⟩⟩
            · have : (33 : Int) ≤ 24 := q.2; omega
            · have : (33 : Int) = 30 := q; omega
            · have : (33 : Int) = 31 := q; omega
            · have : 40 ≤ (33 : Int) := q; omega
      | false =>
        rw [if_pos (show (if false = true then (1 : Int) else 0) = 0 from rfl), if_neg (show ¬ false = true by decide)]
        cases c3 : dgB (B a) with
        | true =>
          rw [if_neg (show ¬ (if true = true then (1 : Int) else 0) = 0 by decide), if_pos (show true = true from rfl)]
          obtain ⟨l1, l2, l3⟩ := rnE_facts (p := dgB) (B := B) (n := n) (a := a) (by omega) (by omega) hn.2
          have hF2 : Fr (fun q j => q = 191 ∧ (j = 22 ∨ j = 23)) (setI M 191 21 a) (setI (setI (setI M 191 21 a) 191 22 2) 191 23 0) := (Fr.rf.setI (by omega)).setI (by omega)
          obtain ⟨N, n1, n2, n3, n4⟩ := m_tok_L162 (t8.fr hF2 (fun q j x z => by omega)) (p := a) (e := rnE dgB B n a) (by omega) l1.2 l2 l3 (rnE dgB B n a - a).toNat 0 FU (setI (setI (setI M 191 21 a) 191 22 2) 191 23 0) (by omega) (fu_big (by omega)) Fr.rf (by rw [(hF2 191 20 (by omega)).1, a8]; omega) (by rw [sI_self, dvS]; unfold nvR; omega)
          rw [n1]
          refine ⟨N, rfl, (hT8.trans (hF2.mono (fun q j z => by unfold TkW; omega))).trans (n2.mono (fun q j z => by unfold TkW; omega)), ?_, n3, ?_, ⟨fun q => ?_, fun q => ?_, fun _ => n4, fun q => ?_⟩⟩
          · rw [(n2 191 21 (by omega)).1, (hF2 191 21 (by omega)).1]; exact p8
          · rw [(n2 191 22 (by omega)).1, sI_ne (by omega), sI_self]; rfl
          · have : (31 : Int) ≤ 24 := q.2; omega
          · have : (31 : Int) = 30 := q; omega
          · have : 40 ≤ (31 : Int) := q; omega
        | false =>
          rw [if_pos (show (if false = true then (1 : Int) else 0) = 0 from rfl), if_neg (show ¬ false = true by decide)]
          obtain ⟨N, n1, n2, n3, n4, n5⟩ := m_sign t8 a8 (by omega) (by omega) (c := B a) ⟨hB.2.1, hB.2.2⟩
          rw [n1, obind_some]
          have hs := sgK_rng (B a) (hrV B n (a + 1))
          refine ⟨N, rfl, hT8.trans (n2.mono (fun q j z => by unfold SgW at z; unfold TkW; omega)), ?_, n5, n3, ⟨fun q => ?_, fun q => ?_, fun q => ?_, n4⟩⟩
          · rw [(n2 191 21 (by unfold SgW; omega)).1]; exact p8
          · have : sgK (B a) (hrV B n (a + 1)) ≤ 24 := q.2; omega
          · have : sgK (B a) (hrV B n (a + 1)) = 30 := q; omega
          · have : sgK (B a) (hrV B n (a + 1)) = 31 := q; omega
  | succ m ih =>
    intro fu M a g0 g1 g2 hF ha
    obtain ⟨g, rfl⟩ : ∃ g, fu = g + 1 := ⟨fu - 1, by omega⟩
    have hM := h.fr hF (fun q j a z => by omega)
    have hh := m_here hM ha (by omega)
    have hb : hrV B n a = B a := if_pos (by omega)
    have hbl := r2 a g1 (by omega)
    have hbl2 : B a = 10 ∨ B a = 32 := of_decide_eq_true hbl
    rw [hb] at hh
    rw [t_MO_token_L0, hh, obind_some, obind_some]
    unfold t_MO_token_L18
    simp only [qlet]
    rw [ha, w32_id (x := a + 1) (by unfold InR; omega)]
    have nx := ih g (setI M 191 20 (a + 1)) (a + 1) (by omega) (by omega) (by omega) (hF.setI ⟨rfl, rfl⟩) (sI_self _ _ _ _)
    by_cases c : B a = 10
    · rw [if_pos c]; exact nx
    · rw [if_neg c, if_pos (by omega)]; exact nx
theorem m_token {M : Mem} {B : Int → Int} {n a : Int} (h : TpOK M B n) (h0 : 0 ≤ a) (h1 : a ≤ n) (ha : M.1 191 20 = a) : ∃ N, t_MO_token M = some N ∧ Fr TkW M N ∧ RTk N (tkS B n a).1 (tkS B n a).2.1 (tkS B n a).2.2.1 (tkS B n a).2.2.2 := by
  have r := rnE_facts (p := blB) (B := B) h0 h1 h.1.2
  exact m_tok_L0 h h0 h1 (rnE blB B n a - a).toNat FU M a (by omega) (Int.le_refl _) (fu_big (by have := h.1; omega)) Fr.rf ha
