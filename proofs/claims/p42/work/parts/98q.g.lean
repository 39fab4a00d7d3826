section
/-! ===== the class's scenes: copies, water, beats ===== -/
def CsW (k : Nat) : Nat → Int → Prop := fun q j => (q = k ∧ 4 ≤ j ∧ j ≤ 6) ∨ (k + 1 ≤ q ∧ q ≤ k + 4)
def CScF (M : Mem) (k : Nat) (V : TV) (D A S L : Int → Int) (nets wat : Int64) (wl : Int → Bool) : Prop := (∀ w, 0 ≤ w → w < V 0 2 → M.1 (k + 1) w = D w) ∧ (∀ t, 0 ≤ t → t < V 0 3 → M.1 (k + 2) t = A t ∧ M.1 (k + 3) t = S t ∧ M.1 (k + 4) t = L t) ∧ M.2 k 5 = nets ∧ M.2 k 6 = wat ∧ (∀ c, 0 ≤ c → c < 48 → tb (M.2 k 4) c = wl c)
theorem CScF.fr {W : Nat → Int → Prop} {M N : Mem} {k : Nat} {V : TV} {D A S L : Int → Int} {nets wat : Int64} {wl : Int → Bool} (h : CScF M k V D A S L nets wat wl) (hF : Fr W M N) (hd : ∀ q j, CsW k q j → ¬ W q j) : CScF N k V D A S L nets wat wl := by
  obtain ⟨h1, h2, h3, h4, h5⟩ := h
  refine ⟨fun w a b => ?_, fun t a b => ⟨?_, ?_, ?_⟩, ?_, ?_, fun c a b => ?_⟩
  · rw [(hF (k + 1) w (hd _ _ (by unfold CsW; omega))).1]; exact h1 w a b
  · rw [(hF (k + 2) t (hd _ _ (by unfold CsW; omega))).1]; exact (h2 t a b).1
  · rw [(hF (k + 3) t (hd _ _ (by unfold CsW; omega))).1]; exact (h2 t a b).2.1
  · rw [(hF (k + 4) t (hd _ _ (by unfold CsW; omega))).1]; exact (h2 t a b).2.2
  · rw [(hF k 5 (hd _ _ (by unfold CsW; omega))).2]; exact h3
  · rw [(hF k 6 (hd _ _ (by unfold CsW; omega))).2]; exact h4
  · rw [(hF k 4 (hd _ _ (by unfold CsW; omega))).2]; exact h5 c a b
theorem CScF.sc {M : Mem} {k : Nat} {V : TV} {D A S L : Int → Int} {nets wat : Int64} {wl : Int → Bool} (h : CScF M k V D A S L nets wat wl) : CSc M k V D A nets wl := ⟨h.1, fun t a b => (h.2.1 t a b).1, h.2.2.1, h.2.2.2.2⟩
theorem CScF.eq {M : Mem} {k : Nat} {V : TV} {D A S L D' A' S' L' : Int → Int} {nets wat nets' wat' : Int64} {wl : Int → Bool} (h : CScF M k V D A S L nets wat wl) (hD : ∀ w, 0 ≤ w → w < V 0 2 → D w = D' w) (hA : ∀ t, 0 ≤ t → t < V 0 3 → A t = A' t ∧ S t = S' t ∧ L t = L' t) (hn : nets = nets') (hw : wat = wat') : CScF M k V D' A' S' L' nets' wat' wl := by
  obtain ⟨h1, h2, h3, h4, h5⟩ := h
  refine ⟨fun w a b => (h1 w a b).trans (hD w a b), fun t a b => ⟨(h2 t a b).1.trans (hA t a b).1, (h2 t a b).2.1.trans (hA t a b).2.1, (h2 t a b).2.2.trans (hA t a b).2.2⟩, h3.trans hn, h4.trans hw, h5⟩
theorem c_scopy {M : Mem} {k0 k1 : Nat} {V : TV} {D A S L : Int → Int} {nets wat : Int64} {wl : Int → Bool} (hV : VOK V) (hne : k1 + 4 < k0 ∨ k0 + 4 < k1) (h : CScF M k1 V D A S L nets wat wl) : CScF (t_Scene_copy M k0 k1) k0 V D A S L nets wat wl ∧ Fr (CsW k0) M (t_Scene_copy M k0 k1) := by
  have hv := hV.1
  have q4 : q_min ((4 : Nat) : Int) ((4 : Nat) : Int) = 4 := rfl
  have q8 : q_min ((8 : Nat) : Int) ((8 : Nat) : Int) = 8 := rfl
  unfold t_Scene_copy t_WF_copyRow
  simp (config := { proj := false }) only [qlet]
  rw [q4, q8]
  obtain ⟨h1, h2, h3, h4, h5⟩ := h
  obtain ⟨M1, e1⟩ : ∃ M1, M1 = cpyM M (k1 + 1) (k0 + 1) 4 := ⟨_, rfl⟩
  rw [← e1]
  have f1 : Fr (fun q _ => q = k0 + 1) M M1 := by rw [e1]; exact Fr.rf.cpy (fun j => rfl)
  have v1 : ∀ w, 0 ≤ w → w < 4 → M1.1 (k0 + 1) w = M.1 (k1 + 1) w := fun w a b => by rw [e1]; exact cpy_get a b
  obtain ⟨M2, e2⟩ : ∃ M2, M2 = cpyM M1 (k1 + 2) (k0 + 2) 8 := ⟨_, rfl⟩
  rw [← e2]
  have f2 : Fr (fun q _ => q = k0 + 2) M1 M2 := by rw [e2]; exact Fr.rf.cpy (fun j => rfl)
  have v2 : ∀ w, 0 ≤ w → w < 8 → M2.1 (k0 + 2) w = M1.1 (k1 + 2) w := fun w a b => by rw [e2]; exact cpy_get a b
  obtain ⟨M3, e3⟩ : ∃ M3, M3 = cpyM M2 (k1 + 3) (k0 + 3) 8 := ⟨_, rfl⟩
  rw [← e3]
  have f3 : Fr (fun q _ => q = k0 + 3) M2 M3 := by rw [e3]; exact Fr.rf.cpy (fun j => rfl)
  have v3 : ∀ w, 0 ≤ w → w < 8 → M3.1 (k0 + 3) w = M2.1 (k1 + 3) w := fun w a b => by rw [e3]; exact cpy_get a b
  obtain ⟨M4, e4⟩ : ∃ M4, M4 = cpyM M3 (k1 + 4) (k0 + 4) 8 := ⟨_, rfl⟩
  rw [← e4]
  have f4 : Fr (fun q _ => q = k0 + 4) M3 M4 := by rw [e4]; exact Fr.rf.cpy (fun j => rfl)
  have v4 : ∀ w, 0 ≤ w → w < 8 → M4.1 (k0 + 4) w = M3.1 (k1 + 4) w := fun w a b => by rw [e4]; exact cpy_get a b
  have fM : Fr (fun q _ => k0 + 1 ≤ q ∧ q ≤ k0 + 4) M M4 := (((f1.mono (fun q j z => by omega)).trans (f2.mono (fun q j z => by omega))).trans (f3.mono (fun q j z => by omega))).trans (f4.mono (fun q j z => by omega))
  have g4 : M4.2 k1 4 = M.2 k1 4 := (fM k1 4 (by omega)).2
  have g5 : (setL M4 k0 4 (M4.2 k1 4)).2 k1 5 = M.2 k1 5 := by rw [sL_ne (by omega)]; exact (fM k1 5 (by omega)).2
  rw [g5, g4]
  have g6 : (setL (setL M4 k0 4 (M.2 k1 4)) k0 5 (M.2 k1 5)).2 k1 6 = M.2 k1 6 := by rw [sL_ne (by omega), sL_ne (by omega)]; exact (fM k1 6 (by omega)).2
  rw [g6]
  have fE : Fr (CsW k0) M (setL (setL (setL M4 k0 4 (M.2 k1 4)) k0 5 (M.2 k1 5)) k0 6 (M.2 k1 6)) := (((fM.mono (fun q j z => by unfold CsW; omega)).setL (by unfold CsW; omega)).setL (by unfold CsW; omega)).setL (by unfold CsW; omega)
  refine ⟨⟨fun w a b => ?_, fun t a b => ⟨?_, ?_, ?_⟩, ?_, ?_, fun c a b => ?_⟩, fE⟩
  · rw [sL_fst, sL_fst, sL_fst, (f4 _ _ (by omega)).1, (f3 _ _ (by omega)).1, (f2 _ _ (by omega)).1, v1 w a (by omega)]; exact h1 w a b
  · rw [sL_fst, sL_fst, sL_fst, (f4 _ _ (by omega)).1, (f3 _ _ (by omega)).1, v2 t a (by omega), (f1 _ _ (by omega)).1]; exact (h2 t a b).1
  · rw [sL_fst, sL_fst, sL_fst, (f4 _ _ (by omega)).1, v3 t a (by omega), (f2 _ _ (by omega)).1, (f1 _ _ (by omega)).1]; exact (h2 t a b).2.1
  · rw [sL_fst, sL_fst, sL_fst, v4 t a (by omega), (f3 _ _ (by omega)).1, (f2 _ _ (by omega)).1, (f1 _ _ (by omega)).1]; exact (h2 t a b).2.2
  · rw [sL_ne (by omega), sL_self]; exact h3
  · rw [sL_self]; exact h4
  · rw [sL_ne (by omega), sL_ne (by omega), sL_self]; exact h5 c a b
/-! water -/
def PoW (k : Nat) : Nat → Int → Prop := fun q j => q = k ∧ j = 6
theorem c_pour_loop {M : Mem} {k T : Nat} {x2 C : Int} {f : Int → Int} (hC : C ≤ 48) (hf : stepOK f C) (hN : ∀ c, 0 ≤ c → c < C → t_Scene_nextOf M k T c = f c) : ∀ (n fu : Nat) (c v : Int), v + (n : Int) = 49 → 0 ≤ v → n < fu → 0 ≤ c → c < C → ∃ N, t_Scene_pourOne_L5 k T x2 fu M c v = some (N, (prS f n (M.2 k 6) c).2) ∧ N.2 k 6 = (prS f n (M.2 k 6) c).1 ∧ Fr (PoW k) M N := by
  intro n
  induction n with
  | zero =>
    intro fu c v g0 g1 g2 c0 c1
    obtain ⟨g, rfl⟩ : ∃ g, fu = g + 1 := ⟨fu - 1, by omega⟩
    rw [t_Scene_pourOne_L5, if_pos (by omega)]
    exact ⟨M, rfl, rfl, Fr.rf⟩
  | succ n ih =>
    intro fu c v g0 g1 g2 c0 c1
    obtain ⟨g, rfl⟩ : ∃ g, fu = g + 1 := ⟨fu - 1, by omega⟩
    have hs := hf c c0 c1
    rw [t_Scene_pourOne_L5, if_neg (by omega), hN c c0 c1, w32_id (x := v + 1) (by unfold InR; omega)]
    simp only [qlet]
    rw [prS]
    have stay : ∃ N, t_Scene_pourOne_L38 k T x2 M c = some (N, (if tb (M.2 k 6) c = true then (M.2 k 6, (0 : Int)) else (M.2 k 6 ||| q_lshl 1 c, 1)).2) ∧ N.2 k 6 = (if tb (M.2 k 6) c = true then (M.2 k 6, (0 : Int)) else (M.2 k 6 ||| q_lshl 1 c, 1)).1 ∧ Fr (PoW k) M N := by
      unfold t_Scene_pourOne_L38 t_Scene_pourOne_L54
      simp (config := { proj := false }) only [qlet]
      rw [bitOf_tb M _ c0 (by omega)]
      cases e : tb (M.2 k 6) c with
      | true =>
        rw [if_pos rfl, if_pos rfl, if_neg (show ¬ (1 : Int) = 0 by decide)]
        exact ⟨_, rfl, by rw [sL_self]; exact or_same _ c0 (by omega) e, Fr.rf.setL ⟨rfl, rfl⟩⟩
      | false =>
        rw [if_neg (show ¬ false = true by decide), if_neg (show ¬ false = true by decide), if_pos rfl]
        exact ⟨_, rfl, sL_self _ _ _ _, Fr.rf.setL ⟨rfl, rfl⟩⟩
    by_cases h1 : f c < 0
    · rw [if_pos h1, if_pos (Or.inl h1)]
      exact stay
    · rw [if_neg h1, bitOf_tb M _ (by omega) (by omega)]
      cases e : tb (M.2 k 6) (f c) with
      | true =>
        rw [if_pos (show (if true = true then (1 : Int) else 0) = 1 from rfl), if_pos (show f c < 0 ∨ true = true from Or.inr rfl)]
        exact stay
      | false =>
        rw [if_neg (show ¬ (if false = true then (1 : Int) else 0) = 1 by decide), if_neg (show ¬ (f c < 0 ∨ false = true) from fun z => by rcases z with z | z; exact h1 z; exact absurd z (by decide))]
        exact ih g (f c) (v + 1) (by omega) (by omega) (by omega) (by omega) hs.2
theorem c_pourOne {M : Mem} {k T : Nat} {x2 C : Int} {f : Int → Int} (hC : C ≤ 48) (hf : stepOK f C) (hN : ∀ c, 0 ≤ c → c < C → t_Scene_nextOf M k T c = f c) (c0 : 0 ≤ x2) (c1 : x2 < C) : ∃ N, t_Scene_pourOne M k T x2 = some (N, (prS f 49 (M.2 k 6) x2).2) ∧ N.2 k 6 = (prS f 49 (M.2 k 6) x2).1 ∧ Fr (PoW k) M N :=
  c_pour_loop hC hf hN 49 FU x2 0 (by omega) (by omega) (fu_big (by omega)) c0 c1
theorem c_anew_loop {M0 : Mem} {k T : Nat} {C : Int} {f : Int → Int} {was : Int64} (hC : C ≤ 48) (hf : stepOK f C) (hN : ∀ M, Fr (PoW k) M0 M → M.1 T 13 = C ∧ ∀ c, 0 ≤ c → c < C → t_Scene_nextOf M k T c = f c) : ∀ (n i fu : Nat) (M : Mem), (i : Int) + (n : Int) = C → n < fu → Fr (PoW k) M0 M → M.2 k 6 = flS f was i → ∃ N, t_Scene_pourAnew_L13 k T fu M was (i : Int) = some N ∧ N.2 k 6 = flS f was C.toNat ∧ Fr (PoW k) M0 N := by
  intro n
  induction n with
  | zero =>
    intro i fu M g0 g1 hF hw
    obtain ⟨g, rfl⟩ : ∃ g, fu = g + 1 := ⟨fu - 1, by omega⟩
    rw [t_Scene_pourAnew_L13, (hN M hF).1, if_pos (by omega)]
    exact ⟨M, rfl, by rw [hw, show C.toNat = i by omega], hF⟩
  | succ n ih =>
    intro i fu M g0 g1 hF hw
    obtain ⟨g, rfl⟩ : ∃ g, fu = g + 1 := ⟨fu - 1, by omega⟩
    rw [t_Scene_pourAnew_L13, (hN M hF).1, if_neg (by omega), bitOf_tb M _ (by omega) (by omega)]
    simp only [qlet]
    unfold t_Scene_pourAnew_L40
    rw [w32_succ (by omega)]
    cases e : tb was (i : Int) with
    | true =>
      rw [if_pos (show (if true = true then (1 : Int) else 0) = 1 from rfl)]
      obtain ⟨P, p1, p2, p3⟩ := c_pourOne (M := M) (x2 := (i : Int)) hC hf (hN M hF).2 (by omega) (by omega)
      rw [p1, obind_some]
      refine ih (i + 1) g P (by omega) (by omega) (hF.trans p3) ?_
      rw [p2, hw, flS, if_pos e]
    | false =>
      rw [if_neg (show ¬ (if false = true then (1 : Int) else 0) = 1 by decide)]
      refine ih (i + 1) g M (by omega) (by omega) hF ?_
      rw [hw, flS, if_neg (by rw [e]; decide)]
section SC
variable {M : Mem} {T k : Nat} {V : TV} {D A S L : Int → Int} {nets wat : Int64} {wl : Int → Bool}
theorem CScF.next (hV : VOK V) (hX : CT0 M T V ∧ CTs M T V) (h : CScF M k V D A S L nets wat wl) {c : Int} (h0 : 0 ≤ c) (h1 : c < cellsV V) : t_Scene_nextOf M k T c = nxV V D nets wl c := c_next hX.1 hX.2 hV h.sc h0 h1
theorem c_flood (hV : VOK V) (hT : T = 2 ∨ T = 22) (hk : 47 ≤ k) (hX : CT0 M T V ∧ CTs M T V) (h : CScF M k V D A S L nets wat wl) : ∃ N, t_Scene_pourAnew M k T = some N ∧ CScF N k V D A S L nets (flS (nxV V D nets wl) wat (cellsV V).toNat) wl ∧ Fr (PoW k) M N := by
  have hC := hV.cells
  unfold t_Scene_pourAnew
  simp (config := { proj := false }) only [qlet]
  have f0 : Fr (PoW k) M (setL M k 6 0) := Fr.rf.setL ⟨rfl, rfl⟩
  have hN : ∀ N, Fr (PoW k) (setL M k 6 0) N → N.1 T 13 = cellsV V ∧ ∀ c, 0 ≤ c → c < cellsV V → t_Scene_nextOf N k T c = nxV V D nets wl c := by
    intro N hF
    have fN := f0.trans hF
    refine ⟨?_, fun c a b => ?_⟩
    · rw [(fN T 13 (by unfold PoW; omega)).1]; exact hX.2.1
    · have hcs : CSc N k V D A nets wl := by
        have hs := h.sc
        refine ⟨fun w x y => ?_, fun t x y => ?_, ?_, fun q x y => ?_⟩
        · rw [(fN (k + 1) w (by unfold PoW; omega)).1]; exact hs.1 w x y
        · rw [(fN (k + 2) t (by unfold PoW; omega)).1]; exact hs.2.1 t x y
        · rw [(fN k 5 (by unfold PoW; omega)).2]; exact hs.2.2.1
        · rw [(fN k 4 (by unfold PoW; omega)).2]; exact hs.2.2.2 q x y
      exact c_next (CT0.fr fN (fun q j x y z => by unfold PoW at z; omega) hX.1) (CTs.fr fN (fun q j x y z => by unfold PoW at z; omega) hX.2) hV hcs a b
  obtain ⟨N, n1, n2, n3⟩ := c_anew_loop (was := M.2 k 6) (by omega) (nx_ok hV D nets wl) hN (cellsV V).toNat 0 FU (setL M k 6 0) (by omega) (fu_big (by omega)) Fr.rf (by rw [sL_self]; rfl)
  have fN := f0.trans n3
  obtain ⟨h1, h2, h3, h4, h5⟩ := h
  refine ⟨N, n1, ⟨fun w x y => ?_, fun t x y => ⟨?_, ?_, ?_⟩, ?_, ?_, fun c x y => ?_⟩, fN⟩
  · rw [(fN (k + 1) w (by unfold PoW; omega)).1]; exact h1 w x y
  · rw [(fN (k + 2) t (by unfold PoW; omega)).1]; exact (h2 t x y).1
  · rw [(fN (k + 3) t (by unfold PoW; omega)).1]; exact (h2 t x y).2.1
  · rw [(fN (k + 4) t (by unfold PoW; omega)).1]; exact (h2 t x y).2.2
  · rw [(fN k 5 (by unfold PoW; omega)).2]; exact h3
  · rw [n2, h4]
  · rw [(fN k 4 (by unfold PoW; omega)).2]; exact h5 c x y
/-! things -/
theorem c_thingIn (hV : VOK V) (hX : CT0 M T V ∧ CTs M T V) (hA : ∀ t, 0 ≤ t → t < V 0 3 → M.1 (k + 2) t = A t) (c : Int) : t_Scene_thingIn M k T c = some (fI (fnd (fun a => A (a : Int)) c (V 0 3).toNat)) := by
  have hv := hV.1
  unfold t_Scene_thingIn
  have ix := indexOf_eq (M := M) (r := k + 2) (N := 8) (p := fun a => A (a : Int)) (v := c) (len := (V 0 3).toNat) (by omega) (by omega) (fun a ha => hA _ (by omega) (by omega))
  rw [Int.toNat_of_nonneg hv.2.2.2.2.2.2.1] at ix
  rw [hX.1.1.2.2.2.1, ix, obind_some]
  rfl
def BtW (k : Nat) : Nat → Int → Prop := fun q _ => k + 2 ≤ q ∧ q ≤ k + 4
theorem c_beat_loop {M0 : Mem} {x2 : Int} (hV : VOK V) (hT : T = 2 ∨ T = 22) (hk : 47 ≤ k) (hX : CT0 M0 T V ∧ CTs M0 T V) (hA : ∀ t, 0 ≤ t → t < V 0 3 → -1 ≤ A t ∧ A t < cellsV V) : ∀ (n t fu : Nat) (M : Mem), (t : Int) + (n : Int) = V 0 3 → n < fu → Fr (BtW k) M0 M → CScF M k V D (btS V (nxV V D nets wl) (decide (x2 ≠ 0)) A S L t).1 (btS V (nxV V D nets wl) (decide (x2 ≠ 0)) A S L t).2.1 (btS V (nxV V D nets wl) (decide (x2 ≠ 0)) A S L t).2.2.1 nets wat wl →
    ∃ N, t_Scene_beat_L5 k T x2 fu M (btS V (nxV V D nets wl) (decide (x2 ≠ 0)) A S L t).2.2.2 (t : Int) = some (N, (btS V (nxV V D nets wl) (decide (x2 ≠ 0)) A S L (V 0 3).toNat).2.2.2) ∧ CScF N k V D (btS V (nxV V D nets wl) (decide (x2 ≠ 0)) A S L (V 0 3).toNat).1 (btS V (nxV V D nets wl) (decide (x2 ≠ 0)) A S L (V 0 3).toNat).2.1 (btS V (nxV V D nets wl) (decide (x2 ≠ 0)) A S L (V 0 3).toNat).2.2.1 nets wat wl ∧ Fr (BtW k) M0 N := by
  have hv := hV.1
  have hC := hV.cells
  have hf := nx_ok hV D nets wl
  intro n
  induction n with
  | zero =>
    intro t fu M g0 g1 hF h
    obtain ⟨g, rfl⟩ : ∃ g, fu = g + 1 := ⟨fu - 1, by omega⟩
    have e15 : M.1 T 15 = V 0 3 := ((hF T 15 (by unfold BtW; omega)).1).trans hX.1.1.2.2.2.1
    rw [t_Scene_beat_L5, e15, if_pos (by omega)]
    rw [show (V 0 3).toNat = t by omega]
    exact ⟨M, rfl, h, hF⟩
  | succ n ih =>
    intro t fu M g0 g1 hF h
    obtain ⟨g, rfl⟩ : ∃ g, fu = g + 1 := ⟨fu - 1, by omega⟩
    have hX' : CT0 M T V ∧ CTs M T V := ⟨CT0.fr hF (fun q j x y z => by unfold BtW at z; omega) hX.1, CTs.fr hF (fun q j x y z => by unfold BtW at z; omega) hX.2⟩
    have e15 : M.1 T 15 = V 0 3 := hX'.1.1.2.2.2.1
    have hr := btS_rng (V := V) (f := nxV V D nets wl) (way := decide (x2 ≠ 0)) (A := A) (S := S) (L := L) (C := cellsV V) hf hA t (by omega) (t : Int) (by omega) (by omega)
    have hn := btS_n (V := V) (f := nxV V D nets wl) (way := decide (x2 ≠ 0)) (A := A) (S := S) (L := L) t
    obtain ⟨a1, a2, a3⟩ := h.2.1 (t : Int) (by omega) (by omega)
    have hfr := ih (t + 1) g
    rw [btS] at hfr
    rw [t_Scene_beat_L5, e15, if_neg (by omega), look_in (by omega) (by omega), a1]
    simp only [qlet]
    generalize hb : btS V (nxV V D nets wl) (decide (x2 ≠ 0)) A S L t = b at *
    have stay : ∀ (b' : BT), b' = b → (b' = b → ∃ N, t_Scene_beat_L5 k T x2 g M b.2.2.2 ((t + 1 : Nat) : Int) = some (N, (btS V (nxV V D nets wl) (decide (x2 ≠ 0)) A S L (V 0 3).toNat).2.2.2) ∧ CScF N k V D (btS V (nxV V D nets wl) (decide (x2 ≠ 0)) A S L (V 0 3).toNat).1 (btS V (nxV V D nets wl) (decide (x2 ≠ 0)) A S L (V 0 3).toNat).2.1 (btS V (nxV V D nets wl) (decide (x2 ≠ 0)) A S L (V 0 3).toNat).2.2.1 nets wat wl ∧ Fr (BtW k) M0 N) → True := fun _ _ _ => trivial
    clear stay
    unfold t_Scene_beat_L41 t_Scene_beat_L131
    rw [w32_succ (by omega)]
    by_cases c1 : b.1 (t : Int) < 0
    · rw [if_neg (show ¬ 0 ≤ b.1 (t : Int) by omega), if_pos (show (-1 : Int) < 0 by decide)]
      rw [if_pos c1] at hfr
      exact hfr M (by omega) (by omega) hF h
    · rw [if_neg c1] at hfr
      rw [if_pos (show 0 ≤ b.1 (t : Int) by omega), h.next hV hX' (by omega) hr.2]
      have hs := hf (b.1 (t : Int)) (by omega) hr.2
      by_cases c2 : nxV V D nets wl (b.1 (t : Int)) < 0
      · rw [if_pos c2] at hfr
        rw [if_pos c2]
        exact hfr M (by omega) (by omega) hF h
      · rw [if_neg c2] at hfr
        rw [if_neg c2, c_thingIn hV hX' (fun t a b => (h.2.1 t a b).1), obind_some]
        -- the step itself
        have move : ∀ (P : Mem), P = setI (setI (setI M (k + 2) (t : Int) (nxV V D nets wl (b.1 (t : Int)))) (k + 3) (t : Int) (w32 (b.2.1 (t : Int) + 1))) (k + 4) (t : Int) (w32 (b.2.2.1 (t : Int) + lnV V (b.1 (t : Int)) (nxV V D nets wl (b.1 (t : Int))))) → CScF P k V D (upA b.1 (t : Int) (nxV V D nets wl (b.1 (t : Int)))) (upA b.2.1 (t : Int) (w32 (b.2.1 (t : Int) + 1))) (upA b.2.2.1 (t : Int) (w32 (b.2.2.1 (t : Int) + lnV V (b.1 (t : Int)) (nxV V D nets wl (b.1 (t : Int)))))) nets wat wl ∧ Fr (BtW k) M0 P := by
          intro P eP
          have fP : Fr (fun q j => k + 2 ≤ q ∧ q ≤ k + 4 ∧ j = (t : Int)) M P := by rw [eP]; exact ((Fr.rf.setI (by omega)).setI (by omega)).setI (by omega)
          obtain ⟨h1, h2, h3, h4, h5⟩ := h
          refine ⟨⟨fun w x y => ?_, fun u x y => ?_, ?_, ?_, fun c x y => ?_⟩, hF.trans (fP.mono (fun q j z => by unfold BtW; omega))⟩
          · rw [(fP (k + 1) w (by omega)).1]; exact h1 w x y
          · by_cases e : u = (t : Int)
            · rw [e, upA_self, upA_self, upA_self, eP]
              refine ⟨?_, ?_, ?_⟩
              · rw [sI_ne (by omega), sI_ne (by omega), sI_self]
              · rw [sI_ne (by omega), sI_self]
              · rw [sI_self]
            · rw [upA_ne _ e, upA_ne _ e, upA_ne _ e, (fP (k + 2) u (by omega)).1, (fP (k + 3) u (by omega)).1, (fP (k + 4) u (by omega)).1]
              exact h2 u x y
          · rw [(fP k 5 (by omega)).2]; exact h3
          · rw [(fP k 6 (by omega)).2]; exact h4
          · rw [(fP k 4 (by omega)).2]; exact h5 c x y
        have go : t_Scene_beat_L62 k T x2 (fun a0_ a1_ a2_ => t_Scene_beat_L5 k T x2 g a0_ a1_ a2_) M b.2.2.2 (t : Int) (b.1 (t : Int)) (nxV V D nets wl (b.1 (t : Int))) = t_Scene_beat_L5 k T x2 g (setI (setI (setI M (k + 2) (t : Int) (nxV V D nets wl (b.1 (t : Int)))) (k + 3) (t : Int) (w32 (b.2.1 (t : Int) + 1))) (k + 4) (t : Int) (w32 (b.2.2.1 (t : Int) + lnV V (b.1 (t : Int)) (nxV V D nets wl (b.1 (t : Int)))))) (b.2.2.2 + 1) ((t + 1 : Nat) : Int) := by
          unfold t_Scene_beat_L62 t_Scene_beat_L124 t_Scene_beat_L131
          simp (config := { proj := false }) only [qlet]
          rw [put_in (M := M) (by omega) (by omega), look_in (M := setI M (k + 2) (t : Int) (nxV V D nets wl (b.1 (t : Int)))) (by omega) (by omega), sI_ne (by omega), a2]
          have p2 : t_WF_put (setI M (k + 2) (t : Int) (nxV V D nets wl (b.1 (t : Int)))) (k + 3) 8 (t : Int) (w32 (b.2.1 (t : Int) + 1)) = setI (setI M (k + 2) (t : Int) (nxV V D nets wl (b.1 (t : Int)))) (k + 3) (t : Int) (w32 (b.2.1 (t : Int) + 1)) := put_in (by omega) (by omega)
          rw [p2]
          have f2 : Fr (fun q _ => k + 2 ≤ q ∧ q ≤ k + 3) M (setI (setI M (k + 2) (t : Int) (nxV V D nets wl (b.1 (t : Int)))) (k + 3) (t : Int) (w32 (b.2.1 (t : Int) + 1))) := (Fr.rf.setI (by omega)).setI (by omega)
          have l4 : (setI (setI M (k + 2) (t : Int) (nxV V D nets wl (b.1 (t : Int)))) (k + 3) (t : Int) (w32 (b.2.1 (t : Int) + 1))).1 (k + 4) (t : Int) = b.2.2.1 (t : Int) := ((f2 (k + 4) (t : Int) (by omega)).1).trans a3
          have hX2 : CT0 (setI (setI M (k + 2) (t : Int) (nxV V D nets wl (b.1 (t : Int)))) (k + 3) (t : Int) (w32 (b.2.1 (t : Int) + 1))) T V := CT0.fr f2 (fun q j x y z => by omega) hX'.1
          generalize setI (setI M (k + 2) (t : Int) (nxV V D nets wl (b.1 (t : Int)))) (k + 3) (t : Int) (w32 (b.2.1 (t : Int) + 1)) = Q at *
          rw [look_in (M := Q) (by omega) (by omega), l4, c_line hX2 (by omega) (by omega) (by omega) (by omega), put_in (M := Q) (by omega) (by omega), put_in (M := Q) (by omega) (by omega), w32_id (x := b.2.2.2 + 1) (by unfold InR; omega), w32_succ (by omega)]
          have ln := ln_rng V (b.1 (t : Int)) (nxV V D nets wl (b.1 (t : Int)))
          by_cases z : lnV V (b.1 (t : Int)) (nxV V D nets wl (b.1 (t : Int))) = 0
          · rw [if_pos z, z]
          · rw [if_neg z, show lnV V (b.1 (t : Int)) (nxV V D nets wl (b.1 (t : Int))) = 1 by omega]
        obtain ⟨mv1, mv2⟩ := move _ rfl
        by_cases c3 : decide (x2 ≠ 0) = true ∧ fnd (fun a => b.1 (a : Int)) (nxV V D nets wl (b.1 (t : Int))) (V 0 3).toNat ≠ none
        · rw [if_pos c3] at hfr
          have x0 : ¬ x2 = 0 := of_decide_eq_true c3.1
          rw [if_neg x0]
          cases e : fnd (fun a => b.1 (a : Int)) (nxV V D nets wl (b.1 (t : Int))) (V 0 3).toNat with
          | none => exact absurd e c3.2
          | some u =>
            rw [if_pos (show 0 ≤ fI (some u) by show (0 : Int) ≤ (u : Int); omega)]
            exact hfr M (by omega) (by omega) hF h
        · rw [if_neg c3] at hfr
          have red : (if x2 = 0 then t_Scene_beat_L62 k T x2 (fun a0_ a1_ a2_ => t_Scene_beat_L5 k T x2 g a0_ a1_ a2_) M b.2.2.2 (t : Int) (b.1 (t : Int)) (nxV V D nets wl (b.1 (t : Int))) else if 0 ≤ fI (fnd (fun a => b.1 (a : Int)) (nxV V D nets wl (b.1 (t : Int))) (V 0 3).toNat) then t_Scene_beat_L5 k T x2 g M b.2.2.2 ((t + 1 : Nat) : Int) else t_Scene_beat_L62 k T x2 (fun a0_ a1_ a2_ => t_Scene_beat_L5 k T x2 g a0_ a1_ a2_) M b.2.2.2 (t : Int) (b.1 (t : Int)) (nxV V D nets wl (b.1 (t : Int)))) = t_Scene_beat_L62 k T x2 (fun a0_ a1_ a2_ => t_Scene_beat_L5 k T x2 g a0_ a1_ a2_) M b.2.2.2 (t : Int) (b.1 (t : Int)) (nxV V D nets wl (b.1 (t : Int))) := by
            by_cases z : x2 = 0
            · rw [if_pos z]
            · rw [if_neg z]
              have : fnd (fun a => b.1 (a : Int)) (nxV V D nets wl (b.1 (t : Int))) (V 0 3).toNat = none := by
                apply Classical.byContradiction
                intro y
                exact c3 ⟨decide_eq_true z, y⟩
              rw [this, if_neg (show ¬ 0 ≤ fI none by show ¬ (0 : Int) ≤ -1; decide)]
          rw [red, go]
          exact hfr _ (by omega) (by omega) mv2 mv1
theorem c_beat {x2 : Int} (hV : VOK V) (hT : T = 2 ∨ T = 22) (hk : 47 ≤ k) (hX : CT0 M T V ∧ CTs M T V) (h : CScF M k V D A S L nets wat wl) (hA : ∀ t, 0 ≤ t → t < V 0 3 → -1 ≤ A t ∧ A t < cellsV V) : ∃ N, t_Scene_beat M k T x2 = some (N, (btS V (nxV V D nets wl) (decide (x2 ≠ 0)) A S L (V 0 3).toNat).2.2.2) ∧ CScF N k V D (btS V (nxV V D nets wl) (decide (x2 ≠ 0)) A S L (V 0 3).toNat).1 (btS V (nxV V D nets wl) (decide (x2 ≠ 0)) A S L (V 0 3).toNat).2.1 (btS V (nxV V D nets wl) (decide (x2 ≠ 0)) A S L (V 0 3).toNat).2.2.1 nets wat wl ∧ Fr (BtW k) M N :=
  c_beat_loop hV hT hk hX hA (V 0 3).toNat 0 FU M (by have := hV.1; omega) (fu_big (by have := hV.1; omega)) Fr.rf h
theorem c_stands (hV : VOK V) (hX : CT0 M T V ∧ CTs M T V) (h : CScF M k V D A S L nets wat (wlV V)) {c : Int} (c0 : 0 ≤ c) (c1 : c < cellsV V) : t_Scene_standsIn M k T c = stV V D c := by
  have hC := hV.cells
  have hb := bs_rng hV c0 c1 (dnV V D c)
  have w8 := (hV.2.2.2 c c0 (by omega)).2.2.1
  have w9 := (hV.2.2.2 c c0 (by omega)).2.2.2
  have t8 := h.2.2.2.2 c c0 (by omega)
  have t9 := (hX.1.2.2.2 c c0 (by omega)).2.2
  unfold t_Scene_standsIn t_Scene_standsIn_L38 stV
  simp only [qlet]
  rw [bitOf_tb M _ c0 (by omega), t8, bitOf_tb M (M.2 T 19) c0 (by omega), t9, c_down hX.1 hV h.sc c0 (by omega), c_beside hX.2 hV c0 c1]
  unfold wlV
  by_cases v8 : V 8 c = 1
  · rw [if_pos v8, decide_eq_true v8, if_pos (show (if true = true then (1 : Int) else 0) = 1 from rfl)]
  · rw [if_neg v8, decide_eq_false v8, if_neg (show ¬ (if false = true then (1 : Int) else 0) = 1 by decide)]
    by_cases v9 : V 9 c = 1
    · rw [if_pos v9, decide_eq_true v9, if_pos (show (if true = true then (1 : Int) else 0) = 1 from rfl), if_pos (show (if true = true then (1 : Int) else 0) = 1 from rfl)]
    · rw [if_neg v9, decide_eq_false v9, if_neg (show ¬ (if false = true then (1 : Int) else 0) = 1 by decide), if_neg (show ¬ (if false = true then (1 : Int) else 0) = 1 by decide)]
      by_cases d4 : dnV V D c = 4
      · rw [if_pos d4, if_pos d4]
      · rw [if_neg d4, if_neg d4]
        by_cases b0 : bsV V c (dnV V D c) < 0
        · rw [if_pos b0, if_pos b0]
        · rw [if_neg b0, if_neg b0, bitOf_tb M _ (by omega) (by omega), h.2.2.2.2 _ (by omega) (by omega)]
          unfold wlV
          by_cases z : V 8 (bsV V c (dnV V D c)) = 1
          · rw [decide_eq_true z, if_pos (show (if true = true then (1 : Int) else 0) = 1 from rfl), if_pos z]
          · rw [decide_eq_false z, if_neg (show ¬ (if false = true then (1 : Int) else 0) = 1 by decide), if_neg z]
end SC
end
section
/-! ===== both sides: scenes and rows, what can be undone ===== -/
def CSR (M : Mem) (k : Nat) (a : Int) (V : TV) : Prop := CScF M k V (DN M a) (AT M a) (ST M a) (LN M a) (M.2 210 a) (M.2 211 a) (wlV V)
def RwW (a : Int) : Nat → Int → Prop := fun q j => ((q = 210 ∨ q = 211) ∧ j = a) ∨ (q = 212 ∧ 4 * a ≤ j ∧ j < 4 * a + 4) ∨ ((q = 213 ∨ q = 214 ∨ q = 215) ∧ 8 * a ≤ j ∧ j < 8 * a + 8)
theorem CSR.of {M P : Mem} {k : Nat} {a b : Int} {V : TV} (hV : VOK V) (h : CScF P k V (DN M b) (AT M b) (ST M b) (LN M b) (M.2 210 b) (M.2 211 b) (wlV V)) (e : RowEq P a M b) : CSR P k a V := by
  have hv := hV.1
  obtain ⟨⟨-, -, -, e4, e5⟩, e6, e7⟩ := e
  exact h.eq (fun w x y => (e6 w x (by omega)).symm) (fun t x y => ⟨(e7 t x (by omega)).1.symm, (e7 t x (by omega)).2.1.symm, (e7 t x (by omega)).2.2.symm⟩) e4.symm e5.symm
theorem RowEq.fr2 {W : Nat → Int → Prop} {M N : Mem} {a : Int} (hF : Fr W M N) (hd : ∀ k j, (RwW a k j ∨ ((k = 207 ∨ k = 208 ∨ k = 209) ∧ j = a)) → ¬ W k j) : RowEq N a M a := RowEq.fr hF (fun k j z => hd k j (by unfold CW at z; unfold RwW; omega))
theorem CSR.fr {W : Nat → Int → Prop} {M N : Mem} {k : Nat} {a : Int} {V : TV} (hV : VOK V) (h : CSR M k a V) (hF : Fr W M N) (hd : ∀ q j, (CsW k q j ∨ RwW a q j) → ¬ W q j) : CSR N k a V := by
  have hv := hV.1
  have h2 : CScF N k V (DN M a) (AT M a) (ST M a) (LN M a) (M.2 210 a) (M.2 211 a) (wlV V) := CScF.fr h hF (fun q j z => hd q j (Or.inl z))
  have e : ∀ q j, RwW a q j → N.1 q j = M.1 q j ∧ N.2 q j = M.2 q j := fun q j z => hF q j (hd q j (Or.inr z))
  exact h2.eq (fun w x y => (e 212 _ (by unfold RwW; omega)).1.symm) (fun t x y => ⟨(e 213 _ (by unfold RwW; omega)).1.symm, (e 214 _ (by unfold RwW; omega)).1.symm, (e 215 _ (by unfold RwW; omega)).1.symm⟩) (e 210 a (by unfold RwW; omega)).2.symm (e 211 a (by unfold RwW; omega)).2.symm
/-- a class's scene that is kept, by the row of an earlier memory -/
theorem CSR.keepC {M P : Mem} {k : Nat} {a b : Int} {V : TV} (hV : VOK V) (h : CSR M k b V) (hc : ∀ q j, CsW k q j → P.1 q j = M.1 q j ∧ P.2 q j = M.2 q j) (e : RowEq P a M b) : CSR P k a V := by
  refine CSR.of hV ?_ e
  obtain ⟨h1, h2, h3, h4, h5⟩ := h
  refine ⟨fun w x y => ?_, fun t x y => ⟨?_, ?_, ?_⟩, ?_, ?_, fun c x y => ?_⟩
  · rw [(hc (k + 1) w (by unfold CsW; omega)).1]; exact h1 w x y
  · rw [(hc (k + 2) t (by unfold CsW; omega)).1]; exact (h2 t x y).1
  · rw [(hc (k + 3) t (by unfold CsW; omega)).1]; exact (h2 t x y).2.1
  · rw [(hc (k + 4) t (by unfold CsW; omega)).1]; exact (h2 t x y).2.2
  · rw [(hc k 5 (by unfold CsW; omega)).2]; exact h3
  · rw [(hc k 6 (by unfold CsW; omega)).2]; exact h4
  · rw [(hc k 4 (by unfold CsW; omega)).2]; exact h5 c x y
def rgI (L m k : Int) : Nat := ((L + 21 + k - m) % 20).toNat
def PastR (M : Mem) (V : TV) : Prop := M.1 70 2 = M.1 191 43 ∧ (0 ≤ M.1 70 1 ∧ M.1 70 1 < 20) ∧ (0 ≤ M.1 191 43 ∧ M.1 191 43 ≤ 20) ∧ ∀ k, 0 ≤ k → k < M.1 191 43 → CSR M (72 + 5 * rgI (M.1 70 1) (M.1 191 43) k) (3 + k) V
def upL (L : Int) : Int := if 20 ≤ L + 1 then 0 else L + 1
def dnL (L : Int) : Int := if L ≤ 0 then 19 else L - 1
def upM (m : Int) : Int := if m < 20 then m + 1 else 20
theorem past_push {M P : Mem} {V : TV} (hV : VOK V) (h : PastR M V) (e1 : P.1 70 1 = upL (M.1 70 1)) (e2 : P.1 70 2 = upM (M.1 70 2)) (e3 : P.1 191 43 = upM (M.1 191 43)) (hs : CScF P (72 + 5 * (upL (M.1 70 1)).toNat) V (DN M 0) (AT M 0) (ST M 0) (LN M 0) (M.2 210 0) (M.2 211 0) (wlV V)) (hc : ∀ i : Nat, i < 20 → (i : Int) ≠ upL (M.1 70 1) → ∀ q j, CsW (72 + 5 * i) q j → P.1 q j = M.1 q j ∧ P.2 q j = M.2 q j)
    (hr : (M.1 191 43 < 20 ∧ (∀ k, 0 ≤ k → k < M.1 191 43 → RowEq P (3 + k) M (3 + k)) ∧ RowEq P (3 + M.1 191 43) M 0) ∨ (M.1 191 43 = 20 ∧ (∀ k, 0 ≤ k → k < 19 → RowEq P (3 + k) M (4 + k)) ∧ RowEq P 22 M 0)) : PastR P V := by
  obtain ⟨h1, ⟨h2, h3⟩, ⟨h4, h5⟩, h6⟩ := h
  have u0 : 0 ≤ upL (M.1 70 1) ∧ upL (M.1 70 1) < 20 := by unfold upL; split <;> omega
  refine ⟨by rw [e2, e3, h1], by rw [e1]; exact u0, by rw [e3]; unfold upM; split <;> omega, fun k k0 k1 => ?_⟩
  rw [e1, e3] at *
  rcases hr with ⟨r1, r2, r3⟩ | ⟨r1, r2, r3⟩
  · have em : upM (M.1 191 43) = M.1 191 43 + 1 := if_pos r1
    rw [em] at k1 ⊢
    by_cases q : k = M.1 191 43
    · have ei : rgI (upL (M.1 70 1)) (M.1 191 43 + 1) k = (upL (M.1 70 1)).toNat := by unfold rgI; congr 1; omega
      rw [ei, q]
      exact CSR.of hV hs r3
    · have ei : rgI (upL (M.1 70 1)) (M.1 191 43 + 1) k = rgI (M.1 70 1) (M.1 191 43) k := by
        unfold rgI upL
        congr 1
        split <;> omega
      rw [ei]
      refine CSR.keepC hV (h6 k k0 (by omega)) (hc _ (by unfold rgI; omega) ?_) (r2 k k0 (by omega))
      unfold rgI upL
      rw [Int.toNat_of_nonneg (by omega)]
      split <;> omega
  · have em : upM (M.1 191 43) = 20 := if_neg (by omega)
    rw [em] at k1 ⊢
    by_cases q : k = 19
    · have ei : rgI (upL (M.1 70 1)) 20 k = (upL (M.1 70 1)).toNat := by unfold rgI; congr 1; omega
      rw [ei, q]
      exact CSR.of hV hs r3
    · have ei : rgI (upL (M.1 70 1)) 20 k = rgI (M.1 70 1) (M.1 191 43) (k + 1) := by
        rw [r1]
        unfold rgI upL
        congr 1
        split <;> omega
      rw [ei]
      have hk := h6 (k + 1) (by omega) (by omega)
      rw [show 3 + (k + 1) = 4 + k by omega] at hk
      refine CSR.keepC hV hk (hc _ (by unfold rgI; omega) ?_) (r2 k k0 (by omega))
      rw [r1]
      unfold rgI upL
      rw [Int.toNat_of_nonneg (by omega)]
      split <;> omega
theorem PastR.fr {W : Nat → Int → Prop} {M N : Mem} {V : TV} (hV : VOK V) (h : PastR M V) (hF : Fr W M N) (hd : ∀ q j, ((q = 70 ∧ (j = 1 ∨ j = 2)) ∨ (72 ≤ q ∧ q ≤ 171) ∨ (q = 191 ∧ j = 43) ∨ ((q = 210 ∨ q = 211) ∧ 3 ≤ j) ∨ (q = 212 ∧ 12 ≤ j) ∨ ((q = 213 ∨ q = 214 ∨ q = 215) ∧ 24 ≤ j)) → ¬ W q j) : PastR N V := by
  obtain ⟨h1, h2, h3, h4⟩ := h
  have e1 := (hF 70 1 (hd _ _ (by omega))).1
  have e2 := (hF 70 2 (hd _ _ (by omega))).1
  have e3 := (hF 191 43 (hd _ _ (by omega))).1
  unfold PastR
  rw [e1, e2, e3]
  refine ⟨h1, h2, h3, fun k a b => (h4 k a b).fr hV hF (fun q j z => hd q j ?_)⟩
  have : rgI (M.1 70 1) (M.1 191 43) k < 20 := by unfold rgI; omega
  rcases z with z | z
  · unfold CsW at z; omega
  · unfold RwW at z; omega
theorem past_none {N : Mem} {V : TV} (h1 : N.1 70 2 = 0) (h2 : 0 ≤ N.1 70 1 ∧ N.1 70 1 < 20) (h3 : N.1 191 43 = 0) : PastR N V := ⟨by omega, h2, by omega, fun k a b => by omega⟩
/-! the class remembers, takes back -/
def RmW (L : Int) : Nat → Int → Prop := fun q j => (q = 70 ∧ (j = 1 ∨ j = 2)) ∨ CsW (72 + 5 * (upL L).toNat) q j
theorem c_remember {M : Mem} {V : TV} {D A S L : Int → Int} {nets wat : Int64} {wl : Int → Bool} (hV : VOK V) (hL : 0 ≤ M.1 70 1 ∧ M.1 70 1 < 20) (hm : 0 ≤ M.1 70 2 ∧ M.1 70 2 ≤ 20) (h : CScF M 47 V D A S L nets wat wl) : Fr (RmW (M.1 70 1)) M (t_Past_remember M 47) ∧ (t_Past_remember M 47).1 70 1 = upL (M.1 70 1) ∧ (t_Past_remember M 47).1 70 2 = upM (M.1 70 2) ∧ CScF (t_Past_remember M 47) (72 + 5 * (upL (M.1 70 1)).toNat) V D A S L nets wat wl := by
  have e0 : t_Past_remember M 47 = t_Past_remember_L25 47 M (upL (M.1 70 1)) := by
    unfold t_Past_remember upL
    rw [w32_id (x := M.1 70 1 + 1) (by unfold InR; omega)]
    by_cases c : 20 ≤ M.1 70 1 + 1
    · rw [if_pos c, if_pos c]
    · rw [if_neg c, if_neg c]
  have u0 : 0 ≤ upL (M.1 70 1) ∧ upL (M.1 70 1) < 20 := by unfold upL; split <;> omega
  rw [e0]
  unfold RmW
  generalize upL (M.1 70 1) = u at *
  unfold t_Past_remember_L25 t_Past_remember_L72
  simp (config := { proj := false }) only [qlet]
  have f1 : Fr (fun q j => q = 70 ∧ j = 1) M (setI M 70 1 u) := Fr.rf.setI ⟨rfl, rfl⟩
  have v1 : (setI M 70 1 u).1 70 1 = u := sI_self _ _ _ _
  rw [v1]
  rw [if_neg (by omega), if_neg (by omega)]
  have h1 := h.fr f1 (fun q j z y => by unfold CsW at z; omega)
  generalize setI M 70 1 u = M1 at *
  obtain ⟨c1, c2⟩ := c_scopy (k0 := 72 + 5 * u.toNat) (k1 := 47) hV (Or.inl (by omega)) h1
  generalize t_Scene_copy M1 (72 + 5 * u.toNat) 47 = M2 at *
  have e2 : M2.1 70 2 = M.1 70 2 := ((c2 70 2 (by unfold CsW; omega)).1).trans (f1 70 2 (by omega)).1
  have e1 : M2.1 70 1 = u := ((c2 70 1 (by unfold CsW; omega)).1).trans v1
  rw [e2, w32_id (x := M.1 70 2 + 1) (by unfold InR; omega)]
  have f3 : Fr (fun q j => q = 70 ∧ j = 2) M2 (setI M2 70 2 (q_min (M.1 70 2 + 1) 20)) := Fr.rf.setI ⟨rfl, rfl⟩
  refine ⟨((f1.mono (fun q j z => by omega)).trans (c2.mono (fun q j z => Or.inr z))).trans (f3.mono (fun q j z => by omega)), ?_, ?_, c1.fr f3 (fun q j z y => by unfold CsW at z; omega)⟩
  · rw [sI_ne (by omega)]; exact e1
  · rw [sI_self]
    unfold q_min upM
    by_cases c : M.1 70 2 < 20
    · rw [if_neg (by omega), if_pos c]
    · rw [if_neg c]
      by_cases d : 20 < M.1 70 2 + 1
      · rw [if_pos d]
      · omega
theorem c_takeBack {M : Mem} {V : TV} {D A S L : Int → Int} {nets wat : Int64} {wl : Int → Bool} (hV : VOK V) (hL : 0 ≤ M.1 70 1 ∧ M.1 70 1 < 20) (hm : 0 < M.1 70 2 ∧ M.1 70 2 ≤ 20) (h : CScF M (72 + 5 * (M.1 70 1).toNat) V D A S L nets wat wl) : ∃ N, t_Past_takeBack M 47 = (N, 1) ∧ Fr (fun q j => (q = 70 ∧ (j = 1 ∨ j = 2)) ∨ CsW 47 q j) M N ∧ N.1 70 1 = dnL (M.1 70 1) ∧ N.1 70 2 = M.1 70 2 - 1 ∧ CScF N 47 V D A S L nets wat wl := by
  unfold t_Past_takeBack
  rw [if_neg (by omega), if_neg (by omega), if_neg (by omega)]
  simp (config := { proj := false }) only [qlet]
  obtain ⟨c1, c2⟩ := c_scopy (k0 := 47) (k1 := 72 + 5 * (M.1 70 1).toNat) hV (Or.inr (by omega)) h
  generalize t_Scene_copy M 47 (72 + 5 * (M.1 70 1).toNat) = M1 at *
  have e1 : M1.1 70 1 = M.1 70 1 := (c2 70 1 (by unfold CsW; omega)).1
  have e2 : M1.1 70 2 = M.1 70 2 := (c2 70 2 (by unfold CsW; omega)).1
  have l53 : t_Past_takeBack_L53 47 M1 = t_Past_takeBack_L77 47 M1 (dnL (M.1 70 1)) := by
    unfold t_Past_takeBack_L53 dnL
    rw [e1]
    by_cases c : M.1 70 1 ≤ 0
    · rw [if_pos c, if_pos c]; rfl
    · rw [if_neg c, if_neg c, w32_id (by unfold InR; omega)]
  rw [l53]
  unfold t_Past_takeBack_L77
  simp (config := { proj := false }) only [qlet]
  have e3 : (setI M1 70 1 (dnL (M.1 70 1))).1 70 2 = M.1 70 2 := (sI_ne (by omega)).trans e2
  rw [e3, w32_id (x := M.1 70 2 - 1) (by unfold InR; omega)]
  have f3 : Fr (fun q j => q = 70 ∧ (j = 1 ∨ j = 2)) M1 (setI (setI M1 70 1 (dnL (M.1 70 1))) 70 2 (M.1 70 2 - 1)) := (Fr.rf.setI (by omega)).setI (by omega)
  exact ⟨_, rfl, (c2.mono (fun q j z => Or.inr z)).trans (f3.mono (fun q j z => Or.inl z)), by rw [sI_ne (by omega), sI_self], sI_self _ _ _ _, c1.fr f3 (fun q j z y => by unfold CsW at z; omega)⟩
/-! chronicles, images, notes, tried votes -/
def ChW (k : Nat) : Nat → Int → Prop := fun q j => (q = k ∧ 3 ≤ j ∧ j ≤ 5) ∨ (k + 1 ≤ q ∧ q ≤ k + 3)
def RgR (a : Int) : Nat → Int → Prop := fun q j => ((q = 207 ∨ q = 208 ∨ q = 209) ∧ j = a) ∨ ((q = 216 ∨ q = 217 ∨ q = 218) ∧ 100 * a ≤ j ∧ j < 100 * a + 100)
def ChR (M : Mem) (k : Nat) (a : Int) : Prop := M.1 k 3 = M.1 207 a ∧ M.1 k 4 = M.1 208 a ∧ M.2 k 5 = q_i2l (M.1 209 a) ∧ ∀ y, 0 ≤ y → y < M.1 207 a → M.1 (k + 1) y = M.1 216 (100 * a + y) ∧ M.1 (k + 2) y = M.1 217 (100 * a + y) ∧ M.1 (k + 3) y = M.1 218 (100 * a + y)
theorem ChR.fr {W : Nat → Int → Prop} {M N : Mem} {k : Nat} {a : Int} (hy : M.1 207 a ≤ 99) (h : ChR M k a) (hF : Fr W M N) (hd : ∀ q j, (ChW k q j ∨ RgR a q j) → ¬ W q j) : ChR N k a := by
  obtain ⟨h1, h2, h3, h4⟩ := h
  have c : ∀ q j, ChW k q j → N.1 q j = M.1 q j ∧ N.2 q j = M.2 q j := fun q j z => hF q j (hd q j (Or.inl z))
  have r : ∀ q j, RgR a q j → N.1 q j = M.1 q j := fun q j z => (hF q j (hd q j (Or.inr z))).1
  refine ⟨?_, ?_, ?_, fun y x z => ?_⟩
  · rw [(c k 3 (by unfold ChW; omega)).1, r 207 a (by unfold RgR; omega)]; exact h1
  · rw [(c k 4 (by unfold ChW; omega)).1, r 208 a (by unfold RgR; omega)]; exact h2
  · rw [(c k 5 (by unfold ChW; omega)).2, r 209 a (by unfold RgR; omega)]; exact h3
  · rw [r 207 a (by unfold RgR; omega)] at z
    rw [(c (k + 1) y (by unfold ChW; omega)).1, (c (k + 2) y (by unfold ChW; omega)).1, (c (k + 3) y (by unfold ChW; omega)).1, r 216 _ (by unfold RgR; omega), r 217 _ (by unfold RgR; omega), r 218 _ (by unfold RgR; omega)]
    exact h4 y x z
def ImR (M : Mem) (V : TV) : Prop := M.1 0 13 = M.1 191 42 ∧ (M.1 191 42 = 1 → CSR M 57 2 V ∧ ChR M 66 2)
def NoR (M : Mem) : Prop := M.1 172 5 = M.1 191 60 ∧ M.1 172 6 = M.1 191 61 ∧ ∀ k, 0 ≤ k → k < M.1 191 60 → (M.1 228 k = 0 ∧ M.1 173 k = M.1 226 k ∧ M.1 174 k = M.1 227 k ∧ M.1 175 k = -1) ∨ (M.1 228 k = 1 ∧ M.1 175 k = M.1 226 k ∧ M.1 174 k = -1 ∧ M.1 173 k = -1)
/-- (the light form: nothing is held of the class's table of votes) -/
def CaR (_M : Mem) (_V : TV) : Prop := True
/-- all that both sides hold alike, beside town, tape and fault -/
def RL (M : Mem) (V : TV) : Prop := CSR M 47 0 V ∧ ChR M 62 0 ∧ PastR M V ∧ ImR M V ∧ NoR M ∧ CaR M V
end
section
/-! ===== a change that can be undone, both sides ===== -/
theorem jyS_congr {V : TV} {f A B : Int → Int} {w : Int} : ∀ {n : Nat}, (∀ t : Nat, t < n → A (t : Int) = B (t : Int)) → jyS V f A w n = jyS V f B w n := by
  intro n
  induction n with
  | zero => intro _; rfl
  | succ n ih => intro h; rw [jyS, jyS, ih (fun t ht => h t (by omega)), h n (by omega)]
theorem joyS_congr {V : TV} (hV : VOK V) {f A B : Int → Int} (h : ∀ t, 0 ≤ t → t < V 0 3 → A t = B t) (w yr : Int) : joyS V f A w yr = joyS V f B w yr := by
  have hv := hV.1
  have e := jyS_congr (V := V) (f := f) (A := A) (B := B) (w := w) (n := (V 0 3).toNat) (fun t ht => h t (by omega) (by omega))
  unfold joyS nmJ
  rw [e]
theorem jvS_congr {V : TV} (hV : VOK V) {A B : Int → Int} (h : ∀ t, 0 ≤ t → t < V 0 3 → A t = B t) (nets : Int64) (wl : Int → Bool) (yr v w : Int) : jvS V A nets wl yr v w = jvS V B nets wl yr v w := joyS_congr hV h w yr
def KnR (P M : Mem) : Prop := (M.1 191 43 < 20 ∧ (∀ k, 0 ≤ k → k < M.1 191 43 → RowEq P (3 + k) M (3 + k)) ∧ RowEq P (3 + M.1 191 43) M 0) ∨ (M.1 191 43 = 20 ∧ (∀ k, 0 ≤ k → k < 19 → RowEq P (3 + k) M (4 + k)) ∧ RowEq P 22 M 0)
theorem m_kn {M : Mem} (hm : 0 ≤ M.1 191 43 ∧ M.1 191 43 ≤ 20) : ∃ N, t_MO_keepNow M = some N ∧ Fr KW M N ∧ N.1 191 43 = upM (M.1 191 43) ∧ KnR N M := by
  by_cases c : M.1 191 43 < 20
  · obtain ⟨N, n1, n2, n3, n4, n5⟩ := m_keepNow_less (u := M.1 191 43) ⟨hm.1, c⟩ rfl
    refine ⟨N, n1, n2, by rw [n5]; unfold upM; rw [if_pos c], Or.inl ⟨c, fun k a b => ?_, n4⟩⟩
    exact RowEq.fr n3 (fun q j z y => by unfold CW at z y; omega)
  · obtain ⟨N, n1, n2, n3, n4, n5⟩ := m_keepNow_full (M := M) (by omega)
    exact ⟨N, n1, n2, by rw [n5]; unfold upM; rw [if_neg c], Or.inr ⟨by omega, n3, n4⟩⟩
theorem KnR.fr {W : Nat → Int → Prop} {M P Q : Mem} (h : KnR P M) (hF : Fr W P Q) (hm : 0 ≤ M.1 191 43) (hd : ∀ a q j, 3 ≤ a → a ≤ 22 → CW a q j → ¬ W q j) : KnR Q M := by
  rcases h with ⟨a, b, c⟩ | ⟨a, b, c⟩
  · exact Or.inl ⟨a, fun k x y => (RowEq.fr hF (fun q j z => hd _ q j (by omega) (by omega) z)).trans (b k x y), (RowEq.fr hF (fun q j z => hd _ q j (by omega) (by omega) z)).trans c⟩
  · exact Or.inr ⟨a, fun k x y => (RowEq.fr hF (fun q j z => hd _ q j (by omega) (by omega) z)).trans (b k x y), (RowEq.fr hF (fun q j z => hd _ q j (by omega) (by omega) z)).trans c⟩
/-- the class's side of such a change -/
def CmW (L : Int) : Nat → Int → Prop := fun q j => RmW L q j ∨ CsW 47 q j ∨ (q = 177 ∧ j = 8) ∨ (52 ≤ q ∧ q ≤ 56)
def CmR (M N : Mem) (V : TV) (D A S L : Int → Int) (nets wat : Int64) : Prop := Fr (CmW (M.1 70 1)) M N ∧ N.1 70 1 = upL (M.1 70 1) ∧ N.1 70 2 = upM (M.1 70 2) ∧ CScF N (72 + 5 * (upL (M.1 70 1)).toNat) V (DN M 0) (AT M 0) (ST M 0) (LN M 0) (M.2 210 0) (M.2 211 0) (wlV V) ∧ CScF N 47 V D A S L nets wat (wlV V) ∧ (N.1 177 8 = 0 ∨ (N.1 177 8 = M.1 177 8 ∧ (∀ t, 0 ≤ t → t < V 0 3 → A t = AT M 0 t) ∧ nets = M.2 210 0))
/-- the reference's -/
def MmW : Nat → Int → Prop := fun q j => KW q j ∨ RwW 0 q j ∨ CW 1 q j ∨ (q = 191 ∧ j = 0)
def MmR (N P : Mem) (V : TV) (D A S L : Int → Int) (nets wat : Int64) : Prop := Fr MmW N P ∧ P.1 191 43 = upM (N.1 191 43) ∧ KnR P N ∧ (∀ w, 0 ≤ w → w < V 0 2 → P.1 212 w = D w) ∧ (∀ t, 0 ≤ t → t < V 0 3 → P.1 213 t = A t ∧ P.1 214 t = S t ∧ P.1 215 t = L t) ∧ P.2 210 0 = nets ∧ P.2 211 0 = wat
theorem CmW_cls {L : Int} (hL : 0 ≤ L ∧ L < 20) {q : Nat} {j : Int} (h : CmW L q j) : (47 ≤ q ∧ q ≤ 56) ∨ (q = 70 ∧ (j = 1 ∨ j = 2)) ∨ (72 ≤ q ∧ q ≤ 171) ∨ (q = 177 ∧ j = 8) := by
  have u : 0 ≤ upL L ∧ upL L < 20 := by unfold upL; split <;> omega
  unfold CmW RmW CsW at h
  omega
theorem MmW_ref {q : Nat} {j : Int} (h : MmW q j) : 191 ≤ q ∧ ¬ (q = 191 ∧ ¬ (j = 0 ∨ j = 43)) ∧ ¬ ((q = 207 ∨ q = 208 ∨ q = 209) ∧ (j = 0 ∨ j = 2)) ∧ ¬ ((q = 210 ∨ q = 211) ∧ j = 2) ∧ ¬ (q = 212 ∧ 8 ≤ j ∧ j < 12) ∧ ¬ ((q = 213 ∨ q = 214 ∨ q = 215) ∧ 16 ≤ j ∧ j < 24) ∧ q ≤ 215 ∧ ¬ (192 ≤ q ∧ q ≤ 206) := by
  unfold MmW KW RwW CW at h
  omega
theorem CaR.zero {N : Mem} {V : TV} (_h : N.1 177 8 = 0) : CaR N V := trivial
theorem CaR.move {M P : Mem} {V : TV} (_hV : VOK V) (_h : CaR M V) (_e8 : P.1 177 8 = 0 ∨ (P.1 177 8 = M.1 177 8 ∧ (∀ t, 0 ≤ t → t < V 0 3 → AT P 0 t = AT M 0 t) ∧ P.2 210 0 = M.2 210 0)) (_e7 : P.1 207 0 = M.1 207 0) (_ec : ∀ q j, ((q = 177 ∧ (j = 6 ∨ j = 7)) ∨ q = 184) → P.1 q j = M.1 q j) : CaR P V := trivial
theorem CaR.fr {W : Nat → Int → Prop} {M N : Mem} {V : TV} (hV : VOK V) (h : CaR M V) (hF : Fr W M N) (hd : ∀ q j, ((q = 177 ∧ 6 ≤ j ∧ j ≤ 8) ∨ q = 184 ∨ (q = 207 ∧ j = 0) ∨ RwW 0 q j) → ¬ W q j) : CaR N V := by
  have hv := hV.1
  have e : ∀ q j, ((q = 177 ∧ 6 ≤ j ∧ j ≤ 8) ∨ q = 184 ∨ (q = 207 ∧ j = 0) ∨ RwW 0 q j) → N.1 q j = M.1 q j ∧ N.2 q j = M.2 q j := fun q j z => hF q j (hd q j z)
  exact h.move hV (Or.inr ⟨(e 177 8 (by omega)).1, fun t a b => (e 213 _ (by unfold RwW; omega)).1, (e 210 0 (by unfold RwW; omega)).2⟩) (e 207 0 (by omega)).1 (fun q j z => (e q j (by omega)).1)
theorem rl_c1 {L : Int} (hL : 0 ≤ L ∧ L < 20) {q : Nat} {j : Int} (z : 191 ≤ q) : ¬ CmW L q j := fun y => by have := CmW_cls hL y; omega
theorem rl_m1 {q : Nat} {j : Int} (z : q < 191) : ¬ MmW q j := fun y => by have := (MmW_ref y).1; omega
theorem rl_mn {q : Nat} {j : Int} (z : (q == 191 && (j == 42 || (j == 60 || j == 61)) || decide (216 ≤ q)) = true) : ¬ MmW q j := fun y => by
  obtain ⟨-, a, -, -, -, -, b, -⟩ := MmW_ref y
  have z : (q = 191 ∧ (j = 42 ∨ j = 60 ∨ j = 61)) ∨ 216 ≤ q := by simpa using z
  omega
theorem rl_m207 : ¬ MmW 207 0 := fun y => (MmW_ref y).2.2.1 ⟨Or.inl rfl, Or.inl rfl⟩
theorem rl_cw {L : Int} (hL : 0 ≤ L ∧ L < 20) {b : Int} {q : Nat} {j : Int} (z : CW b q j) : ¬ CmW L q j := fun y => by have := CmW_cls hL y; unfold CW at z; omega
theorem rl_cs {k q : Nat} {j : Int} (hk : k + 4 < 191) (z : CsW k q j) : ¬ MmW q j := rl_m1 (by unfold CsW at z; omega)
theorem rl_ch62 {L : Int} (hL : 0 ≤ L ∧ L < 20) {q : Nat} {j : Int} (z : ChW 62 q j ∨ RgR 0 q j) : ¬ (CmW L q j ∨ MmW q j) := fun y => by
  rcases y with y | y
  · have := CmW_cls hL y; unfold ChW RgR at z; omega
  · obtain ⟨a, -, b, -, -, -, c, -⟩ := MmW_ref y; unfold ChW RgR at z; omega
theorem rl_ch66 {L : Int} (hL : 0 ≤ L ∧ L < 20) {q : Nat} {j : Int} (z : ChW 66 q j ∨ RgR 2 q j) : ¬ (CmW L q j ∨ MmW q j) := fun y => by
  rcases y with y | y
  · have := CmW_cls hL y; unfold ChW RgR at z; omega
  · obtain ⟨a, -, b, -, -, -, c, -⟩ := MmW_ref y; unfold ChW RgR at z; omega
theorem rl_cs57 {L : Int} (hL : 0 ≤ L ∧ L < 20) {q : Nat} {j : Int} (z : CsW 57 q j ∨ RwW 2 q j) : ¬ (CmW L q j ∨ MmW q j) := fun y => by
  rcases y with y | y
  · have := CmW_cls hL y; unfold CsW RwW at z; omega
  · obtain ⟨a, -, -, b, c, d, -, -⟩ := MmW_ref y; unfold CsW RwW at z; omega
theorem rl_past {L : Int} (u : 0 ≤ upL L ∧ upL L < 20) {i q : Nat} {j : Int} (hi : i < 20) (ne : (i : Int) ≠ upL L) (z : CsW (72 + 5 * i) q j) : q < 191 ∧ ¬ CmW L q j := by
  refine ⟨by unfold CsW at z; omega, fun y => ?_⟩
  unfold CmW RmW CsW at y
  unfold CsW at z
  omega
theorem rl_far {L : Int} (hL : 0 ≤ L ∧ L < 20) {q : Nat} {j : Int} (z : (decide (q < 47) || (decide (57 ≤ q) && decide (q < 70)) || (decide (172 ≤ q) && decide (q < 177)) || (decide (178 ≤ q) && decide (q < 191))) = true) : ¬ (CmW L q j ∨ MmW q j) := fun y => by
  have z : ((q < 47 ∨ (57 ≤ q ∧ q < 70)) ∨ (172 ≤ q ∧ q < 177)) ∨ (178 ≤ q ∧ q < 191) := by simpa using z
  rcases y with y | y
  · have := CmW_cls hL y; omega
  · have := (MmW_ref y).1; omega
theorem rl_ca {L : Int} (hL : 0 ≤ L ∧ L < 20) {q : Nat} {j : Int} (z : (q = 177 ∧ (j = 6 ∨ j = 7)) ∨ q = 184) : ¬ (CmW L q j ∨ MmW q j) := fun y => by
  rcases y with y | y
  · have := CmW_cls hL y; omega
  · have := (MmW_ref y).1; omega
theorem rl_up {L : Int} (hL : 0 ≤ L ∧ L < 20) : 0 ≤ upL L ∧ upL L < 20 := by unfold upL; split <;> omega
theorem rl_k {L : Int} (u : 0 ≤ upL L ∧ upL L < 20) : 72 + 5 * (upL L).toNat + 4 < 191 := by omega
theorem rl_move {M N P : Mem} {V : TV} {D A S L : Int → Int} {nets wat : Int64} (hV : VOK V) (hy : M.1 207 0 ≤ 99 ∧ (M.1 191 42 = 1 → M.1 207 2 ≤ 99)) (h : RL M V) (hc : CmR M N V D A S L nets wat) (hm : MmR N P V D A S L nets wat) : RL P V := by
  obtain ⟨r1, r2, r3, r4, r5, r6⟩ := h
  obtain ⟨c1, c2, c3, c4, c5, c6⟩ := hc
  obtain ⟨m1, m2, m3, m4, m5, m6, m7⟩ := hm
  have hL := r3.2.1
  have u := rl_up hL
  have fA : Fr (fun q j => CmW (M.1 70 1) q j ∨ MmW q j) M P := (c1.mono (fun q j z => Or.inl z)).trans (m1.mono (fun q j z => Or.inr z))
  have nc : ∀ q j, q < 191 → P.1 q j = N.1 q j ∧ P.2 q j = N.2 q j := fun q j x => m1 q j (rl_m1 x)
  have nr : ∀ q j, 191 ≤ q → N.1 q j = M.1 q j ∧ N.2 q j = M.2 q j := fun q j x => c1 q j (rl_c1 hL x)
  have e43 : N.1 191 43 = M.1 191 43 := (nr 191 43 (by decide)).1
  have rowN : ∀ b, RowEq N b M b := fun b => RowEq.fr c1 (fun q j z => rl_cw hL z)
  have f42 : P.1 191 42 = M.1 191 42 := (m1 191 42 (rl_mn rfl)).1.trans (nr 191 42 (by decide)).1
  have f6 : P.1 191 60 = M.1 191 60 := (m1 191 60 (rl_mn rfl)).1.trans (nr 191 60 (by decide)).1
  refine ⟨?_, r2.fr hy.1 fA (fun q j z => rl_ch62 hL z), ?_, ⟨?_, fun z => ?_⟩, ⟨?_, ?_, fun k a b => ?_⟩, ?_⟩
  · -- now
    have k1 : CScF P 47 V D A S L nets wat (wlV V) := c5.fr m1 (fun q j z => rl_cs (by decide) z)
    exact k1.eq (fun w x y => by show D w = P.1 212 (4 * 0 + w); rw [Int.mul_zero, Int.zero_add, m4 w x y]) (fun t x y => by
      show A t = P.1 213 (8 * 0 + t) ∧ S t = P.1 214 (8 * 0 + t) ∧ L t = P.1 215 (8 * 0 + t)
      rw [Int.mul_zero, Int.zero_add, (m5 t x y).1, (m5 t x y).2.1, (m5 t x y).2.2]
      exact ⟨rfl, rfl, rfl⟩) m6.symm m7.symm
  · clear c6 fA r1 r2 r4 r5 r6
    refine past_push hV r3 ?_ ?_ ?_ ?_ (fun i hi ne q j z => ?_) ?_
    · rw [(nc 70 1 (by decide)).1]; exact c2
    · rw [(nc 70 2 (by decide)).1]; exact c3
    · rw [m2, e43]
    · exact c4.fr m1 (fun q j z => rl_cs (rl_k u) z)
    · have g := rl_past u hi ne z
      have := c1 q j g.2
      exact ⟨(nc q j g.1).1.trans this.1, (nc q j g.1).2.trans this.2⟩
    · rw [← e43]
      rcases m3 with ⟨a, b, c⟩ | ⟨a, b, c⟩
      · exact Or.inl ⟨a, fun k x y => (b k x y).trans (rowN _), c.trans (rowN 0)⟩
      · exact Or.inr ⟨a, fun k x y => (b k x y).trans (rowN _), c.trans (rowN 0)⟩
  · rw [(fA 0 13 (rl_far hL rfl)).1, f42]; exact r4.1
  · obtain ⟨i1, i2⟩ := r4.2 (f42.symm.trans z)
    exact ⟨i1.fr hV fA (fun q j x => rl_cs57 hL x), i2.fr (hy.2 (f42.symm.trans z)) fA (fun q j x => rl_ch66 hL x)⟩
  · rw [(fA 172 5 (rl_far hL rfl)).1, f6]; exact r5.1
  · rw [(fA 172 6 (rl_far hL rfl)).1, (m1 191 61 (rl_mn rfl)).1, (nr 191 61 (by decide)).1]; exact r5.2.1
  · rw [f6] at b
    rw [(fA 173 k (rl_far hL rfl)).1, (fA 174 k (rl_far hL rfl)).1, (fA 175 k (rl_far hL rfl)).1, (m1 226 k (rl_mn rfl)).1, (nr 226 k (by decide)).1, (m1 227 k (rl_mn rfl)).1, (nr 227 k (by decide)).1, (m1 228 k (rl_mn rfl)).1, (nr 228 k (by decide)).1]
    exact r5.2.2 k a b
  · have e8 : P.1 177 8 = N.1 177 8 := (nc 177 8 (by decide)).1
    refine r6.move hV ?_ ?_ (fun q j z => (fA q j (rl_ca hL z)).1)
    · rw [e8]
      rcases c6 with c6 | ⟨c6, c7, c8⟩
      · exact Or.inl c6
      · refine Or.inr ⟨c6, fun t a b => ?_, by rw [m6]; exact c8⟩
        rw [← c7 t a b]
        show P.1 213 (8 * 0 + t) = A t
        rw [Int.mul_zero, Int.zero_add, (m5 t a b).1]
    · rw [(m1 207 0 rl_m207).1, (nr 207 0 (by decide)).1]
end
section
/-! ===== what both sides keep between calls ===== -/
def TPt (M : Mem) : Prop := (M.1 0 4 = 2 ∧ M.1 0 5 = 22) ∨ (M.1 0 4 = 22 ∧ M.1 0 5 = 2)
def TpE (M : Mem) : Prop := ∀ j, 0 ≤ j → j < M.1 0 1 → M.1 1 j = M.1 192 j
def FE (M : Mem) : Prop := M.1 0 2 = M.1 191 26 ∧ M.1 0 3 = M.1 191 27
def LI (M : Mem) : Prop := IM M ∧ (∃ V, RI M V ∧ CTx M (M.1 0 4).toNat V ∧ RL M V) ∧ TInv M ∧ TPt M ∧ M.1 0 1 = M.1 191 2 ∧ TpE M ∧ FE M
theorem ok_mono {α : Type} {P Q : α → Prop} {x : Option α} (h : Ok P x) (g : ∀ r, P r → Q r) : Ok Q x := by
  obtain ⟨r, e, hr⟩ := h
  exact ⟨r, e, g r hr⟩
theorem TpE.fr {W : Nat → Int → Prop} {M N : Mem} (h : TpE M) (hF : Fr W M N) (hd : ∀ k j, (k = 1 ∨ k = 192 ∨ (k = 0 ∧ j = 1)) → ¬ W k j) : TpE N := by
  unfold TpE
  rw [(hF 0 1 (hd _ _ (by omega))).1]
  intro j a b
  rw [(hF 1 j (hd _ _ (by omega))).1, (hF 192 j (hd _ _ (by omega))).1]
  exact h j a b
theorem FE.fr {W : Nat → Int → Prop} {M N : Mem} (h : FE M) (hF : Fr W M N) (hd : ∀ k j, ((k = 0 ∧ (j = 2 ∨ j = 3)) ∨ (k = 191 ∧ (j = 26 ∨ j = 27))) → ¬ W k j) : FE N := by
  unfold FE
  rw [(hF 0 2 (hd _ _ (by omega))).1, (hF 0 3 (hd _ _ (by omega))).1, (hF 191 26 (hd _ _ (by omega))).1, (hF 191 27 (hd _ _ (by omega))).1]
  exact h
theorem LI.T {M : Mem} (h : LI M) : M.1 0 4 = (((M.1 0 4).toNat : Nat) : Int) ∧ ((M.1 0 4).toNat = 2 ∨ (M.1 0 4).toNat = 22) := by
  have := h.2.2.2.1
  unfold TPt at this
  omega
/-- what no call but feed and text writes -/
def KpA : Nat → Int → Prop := fun k j => k ≠ 1 ∧ ¬ (k = 0 ∧ 1 ≤ j ∧ j ≤ 5) ∧ k ≠ 192 ∧ ¬ (k = 191 ∧ (j = 2 ∨ j = 26 ∨ j = 27)) ∧ (k ≤ 1 ∨ 42 ≤ k ∨ k = 15 ∨ k = 20 ∨ k = 35 ∨ k = 40)
theorem LI.two {M P : Mem} {V : TV} (h : LI M) (hX : CTx M (M.1 0 4).toNat V) (hI : IM P) (hR : RI P V) (hRL : RL P V) (hF : Fr KpA M P) : LI P := by
  have hT := h.T
  obtain ⟨-, -, h3, h4, h5, h6, h7⟩ := h
  have e : ∀ k j, ¬ KpA k j → P.1 k j = M.1 k j := fun k j z => (hF k j z).1
  have e1 := e 0 1 (by unfold KpA; omega)
  have e4 := e 0 4 (by unfold KpA; omega)
  have e5 := e 0 5 (by unfold KpA; omega)
  have e2 := e 191 2 (by unfold KpA; omega)
  refine ⟨hI, ⟨V, hR, ?_, hRL⟩, h3.fr hF (fun k j a z => by unfold KpA at z; omega), ?_, by omega, h6.fr hF (fun k j a z => by unfold KpA at z; omega), h7.fr hF (fun k j a z => by unfold KpA at z; omega)⟩
  · rw [e4]
    exact hX.fr hF (fun k j a z => by unfold CxW at a; unfold KpA at z; omega)
  · unfold TPt
    rw [e4, e5]
    exact h4
end
section
/-- the cells of RL -/
def RLd : Nat → Int → Prop := fun q j => (CsW 47 q j ∨ RwW 0 q j) ∨ (ChW 62 q j ∨ RgR 0 q j) ∨ ((q = 70 ∧ (j = 1 ∨ j = 2)) ∨ (72 ≤ q ∧ q ≤ 171) ∨ (q = 191 ∧ j = 43) ∨ ((q = 210 ∨ q = 211) ∧ 3 ≤ j) ∨ (q = 212 ∧ 12 ≤ j) ∨ ((q = 213 ∨ q = 214 ∨ q = 215) ∧ 24 ≤ j)) ∨ ((q = 0 ∧ j = 13) ∨ (q = 191 ∧ j = 42) ∨ CsW 57 q j ∨ RwW 2 q j ∨ ChW 66 q j ∨ RgR 2 q j) ∨ ((q = 172 ∧ (j = 5 ∨ j = 6)) ∨ (173 ≤ q ∧ q ≤ 175) ∨ (q = 191 ∧ (j = 60 ∨ j = 61)) ∨ (226 ≤ q ∧ q ≤ 228))
def RLc : Nat → Int → Prop := fun q j => RLd q j ∨ ((q = 177 ∧ 6 ≤ j ∧ j ≤ 8) ∨ q = 184 ∨ (q = 207 ∧ j = 0) ∨ RwW 0 q j)
theorem ImR.fr {W : Nat → Int → Prop} {M N : Mem} {V : TV} (hV : VOK V) (hy : M.1 191 42 = 1 → M.1 207 2 ≤ 99) (h : ImR M V) (hF : Fr W M N) (hd : ∀ q j, ((q = 0 ∧ j = 13) ∨ (q = 191 ∧ j = 42) ∨ CsW 57 q j ∨ RwW 2 q j ∨ ChW 66 q j ∨ RgR 2 q j) → ¬ W q j) : ImR N V := by
  have e1 := (hF 0 13 (hd _ _ (by omega))).1
  have e2 := (hF 191 42 (hd _ _ (by omega))).1
  refine ⟨by rw [e1, e2]; exact h.1, fun z => ?_⟩
  rw [e2] at z
  exact ⟨(h.2 z).1.fr hV hF (fun q j x => hd q j (by rcases x with x | x; exact Or.inr (Or.inr (Or.inl x)); exact Or.inr (Or.inr (Or.inr (Or.inl x))))), (h.2 z).2.fr (hy z) hF (fun q j x => hd q j (by rcases x with x | x; exact Or.inr (Or.inr (Or.inr (Or.inr (Or.inl x)))); exact Or.inr (Or.inr (Or.inr (Or.inr (Or.inr x))))))⟩
theorem NoR.fr {W : Nat → Int → Prop} {M N : Mem} (h : NoR M) (hF : Fr W M N) (hd : ∀ q j, ((q = 172 ∧ (j = 5 ∨ j = 6)) ∨ (173 ≤ q ∧ q ≤ 175) ∨ (q = 191 ∧ (j = 60 ∨ j = 61)) ∨ (226 ≤ q ∧ q ≤ 228)) → ¬ W q j) : NoR N := by
  have e : ∀ q j, ((q = 172 ∧ (j = 5 ∨ j = 6)) ∨ (173 ≤ q ∧ q ≤ 175) ∨ (q = 191 ∧ (j = 60 ∨ j = 61)) ∨ (226 ≤ q ∧ q ≤ 228)) → N.1 q j = M.1 q j := fun q j z => (hF q j (hd q j z)).1
  refine ⟨by rw [e 172 5 (by omega), e 191 60 (by omega)]; exact h.1, by rw [e 172 6 (by omega), e 191 61 (by omega)]; exact h.2.1, fun k a b => ?_⟩
  rw [e 191 60 (by omega)] at b
  rw [e 173 k (by omega), e 174 k (by omega), e 175 k (by omega), e 226 k (by omega), e 227 k (by omega), e 228 k (by omega)]
  exact h.2.2 k a b
theorem RL.fr0 {W : Nat → Int → Prop} {M N : Mem} {V : TV} (hV : VOK V) (hy : M.1 207 0 ≤ 99 ∧ (M.1 191 42 = 1 → M.1 207 2 ≤ 99)) (h : RL M V) (hF : Fr W M N) (hd : ∀ q j, RLd q j → ¬ W q j) (hc : CaR N V) : RL N V := by
  obtain ⟨r1, r2, r3, r4, r5, r6⟩ := h
  exact ⟨r1.fr hV hF (fun q j z => hd q j (Or.inl z)), r2.fr hy.1 hF (fun q j z => hd q j (Or.inr (Or.inl z))), r3.fr hV hF (fun q j z => hd q j (Or.inr (Or.inr (Or.inl z)))), r4.fr hV hy.2 hF (fun q j z => hd q j (Or.inr (Or.inr (Or.inr (Or.inl z))))), r5.fr hF (fun q j z => hd q j (Or.inr (Or.inr (Or.inr (Or.inr z))))), hc⟩
theorem RL.fr {W : Nat → Int → Prop} {M N : Mem} {V : TV} (hV : VOK V) (hy : M.1 207 0 ≤ 99 ∧ (M.1 191 42 = 1 → M.1 207 2 ≤ 99)) (h : RL M V) (hF : Fr W M N) (hd : ∀ q j, RLc q j → ¬ W q j) : RL N V :=
  h.fr0 hV hy hF (fun q j z => hd q j (Or.inl z)) (h.2.2.2.2.2.fr hV hF (fun q j z => hd q j (Or.inr z)))
/-- the cells of RL, flat -/
def RLf : Nat → Int → Prop := fun q j => (47 ≤ q ∧ q ≤ 51) ∨ (57 ≤ q ∧ q ≤ 70) ∨ (72 ≤ q ∧ q ≤ 171) ∨ (q = 172 ∧ (j = 5 ∨ j = 6)) ∨ (173 ≤ q ∧ q ≤ 175) ∨ (q = 0 ∧ j = 13) ∨ (q = 191 ∧ (j = 42 ∨ j = 43 ∨ j = 60 ∨ j = 61)) ∨ ((207 ≤ q ∧ q ≤ 211) ∧ j ≠ 1) ∨ (q = 212 ∧ ¬ (4 ≤ j ∧ j < 8)) ∨ ((213 ≤ q ∧ q ≤ 215) ∧ ¬ (8 ≤ j ∧ j < 16)) ∨ (216 ≤ q ∧ q ≤ 218) ∨ (226 ≤ q ∧ q ≤ 228)
theorem cs_flat {k : Nat} {q : Nat} {j : Int} (hk : k = 47 ∨ k = 57) (z : CsW k q j) : RLf q j := by
  have : (47 ≤ q ∧ q ≤ 51) ∨ (57 ≤ q ∧ q ≤ 70) := by unfold CsW at z; omega
  rcases this with h | h
  · exact Or.inl h
  · exact Or.inr (Or.inl h)
theorem ch_flat {k : Nat} {q : Nat} {j : Int} (hk : k = 62 ∨ k = 66) (z : ChW k q j) : RLf q j := by
  have : 57 ≤ q ∧ q ≤ 70 := by unfold ChW at z; omega
  exact Or.inr (Or.inl this)
theorem rw_flat {a : Int} {q : Nat} {j : Int} (ha : a = 0 ∨ a = 2) (z : RwW a q j) : RLf q j := by
  have : ((207 ≤ q ∧ q ≤ 211) ∧ j ≠ 1) ∨ (q = 212 ∧ ¬ (4 ≤ j ∧ j < 8)) ∨ ((213 ≤ q ∧ q ≤ 215) ∧ ¬ (8 ≤ j ∧ j < 16)) := by unfold RwW at z; omega
  unfold RLf
  rcases this with h | h | h
  · exact Or.inr (Or.inr (Or.inr (Or.inr (Or.inr (Or.inr (Or.inr (Or.inl h)))))))
  · exact Or.inr (Or.inr (Or.inr (Or.inr (Or.inr (Or.inr (Or.inr (Or.inr (Or.inl h))))))))
  · exact Or.inr (Or.inr (Or.inr (Or.inr (Or.inr (Or.inr (Or.inr (Or.inr (Or.inr (Or.inl h)))))))))
theorem rg_flat {a : Int} {q : Nat} {j : Int} (ha : a = 0 ∨ a = 2) (z : RgR a q j) : RLf q j := by
  have : ((207 ≤ q ∧ q ≤ 211) ∧ j ≠ 1) ∨ (216 ≤ q ∧ q ≤ 218) := by unfold RgR at z; omega
  unfold RLf
  rcases this with h | h
  · exact Or.inr (Or.inr (Or.inr (Or.inr (Or.inr (Or.inr (Or.inr (Or.inl h)))))))
  · exact Or.inr (Or.inr (Or.inr (Or.inr (Or.inr (Or.inr (Or.inr (Or.inr (Or.inr (Or.inr (Or.inl h))))))))))
theorem rld_flat {q : Nat} {j : Int} (z : RLd q j) : RLf q j := by
  unfold RLd at z
  rcases z with z | z | z | z | z
  · rcases z with z | z
    · exact cs_flat (Or.inl rfl) z
    · exact rw_flat (Or.inl rfl) z
  · rcases z with z | z
    · exact ch_flat (Or.inl rfl) z
    · exact rg_flat (Or.inl rfl) z
  · unfold RLf
    rcases z with z | z | z | z | z | z
    · exact Or.inr (Or.inl (by omega))
    · exact Or.inr (Or.inr (Or.inl z))
    · exact Or.inr (Or.inr (Or.inr (Or.inr (Or.inr (Or.inr (Or.inl (by omega)))))))
    · exact Or.inr (Or.inr (Or.inr (Or.inr (Or.inr (Or.inr (Or.inr (Or.inl (by omega))))))))
    · exact Or.inr (Or.inr (Or.inr (Or.inr (Or.inr (Or.inr (Or.inr (Or.inr (Or.inl (by omega)))))))))
    · exact Or.inr (Or.inr (Or.inr (Or.inr (Or.inr (Or.inr (Or.inr (Or.inr (Or.inr (Or.inl (by omega))))))))))
  · rcases z with z | z | z | z | z | z
    · unfold RLf; exact Or.inr (Or.inr (Or.inr (Or.inr (Or.inr (Or.inl z)))))
    · unfold RLf; exact Or.inr (Or.inr (Or.inr (Or.inr (Or.inr (Or.inr (Or.inl (by omega)))))))
    · exact cs_flat (Or.inr rfl) z
    · exact rw_flat (Or.inr rfl) z
    · exact ch_flat (Or.inr rfl) z
    · exact rg_flat (Or.inr rfl) z
  · unfold RLf
    rcases z with z | z | z | z
    · exact Or.inr (Or.inr (Or.inr (Or.inl z)))
    · exact Or.inr (Or.inr (Or.inr (Or.inr (Or.inl z))))
    · exact Or.inr (Or.inr (Or.inr (Or.inr (Or.inr (Or.inr (Or.inl (by omega)))))))
    · exact Or.inr (Or.inr (Or.inr (Or.inr (Or.inr (Or.inr (Or.inr (Or.inr (Or.inr (Or.inr (Or.inr z))))))))))
theorem RL.frf {W : Nat → Int → Prop} {M N : Mem} {V : TV} (hV : VOK V) (hy : M.1 207 0 ≤ 99 ∧ (M.1 191 42 = 1 → M.1 207 2 ≤ 99)) (h : RL M V) (hF : Fr W M N) (hd : ∀ q j, (RLf q j ∨ (q = 177 ∧ 6 ≤ j ∧ j ≤ 8) ∨ q = 184) → ¬ W q j) : RL N V :=
  h.fr hV hy hF (fun q j z => hd q j (by
    rcases z with z | z | z | z | z
    · exact Or.inl (rld_flat z)
    · exact Or.inr (Or.inl z)
    · exact Or.inr (Or.inr z)
    · exact Or.inl (rg_flat (Or.inl rfl) (by unfold RgR; omega))
    · exact Or.inl (rw_flat (Or.inl rfl) z)))
end
section
theorem RI.yr {M : Mem} {V : TV} (h : RI M V) : M.1 207 0 ≤ 99 ∧ (M.1 191 42 = 1 → M.1 207 2 ≤ 99) := ⟨h.2.2.1.2.2.1, fun z => (h.2.2.2.1.2 z).2.2.1⟩
end
section
/-- class's scratch -/
def QkW : Nat → Int → Prop := fun q j => (52 ≤ q ∧ q ≤ 56) ∨ (q = 172 ∧ j = 4) ∨ q = 176 ∨ (q = 177 ∧ ¬ (6 ≤ j ∧ j ≤ 8)) ∨ (178 ≤ q ∧ q ≤ 183) ∨ (185 ≤ q ∧ q ≤ 190) ∨ q = 231 ∨ q = 15 ∨ q = 20 ∨ q = 35 ∨ q = 40
theorem LI.q {M N : Mem} (h : LI M) (hI : IM N) (hF : Fr QkW M N) : LI N := by
  have h' := h
  obtain ⟨h1, ⟨V, h2, hX, hL⟩, -⟩ := h
  exact h'.two hX hI (h2.fr hF (fun k j a z => by unfold RIc at a; unfold QkW at z; omega)) (hL.frf h2.1.1 h2.yr hF (fun k j a z => by unfold RLf at a; unfold QkW at z; omega)) (hF.mono (fun k j z => by unfold QkW at z; unfold KpA; omega))
/-- class's scratch, with its table of votes -/
def QcW : Nat → Int → Prop := fun q j => QkW q j ∨ q = 177 ∨ q = 184
theorem LI.qc {M N : Mem} (h : LI M) (hI : IM N) (hF : Fr QcW M N) (hc : ∀ V, RI M V → CTx M (M.1 0 4).toNat V → RL M V → CaR N V) : LI N := by
  have h' := h
  obtain ⟨h1, ⟨V, h2, hX, hL⟩, -⟩ := h
  exact h'.two hX hI (h2.fr hF (fun k j a z => by unfold RIc at a; unfold QcW QkW at z; omega)) (hL.fr0 h2.1.1 h2.yr hF (fun k j a z => by have a := rld_flat a; unfold RLf at a; unfold QcW QkW at z; omega) (hc V h2 hX hL)) (hF.mono (fun k j z => by unfold QcW QkW at z; unfold KpA; omega))
end
section
/-- the reference's scratch -/
def QmW : Nat → Int → Prop := fun q j => (q = 191 ∧ j ≠ 2 ∧ j ≠ 26 ∧ j ≠ 27 ∧ j ≠ 42 ∧ j ≠ 43 ∧ j ≠ 44 ∧ j ≠ 60 ∧ j ≠ 61) ∨ CW 1 q j ∨ (219 ≤ q ∧ q ≤ 225) ∨ q = 229 ∨ q = 230
theorem LI.qm {M N : Mem} (h : LI M) (hI : IM N) (hF : Fr QmW M N) : LI N := by
  have h' := h
  obtain ⟨h1, ⟨V, h2, hX, hL⟩, -⟩ := h
  exact h'.two hX hI (h2.fr hF (fun k j a z => by unfold RIc at a; unfold QmW CW at z; omega)) (hL.frf h2.1.1 h2.yr hF (fun k j a z => by unfold RLf at a; unfold QmW CW at z; omega)) (hF.mono (fun k j z => by unfold QmW CW at z; unfold KpA; omega))
theorem LI.at0 {M : Mem} (h : LI M) : LI (setI M 191 0 0) := h.qm (h.1.setI (inr_c rfl)) (Fr.rf.setI (by unfold QmW; omega))
/-! congruence of steps -/
end
section
theorem nx_congr {V : TV} (hV : VOK V) {D D' : Int → Int} (h : ∀ w, 0 ≤ w → w < V 0 2 → D w = D' w) (nets : Int64) (wl : Int → Bool) {c : Int} (c0 : 0 ≤ c) (c1 : c < 48) : nxV V D nets wl c = nxV V D' nets wl c := by
  have ho := hV.2.2.2 c c0 c1
  have e : dnV V D c = dnV V D' c := by
    unfold dnV
    by_cases z : V 7 c < 0
    · rw [if_pos z, if_pos z]
    · rw [if_neg z, if_neg z]; exact h _ (by omega) (by omega)
  unfold nxV
  rw [e]
theorem prS_congr {f g : Int → Int} {C : Int} (hf : stepOK f C) (h : ∀ c, 0 ≤ c → c < C → f c = g c) : ∀ (n : Nat) (w : Int64) (c : Int), 0 ≤ c → c < C → prS f n w c = prS g n w c := by
  intro n
  induction n with
  | zero => intro w c _ _; rfl
  | succ n ih =>
    intro w c c0 c1
    rw [prS, prS, ← h c c0 c1]
    by_cases z : f c < 0 ∨ tb w (f c) = true
    · rw [if_pos z, if_pos z]
    · rw [if_neg z, if_neg z]
      have := hf c c0 c1
      exact ih w (f c) (by omega) this.2
theorem flS_congr {f g : Int → Int} {C : Int} {was : Int64} (hf : stepOK f C) (h : ∀ c, 0 ≤ c → c < C → f c = g c) : ∀ n : Nat, (n : Int) ≤ C → flS f was n = flS g was n := by
  intro n
  induction n with
  | zero => intro _; rfl
  | succ n ih =>
    intro hn
    rw [flS, flS, ih (by omega), prS_congr hf h _ _ _ (by omega) (by omega)]
theorem fl_congr {V : TV} (hV : VOK V) {D D' : Int → Int} (h : ∀ w, 0 ≤ w → w < V 0 2 → D w = D' w) (nets : Int64) (wl : Int → Bool) (was : Int64) : flS (nxV V D nets wl) was (cellsV V).toNat = flS (nxV V D' nets wl) was (cellsV V).toNat := by
  have hC := hV.cells
  exact flS_congr (nx_ok hV D nets wl) (fun c a b => nx_congr hV h nets wl a (by omega)) _ (by omega)
theorem c_isFree {M : Mem} {V : TV} {D A S L : Int → Int} {nets wat : Int64} (hV : VOK V) (hX : CTx M (M.1 0 4).toNat V) (h : CScF M 47 V D A S L nets wat (wlV V)) (c : Int) : t_WF_isFree M c = if opV V c then 1 else 0 := by
  have hC := hV.cells
  unfold t_WF_isFree
  simp only [qlet]
  rw [c_hasCell hX.2.1]
  by_cases a : 0 ≤ c ∧ c < cellsV V
  · have w8 := (hV.2.2.2 c a.1 (by omega)).2.2.1
    rw [if_pos a, if_neg (show ¬ (1 : Int) = 0 by decide), bitOf_tb M _ a.1 (by omega), h.2.2.2.2 c a.1 (by omega)]
    unfold wlV
    by_cases v8 : V 8 c = 1
    · rw [decide_eq_true v8, if_neg (show ¬ (if true = true then (1 : Int) else 0) = 0 by decide), if_neg (show ¬ opV V c from fun q => by have := q.2.2; omega)]
    · rw [decide_eq_false v8, if_pos (show (if false = true then (1 : Int) else 0) = 0 from rfl), if_pos (show opV V c from ⟨a.1, a.2, by omega⟩)]
  · rw [if_neg a, if_pos rfl, if_neg (show ¬ opV V c from fun q => a ⟨q.1, q.2.1⟩)]
theorem m_open01 {M : Mem} {V : TV} (h : MT0 M V) (hV : VOK V) (c : Int) : t_MO_isOpen M c = some (if opV V c then 1 else 0) := by
  rcases m_isOpen h hV c with ⟨a, b⟩ | ⟨a, b⟩
  · rw [b, if_pos a]
  · rw [b, if_neg a]
/-- from both sides' values to both sides' answers, for a change that can be undone -/
theorem bs_move {M N P : Mem} {V : TV} {D A S L : Int → Int} {nets wat : Int64} (h : LI M) (hR : RI M V) (hX : CTx M (M.1 0 4).toNat V) (hRL : RL M V) (hIP : IM P) (hRP : RI P V) (hc : CmR M N V D A S L nets wat) (hm : MmR N P V D A S L nets wat) : LI P := by
  have hL := hRL.2.2.1.2.1
  refine h.two hX hIP hRP (rl_move hR.1.1 hR.yr hRL hc hm) ((hc.1.mono (fun q j z => ?_)).trans (hm.1.mono (fun q j z => ?_)))
  · have := CmW_cls hL z
    unfold KpA
    omega
  · have := MmW_ref z
    unfold KpA
    omega
theorem riN {M N : Mem} {V : TV} {W : Nat → Int → Prop} (hR : RI M V) (hF : Fr W M N) (hd : ∀ q j, W q j → q < 191) : RI N V := hR.fr hF (fun k j a z => by have := hd k j z; unfold RIc at a; omega)
end
section
/-! vote -/
theorem bs_vote {M : Mem} (h : LI M) {x1 x2 : Int} (h1 : InR x1) (h2 : InR x2) : Ok (fun q => Ok (fun r => q.2 = r.2 ∧ LI r.1) (t_MO_vote q.1 x1 x2)) (t_WF_vote M x1 x2) := by
  have h' := h
  have hTT := h.T
  obtain ⟨hI, ⟨V, hR, hX, hRL⟩, -⟩ := h
  have hV := hR.1.1
  have hv := hV.1
  have hC := hV.cells
  have hMT := hR.1.2.1
  have hS : CScF M 47 V (DN M 0) (AT M 0) (ST M 0) (LN M 0) (M.2 210 0) (M.2 211 0) (wlV V) := hRL.1
  have hP := hRL.2.2.1
  have okC := sf_WF_vote hI h1 h2
  obtain ⟨T, hT⟩ : ∃ T, T = (M.1 0 4).toNat := ⟨_, rfl⟩
  have same : t_WF_vote M x1 x2 = some (M, 0) → t_MO_vote M x1 x2 = some (setI M 191 0 0, 0) → Ok (fun q => Ok (fun r => q.2 = r.2 ∧ LI r.1) (t_MO_vote q.1 x1 x2)) (t_WF_vote M x1 x2) := fun e1 e2 => ⟨_, e1, _, e2, rfl, h'.at0⟩
  have q0 : ∀ k j, ¬ (k = 191 ∧ j = 0) → (setI M 191 0 0).1 k j = M.1 k j := fun k j z => sI_ne z
  by_cases c1 : 0 ≤ x1 ∧ x1 < V 0 2
  rotate_left
  · refine same ?_ ?_
    · unfold t_WF_vote; rw [c_hasWard hX.1]; simp only [qlet]; rw [if_neg c1, if_pos rfl]
    · unfold t_MO_vote; simp (config := { proj := false }) only [qlet]; rw [m_isWard (hR.set0 0).1.2.1, if_neg c1, if_pos rfl]
  by_cases c2 : 0 ≤ x2 ∧ x2 ≤ 4
  rotate_left
  · refine same ?_ ?_
    · unfold t_WF_vote; rw [c_hasWard hX.1]; simp only [qlet]; rw [if_pos c1, if_neg (show ¬ (1 : Int) = 0 by decide), c_isDown, if_neg c2, if_pos rfl]
    · unfold t_MO_vote; simp (config := { proj := false }) only [qlet]; rw [m_isWard (hR.set0 0).1.2.1, if_pos c1, if_neg (show ¬ (1 : Int) = 0 by decide)]
      have ed : t_MO_isDown (setI M 191 0 0) x2 = 0 := by
        unfold t_MO_isDown
        by_cases z : x2 < 0
        · rw [if_pos z]
        · rw [if_neg z, if_pos (by omega)]
      rw [ed, if_pos rfl]
  have d1 : M.1 48 x1 = M.1 212 x1 := by
    have := hS.1 x1 c1.1 c1.2
    unfold DN at this
    rw [show (4 : Int) * 0 + x1 = x1 by omega] at this
    exact this
  have edn : ∀ N : Mem, t_MO_isDown N x2 = 1 := fun N => by unfold t_MO_isDown; rw [if_neg (by omega), if_neg (by omega)]
  by_cases c3 : M.1 212 x1 = x2
  · refine same ?_ ?_
    · unfold t_WF_vote; rw [c_hasWard hX.1]; simp only [qlet]; rw [if_pos c1, if_neg (show ¬ (1 : Int) = 0 by decide), c_isDown, if_pos c2, if_neg (show ¬ (1 : Int) = 0 by decide), look_in c1.1 (by omega), d1, if_pos c3]
    · unfold t_MO_vote; simp (config := { proj := false }) only [qlet]; rw [m_isWard (hR.set0 0).1.2.1, if_pos c1, if_neg (show ¬ (1 : Int) = 0 by decide), edn, if_neg (show ¬ (1 : Int) = 0 by decide), qguard_pos ⟨c1.1, by omega⟩, q0 212 x1 (by omega), if_pos c3]
  -- the class
  have hm43 := hP.2.2.1
  obtain ⟨r1, r2, r3, r4⟩ := c_remember hV hP.2.1 (by rw [hP.1]; exact hm43) hS
  have hcls : ∃ N, t_WF_vote M x1 x2 = some (N, 1) ∧ CmR M N V (upA (DN M 0) x1 x2) (AT M 0) (ST M 0) (LN M 0) (M.2 210 0) (flS (nxV V (upA (DN M 0) x1 x2) (M.2 210 0) (wlV V)) (M.2 211 0) (cellsV V).toNat) := by
    unfold t_WF_vote
    rw [c_hasWard hX.1]
    simp (config := { proj := false }) only [qlet]
    rw [if_pos c1, if_neg (show ¬ (1 : Int) = 0 by decide), c_isDown, if_pos c2, if_neg (show ¬ (1 : Int) = 0 by decide), look_in c1.1 (by omega), d1, if_neg c3]
    have hu : 0 ≤ upL (M.1 70 1) ∧ upL (M.1 70 1) < 20 := by have := hP.2.1; unfold upL; split <;> omega
    generalize t_Past_remember M 47 = N1 at *
    have w1 : ∀ {q j}, RmW (M.1 70 1) q j → (q = 70 ∧ (j = 1 ∨ j = 2)) ∨ (72 ≤ q ∧ q ≤ 171) := fun z => by unfold RmW CsW at z; omega
    rw [put_in (M := N1) c1.1 (by omega)]
    have f2 : Fr (fun q j => q = 48 ∧ j = x1) N1 (setI N1 48 x1 x2) := Fr.rf.setI ⟨rfl, rfl⟩
    have s1 : CScF N1 47 V (DN M 0) (AT M 0) (ST M 0) (LN M 0) (M.2 210 0) (M.2 211 0) (wlV V) := hS.fr r1 (fun q j z y => by have := w1 y; unfold CsW at z; omega)
    have s2 : CScF (setI N1 48 x1 x2) 47 V (upA (DN M 0) x1 x2) (AT M 0) (ST M 0) (LN M 0) (M.2 210 0) (M.2 211 0) (wlV V) := by
      obtain ⟨a1, a2, a3, a4, a5⟩ := s1
      refine ⟨fun w x y => ?_, fun t x y => ?_, a3, a4, a5⟩
      · by_cases e : w = x1
        · rw [e, upA_self]; exact sI_self _ _ _ _
        · rw [upA_ne _ e, (f2 (47 + 1) w (by omega)).1]; exact a1 w x y
      · rw [(f2 (47 + 2) t (by omega)).1, (f2 (47 + 3) t (by omega)).1, (f2 (47 + 4) t (by omega)).1]; exact a2 t x y
    have r4' := r4.fr f2 (fun q j z y => by unfold CsW at z; omega)
    have f12 : Fr (fun q j => RmW (M.1 70 1) q j ∨ (q = 48 ∧ j = x1)) M (setI N1 48 x1 x2) := (r1.mono (fun q j z => Or.inl z)).trans (f2.mono (fun q j z => Or.inr z))
    have v1 : (setI N1 48 x1 x2).1 70 1 = upL (M.1 70 1) := ((f2 70 1 (by omega)).1).trans r2
    have v2 : (setI N1 48 x1 x2).1 70 2 = upM (M.1 70 2) := ((f2 70 2 (by omega)).1).trans r3
    have n12 : ∀ {q : Nat} {j : Int}, (RmW (M.1 70 1) q j ∨ (q = 48 ∧ j = x1)) → q = 48 ∨ (q = 70 ∧ (j = 1 ∨ j = 2)) ∨ (72 ≤ q ∧ q ≤ 171) := fun z => by
      rcases z with z | z
      · have := w1 z; omega
      · omega
    have v8 : (setI N1 48 x1 x2).1 177 8 = M.1 177 8 := (f12 177 8 (fun y => by have := n12 y; omega)).1
    generalize setI N1 48 x1 x2 = N2 at *
    have e4 : N2.1 0 4 = M.1 0 4 := (f12 0 4 (fun y => by have := n12 y; omega)).1
    rw [e4, ← hT]
    rw [← hT] at hX hTT
    have X2 : CT0 N2 T V ∧ CTs N2 T V := ⟨CT0.fr f12 (fun q j x y z => by have := n12 z; omega) hX.1, CTs.fr f12 (fun q j x y z => by have := n12 z; omega) hX.2.1⟩
    obtain ⟨N3, n1, n2, n3⟩ := c_flood (T := T) hV hTT.2 (by omega) X2 s2
    rw [n1, obind_some]
    refine ⟨N3, rfl, ?_, ?_, ?_, r4'.fr n3 (fun q j z y => by unfold CsW at z; unfold PoW at y; omega), n2, Or.inr ⟨?_, fun t _ _ => rfl, rfl⟩⟩
    · exact (f12.mono (fun q j z => by
        rcases z with z | z
        · exact Or.inl z
        · exact Or.inr (Or.inl (by unfold CsW; omega)))).trans (n3.mono (fun q j z => Or.inr (Or.inl (by unfold PoW at z; unfold CsW; omega))))
    · rw [(n3 70 1 (by unfold PoW; omega)).1]; exact v1
    · rw [(n3 70 2 (by unfold PoW; omega)).1]; exact v2
    · rw [(n3 177 8 (by unfold PoW; omega)).1]; exact v8
  obtain ⟨N, n1, n2⟩ := hcls
  obtain ⟨u, e, hu⟩ := okC
  have : u = (N, 1) := Option.some.inj (e.symm.trans n1)
  subst this
  have hIN : IM N := hu.1
  have cls : ∀ q j, CmW (M.1 70 1) q j → q < 191 := fun q j z => by have := CmW_cls hP.2.1 z; omega
  have hRN : RI N V := riN hR n2.1 cls
  have eN : ∀ q j, 191 ≤ q → N.1 q j = M.1 q j ∧ N.2 q j = M.2 q j := fun q j x => n2.1 q j (fun z => by have := cls q j z; omega)
  -- the reference
  obtain ⟨P, p0, p1⟩ := ri_vote hRN x1 x2
  have hIP := im_MO_vote hIN h1 h2 P p0
  refine ⟨(N, 1), n1, P, p0, ?_⟩
  have hmo : ∃ Q, t_MO_vote N x1 x2 = some (Q, 1) ∧ MmR N Q V (upA (DN M 0) x1 x2) (AT M 0) (ST M 0) (LN M 0) (M.2 210 0) (flS (nxV V (upA (DN M 0) x1 x2) (M.2 210 0) (wlV V)) (M.2 211 0) (cellsV V).toNat) := by
    unfold t_MO_vote
    simp (config := { proj := false }) only [qlet]
    have hR1 : RI (setI N 191 0 0) V := hRN.set0 0
    have f0 : Fr (fun q j => q = 191 ∧ j = 0) N (setI N 191 0 0) := Fr.rf.setI ⟨rfl, rfl⟩
    have e212 : (setI N 191 0 0).1 212 x1 = M.1 212 x1 := ((f0 212 x1 (by omega)).1).trans (eN 212 x1 (by omega)).1
    rw [m_isWard hR1.1.2.1, if_pos c1, if_neg (show ¬ (1 : Int) = 0 by decide), edn, if_neg (show ¬ (1 : Int) = 0 by decide), qguard_pos ⟨c1.1, by omega⟩, e212, if_neg c3]
    have e43 : (setI N 191 0 0).1 191 43 = N.1 191 43 := (f0 191 43 (by omega)).1
    obtain ⟨Q1, a1, a2, a3, a4⟩ := m_kn (M := setI N 191 0 0) (by rw [e43, (eN 191 43 (by omega)).1]; exact hm43)
    rw [a1, obind_some, qguard_pos ⟨c1.1, by omega⟩]
    have g1 : Fr (fun q j => KW q j ∨ (q = 191 ∧ j = 0)) N Q1 := (f0.mono (fun q j z => Or.inr z)).trans (a2.mono (fun q j z => Or.inl z))
    have f2 : Fr (fun q j => q = 212 ∧ j = x1) Q1 (setI Q1 212 x1 x2) := Fr.rf.setI ⟨rfl, rfl⟩
    have v212 : (setI Q1 212 x1 x2).1 212 x1 = x2 := sI_self _ _ _ _
    have g2 : Fr (fun q j => KW q j ∨ (q = 191 ∧ j = 0) ∨ (q = 212 ∧ j = x1)) N (setI Q1 212 x1 x2) := (g1.mono (fun q j z => z.imp (fun w => w) Or.inl)).trans (f2.mono (fun q j z => Or.inr (Or.inr z)))
    have k2 : KnR (setI Q1 212 x1 x2) (setI N 191 0 0) := a4.fr f2 (by rw [e43, (eN 191 43 (by omega)).1]; exact hm43.1) (fun a q j x y z w => by unfold CW at z; omega)
    have v43 : (setI Q1 212 x1 x2).1 191 43 = upM (N.1 191 43) := by rw [(f2 191 43 (by omega)).1, a3, e43]
    generalize setI Q1 212 x1 x2 = Q2 at *
    have row : ∀ q j, ((q = 210 ∨ q = 211) ∧ j = 0) ∨ (q = 212 ∧ 0 ≤ j ∧ j < 4 ∧ j ≠ x1) ∨ ((q = 213 ∨ q = 214 ∨ q = 215) ∧ 0 ≤ j ∧ j < 8) → Q2.1 q j = M.1 q j ∧ Q2.2 q j = M.2 q j := fun q j z => by
      have := g2 q j (by unfold KW; omega)
      have e := eN q j (by omega)
      exact ⟨this.1.trans e.1, this.2.trans e.2⟩
    have hD : ∀ w, 0 ≤ w → w < V 0 2 → upA (DN M 0) x1 x2 w = DN Q2 0 w := fun w x y => by
      unfold DN
      rw [show (4 : Int) * 0 + w = w by omega]
      by_cases z : w = x1
      · rw [z, upA_self, v212]
      · rw [upA_ne _ z, (row 212 w (by omega)).1]
        rw [show (4 : Int) * 0 + w = w by omega]
    have nb : NB Q2 0 V := by
      refine ⟨hV, MT0.fr g2 (fun q j x y z => by unfold KW at z; omega) hRN.1.2.1, ?_, fun w x y => ?_⟩
      · rw [(g2 191 44 (by unfold KW; omega)).1]; exact hRN.2.1
      · have := hD w x y
        unfold DN at this
        rw [← this]
        by_cases z : w = x1
        · rw [z, upA_self]; exact c2
        · rw [upA_ne _ z]; exact hR.row0.1 w x y
    obtain ⟨Q3, b1, b2, b3⟩ := nb.floods (by omega)
    rw [b1, obind_some]
    refine ⟨Q3, rfl, (g2.mono (fun q j z => ?_)).trans (b3.mono (fun q j z => ?_)), ?_, ?_, fun w x y => ?_, fun t x y => ⟨?_, ?_, ?_⟩, ?_, ?_⟩
    · rcases z with z | z | z
      · exact Or.inl z
      · exact Or.inr (Or.inr (Or.inr z))
      · exact Or.inr (Or.inl (by unfold RwW; omega))
    · exact Or.inr (Or.inl (by unfold RwW; omega))
    · rw [(b3 191 43 (by omega)).1]; exact v43
    · have k3 := k2.fr b3 (by rw [e43, (eN 191 43 (by omega)).1]; exact hm43.1) (fun a q j x y z w => by unfold CW at z; omega)
      have rs : ∀ b, RowEq (setI N 191 0 0) b N b := fun b => RowEq.fr f0 (fun q j z w => by unfold CW at z; omega)
      unfold KnR at k3 ⊢
      rw [e43] at k3
      rcases k3 with ⟨x, y, z⟩ | ⟨x, y, z⟩
      · exact Or.inl ⟨x, fun k p q => (y k p q).trans (rs _), z.trans (rs _)⟩
      · exact Or.inr ⟨x, fun k p q => (y k p q).trans (rs _), z.trans (rs _)⟩
    · rw [(b3 212 w (by omega)).1]
      have := hD w x y
      unfold DN at this
      rw [show (4 : Int) * 0 + w = w by omega] at this
      exact this.symm
    · rw [(b3 213 t (by omega)).1, (row 213 t (by omega)).1]; unfold AT; rw [show (8 : Int) * 0 + t = t by omega]
    · rw [(b3 214 t (by omega)).1, (row 214 t (by omega)).1]; unfold ST; rw [show (8 : Int) * 0 + t = t by omega]
    · rw [(b3 215 t (by omega)).1, (row 215 t (by omega)).1]; unfold LN; rw [show (8 : Int) * 0 + t = t by omega]
    · rw [(b3 210 0 (by omega)).2]; exact (row 210 0 (by omega)).2
    · rw [b2, (row 211 0 (by omega)).2]
      unfold nxR
      rw [(row 210 0 (by omega)).2]
      exact (fl_congr hV hD _ _ _).symm
  obtain ⟨Q, q1, q2⟩ := hmo
  have ePQ : P = (Q, 1) := Option.some.inj (p0.symm.trans q1)
  subst ePQ
  exact ⟨rfl, bs_move h' hR hX hRL hIP.1 p1 n2 q2⟩
end
section
/-! ===== nets, things laid, water ===== -/
def RmR (M N : Mem) (V : TV) : Prop := Fr (RmW (M.1 70 1)) M N ∧ N.1 70 1 = upL (M.1 70 1) ∧ N.1 70 2 = upM (M.1 70 2) ∧ CScF N (72 + 5 * (upL (M.1 70 1)).toNat) V (DN M 0) (AT M 0) (ST M 0) (LN M 0) (M.2 210 0) (M.2 211 0) (wlV V) ∧ CScF N 47 V (DN M 0) (AT M 0) (ST M 0) (LN M 0) (M.2 210 0) (M.2 211 0) (wlV V)
theorem RmW_cls {L : Int} (hL : 0 ≤ L ∧ L < 20) {q : Nat} {j : Int} (h : RmW L q j) : (q = 70 ∧ (j = 1 ∨ j = 2)) ∨ (72 ≤ q ∧ q ≤ 171) := by
  have u : 0 ≤ upL L ∧ upL L < 20 := by unfold upL; split <;> omega
  unfold RmW CsW at h
  omega
theorem rm_of {M : Mem} {V : TV} (hV : VOK V) (hRL : RL M V) : RmR M (t_Past_remember M 47) V := by
  have hP := hRL.2.2.1
  have hm43 := hP.2.2.1
  obtain ⟨r1, r2, r3, r4⟩ := c_remember hV hP.2.1 (by rw [hP.1]; exact hm43) hRL.1
  exact ⟨r1, r2, r3, r4, CScF.fr hRL.1 r1 (fun q j z y => by have := RmW_cls hP.2.1 y; unfold CsW at z; omega)⟩
def ClW : Nat → Int → Prop := fun q j => CsW 47 q j ∨ (q = 177 ∧ j = 8) ∨ (52 ≤ q ∧ q ≤ 56)
theorem cm_of {M N1 N : Mem} {V : TV} {D A S L : Int → Int} {nets wat : Int64} (hL : 0 ≤ M.1 70 1 ∧ M.1 70 1 < 20) (hr : RmR M N1 V) (hF : Fr ClW N1 N) (hs : CScF N 47 V D A S L nets wat (wlV V)) (h8 : N.1 177 8 = 0 ∨ (N.1 177 8 = N1.1 177 8 ∧ (∀ t, 0 ≤ t → t < V 0 3 → A t = AT M 0 t) ∧ nets = M.2 210 0)) : CmR M N V D A S L nets wat := by
  obtain ⟨r1, r2, r3, r4, r5⟩ := hr
  have u : 0 ≤ upL (M.1 70 1) ∧ upL (M.1 70 1) < 20 := by unfold upL; split <;> omega
  refine ⟨(r1.mono (fun q j z => Or.inl z)).trans (hF.mono (fun q j z => Or.inr z)), ?_, ?_, r4.fr hF (fun q j z y => by unfold CsW at z; unfold ClW CsW at y; omega), hs, ?_⟩
  · rw [(hF 70 1 (by unfold ClW CsW; omega)).1]; exact r2
  · rw [(hF 70 2 (by unfold ClW CsW; omega)).1]; exact r3
  · rcases h8 with q | ⟨q1, q2, q3⟩
    · exact Or.inl q
    · exact Or.inr ⟨by rw [q1, (r1 177 8 (fun z => by have := RmW_cls hL z; omega)).1], q2, q3⟩
def KnS (N Q : Mem) : Prop := Fr (fun q j => KW q j ∨ (q = 191 ∧ j = 0)) N Q ∧ Q.1 191 43 = upM (N.1 191 43) ∧ KnR Q N
theorem kn_of {N : Mem} (hm : 0 ≤ N.1 191 43 ∧ N.1 191 43 ≤ 20) : ∃ Q, t_MO_keepNow (setI N 191 0 0) = some Q ∧ KnS N Q := by
  have f0 : Fr (fun q j => q = 191 ∧ j = 0) N (setI N 191 0 0) := Fr.rf.setI ⟨rfl, rfl⟩
  have e43 : (setI N 191 0 0).1 191 43 = N.1 191 43 := (f0 191 43 (by omega)).1
  obtain ⟨Q, a1, a2, a3, a4⟩ := m_kn (M := setI N 191 0 0) (by rw [e43]; exact hm)
  have rs : ∀ b, RowEq (setI N 191 0 0) b N b := fun b => RowEq.fr f0 (fun q j z w => by unfold CW at z; omega)
  refine ⟨Q, a1, (f0.mono (fun q j z => Or.inr z)).trans (a2.mono (fun q j z => Or.inl z)), by rw [a3, e43], ?_⟩
  unfold KnR at a4 ⊢
  rw [e43] at a4
  rcases a4 with ⟨x, y, z⟩ | ⟨x, y, z⟩
  · exact Or.inl ⟨x, fun k p q => (y k p q).trans (rs _), z.trans (rs _)⟩
  · exact Or.inr ⟨x, fun k p q => (y k p q).trans (rs _), z.trans (rs _)⟩
theorem kn_of1 {W : Nat → Int → Prop} {N N1 : Mem} (hm : 0 ≤ N.1 191 43 ∧ N.1 191 43 ≤ 20) (hF : Fr W N N1) (hd : ∀ q j, W q j → CW 1 q j ∨ (q = 191 ∧ j = 0)) : ∃ Q, t_MO_keepNow N1 = some Q ∧ Fr (fun q j => KW q j ∨ W q j) N Q ∧ Q.1 191 43 = upM (N.1 191 43) ∧ KnR Q N := by
  have e43 : N1.1 191 43 = N.1 191 43 := (hF 191 43 (fun z => by have := hd _ _ z; unfold CW at this; omega)).1
  obtain ⟨Q, a1, a2, a3, a4⟩ := m_kn (M := N1) (by rw [e43]; exact hm)
  have rs : ∀ b, b ≠ 1 → RowEq N1 b N b := fun b hb => RowEq.fr hF (fun q j z w => by have := hd _ _ w; unfold CW at z this; omega)
  refine ⟨Q, a1, (hF.mono (fun q j z => Or.inr z)).trans (a2.mono (fun q j z => Or.inl z)), by rw [a3, e43], ?_⟩
  unfold KnR at a4 ⊢
  rw [e43] at a4
  rcases a4 with ⟨x, y, z⟩ | ⟨x, y, z⟩
  · exact Or.inl ⟨x, fun k p q => (y k p q).trans (rs _ (by omega)), z.trans (rs _ (by omega))⟩
  · exact Or.inr ⟨x, fun k p q => (y k p q).trans (rs _ (by omega)), z.trans (rs _ (by omega))⟩
theorem mm_of {W : Nat → Int → Prop} {N Q1 Q : Mem} {V : TV} {D A S L : Int → Int} {nets wat : Int64} (hm : 0 ≤ N.1 191 43) (h1 : Fr (fun q j => KW q j ∨ W q j) N Q1) (hd : ∀ q j, W q j → CW 1 q j ∨ (q = 191 ∧ j = 0)) (h2 : Q1.1 191 43 = upM (N.1 191 43)) (h3 : KnR Q1 N) (hF : Fr (RwW 0) Q1 Q) (e1 : ∀ w, 0 ≤ w → w < V 0 2 → Q.1 212 w = D w) (e2 : ∀ t, 0 ≤ t → t < V 0 3 → Q.1 213 t = A t ∧ Q.1 214 t = S t ∧ Q.1 215 t = L t) (e3 : Q.2 210 0 = nets) (e4 : Q.2 211 0 = wat) : MmR N Q V D A S L nets wat := by
  refine ⟨(h1.mono (fun q j z => ?_)).trans (hF.mono (fun q j z => Or.inr (Or.inl z))), ?_, h3.fr hF hm (fun a q j x y z w => by unfold CW at z; unfold RwW at w; omega), e1, e2, e3, e4⟩
  · rcases z with z | z
    · exact Or.inl z
    · exact Or.inr (Or.inr (hd q j z))
  · rw [(hF 191 43 (by unfold RwW; omega)).1]; exact h2
/-- row 0 behind keepNow -/
theorem row0_of {W : Nat → Int → Prop} {M N Q : Mem} (hN : ∀ q j, 191 ≤ q → N.1 q j = M.1 q j ∧ N.2 q j = M.2 q j) (h1 : Fr (fun q j => KW q j ∨ W q j) N Q) (hd : ∀ q j, W q j → CW 1 q j ∨ (q = 191 ∧ j = 0)) : ∀ q j, RwW 0 q j → Q.1 q j = M.1 q j ∧ Q.2 q j = M.2 q j := by
  intro q j z
  have a := h1 q j (fun y => by
    rcases y with y | y
    · unfold RwW at z; unfold KW at y; omega
    · have := hd _ _ y; unfold RwW at z; unfold CW at this; omega)
  have b := hN q j (by unfold RwW at z; omega)
  exact ⟨a.1.trans b.1, a.2.trans b.2⟩
theorem at_row (M : Mem) {t : Int} : M.1 213 t = AT M 0 t ∧ M.1 214 t = ST M 0 t ∧ M.1 215 t = LN M 0 t := by
  unfold AT ST LN
  rw [show (8 : Int) * 0 + t = t by omega]
  exact ⟨rfl, rfl, rfl⟩
theorem dn_row (M : Mem) {w : Int} : M.1 212 w = DN M 0 w := by
  unfold DN
  rw [show (4 : Int) * 0 + w = w by omega]
abbrev W0 : Nat → Int → Prop := fun q j => q = 191 ∧ j = 0
theorem kn0 {N Q : Mem} (h : KnS N Q) : Fr (fun q j => KW q j ∨ W0 q j) N Q := h.1
theorem bs_net {M : Mem} (h : LI M) {x1 x2 x3 : Int} (h1 : InR x1) (h2 : InR x2) (h3 : InR x3) (hx : x2 = 1 ↔ x3 = 1) (hx2 : x2 = 0 ↔ x3 = 0) : Ok (fun r => (t_WF_net M x1 x2).2 = r.2 ∧ LI r.1) (t_MO_net (t_WF_net M x1 x2).1 x1 x3) := by
  have h' := h
  obtain ⟨hI, ⟨V, hR, hX, hRL⟩, -⟩ := h
  have hV := hR.1.1
  have hv := hV.1
  have hC := hV.cells
  have hP := hRL.2.2.1
  have hS : CScF M 47 V (DN M 0) (AT M 0) (ST M 0) (LN M 0) (M.2 210 0) (M.2 211 0) (wlV V) := hRL.1
  have hIC := (sf_WF_net hI h1 h2).1
  have same : t_WF_net M x1 x2 = (M, 0) → t_MO_net M x1 x3 = some (setI M 191 0 0, 0) → Ok (fun r => (t_WF_net M x1 x2).2 = r.2 ∧ LI r.1) (t_MO_net (t_WF_net M x1 x2).1 x1 x3) := fun e1 e2 => by
    rw [e1]; exact ⟨_, e2, rfl, h'.at0⟩
  have q210 : ∀ N : Mem, (setI N 191 0 0).2 210 0 = N.2 210 0 := fun N => rfl
  by_cases c1 : opV V x1
  rotate_left
  · refine same ?_ ?_
    · unfold t_WF_net; rw [c_isFree hV hX hS, if_neg c1]; simp only [qlet]; rw [if_pos trivial]
    · unfold t_MO_net; simp (config := { proj := false }) only [qlet]; rw [m_open01 (hR.set0 0).1.2.1 hV, if_neg c1, obind_some, if_pos rfl]
  have hw : t_WF_net M x1 x2 = if (if tb (M.2 210 0) x1 = true then (1 : Int) else 0) = x2 then (M, 0) else (setI (setL (t_Past_remember M 47) 47 5 ((t_Past_remember M 47).2 47 5 ^^^ q_lshl 1 x1)) 177 8 0, 1) := by
    unfold t_WF_net t_WF_net_L28
    rw [c_isFree hV hX hS, if_pos c1]
    simp (config := { proj := false }) only [qlet]
    rw [if_neg (show ¬ (1 : Int) = 0 by decide), bitOf_tb M _ c1.1 (by omega), hS.2.2.1]
    cases tb (M.2 210 0) x1 with
    | true => rw [if_pos (show (if true = true then (1 : Int) else 0) = 1 from rfl)]; rfl
    | false => rw [if_neg (show ¬ (if false = true then (1 : Int) else 0) = 1 by decide)]; rfl
  have hm : ∀ N : Mem, MT0 N V → N.2 210 0 = M.2 210 0 → t_MO_net N x1 x3 = if (if tb (M.2 210 0) x1 = true then (1 : Int) else 0) = x3 then some (setI N 191 0 0, 0) else obind (t_MO_keepNow (setI N 191 0 0)) fun q7 => some (setL q7 210 0 (q7.2 210 0 ^^^ q_lshl 1 x1), 1) := by
    intro N hN e
    have hN1 : MT0 (setI N 191 0 0) V := MT0.fr (W := fun q j => q = 191 ∧ j = 0) (Fr.rf.setI ⟨rfl, rfl⟩) (fun q j x y z => by omega) hN
    unfold t_MO_net t_MO_net_L33
    simp (config := { proj := false }) only [qlet]
    rw [m_open01 hN1 hV, if_pos c1, obind_some, if_neg (show ¬ (1 : Int) = 0 by decide), q210, e]
    cases z : tb (M.2 210 0) x1 with
    | true => rw [if_pos ((lshr_1 _ c1.1 (by omega)).mpr z)]; rfl
    | false => rw [if_neg (fun q => by rw [(lshr_1 _ c1.1 (by omega)).mp q] at z; cases z)]; rfl
  by_cases c2 : (if tb (M.2 210 0) x1 = true then (1 : Int) else 0) = x2
  · have c3 : (if tb (M.2 210 0) x1 = true then (1 : Int) else 0) = x3 := by
      cases z : tb (M.2 210 0) x1 with
      | true => rw [z, if_pos rfl] at c2; rw [if_pos rfl]; exact (hx.mp c2.symm).symm
      | false => rw [z, if_neg (by decide)] at c2; rw [if_neg (by decide)]; exact (hx2.mp c2.symm).symm
    exact same (by rw [hw, if_pos c2]) (by rw [hm M hR.1.2.1 rfl, if_pos c3])
  have c3 : ¬ (if tb (M.2 210 0) x1 = true then (1 : Int) else 0) = x3 := fun c3 => c2 (by
    cases z : tb (M.2 210 0) x1 with
    | true => rw [z, if_pos rfl] at c3; rw [if_pos rfl]; exact (hx.mpr c3.symm).symm
    | false => rw [z, if_neg (by decide)] at c3; rw [if_neg (by decide)]; exact (hx2.mpr c3.symm).symm)
  rw [if_neg c2] at hw
  have rm := rm_of hV hRL
  rw [hw] at hIC ⊢
  have hcm : CmR M (setI (setL (t_Past_remember M 47) 47 5 ((t_Past_remember M 47).2 47 5 ^^^ q_lshl 1 x1)) 177 8 0) V (DN M 0) (AT M 0) (ST M 0) (LN M 0) (M.2 210 0 ^^^ q_lshl 1 x1) (M.2 211 0) := by
    have r5 := rm.2.2.2.2
    rw [r5.2.2.1]
    generalize t_Past_remember M 47 = N1 at *
    have f2 : Fr (fun q j => (q = 47 ∧ j = 5) ∨ (q = 177 ∧ j = 8)) N1 (setI (setL N1 47 5 (M.2 210 0 ^^^ q_lshl 1 x1)) 177 8 0) := (Fr.rf.setL (by omega)).setI (by omega)
    refine cm_of hP.2.1 rm (f2.mono (fun q j z => by unfold ClW CsW; omega)) ?_ (Or.inl (sI_self _ _ _ _))
    obtain ⟨a1, a2, a3, a4, a5⟩ := r5
    refine ⟨fun w x y => ?_, fun t x y => ?_, ?_, ?_, fun c x y => ?_⟩
    · rw [(f2 (47 + 1) w (by omega)).1]; exact a1 w x y
    · rw [(f2 (47 + 2) t (by omega)).1, (f2 (47 + 3) t (by omega)).1, (f2 (47 + 4) t (by omega)).1]; exact a2 t x y
    · rw [sI_snd, sL_self]
    · rw [(f2 47 6 (by omega)).2]; exact a4
    · rw [(f2 47 4 (by omega)).2]; exact a5 c x y
  generalize setI (setL (t_Past_remember M 47) 47 5 ((t_Past_remember M 47).2 47 5 ^^^ q_lshl 1 x1)) 177 8 0 = N at *
  have cls : ∀ q j, CmW (M.1 70 1) q j → q < 191 := fun q j z => by have := CmW_cls hP.2.1 z; omega
  have hRN : RI N V := riN hR hcm.1 cls
  have eN : ∀ q j, 191 ≤ q → N.1 q j = M.1 q j ∧ N.2 q j = M.2 q j := fun q j x => hcm.1 q j (fun z => by have := cls q j z; omega)
  obtain ⟨P, p0, p1⟩ := ri_net hRN x1 x3
  have hIP := im_MO_net hIC h1 h3 P p0
  have p0' := p0
  rw [hm N hRN.1.2.1 (eN 210 0 (by omega)).2, if_neg c3] at p0'
  have hm43 : 0 ≤ N.1 191 43 ∧ N.1 191 43 ≤ 20 := by rw [(eN 191 43 (by omega)).1]; exact hP.2.2.1
  obtain ⟨Q, a1, a2⟩ := kn_of hm43
  rw [a1, obind_some] at p0'
  have eP := Option.some.inj p0'
  refine ⟨P, p0, by rw [← eP], bs_move h' hR hX hRL hIP.1 p1 hcm ?_⟩
  have r0 := row0_of eN (kn0 a2) (fun q j z => Or.inr z)
  have f3 : Fr (fun q j => q = 210 ∧ j = 0) Q (setL Q 210 0 (Q.2 210 0 ^^^ q_lshl 1 x1)) := Fr.rf.setL ⟨rfl, rfl⟩
  rw [← eP]
  refine mm_of hm43.1 (kn0 a2) (fun q j z => Or.inr z) a2.2.1 a2.2.2 (f3.mono (fun q j z => by unfold RwW; omega)) (fun w x y => ?_) (fun t x y => ?_) ?_ ?_
  · rw [(f3 212 w (by omega)).1, (r0 212 w (by unfold RwW; omega)).1]; exact dn_row M
  · rw [(f3 213 t (by omega)).1, (r0 213 t (by unfold RwW; omega)).1, (f3 214 t (by omega)).1, (r0 214 t (by unfold RwW; omega)).1, (f3 215 t (by omega)).1, (r0 215 t (by unfold RwW; omega)).1]; exact at_row M
  · show (setL Q 210 0 (Q.2 210 0 ^^^ q_lshl 1 x1)).2 210 0 = _
    rw [sL_self, (r0 210 0 (by unfold RwW; omega)).2]
  · rw [(f3 211 0 (by omega)).2]; exact (r0 211 0 (by unfold RwW; omega)).2
end
