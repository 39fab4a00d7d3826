/-! ===== the class's scenes: copies, water, beats ===== -/
def CsW (k : Nat) : Nat → Int → Prop := fun q j => (q = k ∧ 4 ≤ j ∧ j ≤ 6) ∨ (k + 1 ≤ q ∧ q ≤ k + 4)
def CScF (M : Mem) (k : Nat) (V : TV) (D A S L : Int → Int) (nets wat : Int64) (wl : Int → Bool) : Prop := (∀ w, 0 ≤ w → w < V 0 2 → M.1 (k + 1) w = D w) ∧ (∀ t, 0 ≤ t → t < V 0 3 → M.1 (k + 2) t = A t ∧ M.1 (k + 3) t = S t ∧ M.1 (k + 4) t = L t) ∧ M.2 k 5 = nets ∧ M.2 k 6 = wat ∧ (∀ c, 0 ≤ c → c < 48 → tb (M.2 k 4) c = wl c)
theorem CScF.fr {W : Nat → Int → Prop} {M N : Mem} {k : Nat} {V : TV} {D A S L : Int → Int} {nets wat : Int64} {wl : Int → Bool} (h : CScF M k V D A S L nets wat wl) (hF : Fr W M N) (hd : ∀ q j, CsW k q j → ¬ W q j) : CScF N k V D A S L nets wat wl := by
  obtain ⟨h1, h2, h3, h4, h5⟩ := h
  refine ⟨fun w a b => ?_, fun t a b => ⟨?_, ?_, ?_⟩, ?_, ?_, fun c a b => ?_⟩
  · rw [(hF (k + 1) w (hd _ _ (by unfold CsW; omega))).1]; exact h1 w a b
  · rw [(hF (k + 2) t (hd _ _ (by unfold CsW; omega))).1]; exact (h2 t a b).1
  · rw [(hF (k + 3) t (hd _ _ (by unfold CsW; omega))).1]; exact (h2 t a b).2.1
  · rw [(hF (k + 4) t (hd _ _ (by unfold CsW; omega))).1]; exact (h2 t a b).2.2
  · rw [(hF k 5 (hd _ _ (by unfold CsW; omega))).2]; exact h3
  · rw [(hF k 6 (hd _ _ (by unfold CsW; omega))).2]; exact h4
  · rw [(hF k 4 (hd _ _ (by unfold CsW; omega))).2]; exact h5 c a b
theorem CScF.sc {M : Mem} {k : Nat} {V : TV} {D A S L : Int → Int} {nets wat : Int64} {wl : Int → Bool} (h : CScF M k V D A S L nets wat wl) : CSc M k V D A nets wl := ⟨h.1, fun t a b => (h.2.1 t a b).1, h.2.2.1, h.2.2.2.2⟩
theorem CScF.eq {M : Mem} {k : Nat} {V : TV} {D A S L D' A' S' L' : Int → Int} {nets wat nets' wat' : Int64} {wl : Int → Bool} (h : CScF M k V D A S L nets wat wl) (hD : ∀ w, 0 ≤ w → w < V 0 2 → D w = D' w) (hA : ∀ t, 0 ≤ t → t < V 0 3 → A t = A' t ∧ S t = S' t ∧ L t = L' t) (hn : nets = nets') (hw : wat = wat') : CScF M k V D' A' S' L' nets' wat' wl := by
  obtain ⟨h1, h2, h3, h4, h5⟩ := h
  refine ⟨fun w a b => (h1 w a b).trans (hD w a b), fun t a b => ⟨(h2 t a b).1.trans (hA t a b).1, (h2 t a b).2.1.trans (hA t a b).2.1, (h2 t a b).2.2.trans (hA t a b).2.2⟩, h3.trans hn, h4.trans hw, h5⟩
theorem c_scopy {M : Mem} {k0 k1 : Nat} {V : TV} {D A S L : Int → Int} {nets wat : Int64} {wl : Int → Bool} (hV : VOK V) (hne : k1 + 4 < k0 ∨ k0 + 4 < k1) (h : CScF M k1 V D A S L nets wat wl) : CScF (t_Scene_copy M k0 k1) k0 V D A S L nets wat wl ∧ Fr (CsW k0) M (t_Scene_copy M k0 k1) := by
  have hv := hV.1
  have q4 : q_min ((4 : Nat) : Int) ((4 : Nat) : Int) = 4 := rfl
  have q8 : q_min ((8 : Nat) : Int) ((8 : Nat) : Int) = 8 := rfl
  unfold t_Scene_copy t_WF_copyRow
  simp (config := { proj := false }) only [qlet]
  rw [q4, q8]
  obtain ⟨h1, h2, h3, h4, h5⟩ := h
  obtain ⟨M1, e1⟩ : ∃ M1, M1 = cpyM M (k1 + 1) (k0 + 1) 4 := ⟨_, rfl⟩
  rw [← e1]
  have f1 : Fr (fun q _ => q = k0 + 1) M M1 := by rw [e1]; exact Fr.rf.cpy (fun j => rfl)
  have v1 : ∀ w, 0 ≤ w → w < 4 → M1.1 (k0 + 1) w = M.1 (k1 + 1) w := fun w a b => by rw [e1]; exact cpy_get a b
  obtain ⟨M2, e2⟩ : ∃ M2, M2 = cpyM M1 (k1 + 2) (k0 + 2) 8 := ⟨_, rfl⟩
  rw [← e2]
  have f2 : Fr (fun q _ => q = k0 + 2) M1 M2 := by rw [e2]; exact Fr.rf.cpy (fun j => rfl)
  have v2 : ∀ w, 0 ≤ w → w < 8 → M2.1 (k0 + 2) w = M1.1 (k1 + 2) w := fun w a b => by rw [e2]; exact cpy_get a b
  obtain ⟨M3, e3⟩ : ∃ M3, M3 = cpyM M2 (k1 + 3) (k0 + 3) 8 := ⟨_, rfl⟩
  rw [← e3]
  have f3 : Fr (fun q _ => q = k0 + 3) M2 M3 := by rw [e3]; exact Fr.rf.cpy (fun j => rfl)
  have v3 : ∀ w, 0 ≤ w → w < 8 → M3.1 (k0 + 3) w = M2.1 (k1 + 3) w := fun w a b => by rw [e3]; exact cpy_get a b
  obtain ⟨M4, e4⟩ : ∃ M4, M4 = cpyM M3 (k1 + 4) (k0 + 4) 8 := ⟨_, rfl⟩
  rw [← e4]
  have f4 : Fr (fun q _ => q = k0 + 4) M3 M4 := by rw [e4]; exact Fr.rf.cpy (fun j => rfl)
  have v4 : ∀ w, 0 ≤ w → w < 8 → M4.1 (k0 + 4) w = M3.1 (k1 + 4) w := fun w a b => by rw [e4]; exact cpy_get a b
  have fM : Fr (fun q _ => k0 + 1 ≤ q ∧ q ≤ k0 + 4) M M4 := (((f1.mono (fun q j z => by omega)).trans (f2.mono (fun q j z => by omega))).trans (f3.mono (fun q j z => by omega))).trans (f4.mono (fun q j z => by omega))
  have g4 : M4.2 k1 4 = M.2 k1 4 := (fM k1 4 (by omega)).2
  have g5 : (setL M4 k0 4 (M4.2 k1 4)).2 k1 5 = M.2 k1 5 := by rw [sL_ne (by omega)]; exact (fM k1 5 (by omega)).2
  rw [g5, g4]
  have g6 : (setL (setL M4 k0 4 (M.2 k1 4)) k0 5 (M.2 k1 5)).2 k1 6 = M.2 k1 6 := by rw [sL_ne (by omega), sL_ne (by omega)]; exact (fM k1 6 (by omega)).2
  rw [g6]
  have fE : Fr (CsW k0) M (setL (setL (setL M4 k0 4 (M.2 k1 4)) k0 5 (M.2 k1 5)) k0 6 (M.2 k1 6)) := (((fM.mono (fun q j z => by unfold CsW; omega)).setL (by unfold CsW; omega)).setL (by unfold CsW; omega)).setL (by unfold CsW; omega)
  refine ⟨⟨fun w a b => ?_, fun t a b => ⟨?_, ?_, ?_⟩, ?_, ?_, fun c a b => ?_⟩, fE⟩
  · rw [sL_fst, sL_fst, sL_fst, (f4 _ _ (by omega)).1, (f3 _ _ (by omega)).1, (f2 _ _ (by omega)).1, v1 w a (by omega)]; exact h1 w a b
  · rw [sL_fst, sL_fst, sL_fst, (f4 _ _ (by omega)).1, (f3 _ _ (by omega)).1, v2 t a (by omega), (f1 _ _ (by omega)).1]; exact (h2 t a b).1
  · rw [sL_fst, sL_fst, sL_fst, (f4 _ _ (by omega)).1, v3 t a (by omega), (f2 _ _ (by omega)).1, (f1 _ _ (by omega)).1]; exact (h2 t a b).2.1
  · rw [sL_fst, sL_fst, sL_fst, v4 t a (by omega), (f3 _ _ (by omega)).1, (f2 _ _ (by omega)).1, (f1 _ _ (by omega)).1]; exact (h2 t a b).2.2
  · rw [sL_ne (by omega), sL_self]; exact h3
  · rw [sL_self]; exact h4
  · rw [sL_ne (by omega), sL_ne (by omega), sL_self]; exact h5 c a b
/-! water -/
def PoW (k : Nat) : Nat → Int → Prop := fun q j => q = k ∧ j = 6
theorem c_pour_loop {M : Mem} {k T : Nat} {x2 C : Int} {f : Int → Int} (hC : C ≤ 48) (hf : stepOK f C) (hN : ∀ c, 0 ≤ c → c < C → t_Scene_nextOf M k T c = f c) : ∀ (n fu : Nat) (c v : Int), v + (n : Int) = 49 → 0 ≤ v → n < fu → 0 ≤ c → c < C → ∃ N, t_Scene_pourOne_L5 k T x2 fu M c v = some (N, (prS f n (M.2 k 6) c).2) ∧ N.2 k 6 = (prS f n (M.2 k 6) c).1 ∧ Fr (PoW k) M N := by
  intro n
  induction n with
  | zero =>
    intro fu c v g0 g1 g2 c0 c1
    obtain ⟨g, rfl⟩ : ∃ g, fu = g + 1 := ⟨fu - 1, by omega⟩
    rw [t_Scene_pourOne_L5, if_pos (by omega)]
    exact ⟨M, rfl, rfl, Fr.rf⟩
  | succ n ih =>
    intro fu c v g0 g1 g2 c0 c1
    obtain ⟨g, rfl⟩ : ∃ g, fu = g + 1 := ⟨fu - 1, by omega⟩
    have hs := hf c c0 c1
    rw [t_Scene_pourOne_L5, if_neg (by omega), hN c c0 c1, w32_id (x := v + 1) (by unfold InR; omega)]
    simp only [qlet]
    rw [prS]
    have stay : ∃ N, t_Scene_pourOne_L38 k T x2 M c = some (N, (if tb (M.2 k 6) c = true then (M.2 k 6, (0 : Int)) else (M.2 k 6 ||| q_lshl 1 c, 1)).2) ∧ N.2 k 6 = (if tb (M.2 k 6) c = true then (M.2 k 6, (0 : Int)) else (M.2 k 6 ||| q_lshl 1 c, 1)).1 ∧ Fr (PoW k) M N := by
      unfold t_Scene_pourOne_L38 t_Scene_pourOne_L54
      simp (config := { proj := false }) only [qlet]
      rw [bitOf_tb M _ c0 (by omega)]
      cases e : tb (M.2 k 6) c with
      | true =>
        rw [if_pos rfl, if_pos rfl, if_neg (show ¬ (1 : Int) = 0 by decide)]
        exact ⟨_, rfl, by rw [sL_self]; exact or_same _ c0 (by omega) e, Fr.rf.setL ⟨rfl, rfl⟩⟩
      | false =>
        rw [if_neg (show ¬ false = true by decide), if_neg (show ¬ false = true by decide), if_pos rfl]
        exact ⟨_, rfl, sL_self _ _ _ _, Fr.rf.setL ⟨rfl, rfl⟩⟩
    by_cases h1 : f c < 0
    · rw [if_pos h1, if_pos (Or.inl h1)]
      exact stay
    · rw [if_neg h1, bitOf_tb M _ (by omega) (by omega)]
      cases e : tb (M.2 k 6) (f c) with
      | true =>
        rw [if_pos (show (if true = true then (1 : Int) else 0) = 1 from rfl), if_pos (show f c < 0 ∨ true = true from Or.inr rfl)]
        exact stay
      | false =>
        rw [if_neg (show ¬ (if false = true then (1 : Int) else 0) = 1 by decide), if_neg (show ¬ (f c < 0 ∨ false = true) from fun z => by rcases z with z | z; exact h1 z; exact absurd z (by decide))]
        exact ih g (f c) (v + 1) (by omega) (by omega) (by omega) (by omega) hs.2
theorem c_pourOne {M : Mem} {k T : Nat} {x2 C : Int} {f : Int → Int} (hC : C ≤ 48) (hf : stepOK f C) (hN : ∀ c, 0 ≤ c → c < C → t_Scene_nextOf M k T c = f c) (c0 : 0 ≤ x2) (c1 : x2 < C) : ∃ N, t_Scene_pourOne M k T x2 = some (N, (prS f 49 (M.2 k 6) x2).2) ∧ N.2 k 6 = (prS f 49 (M.2 k 6) x2).1 ∧ Fr (PoW k) M N :=
  c_pour_loop hC hf hN 49 FU x2 0 (by omega) (by omega) (fu_big (by omega)) c0 c1
theorem c_anew_loop {M0 : Mem} {k T : Nat} {C : Int} {f : Int → Int} {was : Int64} (hC : C ≤ 48) (hf : stepOK f C) (hN : ∀ M, Fr (PoW k) M0 M → M.1 T 13 = C ∧ ∀ c, 0 ≤ c → c < C → t_Scene_nextOf M k T c = f c) : ∀ (n i fu : Nat) (M : Mem), (i : Int) + (n : Int) = C → n < fu → Fr (PoW k) M0 M → M.2 k 6 = flS f was i → ∃ N, t_Scene_pourAnew_L13 k T fu M was (i : Int) = some N ∧ N.2 k 6 = flS f was C.toNat ∧ Fr (PoW k) M0 N := by
  intro n
  induction n with
  | zero =>
    intro i fu M g0 g1 hF hw
    obtain ⟨g, rfl⟩ : ∃ g, fu = g + 1 := ⟨fu - 1, by omega⟩
    rw [t_Scene_pourAnew_L13, (hN M hF).1, if_pos (by omega)]
    exact ⟨M, rfl, by rw [hw, show C.toNat = i by omega], hF⟩
  | succ n ih =>
    intro i fu M g0 g1 hF hw
    obtain ⟨g, rfl⟩ : ∃ g, fu = g + 1 := ⟨fu - 1, by omega⟩
    rw [t_Scene_pourAnew_L13, (hN M hF).1, if_neg (by omega), bitOf_tb M _ (by omega) (by omega)]
    simp only [qlet]
    unfold t_Scene_pourAnew_L40
    rw [w32_succ (by omega)]
    cases e : tb was (i : Int) with
    | true =>
      rw [if_pos (show (if true = true then (1 : Int) else 0) = 1 from rfl)]
      obtain ⟨P, p1, p2, p3⟩ := c_pourOne (M := M) (x2 := (i : Int)) hC hf (hN M hF).2 (by omega) (by omega)
      rw [p1, obind_some]
      refine ih (i + 1) g P (by omega) (by omega) (hF.trans p3) ?_
      rw [p2, hw, flS, if_pos e]
    | false =>
      rw [if_neg (show ¬ (if false = true then (1 : Int) else 0) = 1 by decide)]
      refine ih (i + 1) g M (by omega) (by omega) hF ?_
      rw [hw, flS, if_neg (by rw [e]; decide)]
section SC
variable {M : Mem} {T k : Nat} {V : TV} {D A S L : Int → Int} {nets wat : Int64} {wl : Int → Bool}
theorem CScF.next (hV : VOK V) (hX : CT0 M T V ∧ CTs M T V) (h : CScF M k V D A S L nets wat wl) {c : Int} (h0 : 0 ≤ c) (h1 : c < cellsV V) : t_Scene_nextOf M k T c = nxV V D nets wl c := c_next hX.1 hX.2 hV h.sc h0 h1
theorem c_flood (hV : VOK V) (hT : T = 2 ∨ T = 22) (hk : 47 ≤ k) (hX : CT0 M T V ∧ CTs M T V) (h : CScF M k V D A S L nets wat wl) : ∃ N, t_Scene_pourAnew M k T = some N ∧ CScF N k V D A S L nets (flS (nxV V D nets wl) wat (cellsV V).toNat) wl ∧ Fr (PoW k) M N := by
  have hC := hV.cells
  unfold t_Scene_pourAnew
  simp (config := { proj := false }) only [qlet]
  have f0 : Fr (PoW k) M (setL M k 6 0) := Fr.rf.setL ⟨rfl, rfl⟩
  have hN : ∀ N, Fr (PoW k) (setL M k 6 0) N → N.1 T 13 = cellsV V ∧ ∀ c, 0 ≤ c → c < cellsV V → t_Scene_nextOf N k T c = nxV V D nets wl c := by
    intro N hF
    have fN := f0.trans hF
    refine ⟨?_, fun c a b => ?_⟩
    · rw [(fN T 13 (by unfold PoW; omega)).1]; exact hX.2.1
    · have hcs : CSc N k V D A nets wl := by
        have hs := h.sc
        refine ⟨fun w x y => ?_, fun t x y => ?_, ?_, fun q x y => ?_⟩
        · rw [(fN (k + 1) w (by unfold PoW; omega)).1]; exact hs.1 w x y
        · rw [(fN (k + 2) t (by unfold PoW; omega)).1]; exact hs.2.1 t x y
        · rw [(fN k 5 (by unfold PoW; omega)).2]; exact hs.2.2.1
        · rw [(fN k 4 (by unfold PoW; omega)).2]; exact hs.2.2.2 q x y
      exact c_next (CT0.fr fN (fun q j x y z => by unfold PoW at z; omega) hX.1) (CTs.fr fN (fun q j x y z => by unfold PoW at z; omega) hX.2) hV hcs a b
  obtain ⟨N, n1, n2, n3⟩ := c_anew_loop (was := M.2 k 6) (by omega) (nx_ok hV D nets wl) hN (cellsV V).toNat 0 FU (setL M k 6 0) (by omega) (fu_big (by omega)) Fr.rf (by rw [sL_self]; rfl)
  have fN := f0.trans n3
  obtain ⟨h1, h2, h3, h4, h5⟩ := h
  refine ⟨N, n1, ⟨fun w x y => ?_, fun t x y => ⟨?_, ?_, ?_⟩, ?_, ?_, fun c x y => ?_⟩, fN⟩
  · rw [(fN (k + 1) w (by unfold PoW; omega)).1]; exact h1 w x y
  · rw [(fN (k + 2) t (by unfold PoW; omega)).1]; exact (h2 t x y).1
  · rw [(fN (k + 3) t (by unfold PoW; omega)).1]; exact (h2 t x y).2.1
  · rw [(fN (k + 4) t (by unfold PoW; omega)).1]; exact (h2 t x y).2.2
  · rw [(fN k 5 (by unfold PoW; omega)).2]; exact h3
  · rw [n2, h4]
  · rw [(fN k 4 (by unfold PoW; omega)).2]; exact h5 c x y
/-! things -/
theorem c_thingIn (hV : VOK V) (hX : CT0 M T V ∧ CTs M T V) (hA : ∀ t, 0 ≤ t → t < V 0 3 → M.1 (k + 2) t = A t) (c : Int) : t_Scene_thingIn M k T c = some (fI (fnd (fun a => A (a : Int)) c (V 0 3).toNat)) := by
  have hv := hV.1
  unfold t_Scene_thingIn
  have ix := indexOf_eq (M := M) (r := k + 2) (N := 8) (p := fun a => A (a : Int)) (v := c) (len := (V 0 3).toNat) (by omega) (by omega) (fun a ha => hA _ (by omega) (by omega))
  rw [Int.toNat_of_nonneg hv.2.2.2.2.2.2.1] at ix
  rw [hX.1.1.2.2.2.1, ix, obind_some]
  rfl
def BtW (k : Nat) : Nat → Int → Prop := fun q _ => k + 2 ≤ q ∧ q ≤ k + 4
theorem c_beat_loop {M0 : Mem} {x2 : Int} (hV : VOK V) (hT : T = 2 ∨ T = 22) (hk : 47 ≤ k) (hX : CT0 M0 T V ∧ CTs M0 T V) (hA : ∀ t, 0 ≤ t → t < V 0 3 → -1 ≤ A t ∧ A t < cellsV V) : ∀ (n t fu : Nat) (M : Mem), (t : Int) + (n : Int) = V 0 3 → n < fu → Fr (BtW k) M0 M → CScF M k V D (btS V (nxV V D nets wl) (decide (x2 ≠ 0)) A S L t).1 (btS V (nxV V D nets wl) (decide (x2 ≠ 0)) A S L t).2.1 (btS V (nxV V D nets wl) (decide (x2 ≠ 0)) A S L t).2.2.1 nets wat wl →
    ∃ N, t_Scene_beat_L5 k T x2 fu M (btS V (nxV V D nets wl) (decide (x2 ≠ 0)) A S L t).2.2.2 (t : Int) = some (N, (btS V (nxV V D nets wl) (decide (x2 ≠ 0)) A S L (V 0 3).toNat).2.2.2) ∧ CScF N k V D (btS V (nxV V D nets wl) (decide (x2 ≠ 0)) A S L (V 0 3).toNat).1 (btS V (nxV V D nets wl) (decide (x2 ≠ 0)) A S L (V 0 3).toNat).2.1 (btS V (nxV V D nets wl) (decide (x2 ≠ 0)) A S L (V 0 3).toNat).2.2.1 nets wat wl ∧ Fr (BtW k) M0 N := by
  have hv := hV.1
  have hC := hV.cells
  have hf := nx_ok hV D nets wl
  intro n
  induction n with
  | zero =>
    intro t fu M g0 g1 hF h
    obtain ⟨g, rfl⟩ : ∃ g, fu = g + 1 := ⟨fu - 1, by omega⟩
    have e15 : M.1 T 15 = V 0 3 := ((hF T 15 (by unfold BtW; omega)).1).trans hX.1.1.2.2.2.1
    rw [t_Scene_beat_L5, e15, if_pos (by omega)]
    rw [show (V 0 3).toNat = t by omega]
    exact ⟨M, rfl, h, hF⟩
  | succ n ih =>
    intro t fu M g0 g1 hF h
    obtain ⟨g, rfl⟩ : ∃ g, fu = g + 1 := ⟨fu - 1, by omega⟩
    have hX' : CT0 M T V ∧ CTs M T V := ⟨CT0.fr hF (fun q j x y z => by unfold BtW at z; omega) hX.1, CTs.fr hF (fun q j x y z => by unfold BtW at z; omega) hX.2⟩
    have e15 : M.1 T 15 = V 0 3 := hX'.1.1.2.2.2.1
    have hr := btS_rng (V := V) (f := nxV V D nets wl) (way := decide (x2 ≠ 0)) (A := A) (S := S) (L := L) (C := cellsV V) hf hA t (by omega) (t : Int) (by omega) (by omega)
    have hn := btS_n (V := V) (f := nxV V D nets wl) (way := decide (x2 ≠ 0)) (A := A) (S := S) (L := L) t
    obtain ⟨a1, a2, a3⟩ := h.2.1 (t : Int) (by omega) (by omega)
    have hfr := ih (t + 1) g
    rw [btS] at hfr
    rw [t_Scene_beat_L5, e15, if_neg (by omega), look_in (by omega) (by omega), a1]
    simp only [qlet]
    generalize hb : btS V (nxV V D nets wl) (decide (x2 ≠ 0)) A S L t = b at *
    have stay : ∀ (b' : BT), b' = b → (b' = b → ∃ N, t_Scene_beat_L5 k T x2 g M b.2.2.2 ((t + 1 : Nat) : Int) = some (N, (btS V (nxV V D nets wl) (decide (x2 ≠ 0)) A S L (V 0 3).toNat).2.2.2) ∧ CScF N k V D (btS V (nxV V D nets wl) (decide (x2 ≠ 0)) A S L (V 0 3).toNat).1 (btS V (nxV V D nets wl) (decide (x2 ≠ 0)) A S L (V 0 3).toNat).2.1 (btS V (nxV V D nets wl) (decide (x2 ≠ 0)) A S L (V 0 3).toNat).2.2.1 nets wat wl ∧ Fr (BtW k) M0 N) → True := fun _ _ _ => trivial
    clear stay
    unfold t_Scene_beat_L41 t_Scene_beat_L131
    rw [w32_succ (by omega)]
    by_cases c1 : b.1 (t : Int) < 0
    · rw [if_neg (show ¬ 0 ≤ b.1 (t : Int) by omega), if_pos (show (-1 : Int) < 0 by decide)]
      rw [if_pos c1] at hfr
      exact hfr M (by omega) (by omega) hF h
    · rw [if_neg c1] at hfr
      rw [if_pos (show 0 ≤ b.1 (t : Int) by omega), h.next hV hX' (by omega) hr.2]
      have hs := hf (b.1 (t : Int)) (by omega) hr.2
      by_cases c2 : nxV V D nets wl (b.1 (t : Int)) < 0
      · rw [if_pos c2] at hfr
        rw [if_pos c2]
        exact hfr M (by omega) (by omega) hF h
      · rw [if_neg c2] at hfr
        rw [if_neg c2, c_thingIn hV hX' (fun t a b => (h.2.1 t a b).1), obind_some]
        -- the step itself
        have move : ∀ (P : Mem), P = setI (setI (setI M (k + 2) (t : Int) (nxV V D nets wl (b.1 (t : Int)))) (k + 3) (t : Int) (w32 (b.2.1 (t : Int) + 1))) (k + 4) (t : Int) (w32 (b.2.2.1 (t : Int) + lnV V (b.1 (t : Int)) (nxV V D nets wl (b.1 (t : Int))))) → CScF P k V D (upA b.1 (t : Int) (nxV V D nets wl (b.1 (t : Int)))) (upA b.2.1 (t : Int) (w32 (b.2.1 (t : Int) + 1))) (upA b.2.2.1 (t : Int) (w32 (b.2.2.1 (t : Int) + lnV V (b.1 (t : Int)) (nxV V D nets wl (b.1 (t : Int)))))) nets wat wl ∧ Fr (BtW k) M0 P := by
          intro P eP
          have fP : Fr (fun q j => k + 2 ≤ q ∧ q ≤ k + 4 ∧ j = (t : Int)) M P := by rw [eP]; exact ((Fr.rf.setI (by omega)).setI (by omega)).setI (by omega)
          obtain ⟨h1, h2, h3, h4, h5⟩ := h
          refine ⟨⟨fun w x y => ?_, fun u x y => ?_, ?_, ?_, fun c x y => ?_⟩, hF.trans (fP.mono (fun q j z => by unfold BtW; omega))⟩
          · rw [(fP (k + 1) w (by omega)).1]; exact h1 w x y
          · by_cases e : u = (t : Int)
            · rw [e, upA_self, upA_self, upA_self, eP]
              refine ⟨?_, ?_, ?_⟩
              · rw [sI_ne (by omega), sI_ne (by omega), sI_self]
              · rw [sI_ne (by omega), sI_self]
              · rw [sI_self]
            · rw [upA_ne _ e, upA_ne _ e, upA_ne _ e, (fP (k + 2) u (by omega)).1, (fP (k + 3) u (by omega)).1, (fP (k + 4) u (by omega)).1]
              exact h2 u x y
          · rw [(fP k 5 (by omega)).2]; exact h3
          · rw [(fP k 6 (by omega)).2]; exact h4
          · rw [(fP k 4 (by omega)).2]; exact h5 c x y
        have go : t_Scene_beat_L62 k T x2 (fun a0_ a1_ a2_ => t_Scene_beat_L5 k T x2 g a0_ a1_ a2_) M b.2.2.2 (t : Int) (b.1 (t : Int)) (nxV V D nets wl (b.1 (t : Int))) = t_Scene_beat_L5 k T x2 g (setI (setI (setI M (k + 2) (t : Int) (nxV V D nets wl (b.1 (t : Int)))) (k + 3) (t : Int) (w32 (b.2.1 (t : Int) + 1))) (k + 4) (t : Int) (w32 (b.2.2.1 (t : Int) + lnV V (b.1 (t : Int)) (nxV V D nets wl (b.1 (t : Int)))))) (b.2.2.2 + 1) ((t + 1 : Nat) : Int) := by
          unfold t_Scene_beat_L62 t_Scene_beat_L124 t_Scene_beat_L131
          simp (config := { proj := false }) only [qlet]
          rw [put_in (M := M) (by omega) (by omega), look_in (M := setI M (k + 2) (t : Int) (nxV V D nets wl (b.1 (t : Int)))) (by omega) (by omega), sI_ne (by omega), a2]
          have p2 : t_WF_put (setI M (k + 2) (t : Int) (nxV V D nets wl (b.1 (t : Int)))) (k + 3) 8 (t : Int) (w32 (b.2.1 (t : Int) + 1)) = setI (setI M (k + 2) (t : Int) (nxV V D nets wl (b.1 (t : Int)))) (k + 3) (t : Int) (w32 (b.2.1 (t : Int) + 1)) := put_in (by omega) (by omega)
          rw [p2]
          have f2 : Fr (fun q _ => k + 2 ≤ q ∧ q ≤ k + 3) M (setI (setI M (k + 2) (t : Int) (nxV V D nets wl (b.1 (t : Int)))) (k + 3) (t : Int) (w32 (b.2.1 (t : Int) + 1))) := (Fr.rf.setI (by omega)).setI (by omega)
          have l4 : (setI (setI M (k + 2) (t : Int) (nxV V D nets wl (b.1 (t : Int)))) (k + 3) (t : Int) (w32 (b.2.1 (t : Int) + 1))).1 (k + 4) (t : Int) = b.2.2.1 (t : Int) := ((f2 (k + 4) (t : Int) (by omega)).1).trans a3
          have hX2 : CT0 (setI (setI M (k + 2) (t : Int) (nxV V D nets wl (b.1 (t : Int)))) (k + 3) (t : Int) (w32 (b.2.1 (t : Int) + 1))) T V := CT0.fr f2 (fun q j x y z => by omega) hX'.1
          generalize setI (setI M (k + 2) (t : Int) (nxV V D nets wl (b.1 (t : Int)))) (k + 3) (t : Int) (w32 (b.2.1 (t : Int) + 1)) = Q at *
          rw [look_in (M := Q) (by omega) (by omega), l4, c_line hX2 (by omega) (by omega) (by omega) (by omega), put_in (M := Q) (by omega) (by omega), put_in (M := Q) (by omega) (by omega), w32_id (x := b.2.2.2 + 1) (by unfold InR; omega), w32_succ (by omega)]
          have ln := ln_rng V (b.1 (t : Int)) (nxV V D nets wl (b.1 (t : Int)))
          by_cases z : lnV V (b.1 (t : Int)) (nxV V D nets wl (b.1 (t : Int))) = 0
          · rw [if_pos z, z]
          · rw [if_neg z, show lnV V (b.1 (t : Int)) (nxV V D nets wl (b.1 (t : Int))) = 1 by omega]
        obtain ⟨mv1, mv2⟩ := move _ rfl
        by_cases c3 : decide (x2 ≠ 0) = true ∧ fnd (fun a => b.1 (a : Int)) (nxV V D nets wl (b.1 (t : Int))) (V 0 3).toNat ≠ none
        · rw [if_pos c3] at hfr
          have x0 : ¬ x2 = 0 := of_decide_eq_true c3.1
          rw [if_neg x0]
          cases e : fnd (fun a => b.1 (a : Int)) (nxV V D nets wl (b.1 (t : Int))) (V 0 3).toNat with
          | none => exact absurd e c3.2
          | some u =>
            rw [if_pos (show 0 ≤ fI (some u) by show (0 : Int) ≤ (u : Int); omega)]
            exact hfr M (by omega) (by omega) hF h
        · rw [if_neg c3] at hfr
          have red : (if x2 = 0 then t_Scene_beat_L62 k T x2 (fun a0_ a1_ a2_ => t_Scene_beat_L5 k T x2 g a0_ a1_ a2_) M b.2.2.2 (t : Int) (b.1 (t : Int)) (nxV V D nets wl (b.1 (t : Int))) else if 0 ≤ fI (fnd (fun a => b.1 (a : Int)) (nxV V D nets wl (b.1 (t : Int))) (V 0 3).toNat) then t_Scene_beat_L5 k T x2 g M b.2.2.2 ((t + 1 : Nat) : Int) else t_Scene_beat_L62 k T x2 (fun a0_ a1_ a2_ => t_Scene_beat_L5 k T x2 g a0_ a1_ a2_) M b.2.2.2 (t : Int) (b.1 (t : Int)) (nxV V D nets wl (b.1 (t : Int)))) = t_Scene_beat_L62 k T x2 (fun a0_ a1_ a2_ => t_Scene_beat_L5 k T x2 g a0_ a1_ a2_) M b.2.2.2 (t : Int) (b.1 (t : Int)) (nxV V D nets wl (b.1 (t : Int))) := by
            by_cases z : x2 = 0
            · rw [if_pos z]
            · rw [if_neg z]
              have : fnd (fun a => b.1 (a : Int)) (nxV V D nets wl (b.1 (t : Int))) (V 0 3).toNat = none := by
                apply Classical.byContradiction
                intro y
                exact c3 ⟨decide_eq_true z, y⟩
              rw [this, if_neg (show ¬ 0 ≤ fI none by show ¬ (0 : Int) ≤ -1; decide)]
          rw [red, go]
          exact hfr _ (by omega) (by omega) mv2 mv1
theorem c_beat {x2 : Int} (hV : VOK V) (hT : T = 2 ∨ T = 22) (hk : 47 ≤ k) (hX : CT0 M T V ∧ CTs M T V) (h : CScF M k V D A S L nets wat wl) (hA : ∀ t, 0 ≤ t → t < V 0 3 → -1 ≤ A t ∧ A t < cellsV V) : ∃ N, t_Scene_beat M k T x2 = some (N, (btS V (nxV V D nets wl) (decide (x2 ≠ 0)) A S L (V 0 3).toNat).2.2.2) ∧ CScF N k V D (btS V (nxV V D nets wl) (decide (x2 ≠ 0)) A S L (V 0 3).toNat).1 (btS V (nxV V D nets wl) (decide (x2 ≠ 0)) A S L (V 0 3).toNat).2.1 (btS V (nxV V D nets wl) (decide (x2 ≠ 0)) A S L (V 0 3).toNat).2.2.1 nets wat wl ∧ Fr (BtW k) M N :=
  c_beat_loop hV hT hk hX hA (V 0 3).toNat 0 FU M (by have := hV.1; omega) (fu_big (by have := hV.1; omega)) Fr.rf h
theorem c_stands (hV : VOK V) (hX : CT0 M T V ∧ CTs M T V) (h : CScF M k V D A S L nets wat (wlV V)) {c : Int} (c0 : 0 ≤ c) (c1 : c < cellsV V) : t_Scene_standsIn M k T c = stV V D c := by
  have hC := hV.cells
  have hb := bs_rng hV c0 c1 (dnV V D c)
  have w8 := (hV.2.2.2 c c0 (by omega)).2.2.1
  have w9 := (hV.2.2.2 c c0 (by omega)).2.2.2
  have t8 := h.2.2.2.2 c c0 (by omega)
  have t9 := (hX.1.2.2.2 c c0 (by omega)).2.2
  unfold t_Scene_standsIn t_Scene_standsIn_L38 stV
  simp only [qlet]
  rw [bitOf_tb M _ c0 (by omega), t8, bitOf_tb M (M.2 T 19) c0 (by omega), t9, c_down hX.1 hV h.sc c0 (by omega), c_beside hX.2 hV c0 c1]
  unfold wlV
  by_cases v8 : V 8 c = 1
  · rw [if_pos v8, decide_eq_true v8, if_pos (show (if true = true then (1 : Int) else 0) = 1 from rfl)]
  · rw [if_neg v8, decide_eq_false v8, if_neg (show ¬ (if false = true then (1 : Int) else 0) = 1 by decide)]
    by_cases v9 : V 9 c = 1
    · rw [if_pos v9, decide_eq_true v9, if_pos (show (if true = true then (1 : Int) else 0) = 1 from rfl), if_pos (show (if true = true then (1 : Int) else 0) = 1 from rfl)]
    · rw [if_neg v9, decide_eq_false v9, if_neg (show ¬ (if false = true then (1 : Int) else 0) = 1 by decide), if_neg (show ¬ (if false = true then (1 : Int) else 0) = 1 by decide)]
      by_cases d4 : dnV V D c = 4
      · rw [if_pos d4, if_pos d4]
      · rw [if_neg d4, if_neg d4]
        by_cases b0 : bsV V c (dnV V D c) < 0
        · rw [if_pos b0, if_pos b0]
        · rw [if_neg b0, if_neg b0, bitOf_tb M _ (by omega) (by omega), h.2.2.2.2 _ (by omega) (by omega)]
          unfold wlV
          by_cases z : V 8 (bsV V c (dnV V D c)) = 1
          · rw [decide_eq_true z, if_pos (show (if true = true then (1 : Int) else 0) = 1 from rfl), if_pos z]
          · rw [decide_eq_false z, if_neg (show ¬ (if false = true then (1 : Int) else 0) = 1 by decide), if_neg z]
end SC
