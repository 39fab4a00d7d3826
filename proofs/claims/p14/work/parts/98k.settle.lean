/-! ===== what follows from the lines: sides and sizes ===== -/
theorem c_fill_L5 {r N1 : Nat} {x : Int} (hN : N1 ≤ 1000) : ∀ (m fu : Nat) (M : Mem) (v : Int), v + (m : Int) = (N1 : Int) → 0 ≤ v → m < fu → ∃ N, t_Arrays_fill_L5 r N1 x fu M v (N1 : Int) = some N ∧ Fr (fun k j => k = r ∧ v ≤ j ∧ j < (N1 : Int)) M N ∧ ∀ j, v ≤ j → j < (N1 : Int) → N.1 r j = x := by
  intro m
  induction m with
  | zero =>
    intro fu M v g0 g1 g2
    obtain ⟨g, rfl⟩ : ∃ g, fu = g + 1 := ⟨fu - 1, by omega⟩
    rw [t_Arrays_fill_L5, if_pos (by omega)]
    exact ⟨M, rfl, Fr.rf, fun j a b => by omega⟩
  | succ m ih =>
    intro fu M v g0 g1 g2
    obtain ⟨g, rfl⟩ : ∃ g, fu = g + 1 := ⟨fu - 1, by omega⟩
    rw [t_Arrays_fill_L5, if_neg (by omega), qguard_pos ⟨by omega, by omega⟩, w32_id (x := v + 1) (by unfold InR; omega)]
    simp (config := { proj := false }) only [qlet]
    obtain ⟨N, n1, n2, n3⟩ := ih g (setI M r v x) (v + 1) (by omega) (by omega) (by omega)
    refine ⟨N, n1, (Fr.rf.setI (by omega)).trans (n2.mono (fun k j z => by omega)), fun j a b => ?_⟩
    by_cases q : j = v
    · rw [q, (n2 r v (by omega)).1]; exact sI_self _ _ _ _
    · exact n3 j (by omega) b
theorem c_fill {M : Mem} {r N1 : Nat} {x : Int} (hN : N1 ≤ 1000) : ∃ N, t_Arrays_fill M r N1 x = some N ∧ Fr (fun k j => k = r ∧ 0 ≤ j ∧ j < (N1 : Int)) M N ∧ ∀ j, 0 ≤ j → j < (N1 : Int) → N.1 r j = x :=
  c_fill_L5 hN N1 FU M 0 (by omega) (by omega) (fu_big (by omega))
theorem sd_eq {w h x y : Int} (w0 : 1 ≤ w) (w1 : w ≤ 8) (h0 : 1 ≤ h) (h1 : h ≤ 6) (x0 : 0 ≤ x) (xw : x < w) (y0 : 0 ≤ y) (yh : y < h) :
    bsW w h (y * w + x) 0 = (if y ≤ 0 then -1 else y * w + x - w) ∧ bsW w h (y * w + x) 1 = (if w - 1 ≤ x then -1 else y * w + x + 1) ∧ bsW w h (y * w + x) 2 = (if h - 1 ≤ y then -1 else y * w + x + w) ∧ bsW w h (y * w + x) 3 = (if x ≤ 0 then -1 else y * w + x - 1) := by
  have b0 : bsW w h (y * w + x) 0 = (if y * w + x < w then -1 else y * w + x - w) := rfl
  have b1 : bsW w h (y * w + x) 1 = (if (y * w + x) % w = w - 1 then -1 else y * w + x + 1) := rfl
  have b2 : bsW w h (y * w + x) 2 = (if w * h - w ≤ y * w + x then -1 else y * w + x + w) := rfl
  have b3 : bsW w h (y * w + x) 3 = (if (y * w + x) % w = 0 then -1 else y * w + x - 1) := rfl
  rw [b0, b1, b2, b3]
  have hw : w = 1 ∨ w = 2 ∨ w = 3 ∨ w = 4 ∨ w = 5 ∨ w = 6 ∨ w = 7 ∨ w = 8 := by omega
  have key : (y * w + x < w ↔ y ≤ 0) ∧ ((y * w + x) % w = w - 1 ↔ w - 1 ≤ x) ∧ (w * h - w ≤ y * w + x ↔ h - 1 ≤ y) ∧ ((y * w + x) % w = 0 ↔ x ≤ 0) := by
    rcases hw with rfl | rfl | rfl | rfl | rfl | rfl | rfl | rfl <;> (refine ⟨?_, ?_, ?_, ?_⟩ <;> omega)
  have ifc : ∀ {p q : Prop} [Decidable p] [Decidable q] {a b : Int}, (p ↔ q) → (if p then a else b) = (if q then a else b) := by
    intro p q _ _ a b h
    by_cases c : p
    · rw [if_pos c, if_pos (h.mp c)]
    · rw [if_neg c, if_neg (fun z => c (h.mpr z))]
  exact ⟨ifc key.1, ifc key.2.1, ifc key.2.2.1, ifc key.2.2.2⟩
theorem CT0.fr3 {W : Nat → Int → Prop} {M N : Mem} {T : Nat} {V : TV} (h : CT0 M T V) (hF : Fr W M N) (hd : ∀ k j, ((k = T ∧ 11 ≤ j ∧ j ≤ 19) ∨ (T + 1 ≤ k ∧ k ≤ T + 8 ∧ k ≠ T + 4)) → ¬ W k j) : CT0 N T V := by
  obtain ⟨⟨a1, a2, a3, a4, a5, a6⟩, b, c, d⟩ := h
  have e : ∀ j, 11 ≤ j → j ≤ 19 → N.1 T j = M.1 T j ∧ N.2 T j = M.2 T j := fun j x y => hF T j (hd _ _ (Or.inl ⟨rfl, x, y⟩))
  have r : ∀ k j, T + 1 ≤ k → k ≤ T + 8 → k ≠ T + 4 → N.1 k j = M.1 k j := fun k j x y z => (hF k j (hd _ _ (Or.inr ⟨x, y, z⟩))).1
  refine ⟨⟨?_, ?_, ?_, ?_, ?_, ?_⟩, fun w x y => ⟨?_, ?_, ?_⟩, fun t x y => ⟨?_, ?_, ?_⟩, fun q x y => ⟨?_, ?_, ?_⟩⟩
  · rw [(e 11 (by omega) (by omega)).1]; exact a1
  · rw [(e 12 (by omega) (by omega)).1]; exact a2
  · rw [(e 14 (by omega) (by omega)).1]; exact a3
  · rw [(e 15 (by omega) (by omega)).1]; exact a4
  · rw [(e 16 (by omega) (by omega)).1]; exact a5
  · rw [(e 17 (by omega) (by omega)).1]; exact a6
  · rw [r _ _ (by omega) (by omega) (by omega)]; exact (b w x y).1
  · rw [r _ _ (by omega) (by omega) (by omega)]; exact (b w x y).2.1
  · rw [r _ _ (by omega) (by omega) (by omega)]; exact (b w x y).2.2
  · rw [r _ _ (by omega) (by omega) (by omega)]; exact (c t x y).1
  · rw [r _ _ (by omega) (by omega) (by omega)]; exact (c t x y).2.1
  · rw [r _ _ (by omega) (by omega) (by omega)]; exact (c t x y).2.2
  · rw [r _ _ (by omega) (by omega) (by omega)]; exact (d q x y).1
  · rw [(e 18 (by omega) (by omega)).2]; exact (d q x y).2.1
  · rw [(e 19 (by omega) (by omega)).2]; exact (d q x y).2.2
def StW4 (T : Nat) : Nat → Int → Prop := fun k _ => k = T + 4 ∨ k = T + 9
def SB (M0 M : Mem) (T : Nat) (V : TV) (c k : Int) : Prop := Fr (StW4 T) M0 M ∧ (∀ c', 0 ≤ c' → c' < c → ∀ d, 0 ≤ d → d < 4 → M.1 (T + 9) (c' * 4 + d) = bsV V c' d) ∧ (∀ d, 0 ≤ d → d < k → M.1 (T + 9) (c * 4 + d) = bsV V c d) ∧ (∀ w, 0 ≤ w → w < V 0 2 → M.1 (T + 4) w = sizeV V w c.toNat)
section ST
variable {M0 M : Mem} {T : Nat} {V : TV} {x y : Int}
theorem SB.set {c k : Int} (h : SB M0 M T V c k) (k0 : 0 ≤ k) (k4 : k < 4) : SB M0 (setI M (T + 9) (c * 4 + k) (bsV V c k)) T V c (k + 1) := by
  obtain ⟨h1, h2, h3, h4⟩ := h
  refine ⟨h1.setI (Or.inr rfl), fun c' a b d e f => ?_, fun d a b => ?_, fun w a b => ?_⟩
  · rw [sI_ne (by omega)]; exact h2 c' a b d e f
  · by_cases q : d = k
    · rw [q, sI_self]
    · rw [sI_ne (by omega)]; exact h3 d a (by omega)
  · rw [sI_ne (by omega)]; exact h4 w a b
theorem SB.own {c : Int} (h : SB M0 M T V c 4) (hT0 : CT0 M0 T V) (hV : VOK V) (c0 : 0 ≤ c) (c1 : c < cellsV V) : SB M0 (t_WF_put M (T + 4) 4 (V 7 c) (w32 (t_WF_look M (T + 4) 4 (V 7 c) + 1))) T V (c + 1) 0 := by
  have hcl := hV.cells
  have hv := hV.1
  have ho := hV.2.2.2 c c0 (by omega)
  obtain ⟨h1, h2, h3, h4⟩ := h
  have hn : (c + 1).toNat = c.toNat + 1 := by omega
  have hz : ((c.toNat : Nat) : Int) = c := Int.toNat_of_nonneg c0
  have rows : ∀ N : Mem, (∀ j, N.1 (T + 9) j = M.1 (T + 9) j) → (∀ c', 0 ≤ c' → c' < c + 1 → ∀ d, 0 ≤ d → d < 4 → N.1 (T + 9) (c' * 4 + d) = bsV V c' d) := by
    intro N hN c' a b d e f
    rw [hN]
    by_cases q : c' = c
    · rw [q]; exact h3 d e f
    · exact h2 c' a (by omega) d e f
  by_cases q : 0 ≤ V 7 c
  · have s0 := h4 (V 7 c) q (by omega)
    have sr : 0 ≤ sizeV V (V 7 c) c.toNat ∧ sizeV V (V 7 c) c.toNat ≤ (c.toNat : Int) := by
      generalize V 7 c = w
      generalize c.toNat = m
      induction m with
      | zero => exact ⟨Int.le_refl _, Int.le_refl _⟩
      | succ m ih => rw [sizeV]; split <;> omega
    rw [look_in q (by omega), put_in q (by omega), s0, w32_id (by unfold InR; omega)]
    refine ⟨h1.setI (Or.inl rfl), rows _ (fun j => sI_ne (by omega)), fun d a b => by omega, fun w a b => ?_⟩
    rw [hn, sizeV, hz]
    by_cases e : w = V 7 c
    · rw [e, sI_self, if_pos rfl]
    · rw [sI_ne (by omega), h4 w a b, if_neg (fun z => e z.symm)]; omega
  · rw [put_out (by omega)]
    refine ⟨h1, rows M (fun j => rfl), fun d a b => by omega, fun w a b => ?_⟩
    rw [hn, sizeV, hz, h4 w a b, if_neg (by omega)]
    omega
theorem c_set155 {bk23 : Mem → Int → Option Mem} {bk33 : Mem → Int → Int → Option Mem} (hT : T ≤ 22) (hT0 : CT0 M0 T V) (hV : VOK V) {c : Int} (c0 : 0 ≤ c) (c1 : c < cellsV V) (xr : 0 ≤ x ∧ x ≤ 8) (h : SB M0 M T V c 3) : ∃ N, t_Town_settle_L155 T bk23 bk33 M y x c (c * 4 + 3) (bsV V c 3) = bk33 N y (x + 1) ∧ SB M0 N T V (c + 1) 0 := by
  have hcl := hV.cells
  unfold t_Town_settle_L155
  simp (config := { proj := false }) only [qlet]
  rw [put_in (M := M) (by omega) (by omega), w32_id (x := x + 1) (by unfold InR; omega)]
  have h3 := h.set (k := 3) (by omega) (by omega)
  generalize setI M (T + 9) (c * 4 + 3) (bsV V c 3) = M4 at *
  have eo : t_Town_ownerOf M4 T c = V 7 c := c_owner (hT0.fr3 h3.1 (fun k j a z => by unfold StW4 at z; omega)) c0 (by omega)
  rw [eo]
  exact ⟨_, rfl, h3.own hT0 hV c0 c1⟩
theorem c_set132 {bk23 : Mem → Int → Option Mem} {bk33 : Mem → Int → Int → Option Mem} (hT : T ≤ 22) (hT0 : CT0 M0 T V) (hV : VOK V) {c : Int} (c0 : 0 ≤ c) (c1 : c < cellsV V) (xr : 0 ≤ x ∧ x < V 0 0) (yr : 0 ≤ y ∧ y < V 0 1) (hc : c = y * V 0 0 + x) (h : SB M0 M T V c 2) : ∃ N, t_Town_settle_L132 T bk23 bk33 M y x c (c * 4 + 2) (bsV V c 2) = bk33 N y (x + 1) ∧ SB M0 N T V (c + 1) 0 := by
  have hcl := hV.cells
  have hv := hV.1
  unfold t_Town_settle_L132
  simp (config := { proj := false }) only [qlet]
  rw [put_in (M := M) (by omega) (by omega), w32_id (x := c * 4) (by unfold InR; omega), w32_id (x := c * 4 + 3) (by unfold InR; omega), w32_id (x := c - 1) (by unfold InR; omega)]
  have h3 := h.set (k := 2) (by omega) (by omega)
  have nx := c_set155 (bk23 := bk23) (bk33 := bk33) (x := x) (y := y) hT hT0 hV c0 c1 (by omega) h3
  have b3 : bsV V c 3 = (if x ≤ 0 then -1 else c - 1) := by rw [hc]; exact (sd_eq (by omega) (by omega) (by omega) (by omega) xr.1 xr.2 yr.1 yr.2).2.2.2
  rw [b3] at nx
  by_cases q : x ≤ 0
  · rw [if_pos q] at nx ⊢; exact nx
  · rw [if_neg q] at nx ⊢; exact nx
theorem c_set100 {bk23 : Mem → Int → Option Mem} {bk33 : Mem → Int → Int → Option Mem} (hT : T ≤ 22) (hT0 : CT0 M0 T V) (hV : VOK V) {c : Int} (c0 : 0 ≤ c) (c1 : c < cellsV V) (xr : 0 ≤ x ∧ x < V 0 0) (yr : 0 ≤ y ∧ y < V 0 1) (hc : c = y * V 0 0 + x) (h : SB M0 M T V c 1) : ∃ N, t_Town_settle_L100 T bk23 bk33 M y x c (c * 4 + 1) (bsV V c 1) = bk33 N y (x + 1) ∧ SB M0 N T V (c + 1) 0 := by
  have hcl := hV.cells
  have hv := hV.1
  unfold t_Town_settle_L100
  simp (config := { proj := false }) only [qlet]
  rw [put_in (M := M) (by omega) (by omega)]
  have h3 := h.set (k := 1) (by omega) (by omega)
  have e11 : (setI M (T + 9) (c * 4 + 1) (bsV V c 1)).1 T 11 = V 0 0 := ((h3.1 T 11 (by unfold StW4; omega)).1).trans hT0.1.1
  have e12 : (setI M (T + 9) (c * 4 + 1) (bsV V c 1)).1 T 12 = V 0 1 := ((h3.1 T 12 (by unfold StW4; omega)).1).trans hT0.1.2.1
  rw [e11, e12, w32_id (x := V 0 1 - 1) (by unfold InR; omega), w32_id (x := c * 4) (by unfold InR; omega), w32_id (x := c * 4 + 2) (by unfold InR; omega), w32_id (x := c + V 0 0) (by unfold InR; omega)]
  have nx := c_set132 (bk23 := bk23) (bk33 := bk33) hT hT0 hV c0 c1 xr yr hc h3
  have b3 : bsV V c 2 = (if V 0 1 - 1 ≤ y then -1 else c + V 0 0) := by rw [hc]; exact (sd_eq (by omega) (by omega) (by omega) (by omega) xr.1 xr.2 yr.1 yr.2).2.2.1
  rw [b3] at nx
  by_cases q : V 0 1 - 1 ≤ y
  · rw [if_pos q] at nx ⊢; exact nx
  · rw [if_neg q] at nx ⊢; exact nx
theorem c_set71 {bk23 : Mem → Int → Option Mem} {bk33 : Mem → Int → Int → Option Mem} (hT : T ≤ 22) (hT0 : CT0 M0 T V) (hV : VOK V) {c : Int} (c0 : 0 ≤ c) (c1 : c < cellsV V) (xr : 0 ≤ x ∧ x < V 0 0) (yr : 0 ≤ y ∧ y < V 0 1) (hc : c = y * V 0 0 + x) (h : SB M0 M T V c 0) : ∃ N, t_Town_settle_L71 T bk23 bk33 M y x c (c * 4) (bsV V c 0) = bk33 N y (x + 1) ∧ SB M0 N T V (c + 1) 0 := by
  have hcl := hV.cells
  have hv := hV.1
  unfold t_Town_settle_L71
  simp (config := { proj := false }) only [qlet]
  rw [put_in (M := M) (by omega) (by omega)]
  have h3 := h.set (k := 0) (by omega) (by omega)
  rw [show c * 4 + 0 = c * 4 by omega] at h3
  have e11 : (setI M (T + 9) (c * 4) (bsV V c 0)).1 T 11 = V 0 0 := ((h3.1 T 11 (by unfold StW4; omega)).1).trans hT0.1.1
  rw [e11, w32_id (x := V 0 0 - 1) (by unfold InR; omega), w32_id (x := c * 4) (by unfold InR; omega), w32_id (x := c * 4 + 1) (by unfold InR; omega), w32_id (x := c + 1) (by unfold InR; omega)]
  have nx := c_set100 (bk23 := bk23) (bk33 := bk33) hT hT0 hV c0 c1 xr yr hc h3
  have b3 : bsV V c 1 = (if V 0 0 - 1 ≤ x then -1 else c + 1) := by rw [hc]; exact (sd_eq (by omega) (by omega) (by omega) (by omega) xr.1 xr.2 yr.1 yr.2).2.1
  rw [b3] at nx
  by_cases q : V 0 0 - 1 ≤ x
  · rw [if_pos q] at nx ⊢; exact nx
  · rw [if_neg q] at nx ⊢; exact nx
theorem c_set33 {bk23 : Mem → Int → Option Mem} (hT : T ≤ 22) (hT0 : CT0 M0 T V) (hV : VOK V) (yr : 0 ≤ y ∧ y < V 0 1) : ∀ (m fu : Nat) (M : Mem) (x : Int), x + (m : Int) = V 0 0 → 0 ≤ x → m < fu → SB M0 M T V (y * V 0 0 + x) 0 → ∃ N, t_Town_settle_L33 T bk23 fu M y x = bk23 N (y + 1) ∧ SB M0 N T V ((y + 1) * V 0 0) 0 := by
  have hcl := hV.cells
  have hv := hV.1
  intro m
  induction m with
  | zero =>
    intro fu M x g0 g1 g2 h
    obtain ⟨g, rfl⟩ : ∃ g, fu = g + 1 := ⟨fu - 1, by omega⟩
    have e11 : M.1 T 11 = V 0 0 := ((h.1 T 11 (by unfold StW4; omega)).1).trans hT0.1.1
    rw [t_Town_settle_L33, if_pos (by omega), w32_id (x := y + 1) (by unfold InR; omega)]
    refine ⟨M, rfl, ?_⟩
    rw [Int.add_mul, Int.one_mul]
    rw [show x = V 0 0 by omega] at h
    exact h
  | succ m ih =>
    intro fu M x g0 g1 g2 h
    obtain ⟨g, rfl⟩ : ∃ g, fu = g + 1 := ⟨fu - 1, by omega⟩
    have e11 : M.1 T 11 = V 0 0 := ((h.1 T 11 (by unfold StW4; omega)).1).trans hT0.1.1
    have ix := pnt_idx (w := V 0 0) (g := V 0 1) (x := x) (j := y) (by omega) (by omega) (by omega) g1 (by omega) yr.1 yr.2
    have hlt : y * V 0 0 + x < cellsV V := by
      have h1 : y * V 0 0 ≤ (V 0 1 - 1) * V 0 0 := Int.mul_le_mul_of_nonneg_right (by omega) (by omega)
      rw [Int.sub_mul, Int.one_mul] at h1
      unfold cellsV
      rw [Int.mul_comm (V 0 0) (V 0 1)]
      omega
    rw [t_Town_settle_L33, e11, if_neg (show ¬ V 0 0 ≤ x by omega), w32_id (x := y * V 0 0) (by unfold InR; omega), w32_id (x := y * V 0 0 + x) (by unfold InR; omega), w32_id (x := (y * V 0 0 + x) * 4) (by unfold InR; omega), w32_id (x := y * V 0 0 + x - V 0 0) (by unfold InR; omega)]
    obtain ⟨N, n1, n2⟩ := c_set71 (bk23 := bk23) (bk33 := fun a0_ a1_ a2_ => t_Town_settle_L33 T bk23 g a0_ a1_ a2_) (x := x) (y := y) hT hT0 hV ix.2.2.1 hlt ⟨g1, by omega⟩ yr rfl h
    have b0 : bsV V (y * V 0 0 + x) 0 = (if y ≤ 0 then -1 else y * V 0 0 + x - V 0 0) := (sd_eq (by omega) (by omega) (by omega) (by omega) g1 (by omega) yr.1 yr.2).1
    rw [b0] at n1
    rw [show y * V 0 0 + x + 1 = y * V 0 0 + (x + 1) by omega] at n2
    obtain ⟨P, p1, p2⟩ := ih g N (x + 1) (by omega) (by omega) (by omega) n2
    refine ⟨P, ?_, p2⟩
    by_cases q : y ≤ 0
    · rw [if_pos q] at n1 ⊢; exact n1.trans p1
    · rw [if_neg q] at n1 ⊢; exact n1.trans p1
theorem c_set23 (hT : T ≤ 22) (hT0 : CT0 M0 T V) (hV : VOK V) : ∀ (m fu : Nat) (M : Mem) (y : Int), y + (m : Int) = V 0 1 → 0 ≤ y → m < fu → SB M0 M T V (y * V 0 0) 0 → ∃ N, t_Town_settle_L23 T fu M y = some N ∧ SB M0 N T V (cellsV V) 0 := by
  have hcl := hV.cells
  have hv := hV.1
  intro m
  induction m with
  | zero =>
    intro fu M y g0 g1 g2 h
    obtain ⟨g, rfl⟩ : ∃ g, fu = g + 1 := ⟨fu - 1, by omega⟩
    have e12 : M.1 T 12 = V 0 1 := ((h.1 T 12 (by unfold StW4; omega)).1).trans hT0.1.2.1
    rw [t_Town_settle_L23, if_pos (by omega)]
    refine ⟨M, rfl, ?_⟩
    rw [show y = V 0 1 by omega, Int.mul_comm] at h
    exact h
  | succ m ih =>
    intro fu M y g0 g1 g2 h
    obtain ⟨g, rfl⟩ : ∃ g, fu = g + 1 := ⟨fu - 1, by omega⟩
    have e12 : M.1 T 12 = V 0 1 := ((h.1 T 12 (by unfold StW4; omega)).1).trans hT0.1.2.1
    rw [t_Town_settle_L23, if_neg (by omega)]
    obtain ⟨N, n1, n2⟩ := c_set33 (bk23 := fun a0_ a1_ => t_Town_settle_L23 T g a0_ a1_) hT hT0 hV ⟨g1, by omega⟩ (V 0 0).toNat FU M 0 (by omega) (by omega) (fu_big (by omega)) (by rw [show y * V 0 0 + 0 = y * V 0 0 by omega]; exact h)
    rw [n1]
    exact ih g N (y + 1) (by omega) (by omega) (by omega) n2
end ST
theorem c_settle {M : Mem} {T : Nat} {V : TV} (hT : T ≤ 22) (hT0 : CT0 M T V) (hV : VOK V) : ∃ N, t_Town_settle M T = some N ∧ Fr (fun k j => (k = T ∧ j = 13) ∨ k = T + 4 ∨ k = T + 9) M N ∧ CT0 N T V ∧ CTs N T V := by
  have hcl := hV.cells
  have hv := hV.1
  unfold t_Town_settle
  simp (config := { proj := false }) only [qlet]
  have hcw : w32 (V 0 0 * V 0 1) = cellsV V := w32_id (by unfold InR; unfold cellsV at hcl; omega)
  rw [hT0.1.1, hT0.1.2.1, hcw]
  have f1 : Fr (fun k j => k = T ∧ j = 13) M (setI M T 13 (cellsV V)) := Fr.rf.setI ⟨rfl, rfl⟩
  have e13 : (setI M T 13 (cellsV V)).1 T 13 = cellsV V := sI_self _ _ _ _
  generalize setI M T 13 (cellsV V) = M1 at *
  obtain ⟨M2, a1, a2, a3⟩ := c_fill (M := M1) (r := T + 4) (N1 := 4) (x := 0) (by omega)
  rw [a1, obind_some]
  have f2 : Fr (fun k j => (k = T ∧ j = 13) ∨ k = T + 4) M M2 := (f1.mono (fun k j z => Or.inl z)).trans (a2.mono (fun k j z => Or.inr z.1))
  have hT2 : CT0 M2 T V := by
    obtain ⟨⟨b1, b2, b3, b4, b5, b6⟩, c, d, e⟩ := hT0
    have q : ∀ k j, ¬ (k = T ∧ j = 13) → k ≠ T + 4 → M2.1 k j = M.1 k j ∧ M2.2 k j = M.2 k j := fun k j x y => f2 k j (by omega)
    refine ⟨⟨?_, ?_, ?_, ?_, ?_, ?_⟩, fun w x y => ⟨?_, ?_, ?_⟩, fun t x y => ⟨?_, ?_, ?_⟩, fun p x y => ⟨?_, ?_, ?_⟩⟩
    · rw [(q _ _ (by omega) (by omega)).1]; exact b1
    · rw [(q _ _ (by omega) (by omega)).1]; exact b2
    · rw [(q _ _ (by omega) (by omega)).1]; exact b3
    · rw [(q _ _ (by omega) (by omega)).1]; exact b4
    · rw [(q _ _ (by omega) (by omega)).1]; exact b5
    · rw [(q _ _ (by omega) (by omega)).1]; exact b6
    · rw [(q _ _ (by omega) (by omega)).1]; exact (c w x y).1
    · rw [(q _ _ (by omega) (by omega)).1]; exact (c w x y).2.1
    · rw [(q _ _ (by omega) (by omega)).1]; exact (c w x y).2.2
    · rw [(q _ _ (by omega) (by omega)).1]; exact (d t x y).1
    · rw [(q _ _ (by omega) (by omega)).1]; exact (d t x y).2.1
    · rw [(q _ _ (by omega) (by omega)).1]; exact (d t x y).2.2
    · rw [(q _ _ (by omega) (by omega)).1]; exact (e p x y).1
    · rw [(q _ _ (by omega) (by omega)).2]; exact (e p x y).2.1
    · rw [(q _ _ (by omega) (by omega)).2]; exact (e p x y).2.2
  obtain ⟨N, n1, n2, n3, n4, n5⟩ := c_set23 (M0 := M2) hT hT2 hV (V 0 1).toNat FU M2 0 (by omega) (by omega) (fu_big (by omega)) ⟨Fr.rf, fun c' a b => by omega, fun d a b => by omega, fun w a b => by rw [a3 w a (by omega)]; rw [show (0 * V 0 0).toNat = 0 by omega]; rfl⟩
  refine ⟨N, n1, f2.mono (fun k j z => by omega) |>.trans (n2.mono (fun k j z => by unfold StW4 at z; omega)), hT2.fr3 n2 (fun k j a z => by unfold StW4 at z; omega), ?_, fun w a b => n5 w a b, fun c a b d e f => n3 c a b d e f⟩
  rw [(n2 T 13 (by unfold StW4; omega)).1, (a2 T 13 (by omega)).1]
  exact e13
