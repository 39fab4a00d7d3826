/-! ===== both sides: scenes and rows, what can be undone ===== -/
def CSR (M : Mem) (k : Nat) (a : Int) (V : TV) : Prop := CScF M k V (DN M a) (AT M a) (ST M a) (LN M a) (M.2 210 a) (M.2 211 a) (wlV V)
def RwW (a : Int) : Nat → Int → Prop := fun q j => ((q = 210 ∨ q = 211) ∧ j = a) ∨ (q = 212 ∧ 4 * a ≤ j ∧ j < 4 * a + 4) ∨ ((q = 213 ∨ q = 214 ∨ q = 215) ∧ 8 * a ≤ j ∧ j < 8 * a + 8)
theorem CSR.of {M P : Mem} {k : Nat} {a b : Int} {V : TV} (hV : VOK V) (h : CScF P k V (DN M b) (AT M b) (ST M b) (LN M b) (M.2 210 b) (M.2 211 b) (wlV V)) (e : RowEq P a M b) : CSR P k a V := by
  have hv := hV.1
  obtain ⟨⟨-, -, -, e4, e5⟩, e6, e7⟩ := e
  exact h.eq (fun w x y => (e6 w x (by omega)).symm) (fun t x y => ⟨(e7 t x (by omega)).1.symm, (e7 t x (by omega)).2.1.symm, (e7 t x (by omega)).2.2.symm⟩) e4.symm e5.symm
theorem RowEq.fr2 {W : Nat → Int → Prop} {M N : Mem} {a : Int} (hF : Fr W M N) (hd : ∀ k j, (RwW a k j ∨ ((k = 207 ∨ k = 208 ∨ k = 209) ∧ j = a)) → ¬ W k j) : RowEq N a M a := RowEq.fr hF (fun k j z => hd k j (by unfold CW at z; unfold RwW; omega))
theorem CSR.fr {W : Nat → Int → Prop} {M N : Mem} {k : Nat} {a : Int} {V : TV} (hV : VOK V) (h : CSR M k a V) (hF : Fr W M N) (hd : ∀ q j, (CsW k q j ∨ RwW a q j) → ¬ W q j) : CSR N k a V := by
  have hv := hV.1
  have h2 : CScF N k V (DN M a) (AT M a) (ST M a) (LN M a) (M.2 210 a) (M.2 211 a) (wlV V) := CScF.fr h hF (fun q j z => hd q j (Or.inl z))
  have e : ∀ q j, RwW a q j → N.1 q j = M.1 q j ∧ N.2 q j = M.2 q j := fun q j z => hF q j (hd q j (Or.inr z))
  exact h2.eq (fun w x y => (e 212 _ (by unfold RwW; omega)).1.symm) (fun t x y => ⟨(e 213 _ (by unfold RwW; omega)).1.symm, (e 214 _ (by unfold RwW; omega)).1.symm, (e 215 _ (by unfold RwW; omega)).1.symm⟩) (e 210 a (by unfold RwW; omega)).2.symm (e 211 a (by unfold RwW; omega)).2.symm
/-- a class's scene that is kept, by the row of an earlier memory -/
theorem CSR.keepC {M P : Mem} {k : Nat} {a b : Int} {V : TV} (hV : VOK V) (h : CSR M k b V) (hc : ∀ q j, CsW k q j → P.1 q j = M.1 q j ∧ P.2 q j = M.2 q j) (e : RowEq P a M b) : CSR P k a V := by
  refine CSR.of hV ?_ e
  obtain ⟨h1, h2, h3, h4, h5⟩ := h
  refine ⟨fun w x y => ?_, fun t x y => ⟨?_, ?_, ?_⟩, ?_, ?_, fun c x y => ?_⟩
  · rw [(hc (k + 1) w (by unfold CsW; omega)).1]; exact h1 w x y
  · rw [(hc (k + 2) t (by unfold CsW; omega)).1]; exact (h2 t x y).1
  · rw [(hc (k + 3) t (by unfold CsW; omega)).1]; exact (h2 t x y).2.1
  · rw [(hc (k + 4) t (by unfold CsW; omega)).1]; exact (h2 t x y).2.2
  · rw [(hc k 5 (by unfold CsW; omega)).2]; exact h3
  · rw [(hc k 6 (by unfold CsW; omega)).2]; exact h4
  · rw [(hc k 4 (by unfold CsW; omega)).2]; exact h5 c x y
def rgI (L m k : Int) : Nat := ((L + 21 + k - m) % 20).toNat
def PastR (M : Mem) (V : TV) : Prop := M.1 70 2 = M.1 191 43 ∧ (0 ≤ M.1 70 1 ∧ M.1 70 1 < 20) ∧ (0 ≤ M.1 191 43 ∧ M.1 191 43 ≤ 20) ∧ ∀ k, 0 ≤ k → k < M.1 191 43 → CSR M (72 + 5 * rgI (M.1 70 1) (M.1 191 43) k) (3 + k) V
def upL (L : Int) : Int := if 20 ≤ L + 1 then 0 else L + 1
def dnL (L : Int) : Int := if L ≤ 0 then 19 else L - 1
def upM (m : Int) : Int := if m < 20 then m + 1 else 20
theorem past_push {M P : Mem} {V : TV} (hV : VOK V) (h : PastR M V) (e1 : P.1 70 1 = upL (M.1 70 1)) (e2 : P.1 70 2 = upM (M.1 70 2)) (e3 : P.1 191 43 = upM (M.1 191 43)) (hs : CScF P (72 + 5 * (upL (M.1 70 1)).toNat) V (DN M 0) (AT M 0) (ST M 0) (LN M 0) (M.2 210 0) (M.2 211 0) (wlV V)) (hc : ∀ i : Nat, i < 20 → (i : Int) ≠ upL (M.1 70 1) → ∀ q j, CsW (72 + 5 * i) q j → P.1 q j = M.1 q j ∧ P.2 q j = M.2 q j)
    (hr : (M.1 191 43 < 20 ∧ (∀ k, 0 ≤ k → k < M.1 191 43 → RowEq P (3 + k) M (3 + k)) ∧ RowEq P (3 + M.1 191 43) M 0) ∨ (M.1 191 43 = 20 ∧ (∀ k, 0 ≤ k → k < 19 → RowEq P (3 + k) M (4 + k)) ∧ RowEq P 22 M 0)) : PastR P V := by
  obtain ⟨h1, ⟨h2, h3⟩, ⟨h4, h5⟩, h6⟩ := h
  have u0 : 0 ≤ upL (M.1 70 1) ∧ upL (M.1 70 1) < 20 := by unfold upL; split <;> omega
  refine ⟨by rw [e2, e3, h1], by rw [e1]; exact u0, by rw [e3]; unfold upM; split <;> omega, fun k k0 k1 => ?_⟩
  rw [e1, e3] at *
  rcases hr with ⟨r1, r2, r3⟩ | ⟨r1, r2, r3⟩
  · have em : upM (M.1 191 43) = M.1 191 43 + 1 := if_pos r1
    rw [em] at k1 ⊢
    by_cases q : k = M.1 191 43
    · have ei : rgI (upL (M.1 70 1)) (M.1 191 43 + 1) k = (upL (M.1 70 1)).toNat := by unfold rgI; congr 1; omega
      rw [ei, q]
      exact CSR.of hV hs r3
    · have ei : rgI (upL (M.1 70 1)) (M.1 191 43 + 1) k = rgI (M.1 70 1) (M.1 191 43) k := by
        unfold rgI upL
        congr 1
        split <;> omega
      rw [ei]
      refine CSR.keepC hV (h6 k k0 (by omega)) (hc _ (by unfold rgI; omega) ?_) (r2 k k0 (by omega))
      unfold rgI upL
      rw [Int.toNat_of_nonneg (by omega)]
      split <;> omega
  · have em : upM (M.1 191 43) = 20 := if_neg (by omega)
    rw [em] at k1 ⊢
    by_cases q : k = 19
    · have ei : rgI (upL (M.1 70 1)) 20 k = (upL (M.1 70 1)).toNat := by unfold rgI; congr 1; omega
      rw [ei, q]
      exact CSR.of hV hs r3
    · have ei : rgI (upL (M.1 70 1)) 20 k = rgI (M.1 70 1) (M.1 191 43) (k + 1) := by
        rw [r1]
        unfold rgI upL
        congr 1
        split <;> omega
      rw [ei]
      have hk := h6 (k + 1) (by omega) (by omega)
      rw [show 3 + (k + 1) = 4 + k by omega] at hk
      refine CSR.keepC hV hk (hc _ (by unfold rgI; omega) ?_) (r2 k k0 (by omega))
      rw [r1]
      unfold rgI upL
      rw [Int.toNat_of_nonneg (by omega)]
      split <;> omega
theorem PastR.fr {W : Nat → Int → Prop} {M N : Mem} {V : TV} (hV : VOK V) (h : PastR M V) (hF : Fr W M N) (hd : ∀ q j, ((q = 70 ∧ (j = 1 ∨ j = 2)) ∨ (72 ≤ q ∧ q ≤ 171) ∨ (q = 191 ∧ j = 43) ∨ ((q = 210 ∨ q = 211) ∧ 3 ≤ j) ∨ (q = 212 ∧ 12 ≤ j) ∨ ((q = 213 ∨ q = 214 ∨ q = 215) ∧ 24 ≤ j)) → ¬ W q j) : PastR N V := by
  obtain ⟨h1, h2, h3, h4⟩ := h
  have e1 := (hF 70 1 (hd _ _ (by omega))).1
  have e2 := (hF 70 2 (hd _ _ (by omega))).1
  have e3 := (hF 191 43 (hd _ _ (by omega))).1
  unfold PastR
  rw [e1, e2, e3]
  refine ⟨h1, h2, h3, fun k a b => (h4 k a b).fr hV hF (fun q j z => hd q j ?_)⟩
  have : rgI (M.1 70 1) (M.1 191 43) k < 20 := by unfold rgI; omega
  rcases z with z | z
  · unfold CsW at z; omega
  · unfold RwW at z; omega
theorem past_none {N : Mem} {V : TV} (h1 : N.1 70 2 = 0) (h2 : 0 ≤ N.1 70 1 ∧ N.1 70 1 < 20) (h3 : N.1 191 43 = 0) : PastR N V := ⟨by omega, h2, by omega, fun k a b => by omega⟩
/-! the class remembers, takes back -/
def RmW (L : Int) : Nat → Int → Prop := fun q j => (q = 70 ∧ (j = 1 ∨ j = 2)) ∨ CsW (72 + 5 * (upL L).toNat) q j
theorem c_remember {M : Mem} {V : TV} {D A S L : Int → Int} {nets wat : Int64} {wl : Int → Bool} (hV : VOK V) (hL : 0 ≤ M.1 70 1 ∧ M.1 70 1 < 20) (hm : 0 ≤ M.1 70 2 ∧ M.1 70 2 ≤ 20) (h : CScF M 47 V D A S L nets wat wl) : Fr (RmW (M.1 70 1)) M (t_Past_remember M 47) ∧ (t_Past_remember M 47).1 70 1 = upL (M.1 70 1) ∧ (t_Past_remember M 47).1 70 2 = upM (M.1 70 2) ∧ CScF (t_Past_remember M 47) (72 + 5 * (upL (M.1 70 1)).toNat) V D A S L nets wat wl := by
  have e0 : t_Past_remember M 47 = t_Past_remember_L25 47 M (upL (M.1 70 1)) := by
    unfold t_Past_remember upL
    rw [w32_id (x := M.1 70 1 + 1) (by unfold InR; omega)]
    by_cases c : 20 ≤ M.1 70 1 + 1
    · rw [if_pos c, if_pos c]
    · rw [if_neg c, if_neg c]
  have u0 : 0 ≤ upL (M.1 70 1) ∧ upL (M.1 70 1) < 20 := by unfold upL; split <;> omega
  rw [e0]
  unfold RmW
  generalize upL (M.1 70 1) = u at *
  unfold t_Past_remember_L25 t_Past_remember_L72
  simp (config := { proj := false }) only [qlet]
  have f1 : Fr (fun q j => q = 70 ∧ j = 1) M (setI M 70 1 u) := Fr.rf.setI ⟨rfl, rfl⟩
  have v1 : (setI M 70 1 u).1 70 1 = u := sI_self _ _ _ _
  rw [v1]
  rw [if_neg (by omega), if_neg (by omega)]
  have h1 := h.fr f1 (fun q j z y => by unfold CsW at z; omega)
  generalize setI M 70 1 u = M1 at *
  obtain ⟨c1, c2⟩ := c_scopy (k0 := 72 + 5 * u.toNat) (k1 := 47) hV (Or.inl (by omega)) h1
  generalize t_Scene_copy M1 (72 + 5 * u.toNat) 47 = M2 at *
  have e2 : M2.1 70 2 = M.1 70 2 := ((c2 70 2 (by unfold CsW; omega)).1).trans (f1 70 2 (by omega)).1
  have e1 : M2.1 70 1 = u := ((c2 70 1 (by unfold CsW; omega)).1).trans v1
  rw [e2, w32_id (x := M.1 70 2 + 1) (by unfold InR; omega)]
  have f3 : Fr (fun q j => q = 70 ∧ j = 2) M2 (setI M2 70 2 (q_min (M.1 70 2 + 1) 20)) := Fr.rf.setI ⟨rfl, rfl⟩
  refine ⟨((f1.mono (fun q j z => by omega)).trans (c2.mono (fun q j z => Or.inr z))).trans (f3.mono (fun q j z => by omega)), ?_, ?_, c1.fr f3 (fun q j z y => by unfold CsW at z; omega)⟩
  · rw [sI_ne (by omega)]; exact e1
  · rw [sI_self]
    unfold q_min upM
    by_cases c : M.1 70 2 < 20
    · rw [if_neg (by omega), if_pos c]
    · rw [if_neg c]
      by_cases d : 20 < M.1 70 2 + 1
      · rw [if_pos d]
      · omega
theorem c_takeBack {M : Mem} {V : TV} {D A S L : Int → Int} {nets wat : Int64} {wl : Int → Bool} (hV : VOK V) (hL : 0 ≤ M.1 70 1 ∧ M.1 70 1 < 20) (hm : 0 < M.1 70 2 ∧ M.1 70 2 ≤ 20) (h : CScF M (72 + 5 * (M.1 70 1).toNat) V D A S L nets wat wl) : ∃ N, t_Past_takeBack M 47 = (N, 1) ∧ Fr (fun q j => (q = 70 ∧ (j = 1 ∨ j = 2)) ∨ CsW 47 q j) M N ∧ N.1 70 1 = dnL (M.1 70 1) ∧ N.1 70 2 = M.1 70 2 - 1 ∧ CScF N 47 V D A S L nets wat wl := by
  unfold t_Past_takeBack
  rw [if_neg (by omega), if_neg (by omega), if_neg (by omega)]
  simp (config := { proj := false }) only [qlet]
  obtain ⟨c1, c2⟩ := c_scopy (k0 := 47) (k1 := 72 + 5 * (M.1 70 1).toNat) hV (Or.inr (by omega)) h
  generalize t_Scene_copy M 47 (72 + 5 * (M.1 70 1).toNat) = M1 at *
  have e1 : M1.1 70 1 = M.1 70 1 := (c2 70 1 (by unfold CsW; omega)).1
  have e2 : M1.1 70 2 = M.1 70 2 := (c2 70 2 (by unfold CsW; omega)).1
  have l53 : t_Past_takeBack_L53 47 M1 = t_Past_takeBack_L77 47 M1 (dnL (M.1 70 1)) := by
    unfold t_Past_takeBack_L53 dnL
    rw [e1]
    by_cases c : M.1 70 1 ≤ 0
    · rw [if_pos c, if_pos c]; rfl
    · rw [if_neg c, if_neg c, w32_id (by unfold InR; omega)]
  rw [l53]
  unfold t_Past_takeBack_L77
  simp (config := { proj := false }) only [qlet]
  have e3 : (setI M1 70 1 (dnL (M.1 70 1))).1 70 2 = M.1 70 2 := (sI_ne (by omega)).trans e2
  rw [e3, w32_id (x := M.1 70 2 - 1) (by unfold InR; omega)]
  have f3 : Fr (fun q j => q = 70 ∧ (j = 1 ∨ j = 2)) M1 (setI (setI M1 70 1 (dnL (M.1 70 1))) 70 2 (M.1 70 2 - 1)) := (Fr.rf.setI (by omega)).setI (by omega)
  exact ⟨_, rfl, (c2.mono (fun q j z => Or.inr z)).trans (f3.mono (fun q j z => Or.inl z)), by rw [sI_ne (by omega), sI_self], sI_self _ _ _ _, c1.fr f3 (fun q j z y => by unfold CsW at z; omega)⟩
/-! chronicles, images, notes, tried votes -/
def ChW (k : Nat) : Nat → Int → Prop := fun q j => (q = k ∧ 3 ≤ j ∧ j ≤ 5) ∨ (k + 1 ≤ q ∧ q ≤ k + 3)
def RgR (a : Int) : Nat → Int → Prop := fun q j => ((q = 207 ∨ q = 208 ∨ q = 209) ∧ j = a) ∨ ((q = 216 ∨ q = 217 ∨ q = 218) ∧ 100 * a ≤ j ∧ j < 100 * a + 100)
def ChR (M : Mem) (k : Nat) (a : Int) : Prop := M.1 k 3 = M.1 207 a ∧ M.1 k 4 = M.1 208 a ∧ M.2 k 5 = q_i2l (M.1 209 a) ∧ ∀ y, 0 ≤ y → y < M.1 207 a → M.1 (k + 1) y = M.1 216 (100 * a + y) ∧ M.1 (k + 2) y = M.1 217 (100 * a + y) ∧ M.1 (k + 3) y = M.1 218 (100 * a + y)
theorem ChR.fr {W : Nat → Int → Prop} {M N : Mem} {k : Nat} {a : Int} (hy : M.1 207 a ≤ 99) (h : ChR M k a) (hF : Fr W M N) (hd : ∀ q j, (ChW k q j ∨ RgR a q j) → ¬ W q j) : ChR N k a := by
  obtain ⟨h1, h2, h3, h4⟩ := h
  have c : ∀ q j, ChW k q j → N.1 q j = M.1 q j ∧ N.2 q j = M.2 q j := fun q j z => hF q j (hd q j (Or.inl z))
  have r : ∀ q j, RgR a q j → N.1 q j = M.1 q j := fun q j z => (hF q j (hd q j (Or.inr z))).1
  refine ⟨?_, ?_, ?_, fun y x z => ?_⟩
  · rw [(c k 3 (by unfold ChW; omega)).1, r 207 a (by unfold RgR; omega)]; exact h1
  · rw [(c k 4 (by unfold ChW; omega)).1, r 208 a (by unfold RgR; omega)]; exact h2
  · rw [(c k 5 (by unfold ChW; omega)).2, r 209 a (by unfold RgR; omega)]; exact h3
  · rw [r 207 a (by unfold RgR; omega)] at z
    rw [(c (k + 1) y (by unfold ChW; omega)).1, (c (k + 2) y (by unfold ChW; omega)).1, (c (k + 3) y (by unfold ChW; omega)).1, r 216 _ (by unfold RgR; omega), r 217 _ (by unfold RgR; omega), r 218 _ (by unfold RgR; omega)]
    exact h4 y x z
def ImR (M : Mem) (V : TV) : Prop := M.1 0 13 = M.1 191 42 ∧ (M.1 191 42 = 1 → CSR M 57 2 V ∧ ChR M 66 2)
def NoR (M : Mem) : Prop := M.1 172 5 = M.1 191 60 ∧ M.1 172 6 = M.1 191 61 ∧ ∀ k, 0 ≤ k → k < M.1 191 60 → (M.1 228 k = 0 ∧ M.1 173 k = M.1 226 k ∧ M.1 174 k = M.1 227 k ∧ M.1 175 k = -1) ∨ (M.1 228 k = 1 ∧ M.1 175 k = M.1 226 k ∧ M.1 174 k = -1 ∧ M.1 173 k = -1)
/-- (the light form: nothing is held of the class's table of votes) -/
def CaR (_M : Mem) (_V : TV) : Prop := True
/-- all that both sides hold alike, beside town, tape and fault -/
def RL (M : Mem) (V : TV) : Prop := CSR M 47 0 V ∧ ChR M 62 0 ∧ PastR M V ∧ ImR M V ∧ NoR M ∧ CaR M V
