/-! ===== a change that can be undone, both sides ===== -/
theorem jyS_congr {V : TV} {f A B : Int → Int} {w : Int} : ∀ {n : Nat}, (∀ t : Nat, t < n → A (t : Int) = B (t : Int)) → jyS V f A w n = jyS V f B w n := by
  intro n
  induction n with
  | zero => intro _; rfl
  | succ n ih => intro h; rw [jyS, jyS, ih (fun t ht => h t (by omega)), h n (by omega)]
theorem joyS_congr {V : TV} (hV : VOK V) {f A B : Int → Int} (h : ∀ t, 0 ≤ t → t < V 0 3 → A t = B t) (w yr : Int) : joyS V f A w yr = joyS V f B w yr := by
  have hv := hV.1
  have e := jyS_congr (V := V) (f := f) (A := A) (B := B) (w := w) (n := (V 0 3).toNat) (fun t ht => h t (by omega) (by omega))
  unfold joyS nmJ
  rw [e]
theorem jvS_congr {V : TV} (hV : VOK V) {A B : Int → Int} (h : ∀ t, 0 ≤ t → t < V 0 3 → A t = B t) (nets : Int64) (wl : Int → Bool) (yr v w : Int) : jvS V A nets wl yr v w = jvS V B nets wl yr v w := joyS_congr hV h w yr
def KnR (P M : Mem) : Prop := (M.1 191 43 < 20 ∧ (∀ k, 0 ≤ k → k < M.1 191 43 → RowEq P (3 + k) M (3 + k)) ∧ RowEq P (3 + M.1 191 43) M 0) ∨ (M.1 191 43 = 20 ∧ (∀ k, 0 ≤ k → k < 19 → RowEq P (3 + k) M (4 + k)) ∧ RowEq P 22 M 0)
theorem m_kn {M : Mem} (hm : 0 ≤ M.1 191 43 ∧ M.1 191 43 ≤ 20) : ∃ N, t_MO_keepNow M = some N ∧ Fr KW M N ∧ N.1 191 43 = upM (M.1 191 43) ∧ KnR N M := by
  by_cases c : M.1 191 43 < 20
  · obtain ⟨N, n1, n2, n3, n4, n5⟩ := m_keepNow_less (u := M.1 191 43) ⟨hm.1, c⟩ rfl
    refine ⟨N, n1, n2, by rw [n5]; unfold upM; rw [if_pos c], Or.inl ⟨c, fun k a b => ?_, n4⟩⟩
    exact RowEq.fr n3 (fun q j z y => by unfold CW at z y; omega)
  · obtain ⟨N, n1, n2, n3, n4, n5⟩ := m_keepNow_full (M := M) (by omega)
    exact ⟨N, n1, n2, by rw [n5]; unfold upM; rw [if_neg c], Or.inr ⟨by omega, n3, n4⟩⟩
theorem KnR.fr {W : Nat → Int → Prop} {M P Q : Mem} (h : KnR P M) (hF : Fr W P Q) (hm : 0 ≤ M.1 191 43) (hd : ∀ a q j, 3 ≤ a → a ≤ 22 → CW a q j → ¬ W q j) : KnR Q M := by
  rcases h with ⟨a, b, c⟩ | ⟨a, b, c⟩
  · exact Or.inl ⟨a, fun k x y => (RowEq.fr hF (fun q j z => hd _ q j (by omega) (by omega) z)).trans (b k x y), (RowEq.fr hF (fun q j z => hd _ q j (by omega) (by omega) z)).trans c⟩
  · exact Or.inr ⟨a, fun k x y => (RowEq.fr hF (fun q j z => hd _ q j (by omega) (by omega) z)).trans (b k x y), (RowEq.fr hF (fun q j z => hd _ q j (by omega) (by omega) z)).trans c⟩
/-- the class's side of such a change -/
def CmW (L : Int) : Nat → Int → Prop := fun q j => RmW L q j ∨ CsW 47 q j ∨ (q = 177 ∧ j = 8) ∨ (52 ≤ q ∧ q ≤ 56)
def CmR (M N : Mem) (V : TV) (D A S L : Int → Int) (nets wat : Int64) : Prop := Fr (CmW (M.1 70 1)) M N ∧ N.1 70 1 = upL (M.1 70 1) ∧ N.1 70 2 = upM (M.1 70 2) ∧ CScF N (72 + 5 * (upL (M.1 70 1)).toNat) V (DN M 0) (AT M 0) (ST M 0) (LN M 0) (M.2 210 0) (M.2 211 0) (wlV V) ∧ CScF N 47 V D A S L nets wat (wlV V) ∧ (N.1 177 8 = 0 ∨ (N.1 177 8 = M.1 177 8 ∧ (∀ t, 0 ≤ t → t < V 0 3 → A t = AT M 0 t) ∧ nets = M.2 210 0))
/-- the reference's -/
def MmW : Nat → Int → Prop := fun q j => KW q j ∨ RwW 0 q j ∨ CW 1 q j ∨ (q = 191 ∧ j = 0)
def MmR (N P : Mem) (V : TV) (D A S L : Int → Int) (nets wat : Int64) : Prop := Fr MmW N P ∧ P.1 191 43 = upM (N.1 191 43) ∧ KnR P N ∧ (∀ w, 0 ≤ w → w < V 0 2 → P.1 212 w = D w) ∧ (∀ t, 0 ≤ t → t < V 0 3 → P.1 213 t = A t ∧ P.1 214 t = S t ∧ P.1 215 t = L t) ∧ P.2 210 0 = nets ∧ P.2 211 0 = wat
theorem CmW_cls {L : Int} (hL : 0 ≤ L ∧ L < 20) {q : Nat} {j : Int} (h : CmW L q j) : (47 ≤ q ∧ q ≤ 56) ∨ (q = 70 ∧ (j = 1 ∨ j = 2)) ∨ (72 ≤ q ∧ q ≤ 171) ∨ (q = 177 ∧ j = 8) := by
  have u : 0 ≤ upL L ∧ upL L < 20 := by unfold upL; split <;> omega
  unfold CmW RmW CsW at h
  omega
theorem MmW_ref {q : Nat} {j : Int} (h : MmW q j) : 191 ≤ q ∧ ¬ (q = 191 ∧ ¬ (j = 0 ∨ j = 43)) ∧ ¬ ((q = 207 ∨ q = 208 ∨ q = 209) ∧ (j = 0 ∨ j = 2)) ∧ ¬ ((q = 210 ∨ q = 211) ∧ j = 2) ∧ ¬ (q = 212 ∧ 8 ≤ j ∧ j < 12) ∧ ¬ ((q = 213 ∨ q = 214 ∨ q = 215) ∧ 16 ≤ j ∧ j < 24) ∧ q ≤ 215 ∧ ¬ (192 ≤ q ∧ q ≤ 206) := by
  unfold MmW KW RwW CW at h
  omega
theorem CaR.zero {N : Mem} {V : TV} (_h : N.1 177 8 = 0) : CaR N V := trivial
theorem CaR.move {M P : Mem} {V : TV} (_hV : VOK V) (_h : CaR M V) (_e8 : P.1 177 8 = 0 ∨ (P.1 177 8 = M.1 177 8 ∧ (∀ t, 0 ≤ t → t < V 0 3 → AT P 0 t = AT M 0 t) ∧ P.2 210 0 = M.2 210 0)) (_e7 : P.1 207 0 = M.1 207 0) (_ec : ∀ q j, ((q = 177 ∧ (j = 6 ∨ j = 7)) ∨ q = 184) → P.1 q j = M.1 q j) : CaR P V := trivial
theorem CaR.fr {W : Nat → Int → Prop} {M N : Mem} {V : TV} (hV : VOK V) (h : CaR M V) (hF : Fr W M N) (hd : ∀ q j, ((q = 177 ∧ 6 ≤ j ∧ j ≤ 8) ∨ q = 184 ∨ (q = 207 ∧ j = 0) ∨ RwW 0 q j) → ¬ W q j) : CaR N V := by
  have hv := hV.1
  have e : ∀ q j, ((q = 177 ∧ 6 ≤ j ∧ j ≤ 8) ∨ q = 184 ∨ (q = 207 ∧ j = 0) ∨ RwW 0 q j) → N.1 q j = M.1 q j ∧ N.2 q j = M.2 q j := fun q j z => hF q j (hd q j z)
  exact h.move hV (Or.inr ⟨(e 177 8 (by omega)).1, fun t a b => (e 213 _ (by unfold RwW; omega)).1, (e 210 0 (by unfold RwW; omega)).2⟩) (e 207 0 (by omega)).1 (fun q j z => (e q j (by omega)).1)
theorem rl_move {M N P : Mem} {V : TV} {D A S L : Int → Int} {nets wat : Int64} (hV : VOK V) (hy : M.1 207 0 ≤ 99 ∧ (M.1 191 42 = 1 → M.1 207 2 ≤ 99)) (h : RL M V) (hc : CmR M N V D A S L nets wat) (hm : MmR N P V D A S L nets wat) : RL P V := by
  have hv := hV.1
  obtain ⟨r1, r2, r3, r4, r5, r6⟩ := h
  obtain ⟨c1, c2, c3, c4, c5, c6⟩ := hc
  obtain ⟨m1, m2, m3, m4, m5, m6, m7⟩ := hm
  have hL := r3.2.1
  have u : 0 ≤ upL (M.1 70 1) ∧ upL (M.1 70 1) < 20 := by unfold upL; split <;> omega
  have cw : ∀ {q j}, CmW (M.1 70 1) q j → _ := fun z => CmW_cls hL z
  have fA : Fr (fun q j => CmW (M.1 70 1) q j ∨ MmW q j) M P := (c1.mono (fun q j z => Or.inl z)).trans (m1.mono (fun q j z => Or.inr z))
  have nc : ∀ q j, q < 191 → P.1 q j = N.1 q j ∧ P.2 q j = N.2 q j := fun q j x => m1 q j (fun z => by have := MmW_ref z; omega)
  have nr : ∀ q j, 191 ≤ q → N.1 q j = M.1 q j ∧ N.2 q j = M.2 q j := fun q j x => c1 q j (fun z => by have := cw z; omega)
  have e43 : N.1 191 43 = M.1 191 43 := (nr 191 43 (by omega)).1
  have rowN : ∀ b, RowEq N b M b := fun b => RowEq.fr c1 (fun q j z y => by have := cw y; unfold CW at z; omega)
  have f60 : ∀ q j, q < 191 → ¬ ((47 ≤ q ∧ q ≤ 56) ∨ (q = 70 ∧ (j = 1 ∨ j = 2)) ∨ (72 ≤ q ∧ q ≤ 171) ∨ (q = 177 ∧ j = 8)) → P.1 q j = M.1 q j ∧ P.2 q j = M.2 q j := fun q j x y => fA q j (fun z => by
    rcases z with z | z
    · exact y (cw z)
    · have := MmW_ref z; omega)
  refine ⟨?_, ?_, ?_, ⟨?_, fun z => ?_⟩, ⟨?_, ?_, fun k a b => ?_⟩, ?_⟩
  · -- now
    have k1 : CScF P 47 V D A S L nets wat (wlV V) := c5.fr m1 (fun q j z y => by have := MmW_ref y; unfold CsW at z; omega)
    exact k1.eq (fun w x y => by show D w = P.1 212 (4 * 0 + w); rw [show (4 : Int) * 0 + w = w by omega, m4 w x y]) (fun t x y => by
      show A t = P.1 213 (8 * 0 + t) ∧ S t = P.1 214 (8 * 0 + t) ∧ L t = P.1 215 (8 * 0 + t)
      rw [show (8 : Int) * 0 + t = t by omega, (m5 t x y).1, (m5 t x y).2.1, (m5 t x y).2.2]
      exact ⟨rfl, rfl, rfl⟩) m6.symm m7.symm
  · exact r2.fr hy.1 fA (fun q j z y => by
      rcases y with y | y
      · have := cw y; unfold ChW RgR at z; omega
      · have := MmW_ref y; unfold ChW RgR at z; omega)
  · refine past_push hV r3 ?_ ?_ ?_ ?_ (fun i hi ne q j z => ?_) ?_
    · rw [(nc 70 1 (by omega)).1]; exact c2
    · rw [(nc 70 2 (by omega)).1]; exact c3
    · rw [m2, e43]
    · exact c4.fr m1 (fun q j z y => by have := MmW_ref y; unfold CsW at z; omega)
    · have q191 : q < 191 := by unfold CsW at z; omega
      have := c1 q j (fun y => by unfold CmW RmW CsW at y; unfold CsW at z; omega)
      exact ⟨(nc q j q191).1.trans this.1, (nc q j q191).2.trans this.2⟩
    · rcases m3 with ⟨a, b, c⟩ | ⟨a, b, c⟩
      · exact Or.inl ⟨by omega, fun k x y => (b k x (by omega)).trans (rowN _), by rw [← e43]; exact c.trans (rowN 0)⟩
      · exact Or.inr ⟨by omega, fun k x y => (b k x y).trans (rowN _), c.trans (rowN 0)⟩
  · rw [(f60 0 13 (by omega) (by omega)).1, (m1 191 42 (fun z => by have := MmW_ref z; omega)).1, (nr 191 42 (by omega)).1]; exact r4.1
  · have z' : M.1 191 42 = 1 := by
      rw [← (nr 191 42 (by omega)).1, ← (m1 191 42 (fun z => by have := MmW_ref z; omega)).1]; exact z
    obtain ⟨i1, i2⟩ := r4.2 z'
    refine ⟨i1.fr hV fA (fun q j x y => ?_), i2.fr (hy.2 z') fA (fun q j x y => ?_)⟩
    · rcases y with y | y
      · have := cw y; unfold CsW RwW at x; omega
      · have := MmW_ref y; unfold CsW RwW at x; omega
    · rcases y with y | y
      · have := cw y; unfold ChW RgR at x; omega
      · have := MmW_ref y; unfold ChW RgR at x; omega
  · rw [(f60 172 5 (by omega) (by omega)).1, (m1 191 60 (fun z => by have := MmW_ref z; omega)).1, (nr 191 60 (by omega)).1]; exact r5.1
  · rw [(f60 172 6 (by omega) (by omega)).1, (m1 191 61 (fun z => by have := MmW_ref z; omega)).1, (nr 191 61 (by omega)).1]; exact r5.2.1
  · rw [(m1 191 60 (fun z => by have := MmW_ref z; omega)).1, (nr 191 60 (by omega)).1] at b
    rw [(f60 173 k (by omega) (by omega)).1, (f60 174 k (by omega) (by omega)).1, (f60 175 k (by omega) (by omega)).1, (m1 226 k (fun z => by have := MmW_ref z; omega)).1, (nr 226 k (by omega)).1, (m1 227 k (fun z => by have := MmW_ref z; omega)).1, (nr 227 k (by omega)).1, (m1 228 k (fun z => by have := MmW_ref z; omega)).1, (nr 228 k (by omega)).1]
    exact r5.2.2 k a b
  · have e8 : P.1 177 8 = N.1 177 8 := (nc 177 8 (by omega)).1
    refine r6.move hV ?_ ?_ (fun q j z => (f60 q j (by omega) (by omega)).1)
    · rw [e8]
      rcases c6 with c6 | ⟨c6, c7, c8⟩
      · exact Or.inl c6
      · refine Or.inr ⟨c6, fun t a b => ?_, by rw [m6]; exact c8⟩
        rw [← c7 t a b]
        show P.1 213 (8 * 0 + t) = A t
        rw [show (8 : Int) * 0 + t = t by omega, (m5 t a b).1]
    · rw [(m1 207 0 (fun z => by have := MmW_ref z; omega)).1, (nr 207 0 (by omega)).1]
