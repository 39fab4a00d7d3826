/-! ===== what the reference keeps to ===== -/
/-- knots: 31 a number, 18..24 a name, else a sign (the class's codes) -/
def ksort (c : Int) : Int := if c = 31 then 0 else if 18 ≤ c ∧ c ≤ 24 then 1 else 2
def kval (c n : Int) : Int := if c = 31 then n else if 18 ≤ c ∧ c ≤ 24 then c - 18 else if c = 15 then 262 else if c = 16 then 261 else if c = 17 then 260 else if c = 43 then 43 else if c = 44 then 45 else if c = 45 then 42 else if c = 46 then 47 else if c = 47 then 60 else if c = 48 then 256 else if c = 49 then 61 else if c = 50 then 257 else if c = 51 then 258 else 62
abbrev ktwo (c : Int) : Prop := c = 15 ∨ c = 16 ∨ (43 ≤ c ∧ c ≤ 52)
def dpV (K : Int → Int) : Nat → Int
  | 0 => 0
  | n + 1 => dpV K n + (if K (n : Int) = 17 then 0 else if ktwo (K (n : Int)) then -1 else 1)
/-- a well made row of knots -/
def KOK (K : Int → Int) (n : Int) : Prop := 0 ≤ n ∧ n ≤ 64 ∧ (∀ i : Nat, (i : Int) < n → (K (i : Int) = 31 ∨ (18 ≤ K (i : Int) ∧ K (i : Int) ≤ 24)) ∨ (K (i : Int) = 17 ∧ 1 ≤ dpV K i) ∨ (ktwo (K (i : Int)) ∧ 2 ≤ dpV K i)) ∧ (0 < n → dpV K n.toNat = 1)
/-- the reference's picture of a law: s = 0 push, 1 joy -/
def MF1 (M : Mem) (s : Int) (K N : Int → Int) (n : Int) : Prop := 0 ≤ M.1 203 s ∧ M.1 204 s = M.1 203 s + n ∧ M.1 204 s ≤ 64 ∧ ∀ i, 0 ≤ i → i < n → M.1 205 (M.1 203 s + i) = ksort (K i) ∧ M.1 206 (M.1 203 s + i) = kval (K i) (N i)
def MF (M : Mem) (V : TV) : Prop := MF1 M 0 (V 10) (V 11) (V 0 11) ∧ MF1 M 1 (V 12) (V 13) (V 0 12)
def FOK (V : TV) : Prop := KOK (V 10) (V 0 11) ∧ KOK (V 12) (V 0 12) ∧ (V 0 9 = 0 ∨ V 0 9 = 1) ∧ (V 0 10 = 0 ∨ V 0 10 = 1) ∧ (V 0 9 = 1 ↔ 0 < V 0 11) ∧ (V 0 10 = 1 ↔ 0 < V 0 12)
def RowOK (M : Mem) (a : Int) (V : TV) : Prop := (∀ w, 0 ≤ w → w < V 0 2 → 0 ≤ M.1 212 (4 * a + w) ∧ M.1 212 (4 * a + w) ≤ 4) ∧ (∀ t, 0 ≤ t → t < V 0 3 → 0 ≤ M.1 213 (8 * a + t) ∧ M.1 213 (8 * a + t) < cellsV V) ∧ ∀ c, cellsV V ≤ c → c < 64 → tb (M.2 210 a) c = false ∧ tb (M.2 211 a) c = false
theorem RowOK.of {M N : Mem} {a b : Int} {V : TV} (hV : VOK V) (h : RowOK M b V) (e : RowEq N a M b) : RowOK N a V := by
  have h3 := hV.1
  obtain ⟨⟨-, -, -, e4, e5⟩, e6, e7⟩ := e
  refine ⟨fun w p q => ?_, fun t p q => ?_, fun c p q => ?_⟩
  · rw [e6 w p (by omega)]; exact h.1 w p q
  · rw [(e7 t p (by omega)).1]; exact h.2.1 t p q
  · rw [e4, e5]; exact h.2.2 c p q
def DN (M : Mem) (a : Int) : Int → Int := fun w => M.1 212 (4 * a + w)
def AT (M : Mem) (a : Int) : Int → Int := fun t => M.1 213 (8 * a + t)
def ST (M : Mem) (a : Int) : Int → Int := fun t => M.1 214 (8 * a + t)
def LN (M : Mem) (a : Int) : Int → Int := fun t => M.1 215 (8 * a + t)
theorem MSc.self (M : Mem) (a : Int) (V : TV) : MSc M a V (DN M a) (AT M a) (M.2 210 a) := ⟨fun _ _ _ => rfl, fun _ _ _ => rfl, rfl⟩
/-- the next cell by row a -/
def nxR (M : Mem) (a : Int) (V : TV) : Int → Int := nxV V (DN M a) (M.2 210 a) (wlV V)
def NotesOK (M : Mem) (V : TV) : Prop := 0 ≤ M.1 191 60 ∧ M.1 191 60 ≤ 24 ∧ -1 ≤ M.1 191 61 ∧ M.1 191 61 ≤ M.1 191 60 ∧ ∀ k, 0 ≤ k → k < M.1 191 60 → (M.1 228 k = 0 ∧ 0 ≤ M.1 226 k ∧ M.1 226 k < cellsV V ∧ V 8 (M.1 226 k) = 0 ∧ (M.1 227 k = -1 ∨ (0 ≤ M.1 227 k ∧ M.1 227 k < cellsV V))) ∨ (M.1 228 k = 1 ∧ 0 ≤ M.1 226 k ∧ M.1 226 k < k)
def LogOK (M : Mem) (a : Int) (V : TV) (yr : Int) : Prop := 0 ≤ yr ∧ yr ≤ 99
def RI (M : Mem) (V : TV) : Prop := (VOK V ∧ MT0 M V ∧ FOK V ∧ MF M V) ∧ M.1 191 44 = -1 ∧ (RowOK M 0 V ∧ 0 ≤ M.1 207 0 ∧ M.1 207 0 ≤ 99 ∧ 0 ≤ M.1 209 0 ∧ M.1 209 0 ≤ 2147483647) ∧ ((M.1 191 42 = 0 ∨ M.1 191 42 = 1) ∧ (M.1 191 42 = 1 → RowOK M 2 V ∧ 0 ≤ M.1 207 2 ∧ M.1 207 2 ≤ 99 ∧ 0 ≤ M.1 209 2 ∧ M.1 209 2 ≤ 2147483647)) ∧ (0 ≤ M.1 191 43 ∧ M.1 191 43 ≤ 20 ∧ ∀ k, 0 ≤ k → k < M.1 191 43 → RowOK M (3 + k) V ∧ M.1 207 (3 + k) = M.1 207 0 ∧ M.1 208 (3 + k) = M.1 208 0 ∧ M.1 209 (3 + k) = M.1 209 0) ∧ NotesOK M V
/-- the cells that it speaks of; row 1 is for tries -/
def RIc : Nat → Int → Prop := fun k j => (193 ≤ k ∧ k ≤ 206) ∨ ((207 ≤ k ∧ k ≤ 211) ∧ j ≠ 1) ∨ (k = 212 ∧ ¬ (4 ≤ j ∧ j < 8)) ∨ ((213 ≤ k ∧ k ≤ 215) ∧ ¬ (8 ≤ j ∧ j < 16)) ∨ (226 ≤ k ∧ k ≤ 228) ∨ (k = 191 ∧ (j = 42 ∨ j = 43 ∨ j = 44 ∨ j = 60 ∨ j = 61))
theorem CW_RIc {a : Int} (h : 0 ≤ a ∧ a ≠ 1) : ∀ k j, CW a k j → RIc k j := by
  intro k j hk
  unfold CW at hk
  unfold RIc
  omega
theorem MF1.fr {W : Nat → Int → Prop} {M N : Mem} {s n : Int} {K L : Int → Int} (hF : Fr W M N) (hd : ∀ (k : Nat) (j : Int), 203 ≤ k → k ≤ 206 → ¬ W k j) (h : MF1 M s K L n) : MF1 N s K L n := by
  obtain ⟨h1, h2, h3, h4⟩ := h
  have e3 : N.1 203 s = M.1 203 s := (hF _ _ (hd _ _ (by omega) (by omega))).1
  have e4 : N.1 204 s = M.1 204 s := (hF _ _ (hd _ _ (by omega) (by omega))).1
  refine ⟨by rw [e3]; exact h1, by rw [e3, e4]; exact h2, by rw [e4]; exact h3, fun i a b => ?_⟩
  rw [e3, (hF 205 _ (hd _ _ (by omega) (by omega))).1, (hF 206 _ (hd _ _ (by omega) (by omega))).1]
  exact h4 i a b
theorem NotesOK.fr {W : Nat → Int → Prop} {M N : Mem} {V : TV} (hF : Fr W M N) (hd : ∀ (k : Nat) (j : Int), ((226 ≤ k ∧ k ≤ 228) ∨ (k = 191 ∧ (j = 60 ∨ j = 61))) → ¬ W k j) (h : NotesOK M V) : NotesOK N V := by
  unfold NotesOK at *
  rw [(hF 191 60 (hd _ _ (by omega))).1, (hF 191 61 (hd _ _ (by omega))).1]
  refine ⟨h.1, h.2.1, h.2.2.1, h.2.2.2.1, fun k a b => ?_⟩
  rw [(hF 226 k (hd _ _ (by omega))).1, (hF 227 k (hd _ _ (by omega))).1, (hF 228 k (hd _ _ (by omega))).1]
  exact h.2.2.2.2 k a b
theorem RI.fr {W : Nat → Int → Prop} {M N : Mem} {V : TV} (hF : Fr W M N) (hd : ∀ k j, RIc k j → ¬ W k j) (h : RI M V) : RI N V := by
  obtain ⟨⟨a1, a2, a3, a4⟩, b, ⟨c1, c2⟩, ⟨d1, d2⟩, ⟨e1, e2, e3⟩, f⟩ := h
  have row : ∀ a : Int, 0 ≤ a → a ≠ 1 → RowEq N a M a := fun a x y => RowEq.fr hF (fun k j hk => hd k j (CW_RIc ⟨x, y⟩ k j hk))
  have q : ∀ j : Int, (j = 42 ∨ j = 43 ∨ j = 44) → N.1 191 j = M.1 191 j := fun j hj => (hF 191 j (hd _ _ (by unfold RIc; omega))).1
  have q0 := row 0 (by omega) (by omega)
  refine ⟨⟨a1, MT0.fr hF (fun k j x y => hd k j (by unfold RIc; omega)) a2, a3, MF1.fr hF (fun k j x y => hd k j (by unfold RIc; omega)) a4.1, MF1.fr hF (fun k j x y => hd k j (by unfold RIc; omega)) a4.2⟩, by rw [q 44 (by omega)]; exact b, ⟨c1.of a1 q0, by rw [q0.1.1, q0.1.2.2.1]; exact c2⟩, ⟨by rw [q 42 (by omega)]; exact d1, fun h => ?_⟩, ⟨by rw [q 43 (by omega)]; exact e1, by rw [q 43 (by omega)]; exact e2, fun k x y => ?_⟩, f.fr hF (fun k j x => hd k j (by unfold RIc; omega))⟩
  · have q2 := row 2 (by omega) (by omega)
    obtain ⟨r1, r2⟩ := d2 (by rw [← q 42 (by omega)]; exact h)
    exact ⟨r1.of a1 q2, by rw [q2.1.1, q2.1.2.2.1]; exact r2⟩
  · rw [q 43 (by omega)] at y
    have q3 := row (3 + k) (by omega) (by omega)
    obtain ⟨r1, r2, r3, r4⟩ := e3 k x y
    exact ⟨r1.of a1 q3, by rw [q3.1.1, q0.1.1]; exact r2, by rw [q3.1.2.1, q0.1.2.1]; exact r3, by rw [q3.1.2.2.1, q0.1.2.2.1]; exact r4⟩
