/-! ===== how many bits a long has ===== -/
theorem and_sp {p q r s : Nat} (hp : p < 256) (hr : r < 256) : (p + 256 * q) &&& (r + 256 * s) = (p &&& r) + 256 * (q &&& s) := by
  have h1 : ((p + 256 * q) &&& (r + 256 * s)) % 2 ^ 8 = (p + 256 * q) % 2 ^ 8 &&& (r + 256 * s) % 2 ^ 8 := by first | exact Nat.and_mod_two_pow | exact Nat.and_mod_two_pow _ _ _ | simp [Nat.and_mod_two_pow]
  have h2 : ((p + 256 * q) &&& (r + 256 * s)) / 2 ^ 8 = (p + 256 * q) / 2 ^ 8 &&& (r + 256 * s) / 2 ^ 8 := by first | exact Nat.and_div_two_pow | exact Nat.and_div_two_pow _ _ _ | simp [Nat.and_div_two_pow]
  rw [show (p + 256 * q) % 2 ^ 8 = p by omega, show (r + 256 * s) % 2 ^ 8 = r by omega] at h1
  rw [show (p + 256 * q) / 2 ^ 8 = q by omega, show (r + 256 * s) / 2 ^ 8 = s by omega] at h2
  generalize (p + 256 * q) &&& (r + 256 * s) = z at *
  generalize p &&& r = y at *
  generalize q &&& s = x at *
  omega
def mkC (a : Nat) : Nat → Nat
  | 0 => 0
  | n + 1 => a + 256 * mkC a n
def bwC (f : Nat → Nat) : Nat → Nat → Nat
  | 0, _ => 0
  | n + 1, X => f (X % 256) + 256 * bwC f n (X / 256)
def g1C (b : Nat) : Nat := b - (b / 2 &&& 85)
def g2C (b : Nat) : Nat := (g1C b &&& 51) + (g1C b / 4 &&& 51)
def g3C (b : Nat) : Nat := (g2C b + g2C b / 16) &&& 15
def pcC (b : Nat) : Nat := b % 2 + b / 2 % 2 + b / 4 % 2 + b / 8 % 2 + b / 16 % 2 + b / 32 % 2 + b / 64 % 2 + b / 128 % 2
theorem byte1 : ∀ b : Nat, b < 256 → ∀ e : Nat, e < 2 → (b / 2 + 128 * e) &&& 85 = b / 2 &&& 85 := by decide +kernel
theorem byte1b : ∀ b : Nat, b < 256 → (b / 2 &&& 85) ≤ b ∧ g1C b < 256 ∧ g2C b ≤ 68 ∧ g2C b % 16 ≤ 4 ∧ g3C b = pcC b := by decide +kernel
theorem byte2 : ∀ c : Nat, c < 256 → ∀ e : Nat, e < 4 → (c / 4 + 64 * e) &&& 51 = c / 4 &&& 51 := by decide +kernel
theorem byte3 : ∀ d : Nat, d < 69 → ∀ e : Nat, e < 5 → (d + d / 16 + 16 * e) &&& 15 = (d + d / 16) &&& 15 := by decide +kernel
theorem st1C : ∀ (n X : Nat), X < 256 ^ n → X - (X / 2 &&& mkC 85 n) = bwC g1C n X := by
  intro n
  induction n with
  | zero =>
    intro X h
    have : X = 0 := by rw [Nat.pow_zero] at h; omega
    subst this
    rfl
  | succ n ih =>
    intro X h
    rw [Nat.pow_succ] at h
    have hX : X = X % 256 + 256 * (X / 256) := by omega
    have hb : X % 256 < 256 := by omega
    have hY : X / 256 < 256 ^ n := by rw [Nat.div_lt_iff_lt_mul (by decide)]; exact h
    have e2 : X / 2 = (X % 256 / 2 + 128 * (X / 256 % 2)) + 256 * (X / 256 / 2) := by omega
    rw [bwC, ← ih _ hY, mkC, e2, and_sp (by omega) (by decide), byte1 _ hb _ (by omega)]
    have q := (byte1b _ hb).1
    have l2 : X / 256 / 2 &&& mkC 85 n ≤ X / 256 / 2 := Nat.and_le_left
    unfold g1C
    generalize X % 256 / 2 &&& 85 = u at *
    generalize X / 256 / 2 &&& mkC 85 n = w at *
    omega
theorem st2C : ∀ (n X : Nat), (bwC g1C n X &&& mkC 51 n) + (bwC g1C n X / 4 &&& mkC 51 n) = bwC g2C n X := by
  intro n
  induction n with
  | zero => intro X; simp [bwC, mkC]
  | succ n ih =>
    intro X
    have hb : X % 256 < 256 := by omega
    obtain ⟨-, q1, -⟩ := byte1b _ hb
    have i := ih (X / 256)
    rw [bwC, bwC, mkC, ← i]
    unfold g2C
    generalize g1C (X % 256) = c at *
    generalize bwC g1C n (X / 256) = Y at *
    have e4 : (c + 256 * Y) / 4 = (c / 4 + 64 * (Y % 4)) + 256 * (Y / 4) := by omega
    rw [e4, and_sp q1 (by decide), and_sp (by omega) (by decide), byte2 c q1 _ (by omega)]
    generalize c &&& 51 = u at *
    generalize c / 4 &&& 51 = w at *
    generalize Y &&& mkC 51 n = u2 at *
    generalize Y / 4 &&& mkC 51 n = w2 at *
    omega
theorem bw_low : ∀ (n X : Nat), bwC g2C n X % 16 ≤ 4 := by
  intro n X
  cases n with
  | zero => exact Nat.zero_le _
  | succ n =>
    have := (byte1b (X % 256) (by omega)).2.2.2.1
    rw [bwC]
    omega
theorem st3C : ∀ (n X : Nat), (bwC g2C n X + bwC g2C n X / 16) &&& mkC 15 n = bwC g3C n X := by
  intro n
  induction n with
  | zero => intro X; simp [bwC, mkC]
  | succ n ih =>
    intro X
    have hb : X % 256 < 256 := by omega
    obtain ⟨-, -, q2, -, -⟩ := byte1b _ hb
    have i := ih (X / 256)
    have lw := bw_low n (X / 256)
    rw [bwC, bwC, mkC, ← i]
    unfold g3C
    generalize g2C (X % 256) = d at *
    generalize bwC g2C n (X / 256) = Y at *
    have e : (d + 256 * Y) + (d + 256 * Y) / 16 = (d + d / 16 + 16 * (Y % 16)) + 256 * (Y + Y / 16) := by omega
    rw [e, and_sp (by omega) (by decide), byte3 d (by omega) _ (by omega)]
def nL (x : Int64) : Nat := x.toBitVec.toNat
theorem nL_lt (x : Int64) : nL x < 2 ^ 64 := x.toBitVec.isLt
theorem nL_sh (x : Int64) {k : Int} (h0 : 0 ≤ k) (h1 : k < 64) : nL (q_lushr x k) = nL x / 2 ^ k.toNat := by
  unfold nL
  rw [lushr_bv h0 h1, BitVec.toNat_ushiftRight, Nat.shiftRight_eq_div_pow]
theorem nL_and (x y : Int64) : nL (x &&& y) = nL x &&& nL y := by
  unfold nL
  rw [Int64.toBitVec_and, BitVec.toNat_and]
theorem nL_add (x y : Int64) (h : nL x + nL y < 2 ^ 64) : nL (x + y) = nL x + nL y := by
  unfold nL at *
  rw [Int64.toBitVec_add, BitVec.toNat_add, Nat.mod_eq_of_lt h]
theorem nL_sub (x y : Int64) (h : nL y ≤ nL x) : nL (x - y) = nL x - nL y := by
  have hx := nL_lt x
  unfold nL at *
  rw [Int64.toBitVec_sub, BitVec.toNat_sub]
  omega
def cntT (x : Int64) : Nat → Int
  | 0 => 0
  | n + 1 => cntT x n + (if tb x (n : Int) = true then 1 else 0)
theorem tb_nat (x : Int64) (n : Nat) : (if tb x (n : Int) = true then (1 : Int) else 0) = ((nL x / 2 ^ n % 2 : Nat) : Int) := by
  have e : tb x (n : Int) = decide (nL x / 2 ^ n % 2 = 1) := by
    unfold tb nL
    show x.toBitVec.toNat.testBit (n : Int).toNat = _
    rw [Int.toNat_natCast, Nat.testBit_eq_decide_div_mod_eq]
  rw [e]
  by_cases c : nL x / 2 ^ n % 2 = 1
  · rw [decide_eq_true c, if_pos rfl, c]; rfl
  · rw [decide_eq_false c, if_neg (by decide), show nL x / 2 ^ n % 2 = 0 by omega]; rfl
theorem cnt_8 (x : Int64) (n : Nat) : cntT x (n + 8) = cntT x n + ((pcC (nL x / 2 ^ n % 256) : Nat) : Int) := by
  have s : ∀ j : Nat, nL x / 2 ^ (n + j) = nL x / 2 ^ n / 2 ^ j := fun j => by rw [Nat.pow_add, Nat.div_div_eq_div_mul]
  have t : ∀ j : Nat, cntT x (n + (j + 1)) = cntT x (n + j) + ((nL x / 2 ^ n / 2 ^ j % 2 : Nat) : Int) := fun j => by
    rw [show n + (j + 1) = (n + j) + 1 by omega, cntT, tb_nat, s]
  have t0 := t 0; have t1 := t 1; have t2 := t 2; have t3 := t 3; have t4 := t 4; have t5 := t 5; have t6 := t 6; have t7 := t 7
  unfold pcC
  generalize nL x / 2 ^ n = Y at *
  have e0 : Y % 256 % 2 = Y / 1 % 2 := by omega
  have e1 : Y % 256 / 2 % 2 = Y / 2 % 2 := by omega
  have e2 : Y % 256 / 4 % 2 = Y / 4 % 2 := by omega
  have e3 : Y % 256 / 8 % 2 = Y / 8 % 2 := by omega
  have e4 : Y % 256 / 16 % 2 = Y / 16 % 2 := by omega
  have e5 : Y % 256 / 32 % 2 = Y / 32 % 2 := by omega
  have e6 : Y % 256 / 64 % 2 = Y / 64 % 2 := by omega
  have e7 : Y % 256 / 128 % 2 = Y / 128 % 2 := by omega
  rw [e0, e1, e2, e3, e4, e5, e6, e7]
  clear e0 e1 e2 e3 e4 e5 e6 e7 s t
  simp only [Nat.zero_add, Nat.add_zero, Nat.reduceAdd, Nat.reducePow] at t0 t1 t2 t3 t4 t5 t6 t7
  generalize Y / 1 % 2 = u0 at *
  generalize Y / 2 % 2 = u1 at *
  generalize Y / 4 % 2 = u2 at *
  generalize Y / 8 % 2 = u3 at *
  generalize Y / 16 % 2 = u4 at *
  generalize Y / 32 % 2 = u5 at *
  generalize Y / 64 % 2 = u6 at *
  generalize Y / 128 % 2 = u7 at *
  rw [t7, t6, t5, t4, t3, t2, t1, t0]
  push_cast
  omega
theorem dv1 {a Z : Nat} (ha : a < 256) : (a + 256 * Z) / 256 = Z := by omega
theorem dv2 {a b Z : Nat} (ha : a < 256) (hb : b < 256) : (a + 256 * (b + 256 * Z)) / 65536 = Z := by omega
theorem dv4 {a b c d Z : Nat} (ha : a < 256) (hb : b < 256) (hc : c < 256) (hd : d < 256) : (a + 256 * (b + 256 * (c + 256 * (d + 256 * Z)))) / 4294967296 = Z := by
  have e : (a + 256 * (b + 256 * (c + 256 * (d + 256 * Z)))) / 4294967296 = (a + 256 * (b + 256 * (c + 256 * (d + 256 * Z)))) / 65536 / 65536 := by rw [Nat.div_div_eq_div_mul]
  rw [e, dv2 ha hb, dv2 hc hd]
theorem sm7 (r0 r1 r2 r3 r4 r5 r6 r7 : Nat) : (r0 + 256 * (r1 + 256 * (r2 + 256 * (r3 + 256 * (r4 + 256 * (r5 + 256 * (r6 + 256 * r7))))))) + (r1 + 256 * (r2 + 256 * (r3 + 256 * (r4 + 256 * (r5 + 256 * (r6 + 256 * r7)))))) = (r0 + r1) + 256 * ((r1 + r2) + 256 * ((r2 + r3) + 256 * ((r3 + r4) + 256 * ((r4 + r5) + 256 * ((r5 + r6) + 256 * ((r6 + r7) + 256 * r7)))))) := by omega
theorem sm6 (r0 r1 r2 r3 r4 r5 r6 r7 : Nat) : (r0 + 256 * (r1 + 256 * (r2 + 256 * (r3 + 256 * (r4 + 256 * (r5 + 256 * (r6 + 256 * r7))))))) + (r2 + 256 * (r3 + 256 * (r4 + 256 * (r5 + 256 * (r6 + 256 * r7))))) = (r0 + r2) + 256 * ((r1 + r3) + 256 * ((r2 + r4) + 256 * ((r3 + r5) + 256 * ((r4 + r6) + 256 * ((r5 + r7) + 256 * (r6 + 256 * r7)))))) := by omega
theorem sm4 (r0 r1 r2 r3 r4 r5 r6 r7 : Nat) : (r0 + 256 * (r1 + 256 * (r2 + 256 * (r3 + 256 * (r4 + 256 * (r5 + 256 * (r6 + 256 * r7))))))) + (r4 + 256 * (r5 + 256 * (r6 + 256 * r7))) = (r0 + r4) + 256 * ((r1 + r5) + 256 * ((r2 + r6) + 256 * ((r3 + r7) + 256 * (r4 + 256 * (r5 + 256 * (r6 + 256 * r7)))))) := by omega
theorem md1 {a Z : Nat} (ha : a < 128) : (a + 256 * Z) % 128 = a := by omega
theorem bitCount_eq (M : Mem) (x : Int64) : t_Long_bitCount M x = cntT x 64 := sorry
theorem cnt_zero : ∀ n : Nat, cntT 0 n = 0 := by
  intro n
  induction n with
  | zero => rfl
  | succ n ih => rw [cntT, ih, tb_zero, if_neg (by decide)]; rfl
theorem cnt_set {x : Int64} {i : Int} (h0 : 0 ≤ i) (h1 : i < 64) (hx : tb x i = false) : ∀ n : Nat, n ≤ 64 → cntT (x ||| q_lshl 1 i) n = cntT x n + (if i < (n : Int) then 1 else 0) := by
  intro n
  induction n with
  | zero => intro _; rw [cntT, cntT, if_neg (by omega)]; rfl
  | succ n ih =>
    intro hn
    rw [cntT, cntT, ih (by omega), tb_or x h0 h1 (by omega) (by omega)]
    by_cases c : (n : Int) = i
    · rw [← c] at hx ⊢
      rw [hx, decide_eq_true rfl, if_neg (show ¬ (n : Int) < (n : Int) by omega), if_pos (show (false || true) = true from rfl), if_neg (show ¬ false = true by decide), if_pos (show (n : Int) < ((n + 1 : Nat) : Int) by omega)]
    · rw [decide_eq_false c, Bool.or_false]
      by_cases d : i < (n : Int)
      · rw [if_pos d, if_pos (show i < ((n + 1 : Nat) : Int) by omega)]; omega
      · rw [if_neg d, if_neg (show ¬ i < ((n + 1 : Nat) : Int) by omega)]; omega
theorem cnt_rng (x : Int64) : ∀ n : Nat, 0 ≤ cntT x n ∧ cntT x n ≤ (n : Int) := by
  intro n
  induction n with
  | zero => exact ⟨Int.le_refl _, Int.le_refl _⟩
  | succ n ih => rw [cntT]; split <;> omega
theorem cnt_none {x : Int64} : ∀ {n : Nat}, cntT x n = 0 → ∀ i : Nat, i < n → tb x (i : Int) = false := by
  intro n
  induction n with
  | zero => intro _ i hi; omega
  | succ n ih =>
    intro h i hi
    rw [cntT] at h
    have := cnt_rng x n
    by_cases c : tb x (n : Int) = true
    · rw [if_pos c] at h; omega
    · rw [if_neg c] at h
      by_cases e : i = n
      · rw [e]
        cases z : tb x (n : Int) with
        | true => exact absurd z c
        | false => rfl
      · exact ih (by omega) i (by omega)
theorem tb_ext {x y : Int64} (h : ∀ i : Nat, i < 64 → tb x (i : Int) = tb y (i : Int)) : x = y := by
  apply Int64.toBitVec_inj.mp
  apply BitVec.eq_of_getLsbD_eq
  intro i hi
  have := h i hi
  unfold tb at this
  rw [Int.toNat_natCast] at this
  exact this
theorem cnt_eq0 {x : Int64} : cntT x 64 = 0 ↔ x = 0 := ⟨fun h => tb_ext (fun i hi => by rw [cnt_none h i hi, tb_zero]), fun h => by rw [h]; exact cnt_zero 64⟩
/-- nothing behind n: counting on adds nothing -/
theorem cnt_more {x : Int64} {n : Nat} : ∀ {m : Nat}, n ≤ m → (∀ i : Nat, n ≤ i → i < m → tb x (i : Int) = false) → cntT x m = cntT x n := by
  intro m
  induction m with
  | zero => intro h _; rw [show n = 0 by omega]
  | succ m ih =>
    intro h g
    by_cases e : n = m + 1
    · rw [e]
    · rw [cntT, g m (by omega) (by omega), if_neg (by decide), ih (by omega) (fun i a b => g i a (by omega))]; omega
