/-! ===== how many bits a long has ===== -/
theorem and_sp {p q r s : Nat} (hp : p < 256) (hr : r < 256) : (p + 256 * q) &&& (r + 256 * s) = (p &&& r) + 256 * (q &&& s) := by
  have h1 : ((p + 256 * q) &&& (r + 256 * s)) % 2 ^ 8 = (p + 256 * q) % 2 ^ 8 &&& (r + 256 * s) % 2 ^ 8 := by first | exact Nat.and_mod_two_pow | exact Nat.and_mod_two_pow _ _ _ | simp [Nat.and_mod_two_pow]
  have h2 : ((p + 256 * q) &&& (r + 256 * s)) / 2 ^ 8 = (p + 256 * q) / 2 ^ 8 &&& (r + 256 * s) / 2 ^ 8 := by first | exact Nat.and_div_two_pow | exact Nat.and_div_two_pow _ _ _ | simp [Nat.and_div_two_pow]
  rw [show (p + 256 * q) % 2 ^ 8 = p by omega, show (r + 256 * s) % 2 ^ 8 = r by omega] at h1
  rw [show (p + 256 * q) / 2 ^ 8 = q by omega, show (r + 256 * s) / 2 ^ 8 = s by omega] at h2
  generalize (p + 256 * q) &&& (r + 256 * s) = z at *
  generalize p &&& r = y at *
  generalize q &&& s = x at *
  omega
def mkC (a : Nat) : Nat → Nat
  | 0 => 0
  | n + 1 => a + 256 * mkC a n
def bwC (f : Nat → Nat) : Nat → Nat → Nat
  | 0, _ => 0
  | n + 1, X => f (X % 256) + 256 * bwC f n (X / 256)
def g1C (b : Nat) : Nat := b - (b / 2 &&& 85)
def g2C (b : Nat) : Nat := (g1C b &&& 51) + (g1C b / 4 &&& 51)
def g3C (b : Nat) : Nat := (g2C b + g2C b / 16) &&& 15
def pcC (b : Nat) : Nat := b % 2 + b / 2 % 2 + b / 4 % 2 + b / 8 % 2 + b / 16 % 2 + b / 32 % 2 + b / 64 % 2 + b / 128 % 2
theorem byte1 : ∀ b : Nat, b < 256 → ∀ e : Nat, e < 2 → (b / 2 + 128 * e) &&& 85 = b / 2 &&& 85 := by decide +kernel
theorem byte1b : ∀ b : Nat, b < 256 → (b / 2 &&& 85) ≤ b ∧ g1C b < 256 ∧ g2C b ≤ 68 ∧ g2C b % 16 ≤ 4 ∧ g3C b = pcC b := by decide +kernel
theorem byte2 : ∀ c : Nat, c < 256 → ∀ e : Nat, e < 4 → (c / 4 + 64 * e) &&& 51 = c / 4 &&& 51 := by decide +kernel
theorem byte3 : ∀ d : Nat, d < 69 → ∀ e : Nat, e < 5 → (d + d / 16 + 16 * e) &&& 15 = (d + d / 16) &&& 15 := by decide +kernel
theorem st1C : ∀ (n X : Nat), X < 256 ^ n → X - (X / 2 &&& mkC 85 n) = bwC g1C n X := by
  intro n
  induction n with
  | zero =>
    intro X h
    have : X = 0 := by rw [Nat.pow_zero] at h; omega
    subst this
    rfl
  | succ n ih =>
    intro X h
    rw [Nat.pow_succ] at h
    have hX : X = X % 256 + 256 * (X / 256) := by omega
    have hb : X % 256 < 256 := by omega
    have hY : X / 256 < 256 ^ n := by rw [Nat.div_lt_iff_lt_mul (by decide)]; exact h
    have e2 : X / 2 = (X % 256 / 2 + 128 * (X / 256 % 2)) + 256 * (X / 256 / 2) := by omega
    rw [bwC, ← ih _ hY, mkC, e2, and_sp (by omega) (by decide), byte1 _ hb _ (by omega)]
    have q := (byte1b _ hb).1
    have l2 : X / 256 / 2 &&& mkC 85 n ≤ X / 256 / 2 := Nat.and_le_left
    unfold g1C
    generalize X % 256 / 2 &&& 85 = u at *
    generalize X / 256 / 2 &&& mkC 85 n = w at *
    omega
theorem st2C : ∀ (n X : Nat), (bwC g1C n X &&& mkC 51 n) + (bwC g1C n X / 4 &&& mkC 51 n) = bwC g2C n X := by
  intro n
  induction n with
  | zero => intro X; simp [bwC, mkC]
  | succ n ih =>
    intro X
    have hb : X % 256 < 256 := by omega
    obtain ⟨-, q1, -⟩ := byte1b _ hb
    have i := ih (X / 256)
    rw [bwC, bwC, mkC, ← i]
    unfold g2C
    generalize g1C (X % 256) = c at *
    generalize bwC g1C n (X / 256) = Y at *
    have e4 : (c + 256 * Y) / 4 = (c / 4 + 64 * (Y % 4)) + 256 * (Y / 4) := by omega
    rw [e4, and_sp q1 (by decide), and_sp (by omega) (by decide), byte2 c q1 _ (by omega)]
    generalize c &&& 51 = u at *
    generalize c / 4 &&& 51 = w at *
    generalize Y &&& mkC 51 n = u2 at *
    generalize Y / 4 &&& mkC 51 n = w2 at *
    omega
theorem bw_low : ∀ (n X : Nat), bwC g2C n X % 16 ≤ 4 := by
  intro n X
  cases n with
  | zero => exact Nat.zero_le _
  | succ n =>
    have := (byte1b (X % 256) (by omega)).2.2.2.1
    rw [bwC]
    omega
theorem st3C : ∀ (n X : Nat), (bwC g2C n X + bwC g2C n X / 16) &&& mkC 15 n = bwC g3C n X := by
  intro n
  induction n with
  | zero => intro X; simp [bwC, mkC]
  | succ n ih =>
    intro X
    have hb : X % 256 < 256 := by omega
    obtain ⟨-, -, q2, -, -⟩ := byte1b _ hb
    have i := ih (X / 256)
    have lw := bw_low n (X / 256)
    rw [bwC, bwC, mkC, ← i]
    unfold g3C
    generalize g2C (X % 256) = d at *
    generalize bwC g2C n (X / 256) = Y at *
    have e : (d + 256 * Y) + (d + 256 * Y) / 16 = (d + d / 16 + 16 * (Y % 16)) + 256 * (Y + Y / 16) := by omega
    rw [e, and_sp (by omega) (by decide), byte3 d (by omega) _ (by omega)]
def nL (x : Int64) : Nat := x.toBitVec.toNat
theorem nL_lt (x : Int64) : nL x < 2 ^ 64 := x.toBitVec.isLt
theorem nL_sh (x : Int64) {k : Int} (h0 : 0 ≤ k) (h1 : k < 64) : nL (q_lushr x k) = nL x / 2 ^ k.toNat := by
  unfold nL
  rw [lushr_bv h0 h1, BitVec.toNat_ushiftRight, Nat.shiftRight_eq_div_pow]
theorem nL_and (x y : Int64) : nL (x &&& y) = nL x &&& nL y := by
  unfold nL
  rw [Int64.toBitVec_and, BitVec.toNat_and]
theorem nL_add (x y : Int64) (h : nL x + nL y < 2 ^ 64) : nL (x + y) = nL x + nL y := by
  unfold nL at *
  rw [Int64.toBitVec_add, BitVec.toNat_add, Nat.mod_eq_of_lt h]
theorem nL_sub (x y : Int64) (h : nL y ≤ nL x) : nL (x - y) = nL x - nL y := by
  have hx := nL_lt x
  unfold nL at *
  rw [Int64.toBitVec_sub, BitVec.toNat_sub]
  omega
def cntT (x : Int64) : Nat → Int
  | 0 => 0
  | n + 1 => cntT x n + (if tb x (n : Int) = true then 1 else 0)
theorem tb_nat (x : Int64) (n : Nat) : (if tb x (n : Int) = true then (1 : Int) else 0) = ((nL x / 2 ^ n % 2 : Nat) : Int) := by
  have e : tb x (n : Int) = decide (nL x / 2 ^ n % 2 = 1) := by
    unfold tb nL
    show x.toBitVec.toNat.testBit (n : Int).toNat = _
    rw [Int.toNat_natCast, Nat.testBit_eq_decide_div_mod_eq]
  rw [e]
  by_cases c : nL x / 2 ^ n % 2 = 1
  · rw [decide_eq_true c, if_pos rfl, c]; rfl
  · rw [decide_eq_false c, if_neg (by decide), show nL x / 2 ^ n % 2 = 0 by omega]; rfl
theorem cnt_8 (x : Int64) (n : Nat) : cntT x (n + 8) = cntT x n + ((pcC (nL x / 2 ^ n % 256) : Nat) : Int) := by
  have s : ∀ j : Nat, nL x / 2 ^ (n + j) = nL x / 2 ^ n / 2 ^ j := fun j => by rw [Nat.pow_add, Nat.div_div_eq_div_mul]
  have t : ∀ j : Nat, cntT x (n + (j + 1)) = cntT x (n + j) + ((nL x / 2 ^ n / 2 ^ j % 2 : Nat) : Int) := fun j => by
    rw [show n + (j + 1) = (n + j) + 1 by omega, cntT, tb_nat, s]
  have t0 := t 0; have t1 := t 1; have t2 := t 2; have t3 := t 3; have t4 := t 4; have t5 := t 5; have t6 := t 6; have t7 := t 7
  unfold pcC
  generalize nL x / 2 ^ n = Y at *
  have e0 : Y % 256 % 2 = Y / 1 % 2 := by omega
  have e1 : Y % 256 / 2 % 2 = Y / 2 % 2 := by omega
  have e2 : Y % 256 / 4 % 2 = Y / 4 % 2 := by omega
  have e3 : Y % 256 / 8 % 2 = Y / 8 % 2 := by omega
  have e4 : Y % 256 / 16 % 2 = Y / 16 % 2 := by omega
  have e5 : Y % 256 / 32 % 2 = Y / 32 % 2 := by omega
  have e6 : Y % 256 / 64 % 2 = Y / 64 % 2 := by omega
  have e7 : Y % 256 / 128 % 2 = Y / 128 % 2 := by omega
  rw [e0, e1, e2, e3, e4, e5, e6, e7]
  clear e0 e1 e2 e3 e4 e5 e6 e7 s t
  simp only [Nat.zero_add, Nat.add_zero, Nat.reduceAdd, Nat.reducePow] at t0 t1 t2 t3 t4 t5 t6 t7
  generalize Y / 1 % 2 = u0 at *
  generalize Y / 2 % 2 = u1 at *
  generalize Y / 4 % 2 = u2 at *
  generalize Y / 8 % 2 = u3 at *
  generalize Y / 16 % 2 = u4 at *
  generalize Y / 32 % 2 = u5 at *
  generalize Y / 64 % 2 = u6 at *
  generalize Y / 128 % 2 = u7 at *
  rw [t7, t6, t5, t4, t3, t2, t1, t0]
  push_cast
  omega
theorem dv1 {a Z : Nat} (ha : a < 256) : (a + 256 * Z) / 256 = Z := by omega
theorem dv2 {a b Z : Nat} (ha : a < 256) (hb : b < 256) : (a + 256 * (b + 256 * Z)) / 65536 = Z := by omega
theorem dv4 {a b c d Z : Nat} (ha : a < 256) (hb : b < 256) (hc : c < 256) (hd : d < 256) : (a + 256 * (b + 256 * (c + 256 * (d + 256 * Z)))) / 4294967296 = Z := by
  have e : (a + 256 * (b + 256 * (c + 256 * (d + 256 * Z)))) / 4294967296 = (a + 256 * (b + 256 * (c + 256 * (d + 256 * Z)))) / 65536 / 65536 := by rw [Nat.div_div_eq_div_mul]
  rw [e, dv2 ha hb, dv2 hc hd]
theorem sm7 (r0 r1 r2 r3 r4 r5 r6 r7 : Nat) : (r0 + 256 * (r1 + 256 * (r2 + 256 * (r3 + 256 * (r4 + 256 * (r5 + 256 * (r6 + 256 * r7))))))) + (r1 + 256 * (r2 + 256 * (r3 + 256 * (r4 + 256 * (r5 + 256 * (r6 + 256 * r7)))))) = (r0 + r1) + 256 * ((r1 + r2) + 256 * ((r2 + r3) + 256 * ((r3 + r4) + 256 * ((r4 + r5) + 256 * ((r5 + r6) + 256 * ((r6 + r7) + 256 * r7)))))) := by omega
theorem sm6 (r0 r1 r2 r3 r4 r5 r6 r7 : Nat) : (r0 + 256 * (r1 + 256 * (r2 + 256 * (r3 + 256 * (r4 + 256 * (r5 + 256 * (r6 + 256 * r7))))))) + (r2 + 256 * (r3 + 256 * (r4 + 256 * (r5 + 256 * (r6 + 256 * r7))))) = (r0 + r2) + 256 * ((r1 + r3) + 256 * ((r2 + r4) + 256 * ((r3 + r5) + 256 * ((r4 + r6) + 256 * ((r5 + r7) + 256 * (r6 + 256 * r7)))))) := by omega
theorem sm4 (r0 r1 r2 r3 r4 r5 r6 r7 : Nat) : (r0 + 256 * (r1 + 256 * (r2 + 256 * (r3 + 256 * (r4 + 256 * (r5 + 256 * (r6 + 256 * r7))))))) + (r4 + 256 * (r5 + 256 * (r6 + 256 * r7))) = (r0 + r4) + 256 * ((r1 + r5) + 256 * ((r2 + r6) + 256 * ((r3 + r7) + 256 * (r4 + 256 * (r5 + 256 * (r6 + 256 * r7)))))) := by omega
theorem md1 {a Z : Nat} (ha : a < 128) : (a + 256 * Z) % 128 = a := by omega
theorem bcK : nL 6148914691236517205 = mkC 85 8 ∧ nL 3689348814741910323 = mkC 51 8 ∧ nL 1085102592571150095 = mkC 15 8 ∧ (256 : Nat) ^ 8 = 2 ^ 64 ∧ mkC 1 8 = 72340172838076673 ∧ 68 * mkC 1 8 < 2 ^ 63 := by decide +kernel
theorem bw_bd (f : Nat → Nat) (m : Nat) (hf : ∀ b, b < 256 → f b ≤ m) : ∀ n X, bwC f n X ≤ m * mkC 1 n := by
  intro n
  induction n with
  | zero => intro X; exact Nat.zero_le _
  | succ n ih =>
    intro X
    have a := hf (X % 256) (Nat.mod_lt _ (by decide))
    have b := ih (X / 256)
    rw [bwC, mkC, Nat.mul_add, Nat.mul_one, Nat.mul_left_comm]
    generalize f (X % 256) = u at *
    generalize bwC f n (X / 256) = v at *
    generalize m * mkC 1 n = w at *
    omega
theorem bcL1 (x : Int64) : nL (x - ((q_lushr x 1) &&& 6148914691236517205)) = bwC g1C 8 (nL x) := by
  have e : nL ((q_lushr x 1) &&& 6148914691236517205) = nL x / 2 &&& mkC 85 8 := by rw [nL_and, nL_sh x (by decide) (by decide), bcK.1]; rfl
  have l : nL x / 2 &&& mkC 85 8 ≤ nL x := Nat.le_trans Nat.and_le_left (Nat.div_le_self _ _)
  rw [nL_sub _ _ (by rw [e]; exact l), e]
  exact st1C 8 _ (by rw [bcK.2.2.2.1]; exact nL_lt x)
theorem bcL2 (y : Int64) (X : Nat) (ny : nL y = bwC g1C 8 X) : nL ((y &&& 3689348814741910323) + ((q_lushr y 2) &&& 3689348814741910323)) = bwC g2C 8 X := by
  have e1 : nL (y &&& 3689348814741910323) = bwC g1C 8 X &&& mkC 51 8 := by rw [nL_and, ny, bcK.2.1]
  have e2 : nL ((q_lushr y 2) &&& 3689348814741910323) = bwC g1C 8 X / 4 &&& mkC 51 8 := by rw [nL_and, nL_sh y (by decide) (by decide), ny, bcK.2.1]; rfl
  have b2 := bw_bd g2C 68 (fun b hb => (byte1b b hb).2.2.1) 8 X
  have s2 := st2C 8 X
  have h64 : bwC g2C 8 X < 2 ^ 64 := Nat.lt_of_le_of_lt b2 (Nat.lt_trans bcK.2.2.2.2.2 (by decide))
  rw [nL_add _ _ (by rw [e1, e2, s2]; exact h64), e1, e2, s2]
theorem bcL3 (z : Int64) (X : Nat) (nz : nL z = bwC g2C 8 X) : nL ((z + (q_lushr z 4)) &&& 1085102592571150095) = bwC g3C 8 X := by
  have b2 := bw_bd g2C 68 (fun b hb => (byte1b b hb).2.2.1) 8 X
  have b3 := Nat.lt_of_le_of_lt b2 bcK.2.2.2.2.2
  have e1 : nL (q_lushr z 4) = bwC g2C 8 X / 16 := by rw [nL_sh z (by decide) (by decide), nz]; rfl
  have hs : nL z + nL (q_lushr z 4) < 2 ^ 64 := by
    rw [e1, nz]
    generalize bwC g2C 8 X = Z at *
    clear b2 e1 nz
    have : Z / 16 ≤ Z := Nat.div_le_self _ _
    generalize Z / 16 = Y at *
    omega
  rw [nL_and, nL_add _ _ hs, e1, nz, bcK.2.2.1]
  exact st3C 8 X
theorem bcU (X : Nat) (g3 : ∀ k : Nat, k < 256 → g3C k = pcC k) : bwC g3C 8 X = pcC (X % 256) + 256 * (pcC (X / 256 % 256) + 256 * (pcC (X / 65536 % 256) + 256 * (pcC (X / 16777216 % 256) + 256 * (pcC (X / 4294967296 % 256) + 256 * (pcC (X / 1099511627776 % 256) + 256 * (pcC (X / 281474976710656 % 256) + 256 * pcC (X / 72057594037927936 % 256))))))) := by
  have m : ∀ k : Nat, k % 256 < 256 := fun k => Nat.mod_lt _ (by decide)
  have d : ∀ a b c : Nat, a * b = c → X / a / b = X / c := fun a b c h => by rw [Nat.div_div_eq_div_mul, h]
  rw [bwC, bwC, bwC, bwC, bwC, bwC, bwC, bwC, bwC, d 256 256 65536 (by decide), d 65536 256 16777216 (by decide), d 16777216 256 4294967296 (by decide), d 4294967296 256 1099511627776 (by decide), d 1099511627776 256 281474976710656 (by decide), d 281474976710656 256 72057594037927936 (by decide), g3 _ (m _), g3 _ (m _), g3 _ (m _), g3 _ (m _), g3 _ (m _), g3 _ (m _), g3 _ (m _), g3 _ (m _), Nat.mul_zero, Nat.add_zero]
theorem bcA (w3 : Int64) : q_and (q_l2i w3) 127 = ((nL w3 % 128 : Nat) : Int) := by
  unfold q_and q_l2i nL
  rw [q_of_toInt, ← Int32.toInt_toBitVec, Int32.toBitVec_and]
  rw [Int64.toBitVec_toInt32, BitVec.signExtend_eq_setWidth_of_le _ (by decide)]
  show (w3.toBitVec.setWidth 32 &&& 127#32).toInt = _
  have e1 : (w3.toBitVec.setWidth 32 &&& 127#32).toNat = w3.toBitVec.toNat % 128 := by
    rw [BitVec.toNat_and, BitVec.toNat_setWidth]
    show (w3.toBitVec.toNat % 2 ^ 32) &&& (2 ^ 7 - 1) = _
    rw [Nat.and_two_pow_sub_one_eq_mod]
    omega
  rw [BitVec.toInt_eq_toNat_of_lt (by rw [e1]; omega), e1]
theorem bcE (M : Mem) (x : Int64) : ∃ y z w w1 w2 w3 : Int64, y = x - ((q_lushr x 1) &&& 6148914691236517205) ∧ z = (y &&& 3689348814741910323) + ((q_lushr y 2) &&& 3689348814741910323) ∧ w = (z + (q_lushr z 4)) &&& 1085102592571150095 ∧ w1 = w + q_lushr w 8 ∧ w2 = w1 + q_lushr w1 16 ∧ w3 = w2 + q_lushr w2 32 ∧ t_Long_bitCount M x = q_and (q_l2i w3) 127 := by
  refine ⟨_, _, _, _, _, _, rfl, rfl, rfl, rfl, rfl, rfl, ?_⟩
  unfold t_Long_bitCount
  simp only [qlet]
theorem bcF {r0 r1 r2 r3 r4 r5 r6 r7 a a1 a2 a3 : Nat} (f0 : r0 ≤ 8) (f1 : r1 ≤ 8) (f2 : r2 ≤ 8) (f3 : r3 ≤ 8) (f4 : r4 ≤ 8) (f5 : r5 ≤ 8) (f6 : r6 ≤ 8) (f7 : r7 ≤ 8) (ha : a = r0 + 256 * (r1 + 256 * (r2 + 256 * (r3 + 256 * (r4 + 256 * (r5 + 256 * (r6 + 256 * r7))))))) (h1 : a1 = a + a / 256) (h2 : a2 = a1 + a1 / 65536) (h3 : a3 = a2 + a2 / 4294967296) : a3 % 128 = r0 + r1 + r2 + r3 + r4 + r5 + r6 + r7 := by
  rw [ha, dv1 (by omega), sm7] at h1
  clear ha
  rw [h1, dv2 (by omega) (by omega), sm6] at h2
  clear h1
  rw [h2, dv4 (by omega) (by omega) (by omega) (by omega), sm4] at h3
  clear h2
  rw [h3, md1 (by omega)]
  omega
theorem bcS (x : Int64) : cntT x 64 = ((pcC (nL x % 256) + pcC (nL x / 256 % 256) + pcC (nL x / 65536 % 256) + pcC (nL x / 16777216 % 256) + pcC (nL x / 4294967296 % 256) + pcC (nL x / 1099511627776 % 256) + pcC (nL x / 281474976710656 % 256) + pcC (nL x / 72057594037927936 % 256) : Nat) : Int) := by
  have z0 : cntT x 0 = 0 := rfl
  have c0 := cnt_8 x 0
  have c1 := cnt_8 x 8
  have c2 := cnt_8 x 16
  have c3 := cnt_8 x 24
  have c4 := cnt_8 x 32
  have c5 := cnt_8 x 40
  have c6 := cnt_8 x 48
  have c7 := cnt_8 x 56
  rw [show 0 + 8 = 8 from rfl, z0, show nL x / 2 ^ 0 = nL x from Nat.div_one _] at c0
  rw [show 8 + 8 = 16 from rfl, c0, show (2 : Nat) ^ 8 = 256 by decide] at c1
  rw [show 16 + 8 = 24 from rfl, c1, show (2 : Nat) ^ 16 = 65536 by decide] at c2
  rw [show 24 + 8 = 32 from rfl, c2, show (2 : Nat) ^ 24 = 16777216 by decide] at c3
  rw [show 32 + 8 = 40 from rfl, c3, show (2 : Nat) ^ 32 = 4294967296 by decide] at c4
  rw [show 40 + 8 = 48 from rfl, c4, show (2 : Nat) ^ 40 = 1099511627776 by decide] at c5
  rw [show 48 + 8 = 56 from rfl, c5, show (2 : Nat) ^ 48 = 281474976710656 by decide] at c6
  rw [show 56 + 8 = 64 from rfl, c6, show (2 : Nat) ^ 56 = 72057594037927936 by decide] at c7
  rw [c7]
  generalize pcC (nL x % 256) = r0
  generalize pcC (nL x / 256 % 256) = r1
  generalize pcC (nL x / 65536 % 256) = r2
  generalize pcC (nL x / 16777216 % 256) = r3
  generalize pcC (nL x / 4294967296 % 256) = r4
  generalize pcC (nL x / 1099511627776 % 256) = r5
  generalize pcC (nL x / 281474976710656 % 256) = r6
  generalize pcC (nL x / 72057594037927936 % 256) = r7
  clear c0 c1 c2 c3 c4 c5 c6 c7 z0
  omega
theorem bitCount_eq (M : Mem) (x : Int64) : t_Long_bitCount M x = cntT x 64 := by
  obtain ⟨y, z, w, w1, w2, w3, hy, hz, hw, hw1, hw2, hw3, et⟩ := bcE M x
  have nw : nL w = bwC g3C 8 (nL x) := by rw [hw]; exact bcL3 z _ (by rw [hz]; exact bcL2 y _ (by rw [hy]; exact bcL1 x))
  have g3 : ∀ k : Nat, k < 256 → g3C k = pcC k := fun k hk => (byte1b k hk).2.2.2.2
  have pf : ∀ k : Nat, pcC k ≤ 8 := fun k => by unfold pcC; omega
  rw [bcU _ g3] at nw
  have f0 := pf (nL x % 256)
  have f1 := pf (nL x / 256 % 256)
  have f2 := pf (nL x / 65536 % 256)
  have f3 := pf (nL x / 16777216 % 256)
  have f4 := pf (nL x / 4294967296 % 256)
  have f5 := pf (nL x / 1099511627776 % 256)
  have f6 := pf (nL x / 281474976710656 % 256)
  have f7 := pf (nL x / 72057594037927936 % 256)
  rw [et, bcA, bcS]
  clear et pf g3 hy hz hw
  have e1 : nL (q_lushr w 8) = nL w / 256 := by rw [nL_sh w (by decide) (by decide)]; rfl
  have e2 : nL (q_lushr w1 16) = nL w1 / 65536 := by rw [nL_sh w1 (by decide) (by decide)]; rfl
  have e3 : nL (q_lushr w2 32) = nL w2 / 4294967296 := by rw [nL_sh w2 (by decide) (by decide)]; rfl
  generalize pcC (nL x % 256) = r0 at *
  generalize pcC (nL x / 256 % 256) = r1 at *
  generalize pcC (nL x / 65536 % 256) = r2 at *
  generalize pcC (nL x / 16777216 % 256) = r3 at *
  generalize pcC (nL x / 4294967296 % 256) = r4 at *
  generalize pcC (nL x / 1099511627776 % 256) = r5 at *
  generalize pcC (nL x / 281474976710656 % 256) = r6 at *
  generalize pcC (nL x / 72057594037927936 % 256) = r7 at *
  have b0 : nL w ≤ 578721382704613384 := by rw [nw]; omega
  have n1 : nL w1 = nL w + nL w / 256 := by
    rw [hw1, nL_add _ _ (by rw [e1]; clear nw; omega), e1]
  have b1 : nL w1 ≤ 600000000000000000 := by clear nw; omega
  have n2 : nL w2 = nL w1 + nL w1 / 65536 := by
    rw [hw2, nL_add _ _ (by rw [e2]; clear nw; omega), e2]
  have b2 : nL w2 ≤ 700000000000000000 := by clear nw; omega
  have n3 : nL w3 = nL w2 + nL w2 / 4294967296 := by
    rw [hw3, nL_add _ _ (by rw [e3]; clear nw; omega), e3]
  rw [bcF f0 f1 f2 f3 f4 f5 f6 f7 nw n1 n2 n3]
theorem cnt_zero : ∀ n : Nat, cntT 0 n = 0 := by
  intro n
  induction n with
  | zero => rfl
  | succ n ih => rw [cntT, ih, tb_zero, if_neg (by decide)]; rfl
theorem cnt_set {x : Int64} {i : Int} (h0 : 0 ≤ i) (h1 : i < 64) (hx : tb x i = false) : ∀ n : Nat, n ≤ 64 → cntT (x ||| q_lshl 1 i) n = cntT x n + (if i < (n : Int) then 1 else 0) := by
  intro n
  induction n with
  | zero => intro _; rw [cntT, cntT, if_neg (by omega)]; rfl
  | succ n ih =>
    intro hn
    rw [cntT, cntT, ih (by omega), tb_or x h0 h1 (by omega) (by omega)]
    by_cases c : (n : Int) = i
    · rw [← c] at hx ⊢
      rw [hx, decide_eq_true rfl, if_neg (show ¬ (n : Int) < (n : Int) by omega), if_pos (show (false || true) = true from rfl), if_neg (show ¬ false = true by decide), if_pos (show (n : Int) < ((n + 1 : Nat) : Int) by omega)]
    · rw [decide_eq_false c, Bool.or_false]
      by_cases d : i < (n : Int)
      · rw [if_pos d, if_pos (show i < ((n + 1 : Nat) : Int) by omega)]; omega
      · rw [if_neg d, if_neg (show ¬ i < ((n + 1 : Nat) : Int) by omega)]; omega
theorem cnt_rng (x : Int64) : ∀ n : Nat, 0 ≤ cntT x n ∧ cntT x n ≤ (n : Int) := by
  intro n
  induction n with
  | zero => exact ⟨Int.le_refl _, Int.le_refl _⟩
  | succ n ih => rw [cntT]; split <;> omega
theorem cnt_none {x : Int64} : ∀ {n : Nat}, cntT x n = 0 → ∀ i : Nat, i < n → tb x (i : Int) = false := by
  intro n
  induction n with
  | zero => intro _ i hi; omega
  | succ n ih =>
    intro h i hi
    rw [cntT] at h
    have := cnt_rng x n
    by_cases c : tb x (n : Int) = true
    · rw [if_pos c] at h; omega
    · rw [if_neg c] at h
      by_cases e : i = n
      · rw [e]
        cases z : tb x (n : Int) with
        | true => exact absurd z c
        | false => rfl
      · exact ih (by omega) i (by omega)
theorem tb_ext {x y : Int64} (h : ∀ i : Nat, i < 64 → tb x (i : Int) = tb y (i : Int)) : x = y := by
  apply Int64.toBitVec_inj.mp
  apply BitVec.eq_of_getLsbD_eq
  intro i hi
  have := h i hi
  unfold tb at this
  rw [Int.toNat_natCast] at this
  exact this
theorem cnt_eq0 {x : Int64} : cntT x 64 = 0 ↔ x = 0 := ⟨fun h => tb_ext (fun i hi => by rw [cnt_none h i hi, tb_zero]), fun h => by rw [h]; exact cnt_zero 64⟩
/-- nothing behind n: counting on adds nothing -/
theorem cnt_more {x : Int64} {n : Nat} : ∀ {m : Nat}, n ≤ m → (∀ i : Nat, n ≤ i → i < m → tb x (i : Int) = false) → cntT x m = cntT x n := by
  intro m
  induction m with
  | zero => intro h _; rw [show n = 0 by omega]
  | succ m ih =>
    intro h g
    by_cases e : n = m + 1
    · rw [e]
    · rw [cntT, g m (by omega) (by omega), if_neg (by decide), ih (by omega) (fun i a b => g i a (by omega))]; omega
