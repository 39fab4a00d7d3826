section
/-! ===== tokens: the reference's side ===== -/
theorem q_or_nn {x y : Int} (x0 : 0 ≤ x) (x1 : x < 2147483648) (y0 : 0 ≤ y) (y1 : y < 2147483648) : q_or x y = ((x.toNat ||| y.toNat : Nat) : Int) := by
  unfold q_or
  have hx : (Int32.ofInt x).toBitVec = BitVec.ofNat 32 x.toNat := by
    apply BitVec.eq_of_toInt_eq
    rw [Int32.toInt_toBitVec, q_toInt_of (by unfold InR; omega), BitVec.toInt_ofNat', bm32 (by unfold InR; omega)]
    omega
  have hy : (Int32.ofInt y).toBitVec = BitVec.ofNat 32 y.toNat := by
    apply BitVec.eq_of_toInt_eq
    rw [Int32.toInt_toBitVec, q_toInt_of (by unfold InR; omega), BitVec.toInt_ofNat', bm32 (by unfold InR; omega)]
    omega
  have hlt : x.toNat ||| y.toNat < 2 ^ 31 := Nat.or_lt_two_pow (by omega) (by omega)
  rw [← Int32.toInt_toBitVec, Int32.toBitVec_or, hx, hy, ← BitVec.ofNat_or, BitVec.toInt_ofNat', bm32 (by unfold InR; omega)]
theorem sh_am32 : ∀ k : Nat, k < 32 → ((Int32.ofInt (k : Int)) &&& 31).toBitVec = BitVec.ofNat 32 k ∧ (BitVec.ofNat 32 k).smod 32 = BitVec.ofNat 32 k ∧ (BitVec.ofNat 32 k).toNat = k := by decide +kernel
theorem q_shl_nn {x : Int} {k : Nat} (hk : k < 32) (x0 : 0 ≤ x) (x1 : x * 2 ^ k < 2147483648) : q_shl x (k : Int) = x * 2 ^ k := by
  obtain ⟨a, b, c⟩ := sh_am32 k hk
  have hp : (1 : Int) ≤ 2 ^ k := by
    have : (0 : Nat) < 2 ^ k := Nat.two_pow_pos k
    have h2 : ((2 ^ k : Nat) : Int) = (2 : Int) ^ k := by push_cast; rfl
    omega
  have xl : x ≤ x * 2 ^ k := by
    have := Int.mul_le_mul_of_nonneg_left hp x0
    omega
  have hx : (Int32.ofInt x).toBitVec = BitVec.ofNat 32 x.toNat := by
    apply BitVec.eq_of_toInt_eq
    rw [Int32.toInt_toBitVec, q_toInt_of (by unfold InR; omega), BitVec.toInt_ofNat', bm32 (by unfold InR; omega)]
    omega
  unfold q_shl
  rw [← Int32.toInt_toBitVec, Int32.toBitVec_shiftLeft, a, b]
  show (Int32.toBitVec (Int32.ofInt x) <<< (BitVec.ofNat 32 k).toNat).toInt = _
  rw [c, hx]
  have e : (BitVec.ofNat 32 x.toNat <<< k) = BitVec.ofNat 32 (x.toNat * 2 ^ k) := by
    apply BitVec.eq_of_toNat_eq
    rw [BitVec.toNat_shiftLeft, BitVec.toNat_ofNat, BitVec.toNat_ofNat, Nat.shiftLeft_eq, Nat.mod_mul_mod]
  have hn : ((x.toNat * 2 ^ k : Nat) : Int) = x * 2 ^ k := by
    push_cast
    rw [Int.toNat_of_nonneg x0]
  rw [e, BitVec.toInt_ofNat', bm32 (by unfold InR; omega), hn]
theorem or_add {v x : Int} {k : Nat} (v0 : 0 ≤ v) (x0 : 0 ≤ x) (x1 : x < 2 ^ k) (hv : v * 2 ^ k + x < 2147483648) : q_or (v * 2 ^ k) x = v * 2 ^ k + x := by
  have hp : (0 : Int) ≤ v * 2 ^ k := Int.mul_nonneg v0 (by
    have h2 : ((2 ^ k : Nat) : Int) = (2 : Int) ^ k := by push_cast; rfl
    omega)
  rw [q_or_nn hp (by omega) x0 (by omega)]
  have e1 : (v * 2 ^ k).toNat = 2 ^ k * v.toNat := by
    have : ((2 ^ k * v.toNat : Nat) : Int) = v * 2 ^ k := by
      push_cast
      rw [Int.toNat_of_nonneg v0, Int.mul_comm]
    omega
  have e2 : x.toNat < 2 ^ k := by
    have h2 : ((2 ^ k : Nat) : Int) = (2 : Int) ^ k := by push_cast; rfl
    omega
  rw [e1, ← Nat.two_pow_add_eq_or_of_lt e2]
  omega
/-- what stands on the tape -/
def TpOK (M : Mem) (B : Int → Int) (n : Int) : Prop := (0 ≤ n ∧ n ≤ 700) ∧ M.1 191 19 = n ∧ ∀ j, 0 ≤ j → j < n → M.1 192 j = B j ∧ 0 ≤ B j ∧ B j ≤ 255
def TkW : Nat → Int → Prop := fun k j => k = 191 ∧ (j = 20 ∨ j = 21 ∨ j = 22 ∨ j = 23)
theorem TpOK.fr {W : Nat → Int → Prop} {M N : Mem} {B : Int → Int} {n : Int} (h : TpOK M B n) (hF : Fr W M N) (hd : ∀ k j, (k = 192 ∨ (k = 191 ∧ j = 19)) → ¬ W k j) : TpOK N B n :=
  ⟨h.1, (hF 191 19 (hd _ _ (by omega))).1.trans h.2.1, fun j a b => ⟨(hF 192 j (hd _ _ (by omega))).1.trans (h.2.2 j a b).1, (h.2.2 j a b).2⟩⟩
def hrV (B : Int → Int) (n a : Int) : Int := if a < n then B a else -1
theorem m_here {M : Mem} {B : Int → Int} {n a : Int} (h : TpOK M B n) (ha : M.1 191 20 = a) (a0 : 0 ≤ a) : t_MO_here M = some (hrV B n a) := by
  have h0 := h.1
  unfold t_MO_here hrV
  rw [h.2.1, ha]
  by_cases c : a < n
  · rw [if_neg (by omega), if_pos c, qguard_pos ⟨by omega, by omega⟩, (h.2.2 a a0 c).1]
  · rw [if_pos (by omega), if_neg c]
theorem isSmall_eq (M : Mem) (c : Int) : t_MO_isSmall M c = if ltB c = true then 1 else 0 := by
  unfold t_MO_isSmall ltB
  by_cases h1 : c < 97
  · rw [if_pos h1, decide_eq_false (by omega), if_neg (by decide)]
  · rw [if_neg h1]
    by_cases h2 : 122 < c
    · rw [if_pos h2, decide_eq_false (by omega), if_neg (by decide)]
    · rw [if_neg h2, decide_eq_true (by omega), if_pos rfl]
theorem isDigit_eq (M : Mem) (c : Int) : t_MO_isDigit M c = if dgB c = true then 1 else 0 := by
  unfold t_MO_isDigit dgB
  by_cases h1 : c < 48
  · rw [if_pos h1, decide_eq_false (by omega), if_neg (by decide)]
  · rw [if_neg h1]
    by_cases h2 : 57 < c
    · rw [if_pos h2, decide_eq_false (by omega), if_neg (by decide)]
    · rw [if_neg h2, decide_eq_true (by omega), if_pos rfl]
/-! the word -/
theorem m_word_L97 {M : Mem} {bk : Mem → Int → Int → Option Int} {w e : Int} (he : e < 126) (h32 : chW e = 32) : ∀ (n : Nat) (fu : Nat) (s : Int), s + (n : Int) = e → 0 ≤ s → n < fu → (∀ x, s ≤ x → x < e → chW x ≠ 32) → t_MO_word_L97 bk fu M w s = bk M (w32 (w + 1)) (e + 1) := by
  intro n
  induction n with
  | zero =>
    intro fu s g0 g1 g2 hx
    obtain ⟨g, rfl⟩ : ∃ g, fu = g + 1 := ⟨fu - 1, by omega⟩
    have hs : s = e := by omega
    subst hs
    rw [t_MO_word_L97, qguard_pos ⟨by omega, by omega⟩, if_pos h32, w32_id (x := s + 1) (by unfold InR; omega)]
  | succ n ih =>
    intro fu s g0 g1 g2 hx
    obtain ⟨g, rfl⟩ : ∃ g, fu = g + 1 := ⟨fu - 1, by omega⟩
    rw [t_MO_word_L97, qguard_pos ⟨by omega, by omega⟩, if_neg (hx s (Int.le_refl _) (by omega)), w32_id (x := s + 1) (by unfold InR; omega)]
    exact ih g (s + 1) (by omega) (by omega) (by omega) (fun x a b => hx x (by omega) b)
theorem m_word_L15 {M : Mem} {B : Int → Int} {n p a : Int} {bk : Mem → Int → Int → Option Int} (h : TpOK M B n) (hp : M.1 191 21 = p) (ha : M.1 191 20 = a) (p0 : 0 ≤ p) (pa : p ≤ a) (an : a ≤ n) {w : Int} {k : Nat} (hk : k < 25) : ∀ (m i fu : Nat), (i : Int) + (m : Int) = nxW (stW k) - stW k → m < fu → mtS B p (stW k) i = true → p + (i : Int) ≤ a →
    t_MO_word_L15 bk fu M w (stW k) (i : Int) = if nxW (stW k) - stW k = a - p ∧ mtS B p (stW k) (a - p).toNat = true then some w else bk M (w32 (w + 1)) (stW (k + 1)) := by
  have hst := st_all k hk
  have hnx := nx_all (stW k).toNat (by omega)
  rw [Int.toNat_of_nonneg hst.1] at hnx
  have h0 := h.1
  have bet : ∀ j : Nat, (j : Int) < nxW (stW k) - stW k → chW (stW k + (j : Int)) ≠ 32 := by
    intro j hj
    have := nx_bet (stW k).toNat (by omega) j (by omega)
    rw [Int.toNat_of_nonneg hst.1] at this
    exact this (by omega)
  have skip : ∀ fu : Nat, 200 < fu → t_MO_word_L97 bk fu M w (stW k) = bk M (w32 (w + 1)) (stW (k + 1)) := by
    intro fu hfu
    have := m_word_L97 (M := M) (bk := bk) (w := w) hnx.2.1 hnx.2.2 (nxW (stW k) - stW k).toNat fu (stW k) (by omega) hst.1 (by omega) (fun x x0 x1 => by
      have := bet (x - stW k).toNat (by omega)
      rw [Int.toNat_of_nonneg (by omega), show stW k + (x - stW k) = x by omega] at this
      exact this)
    rw [this]
    rfl
  have hFU : 200 < FU := by unfold FU; decide
  intro m
  induction m with
  | zero =>
    intro i fu g0 g1 hm hpa
    obtain ⟨g, rfl⟩ : ∃ g, fu = g + 1 := ⟨fu - 1, by omega⟩
    have e1 : stW k + (i : Int) = nxW (stW k) := by omega
    rw [t_MO_word_L15]
    unfold t_MO_word_L69
    rw [w32_id (x := stW k + (i : Int)) (by unfold InR; omega), e1, qguard_pos ⟨by omega, by omega⟩, if_pos hnx.2.2, qguard_pos ⟨by omega, by omega⟩, if_pos hnx.2.2, hp, ha, w32_id (x := p + (i : Int)) (by unfold InR; omega)]
    by_cases q : p + (i : Int) = a
    · rw [if_pos q, if_pos ⟨by omega, by rw [show (a - p).toNat = i by omega]; exact hm⟩]
    · rw [if_neg q, if_neg (fun z => q (by omega))]
      exact skip FU hFU
  | succ m ih =>
    intro i fu g0 g1 hm hpa
    obtain ⟨g, rfl⟩ : ∃ g, fu = g + 1 := ⟨fu - 1, by omega⟩
    have hne := bet i (by omega)
    rw [t_MO_word_L15]
    unfold t_MO_word_L69
    rw [w32_id (x := stW k + (i : Int)) (by unfold InR; omega), hp, ha, w32_id (x := p + (i : Int)) (by unfold InR; omega)]
    have gd : 0 ≤ stW k + (i : Int) ∧ stW k + (i : Int) < 126 := by omega
    simp only [qguard_pos gd]
    rw [if_neg hne, if_neg hne]
    by_cases q : a ≤ p + (i : Int)
    · rw [if_pos q, if_neg (fun z => by omega)]
      exact skip FU hFU
    · rw [if_neg q, qguard_pos ⟨by omega, by omega⟩, (h.2.2 _ (by omega) (by omega)).1]
      by_cases c : B (p + (i : Int)) = chW (stW k + (i : Int))
      · rw [if_pos c, w32_succ (by omega)]
        exact ih (i + 1) g (by omega) (by omega) (by rw [mtS, hm, decide_eq_true c]; rfl) (by omega)
      · rw [if_neg c, if_neg (fun z => by
          rw [mtS_mono (k := i + 1) (by omega) (by rw [mtS, decide_eq_false c, Bool.and_false])] at z
          cases z.2)]
        exact skip FU hFU
theorem m_word_L4 {M : Mem} {B : Int → Int} {n p a : Int} (h : TpOK M B n) (hp : M.1 191 21 = p) (ha : M.1 191 20 = a) (p0 : 0 ≤ p) (pa : p ≤ a) (an : a ≤ n) : ∀ (m k fu : Nat), m + k = 25 → m < fu → t_MO_word_L4 fu M (k : Int) (stW k) = some (wdS B p (a - p) m k) := by
  intro m
  induction m with
  | zero =>
    intro k fu g0 g1
    obtain ⟨g, rfl⟩ : ∃ g, fu = g + 1 := ⟨fu - 1, by omega⟩
    have hk : k = 25 := by omega
    subst hk
    rw [t_MO_word_L4, if_pos (by rw [st_end]; decide), wdS]
  | succ m ih =>
    intro k fu g0 g1
    obtain ⟨g, rfl⟩ : ∃ g, fu = g + 1 := ⟨fu - 1, by omega⟩
    have hst := st_all k (by omega)
    have := m_word_L15 (bk := fun a0_ a1_ a2_ => t_MO_word_L4 g a0_ a1_ a2_) h hp ha p0 pa an (w := (k : Int)) (k := k) (by omega) (nxW (stW k) - stW k).toNat 0 FU (by omega) (fu_big (by omega)) rfl (by omega)
    rw [show ((0 : Nat) : Int) = 0 from rfl] at this
    rw [t_MO_word_L4, if_neg (by omega), this, wdS, w32_succ (by omega)]
    by_cases c : nxW (stW k) - stW k = a - p ∧ mtS B p (stW k) (a - p).toNat = true
    · rw [if_pos c, if_pos c]
    · rw [if_neg c, if_neg c]
      exact ih (k + 1) g (by omega) (by omega)
theorem m_word {M : Mem} {B : Int → Int} {n p a : Int} (h : TpOK M B n) (hp : M.1 191 21 = p) (ha : M.1 191 20 = a) (p0 : 0 ≤ p) (pa : p ≤ a) (an : a ≤ n) : t_MO_word M = some (wordS B p (a - p)) := m_word_L4 h hp ha p0 pa an 25 0 FU rfl (fu_big (by omega))
/-! the name -/
theorem nl_rng {B : Int → Int} {p e k : Int} (h : ∀ x, p ≤ x → x < e → ltB (B x) = true) (k0 : 0 ≤ k) : 0 ≤ nlS B p e k ∧ nlS B p e k ≤ 26 := by
  unfold nlS
  split
  · have := h (p + k) (by omega) (by assumption)
    unfold ltB at this
    have := of_decide_eq_true this
    omega
  · omega
theorem nv_rng {B : Int → Int} {p e : Int} (h : ∀ x, p ≤ x → x < e → ltB (B x) = true) : ∀ k : Nat, 0 ≤ nvS B p e k ∧ nvS B p e k < 32 ^ k := by
  intro k
  induction k with
  | zero => rw [nvS]; exact ⟨Int.le_refl _, by decide⟩
  | succ k ih =>
    have := nl_rng h (k := (k : Int)) (by omega)
    rw [nvS, Int.pow_succ]
    omega
theorem p32 : ∀ k : Nat, k ≤ 6 → (32 : Int) ^ k ≤ 1073741824 := by decide +kernel
theorem m_name_L7 {M0 : Mem} {B : Int → Int} {n p e : Int} (h : TpOK M0 B n) (p0 : 0 ≤ p) (pe : p ≤ e) (en : e ≤ n) (hl : ∀ x, p ≤ x → x < e → ltB (B x) = true) (hp : M0.1 191 21 = p) (ha : M0.1 191 20 = e) : ∀ (m k fu : Nat) (M : Mem), k + m = 6 → m < fu → Fr (fun k j => k = 191 ∧ j = 23) M0 M → M.1 191 23 = nvS B p e k →
    ∃ N, t_MO_name_L7 fu M (k : Int) = some N ∧ Fr (fun k j => k = 191 ∧ j = 23) M0 N ∧ N.1 191 23 = nvS B p e 6 := by
  have h0 := h.1
  intro m
  induction m with
  | zero =>
    intro k fu M g0 g1 hF hv
    obtain ⟨g, rfl⟩ : ∃ g, fu = g + 1 := ⟨fu - 1, by omega⟩
    have hk : k = 6 := by omega
    subst hk
    rw [t_MO_name_L7, if_pos (by omega)]
    exact ⟨M, rfl, hF, hv⟩
  | succ m ih =>
    intro k fu M g0 g1 hF hv
    obtain ⟨g, rfl⟩ : ∃ g, fu = g + 1 := ⟨fu - 1, by omega⟩
    have hr := nv_rng hl k
    have h32 := p32 (k + 1) (by omega)
    rw [Int.pow_succ] at h32
    have hnl := nl_rng hl (k := (k : Int)) (by omega)
    have e5 : q_shl (nvS B p e k) 5 = nvS B p e k * 2 ^ 5 := q_shl_nn (k := 5) (by decide) hr.1 (by rw [show (2 : Int) ^ 5 = 32 from rfl]; omega)
    have eo : q_or (nvS B p e k * 2 ^ 5) (nlS B p e (k : Int)) = nvS B p e (k + 1) := by
      rw [or_add hr.1 hnl.1 (by rw [show (2 : Int) ^ 5 = 32 from rfl]; omega) (by rw [show (2 : Int) ^ 5 = 32 from rfl]; omega), nvS]
      rfl
    have nx := fun N q1 q2 => ih (k + 1) g N (by omega) (by omega) q1 q2
    rw [t_MO_name_L7, if_neg (by omega), (hF 191 20 (by omega)).1, (hF 191 21 (by omega)).1, hp, ha, w32_id (x := p + (k : Int)) (by unfold InR; omega), hv, e5]
    unfold t_MO_name_L53
    rw [w32_succ (by omega)]
    by_cases c : e ≤ p + (k : Int)
    · have : nlS B p e (k : Int) = 0 := if_neg (by omega)
      rw [this] at eo
      rw [if_pos c, eo]
      exact nx _ (hF.setI ⟨rfl, rfl⟩) (sI_self _ _ _ _)
    · have : nlS B p e (k : Int) = B (p + (k : Int)) - 96 := if_pos (by omega)
      rw [this] at eo
      rw [if_neg c, qguard_pos ⟨by omega, by omega⟩, (hF 192 _ (by omega)).1, (h.2.2 _ (by omega) (by omega)).1, w32_id (x := B (p + (k : Int)) - 97) (by unfold InR; omega), w32_id (by unfold InR; omega), show B (p + (k : Int)) - 97 + 1 = B (p + (k : Int)) - 96 by omega, eo]
      exact nx _ (hF.setI ⟨rfl, rfl⟩) (sI_self _ _ _ _)
theorem m_name {M : Mem} {B : Int → Int} {n p e : Int} (h : TpOK M B n) (p0 : 0 ≤ p) (pe : p ≤ e) (en : e ≤ n) (hl : ∀ x, p ≤ x → x < e → ltB (B x) = true) (hp : M.1 191 21 = p) (ha : M.1 191 20 = e) : ∃ N, t_MO_name M = some N ∧ Fr (fun k j => k = 191 ∧ j = 23) M N ∧ N.1 191 23 = nvS B p e 6 := by
  unfold t_MO_name
  simp only [qlet]
  have hF : Fr (fun k j => k = 191 ∧ j = 23) M (setI M 191 23 0) := Fr.rf.setI ⟨rfl, rfl⟩
  obtain ⟨N, n1, n2, n3⟩ := m_name_L7 (h.fr hF (fun k j a q => by omega)) p0 pe en hl (by rw [sI_ne (by omega)]; exact hp) (by rw [sI_ne (by omega)]; exact ha) 6 0 FU (setI M 191 23 0) rfl (fu_big (by omega)) Fr.rf (sI_self _ _ _ _)
  exact ⟨N, n1, hF.trans n2, n3⟩
/-! a token -/
abbrev kval2 (k r v : Int) : Prop := (0 ≤ k ∧ k ≤ 24 → r = k) ∧ (k = 30 → r = v) ∧ (k = 31 → nvR r v) ∧ (40 ≤ k → r = sgV k)
def srtV (k : Int) : Int := if k ≤ 24 then 0 else if k = 30 then 1 else if k = 31 then 2 else if k = 32 then 4 else if k = 33 then 5 else 3
/-- the token at hand -/
def RTk (M : Mem) (k v p e : Int) : Prop := M.1 191 21 = p ∧ M.1 191 20 = e ∧ M.1 191 22 = srtV k ∧ kval2 k (M.1 191 23) v
theorem RTk.fr {W : Nat → Int → Prop} {M N : Mem} {k v p e : Int} (h : RTk M k v p e) (hF : Fr W M N) (hd : ∀ q j, TkW q j → ¬ W q j) : RTk N k v p e := by
  have f : ∀ j, (j = 20 ∨ j = 21 ∨ j = 22 ∨ j = 23) → N.1 191 j = M.1 191 j := fun j hj => (hF 191 j (hd _ _ ⟨rfl, hj⟩)).1
  unfold RTk
  rw [f 21 (by omega), f 20 (by omega), f 22 (by omega), f 23 (by omega)]
  exact h
theorem dv_rng2 (B : Int → Int) (p : Int) : ∀ k : Nat, (∀ j : Nat, j < k → 48 ≤ B (p + (j : Int)) ∧ B (p + (j : Int)) ≤ 57) → 0 ≤ dvS B p k ∧ dvS B p k ≤ 1000000 := by
  intro k
  induction k with
  | zero => intro _; rw [dvS]; omega
  | succ k ih =>
    intro h
    have a := ih (fun j hj => h j (by omega))
    have b := h k (by omega)
    rw [dvS]
    unfold q_min
    split <;> omega
theorem m_tok_L162 {M0 : Mem} {B : Int → Int} {n p e : Int} (h : TpOK M0 B n) (p0 : 0 ≤ p) (en : e ≤ n) (hd : ∀ x, p ≤ x → x < e → dgB (B x) = true) (he : e < n → dgB (B e) = false) : ∀ (m k fu : Nat) (M : Mem), p + (k : Int) + (m : Int) = e → m < fu → Fr (fun q j => q = 191 ∧ (j = 20 ∨ j = 23)) M0 M → M.1 191 20 = p + (k : Int) → nvR (M.1 191 23) (dvS B p k) →
    ∃ N, t_MO_token_L162 fu M = some N ∧ Fr (fun q j => q = 191 ∧ (j = 20 ∨ j = 23)) M0 N ∧ N.1 191 20 = e ∧ nvR (N.1 191 23) (dvS B p (e - p).toNat) := by
  have h0 := h.1
  intro m
  induction m with
  | zero =>
    intro k fu M g0 g1 hF ha hv
    obtain ⟨g, rfl⟩ : ∃ g, fu = g + 1 := ⟨fu - 1, by omega⟩
    have hM := h.fr hF (fun q j a z => by omega)
    have hh := m_here hM ha (by omega)
    have hz : dgB (hrV B n (p + (k : Int))) = false := by
      unfold hrV
      split
      · rw [show p + (k : Int) = e by omega]; exact he (by omega)
      · rfl
    rw [t_MO_token_L162, hh, obind_some]
    simp only [qlet]
    rw [isDigit_eq, hz, if_pos (show (if false = true then (1 : Int) else 0) = 0 from rfl)]
    refine ⟨M, rfl, hF, by omega, ?_⟩
    rw [show (e - p).toNat = k by omega]
    exact hv
  | succ m ih =>
    intro k fu M g0 g1 hF ha hv
    obtain ⟨g, rfl⟩ : ∃ g, fu = g + 1 := ⟨fu - 1, by omega⟩
    have hM := h.fr hF (fun q j a z => by omega)
    have hh := m_here hM ha (by omega)
    have hb : hrV B n (p + (k : Int)) = B (p + (k : Int)) := if_pos (by omega)
    have hdg := hd (p + (k : Int)) (by omega) (by omega)
    have hdr : 48 ≤ B (p + (k : Int)) ∧ B (p + (k : Int)) ≤ 57 := of_decide_eq_true hdg
    rw [hb] at hh
    rw [t_MO_token_L162, hh, obind_some]
    simp only [qlet]
    rw [isDigit_eq, hdg, if_pos rfl, if_neg (by decide), obind_some]
    unfold t_MO_token_L204
    simp only [qlet]
    unfold nvR at hv
    have nx := fun N q1 q2 q3 => ih (k + 1) g N (by omega) (by omega) q1 q2 q3
    have e20 : w32 (uI M.1 191 23 (M.1 191 23) 191 20 + 1) = p + ((k + 1 : Nat) : Int) := by
      rw [uI_ne _ _ (by omega), ha, w32_id (by unfold InR; omega)]; omega
    have e20' : ∀ x, w32 (uI M.1 191 23 x 191 20 + 1) = p + ((k + 1 : Nat) : Int) := by
      intro x
      rw [uI_ne _ _ (by omega), ha, w32_id (by unfold InR; omega)]; omega
    have step : ∀ x, nvR x (dvS B p (k + 1)) → ∃ N, t_MO_token_L162 g (setI (setI M 191 23 x) 191 20 (p + ((k + 1 : Nat) : Int))) = some N ∧ Fr (fun q j => q = 191 ∧ (j = 20 ∨ j = 23)) M0 N ∧ N.1 191 20 = e ∧ nvR (N.1 191 23) (dvS B p (e - p).toNat) := by
      intro x hx
      refine nx _ ((hF.setI (by omega)).setI (by omega)) (sI_self _ _ _ _) ?_
      rw [sI_ne (by omega), sI_self]
      exact hx
    by_cases c : M.1 191 23 ≤ 99999
    · rw [if_pos c, w32_id (x := 10 * M.1 191 23) (by unfold InR; omega), w32_id (x := 10 * M.1 191 23 + B (p + (k : Int))) (by unfold InR; omega), w32_id (x := 10 * M.1 191 23 + B (p + (k : Int)) - 48) (by unfold InR; omega), e20']
      refine step _ ?_
      unfold nvR
      rw [dvS]
      unfold q_min
      split <;> omega
    · rw [if_neg c, e20']
      refine step _ ?_
      unfold nvR
      rw [dvS]
      unfold q_min
      split <;> omega
end
section
/-! ===== a whole token by the reference ===== -/
def SgW : Nat → Int → Prop := fun k j => k = 191 ∧ (j = 20 ∨ j = 22 ∨ j = 23)
/-- behind sort and value -/
theorem m_sign_L106 {M : Mem} {B : Int → Int} {n c a : Int} (h : TpOK M B n) (ha : M.1 191 20 = a) (a0 : 0 ≤ a) (an : a ≤ n) (hv : M.1 191 23 = c) (hc : 0 ≤ c ∧ c ≤ 255) (hc2 : c ≠ 60) : ∃ N, t_MO_sign_L106 c M = some N ∧ Fr SgW M N ∧ N.1 191 22 = M.1 191 22 ∧ N.1 191 23 = (if c = 62 ∧ hrV B n a = 61 then 258 else c) ∧ N.1 191 20 = (if c = 62 ∧ hrV B n a = 61 then a + 1 else a) := by
  have h0 := h.1
  unfold t_MO_sign_L106 t_MO_sign_L128 t_MO_sign_L150
  simp only [qlet]
  rw [if_neg hc2]
  by_cases c62 : c = 62
  · rw [if_pos c62, m_here h ha a0, obind_some]
    by_cases e : hrV B n a = 61
    · rw [if_pos e, uI_self, if_neg (show ¬ (258 : Int) < 256 by decide), uI_ne _ _ (by omega), ha, w32_id (x := a + 1) (by unfold InR; omega), if_pos (show c = 62 ∧ hrV B n a = 61 from ⟨c62, e⟩), if_pos (show c = 62 ∧ hrV B n a = 61 from ⟨c62, e⟩)]
      exact ⟨_, rfl, (Fr.rf.setI (by unfold SgW; omega)).setI (by unfold SgW; omega), by rw [sI_ne (by omega), sI_ne (by omega)], by rw [sI_ne (by omega), sI_self], sI_self _ _ _ _⟩
    · rw [if_neg e, if_pos (show M.1 191 23 < 256 by omega), if_neg (show ¬ (c = 62 ∧ hrV B n a = 61) from fun q => e q.2), if_neg (show ¬ (c = 62 ∧ hrV B n a = 61) from fun q => e q.2)]
      exact ⟨M, rfl, Fr.rf, rfl, hv, ha⟩
  · rw [if_neg c62, if_pos (show M.1 191 23 < 256 by omega), if_neg (show ¬ (c = 62 ∧ hrV B n a = 61) from fun q => c62 q.1), if_neg (show ¬ (c = 62 ∧ hrV B n a = 61) from fun q => c62 q.1)]
    exact ⟨M, rfl, Fr.rf, rfl, hv, ha⟩
theorem m_sign_L106b {M : Mem} {B : Int → Int} {n a v : Int} (h : TpOK M B n) (ha : M.1 191 20 = a) (a0 : 0 ≤ a) (an : a ≤ n) (hv : M.1 191 23 = v) (h1 : (v = 256 ∧ hrV B n a = 61) ∨ (v = 60 ∧ hrV B n a ≠ 61)) : ∃ N, t_MO_sign_L106 60 M = some N ∧ Fr SgW M N ∧ N.1 191 22 = M.1 191 22 ∧ N.1 191 23 = (if hrV B n a = 61 then 256 else if hrV B n a = 62 then 257 else 60) ∧ N.1 191 20 = (if hrV B n a = 61 ∨ hrV B n a = 62 then a + 1 else a) := by
  have h0 := h.1
  unfold t_MO_sign_L106 t_MO_sign_L128 t_MO_sign_L150
  simp only [qlet]
  rw [if_pos trivial, m_here h ha a0, obind_some]
  have n62 : ¬ (60 : Int) = 62 := by decide
  by_cases e : hrV B n a = 61
  · have hv2 : M.1 191 23 = 256 := by omega
    rw [if_neg (show ¬ hrV B n a = 62 by omega), if_neg n62, hv2, if_neg (show ¬ (256 : Int) < 256 by decide), if_pos e, if_pos (show hrV B n a = 61 ∨ hrV B n a = 62 from Or.inl e), ha, w32_id (x := a + 1) (by unfold InR; omega)]
    exact ⟨_, rfl, Fr.rf.setI (by unfold SgW; omega), by rw [sI_ne (by omega)], by rw [sI_ne (by omega)]; exact hv2, sI_self _ _ _ _⟩
  · have hv2 : M.1 191 23 = 60 := by omega
    by_cases e2 : hrV B n a = 62
    · rw [if_pos e2, if_neg n62, uI_self, if_neg (show ¬ (257 : Int) < 256 by decide), if_neg e, if_pos e2, if_pos (show hrV B n a = 61 ∨ hrV B n a = 62 from Or.inr e2), uI_ne _ _ (by omega), ha, w32_id (x := a + 1) (by unfold InR; omega)]
      exact ⟨_, rfl, (Fr.rf.setI (by unfold SgW; omega)).setI (by unfold SgW; omega), by rw [sI_ne (by omega), sI_ne (by omega)], by rw [sI_ne (by omega), sI_self], sI_self _ _ _ _⟩
    · rw [if_neg e2, if_neg n62, hv2, if_pos (show (60 : Int) < 256 by decide), if_neg e, if_neg e2, if_neg (show ¬ (hrV B n a = 61 ∨ hrV B n a = 62) from fun q => by rcases q with q | q <;> contradiction)]
      exact ⟨M, rfl, Fr.rf, rfl, hv2, ha⟩
theorem m_sign {M : Mem} {B : Int → Int} {n c p : Int} (h : TpOK M B n) (ha : M.1 191 20 = p) (p0 : 0 ≤ p) (pn : p < n) (hc : 0 ≤ c ∧ c ≤ 255) : ∃ N, t_MO_sign M c = some N ∧ Fr SgW M N ∧ N.1 191 22 = srtV (sgK c (hrV B n (p + 1))) ∧ (40 ≤ sgK c (hrV B n (p + 1)) → N.1 191 23 = sgV (sgK c (hrV B n (p + 1)))) ∧ N.1 191 20 = p + sgL (sgK c (hrV B n (p + 1))) := by
  have h0 := h.1
  unfold t_MO_sign
  simp only [qlet]
  rw [ha, w32_id (x := p + 1) (by unfold InR; omega)]
  generalize hM2 : setI M 191 20 (p + 1) = M2
  have hF2 : Fr SgW M M2 := by rw [← hM2]; exact Fr.rf.setI (by unfold SgW; omega)
  have h20 : M2.1 191 20 = p + 1 := by rw [← hM2, sI_self]
  -- sort and value
  have L76 : ∀ v3 : Int, ∃ N, t_MO_sign_L76 c M2 v3 = some N ∧ Fr SgW M2 N ∧ N.1 191 22 = v3 ∧ N.1 191 23 = (if c = 60 then (if hrV B n (p + 1) = 61 then 256 else if hrV B n (p + 1) = 62 then 257 else 60) else if c = 62 ∧ hrV B n (p + 1) = 61 then 258 else c) ∧ N.1 191 20 = (if c = 60 then (if hrV B n (p + 1) = 61 ∨ hrV B n (p + 1) = 62 then p + 1 + 1 else p + 1) else if c = 62 ∧ hrV B n (p + 1) = 61 then p + 1 + 1 else p + 1) := by
    intro v3
    unfold t_MO_sign_L76
    simp only [qlet]
    generalize hM4 : setI (setI M2 191 22 v3) 191 23 c = M4
    have hF4 : Fr SgW M2 M4 := by rw [← hM4]; exact (Fr.rf.setI (by unfold SgW; omega)).setI (by unfold SgW; omega)
    have t4 : TpOK M4 B n := (h.fr hF2 (fun k j a q => by unfold SgW at q; omega)).fr hF4 (fun k j a q => by unfold SgW at q; omega)
    have a4 : M4.1 191 20 = p + 1 := by rw [← hM4, sI_ne (by omega), sI_ne (by omega)]; exact h20
    have v4 : M4.1 191 23 = c := by rw [← hM4, sI_self]
    have s4 : M4.1 191 22 = v3 := by rw [← hM4, sI_ne (by omega), sI_self]
    by_cases c60 : c = 60
    · subst c60
      rw [if_pos rfl, if_pos rfl, if_pos rfl, m_here t4 a4 (by omega), obind_some]
      by_cases e : hrV B n (p + 1) = 61
      · rw [if_pos e]
        have hF5 : Fr SgW M4 (setI M4 191 23 256) := Fr.rf.setI (by unfold SgW; omega)
        obtain ⟨N, n1, n2, n3, n4, n5⟩ := m_sign_L106b (t4.fr hF5 (fun k j a q => by unfold SgW at q; omega)) (a := p + 1) (v := 256) (by rw [sI_ne (by omega)]; exact a4) (by omega) (by omega) (sI_self _ _ _ _) (Or.inl ⟨rfl, e⟩)
        exact ⟨N, n1, (hF4.trans hF5).trans n2, by rw [n3, sI_ne (by omega)]; exact s4, n4, n5⟩
      · rw [if_neg e]
        obtain ⟨N, n1, n2, n3, n4, n5⟩ := m_sign_L106b t4 (a := p + 1) (v := 60) a4 (by omega) (by omega) v4 (Or.inr ⟨rfl, e⟩)
        exact ⟨N, n1, hF4.trans n2, n3.trans s4, n4, n5⟩
    · rw [if_neg c60, if_neg c60, if_neg c60]
      obtain ⟨N, n1, n2, n3, n4, n5⟩ := m_sign_L106 t4 (a := p + 1) a4 (by omega) (by omega) v4 hc c60
      exact ⟨N, n1, hF4.trans n2, n3.trans s4, n4, n5⟩
  unfold t_MO_sign_L71
  obtain ⟨N3, a1, a2, a3, a4, a5⟩ := L76 3
  obtain ⟨N5, b1, b2, b3, b4, b5⟩ := L76 5
  rw [a1, b1]
  generalize hrV B n (p + 1) = c2 at *
  by_cases k59 : c = 59
  · subst k59; rw [if_pos rfl]; exact ⟨N3, rfl, hF2.trans a2, by rw [a3]; rfl, fun _ => by rw [a4]; rfl, by rw [a5]; rfl⟩
  rw [if_neg k59]
  by_cases k40 : c = 40
  · subst k40; rw [if_pos rfl]; exact ⟨N3, rfl, hF2.trans a2, by rw [a3]; rfl, fun _ => by rw [a4]; rfl, by rw [a5]; rfl⟩
  rw [if_neg k40]
  by_cases k41 : c = 41
  · subst k41; rw [if_pos rfl]; exact ⟨N3, rfl, hF2.trans a2, by rw [a3]; rfl, fun _ => by rw [a4]; rfl, by rw [a5]; rfl⟩
  rw [if_neg k41]
  by_cases k43 : c = 43
  · subst k43; rw [if_pos rfl]; exact ⟨N3, rfl, hF2.trans a2, by rw [a3]; rfl, fun _ => by rw [a4]; rfl, by rw [a5]; rfl⟩
  rw [if_neg k43]
  by_cases k45 : c = 45
  · subst k45; rw [if_pos rfl]; exact ⟨N3, rfl, hF2.trans a2, by rw [a3]; rfl, fun _ => by rw [a4]; rfl, by rw [a5]; rfl⟩
  rw [if_neg k45]
  by_cases k42 : c = 42
  · subst k42; rw [if_pos rfl]; exact ⟨N3, rfl, hF2.trans a2, by rw [a3]; rfl, fun _ => by rw [a4]; rfl, by rw [a5]; rfl⟩
  rw [if_neg k42]
  by_cases k47 : c = 47
  · subst k47; rw [if_pos rfl]; exact ⟨N3, rfl, hF2.trans a2, by rw [a3]; rfl, fun _ => by rw [a4]; rfl, by rw [a5]; rfl⟩
  rw [if_neg k47]
  by_cases k60 : c = 60
  · subst k60
    rw [if_pos rfl] at a4 a5 ⊢
    refine ⟨N3, rfl, hF2.trans a2, ?_, fun _ => ?_, ?_⟩
    · rw [a3]
      by_cases e : c2 = 61
      · subst e; rfl
      · by_cases e2 : c2 = 62
        · subst e2; rfl
        · have : sgK 60 c2 = 47 := by unfold sgK; simp [e, e2]
          rw [this]; rfl
    · rw [a4]
      by_cases e : c2 = 61
      · subst e; rfl
      · by_cases e2 : c2 = 62
        · subst e2; rfl
        · have : sgK 60 c2 = 47 := by unfold sgK; simp [e, e2]
          rw [this, if_neg e, if_neg e2]; rfl
    · rw [a5]
      by_cases e : c2 = 61
      · subst e; rw [if_pos (Or.inl rfl)]; show p + 1 + 1 = p + 2; omega
      · by_cases e2 : c2 = 62
        · subst e2; rw [if_pos (Or.inr rfl)]; show p + 1 + 1 = p + 2; omega
        · have : sgK 60 c2 = 47 := by unfold sgK; simp [e, e2]
          rw [this, if_neg (fun q => by rcases q with q | q <;> contradiction)]; rfl
  rw [if_neg k60]
  rw [if_neg k60] at a4 a5
  by_cases k61 : c = 61
  · subst k61; rw [if_pos rfl]; exact ⟨N3, rfl, hF2.trans a2, by rw [a3]; rfl, fun _ => by rw [a4]; rfl, by rw [a5]; rfl⟩
  rw [if_neg k61]
  by_cases k62 : c = 62
  · subst k62
    rw [if_pos rfl]
    refine ⟨N3, rfl, hF2.trans a2, ?_, fun _ => ?_, ?_⟩
    · rw [a3]
      by_cases e : c2 = 61
      · subst e; rfl
      · have : sgK 62 c2 = 52 := by unfold sgK; simp [e]
        rw [this]; rfl
    · rw [a4]
      by_cases e : c2 = 61
      · subst e; rfl
      · have : sgK 62 c2 = 52 := by unfold sgK; simp [e]
        rw [this, if_neg (fun q => e q.2)]; rfl
    · rw [a5]
      by_cases e : c2 = 61
      · subst e; rw [if_pos ⟨rfl, rfl⟩]; show p + 1 + 1 = p + 2; omega
      · have : sgK 62 c2 = 52 := by unfold sgK; simp [e]
        rw [this, if_neg (fun q => e q.2)]; rfl
  rw [if_neg k62]
  have k33 : sgK c c2 = 33 := by unfold sgK; simp [k59, k40, k41, k43, k45, k42, k47, k60, k61, k62]
  rw [k33]
  refine ⟨N5, rfl, hF2.trans b2, b3, fun q => by omega, ?_⟩
  rw [b5, if_neg k60, if_neg (fun q => k62 q.1)]
  rfl
theorem m_tok_L64 {M0 : Mem} {B : Int → Int} {n p e : Int} (h : TpOK M0 B n) (p0 : 0 ≤ p) (pe : p < e) (en : e ≤ n) (hd : ∀ x, p ≤ x → x < e → ltB (B x) = true) (he : e < n → ltB (B e) = false) (hp : M0.1 191 21 = p) : ∀ (m fu : Nat) (M : Mem) (a : Int), a + (m : Int) = e → p ≤ a → m < fu → Fr (fun q j => q = 191 ∧ j = 20) M0 M → M.1 191 20 = a →
    ∃ N, t_MO_token_L64 fu M = some N ∧ Fr TkW M0 N ∧ N.1 191 21 = p ∧ N.1 191 20 = e ∧ N.1 191 22 = (if 0 ≤ wordS B p (e - p) then 0 else if e - p ≤ 6 then 1 else 5) ∧ (0 ≤ wordS B p (e - p) → N.1 191 23 = wordS B p (e - p)) ∧ (wordS B p (e - p) < 0 → e - p ≤ 6 → N.1 191 23 = nvS B p e 6) := by
  have h0 := h.1
  intro m
  induction m with
  | zero =>
    intro fu M a g0 g1 g2 hF ha
    obtain ⟨g, rfl⟩ : ∃ g, fu = g + 1 := ⟨fu - 1, by omega⟩
    have hM := h.fr hF (fun q j a z => by omega)
    have hh := m_here hM ha (by omega)
    have hz : ltB (hrV B n a) = false := by
      unfold hrV
      split
      · rw [show a = e by omega]; exact he (by omega)
      · rfl
    have hpM : M.1 191 21 = p := ((hF 191 21 (by omega)).1).trans hp
    have hw := m_word hM hpM ha p0 (by omega) (by omega)
    have hr := wd_rng B p (a - p) 25 0 rfl
    change -1 ≤ wordS B p (a - p) ∧ wordS B p (a - p) ≤ 24 at hr
    have ea : a = e := by omega
    subst ea
    rw [t_MO_token_L64, hh, obind_some]
    simp only [qlet]
    rw [isSmall_eq, hz, if_pos (show (if false = true then (1 : Int) else 0) = 0 from rfl), hw, obind_some, uI_self]
    have e20 : uI M.1 191 23 (wordS B p (a - p)) 191 20 = a := by rw [uI_ne _ _ (by omega)]; exact ha
    have e21 : uI M.1 191 23 (wordS B p (a - p)) 191 21 = p := by rw [uI_ne _ _ (by omega)]; exact hpM
    simp only [e20, e21]
    rw [w32_id (x := a - p) (by unfold InR; omega)]
    unfold t_MO_token_L127
    simp only [qlet]
    simp only [uI_self]
    have hT : Fr TkW M0 M := hF.mono (fun q j z => by unfold TkW; omega)
    by_cases c : wordS B p (a - p) = -1
    · rw [if_pos c, if_neg (show ¬ 0 ≤ wordS B p (a - p) by omega)]
      by_cases c2 : a - p ≤ 6
      · rw [if_pos c2, if_pos c2, if_pos trivial]
        have hF5 : Fr (fun q j => q = 191 ∧ (j = 22 ∨ j = 23)) M (setI (setI M 191 23 (wordS B p (a - p))) 191 22 1) := (Fr.rf.setI (by omega)).setI (by omega)
        obtain ⟨N, n1, n2, n3⟩ := m_name (hM.fr hF5 (fun q j x z => by omega)) p0 (by omega) en hd (by rw [(hF5 191 21 (by omega)).1]; exact hpM) (by rw [(hF5 191 20 (by omega)).1]; exact ha)
        rw [n1, obind_some]
        refine ⟨N, rfl, (hT.trans (hF5.mono (fun q j z => by unfold TkW; omega))).trans (n2.mono (fun q j z => by unfold TkW; omega)), ?_, ?_, ?_, fun q => by omega, fun _ _ => n3⟩
        · rw [(n2 191 21 (by omega)).1, (hF5 191 21 (by omega)).1]; exact hpM
        · rw [(n2 191 20 (by omega)).1, (hF5 191 20 (by omega)).1]; exact ha
        · rw [(n2 191 22 (by omega)).1, sI_self]
      · rw [if_neg c2, if_neg c2, if_neg (show ¬ (5 : Int) = 1 by decide)]
        refine ⟨_, rfl, (hT.setI (by unfold TkW; omega)).setI (by unfold TkW; omega), ?_, ?_, ?_, fun q => by omega, fun _ q => absurd q c2⟩
        · rw [sI_ne (by omega), sI_ne (by omega)]; exact hpM
        · rw [sI_ne (by omega), sI_ne (by omega)]; exact ha
        · rw [sI_self]
    · rw [if_neg c, if_neg (show ¬ (0 : Int) = 1 by decide), if_pos (show 0 ≤ wordS B p (a - p) by omega)]
      refine ⟨_, rfl, (hT.setI (by unfold TkW; omega)).setI (by unfold TkW; omega), ?_, ?_, ?_, fun q => ?_, fun q => by omega⟩
      · rw [sI_ne (by omega), sI_ne (by omega)]; exact hpM
      · rw [sI_ne (by omega), sI_ne (by omega)]; exact ha
      · rw [sI_self]
      · rw [sI_ne (by omega), sI_self]
  | succ m ih =>
    intro fu M a g0 g1 g2 hF ha
    obtain ⟨g, rfl⟩ : ∃ g, fu = g + 1 := ⟨fu - 1, by omega⟩
    have hM := h.fr hF (fun q j a z => by omega)
    have hh := m_here hM ha (by omega)
    have hb : hrV B n a = B a := if_pos (by omega)
    rw [hb] at hh
    rw [t_MO_token_L64, hh, obind_some]
    simp only [qlet]
    rw [isSmall_eq, hd a g1 (by omega), if_neg (show ¬ (if true = true then (1 : Int) else 0) = 0 by decide), ha, w32_id (x := a + 1) (by unfold InR; omega)]
    exact ih g _ (a + 1) (by omega) (by omega) (by omega) (hF.setI ⟨rfl, rfl⟩) (sI_self _ _ _ _)
theorem m_tok_L0 {M0 : Mem} {B : Int → Int} {n a0 : Int} (h : TpOK M0 B n) (h0 : 0 ≤ a0) (h1 : a0 ≤ n) : ∀ (m fu : Nat) (M : Mem) (a : Int), a + (m : Int) = rnE blB B n a0 → a0 ≤ a → m < fu → Fr (fun q j => q = 191 ∧ j = 20) M0 M → M.1 191 20 = a →
    ∃ N, t_MO_token_L0 fu M = some N ∧ Fr TkW M0 N ∧ RTk N (tkS B n a0).1 (tkS B n a0).2.1 (tkS B n a0).2.2.1 (tkS B n a0).2.2.2 := by
  have hn := h.1
  obtain ⟨r1, r2, r3⟩ := rnE_facts (p := blB) (B := B) h0 h1 hn.2
  intro m
  induction m with
  | zero =>
    intro fu M a g0 g1 g2 hF ha
    obtain ⟨g, rfl⟩ : ∃ g, fu = g + 1 := ⟨fu - 1, by omega⟩
    have ea : a = rnE blB B n a0 := by omega
    unfold tkS
    rw [← ea] at r1 r2 r3 ⊢
    have hM := h.fr hF (fun q j a z => by omega)
    have hh := m_here hM ha (by omega)
    have hT : Fr TkW M0 M := hF.mono (fun q j z => by unfold TkW; omega)
    have hF8 : Fr (fun q j => q = 191 ∧ j = 21) M (setI M 191 21 a) := Fr.rf.setI ⟨rfl, rfl⟩
    have hT8 : Fr TkW M0 (setI M 191 21 a) := hT.setI (by unfold TkW; omega)
    have t8 : TpOK (setI M 191 21 a) B n := hM.fr hF8 (fun q j x z => by omega)
    have a8 : (setI M 191 21 a).1 191 20 = a := by rw [sI_ne (by omega)]; exact ha
    have p8 : (setI M 191 21 a).1 191 21 = a := sI_self _ _ _ _
    have hh8 := m_here t8 a8 (by omega)
    rw [t_MO_token_L0, hh, obind_some]
    simp only [qlet]
    by_cases c1 : n ≤ a
    · have hb : hrV B n a = -1 := if_neg (by omega)
      rw [hb] at hh hh8 ⊢
      rw [if_neg (by decide), obind_some, if_neg (by decide), ha, hh8, obind_some, if_pos rfl, if_pos c1]
      refine ⟨_, rfl, hT8.setI (by unfold TkW; omega), ?_, ?_, ?_, ⟨fun q => ?_, fun q => ?_, fun q => ?_, fun q => ?_⟩⟩
      · rw [sI_ne (by omega)]; exact p8
      · rw [sI_ne (by omega)]; exact a8
      · rw [sI_self]; rfl
      · have : (32 : Int) ≤ 24 := q.2; omega
      · have : (32 : Int) = 30 := q; omega
      · have : (32 : Int) = 31 := q; omega
      · have : 40 ≤ (32 : Int) := q; omega
    · have hb : hrV B n a = B a := if_pos (by omega)
      have hbl := r3 (by omega)
      have hbl2 : ¬ (B a = 10 ∨ B a = 32) := of_decide_eq_false hbl
      have hB := h.2.2 a (by omega) (by omega)
      rw [hb] at hh hh8 ⊢
      rw [if_neg (fun q => hbl2 (Or.inl q)), obind_some, if_neg (fun q => hbl2 (Or.inr q)), ha, hh8, obind_some, if_neg (by omega), isSmall_eq, isDigit_eq, if_neg c1]
      cases c2 : ltB (B a) with
      | true =>
        rw [if_neg (show ¬ (if true = true then (1 : Int) else 0) = 0 by decide), if_pos (show true = true from rfl)]
        obtain ⟨l1, l2, l3⟩ := rnE_facts (p := ltB) (B := B) (n := n) (a := a) (by omega) (by omega) hn.2
        have lt : a < rnE ltB B n a := by
          by_cases q : rnE ltB B n a = a
          · have := l3 (by omega)
            rw [q, c2] at this
            cases this
          · omega
        obtain ⟨N, n1, n2, n3, n4, n5, n6, n7⟩ := m_tok_L64 t8 (by omega) lt l1.2 l2 l3 p8 (rnE ltB B n a - a).toNat FU (setI M 191 21 a) a (by omega) (Int.le_refl _) (fu_big (by omega)) Fr.rf a8
        rw [n1]
        refine ⟨N, rfl, hT8.trans n2, ?_⟩
        have hr := wd_rng B a (rnE ltB B n a - a) 25 0 rfl
        change -1 ≤ wordS B a (rnE ltB B n a - a) ∧ wordS B a (rnE ltB B n a - a) ≤ 24 at hr
        by_cases c3 : 0 ≤ wordS B a (rnE ltB B n a - a)
        · rw [if_pos c3] at n5 ⊢
          refine ⟨n3, n4, ?_, ⟨fun q => n6 c3, fun q => ?_, fun q => ?_, fun q => ?_⟩⟩
          · rw [n5]; unfold srtV; rw [if_pos hr.2]
          · have q : wordS B a (rnE ltB B n a - a) = 30 := q; omega
          · have q : wordS B a (rnE ltB B n a - a) = 31 := q; omega
          · have q : 40 ≤ wordS B a (rnE ltB B n a - a) := q; omega
        · rw [if_neg c3] at n5 ⊢
          by_cases c4 : rnE ltB B n a - a ≤ 6
          · rw [if_pos c4] at n5 ⊢
            refine ⟨n3, n4, n5, ⟨fun q => ?_, fun q => n7 (by omega) c4, fun q => ?_, fun q => ?_⟩⟩
            · have : (30 : Int) ≤ 24 := q.2; omega
            · have : (30 : Int) = 31 := q; omega
            · have : 40 ≤ (30 : Int) := q; omega
          · rw [if_neg c4] at n5 ⊢
            refine ⟨n3, n4, n5, ⟨fun q => ?_, fun q => ?_, fun q => ?_, fun q => ?_⟩⟩
            · have : (33 : Int) ≤ 24 := q.2; omega
            · have : (33 : Int) = 30 := q; omega
            · have : (33 : Int) = 31 := q; omega
            · have : 40 ≤ (33 : Int) := q; omega
      | false =>
        rw [if_pos (show (if false = true then (1 : Int) else 0) = 0 from rfl), if_neg (show ¬ false = true by decide)]
        cases c3 : dgB (B a) with
        | true =>
          rw [if_neg (show ¬ (if true = true then (1 : Int) else 0) = 0 by decide), if_pos (show true = true from rfl)]
          obtain ⟨l1, l2, l3⟩ := rnE_facts (p := dgB) (B := B) (n := n) (a := a) (by omega) (by omega) hn.2
          have hF2 : Fr (fun q j => q = 191 ∧ (j = 22 ∨ j = 23)) (setI M 191 21 a) (setI (setI (setI M 191 21 a) 191 22 2) 191 23 0) := (Fr.rf.setI (by omega)).setI (by omega)
          obtain ⟨N, n1, n2, n3, n4⟩ := m_tok_L162 (t8.fr hF2 (fun q j x z => by omega)) (p := a) (e := rnE dgB B n a) (by omega) l1.2 l2 l3 (rnE dgB B n a - a).toNat 0 FU (setI (setI (setI M 191 21 a) 191 22 2) 191 23 0) (by omega) (fu_big (by omega)) Fr.rf (by rw [(hF2 191 20 (by omega)).1, a8]; omega) (by rw [sI_self, dvS]; unfold nvR; omega)
          rw [n1]
          refine ⟨N, rfl, (hT8.trans (hF2.mono (fun q j z => by unfold TkW; omega))).trans (n2.mono (fun q j z => by unfold TkW; omega)), ?_, n3, ?_, ⟨fun q => ?_, fun q => ?_, fun _ => n4, fun q => ?_⟩⟩
          · rw [(n2 191 21 (by omega)).1, (hF2 191 21 (by omega)).1]; exact p8
          · rw [(n2 191 22 (by omega)).1, sI_ne (by omega), sI_self]; rfl
          · have : (31 : Int) ≤ 24 := q.2; omega
          · have : (31 : Int) = 30 := q; omega
          · have : 40 ≤ (31 : Int) := q; omega
        | false =>
          rw [if_pos (show (if false = true then (1 : Int) else 0) = 0 from rfl), if_neg (show ¬ false = true by decide)]
          obtain ⟨N, n1, n2, n3, n4, n5⟩ := m_sign t8 a8 (by omega) (by omega) (c := B a) ⟨hB.2.1, hB.2.2⟩
          rw [n1, obind_some]
          have hs := sgK_rng (B a) (hrV B n (a + 1))
          refine ⟨N, rfl, hT8.trans (n2.mono (fun q j z => by unfold SgW at z; unfold TkW; omega)), ?_, n5, n3, ⟨fun q => ?_, fun q => ?_, fun q => ?_, n4⟩⟩
          · rw [(n2 191 21 (by unfold SgW; omega)).1]; exact p8
          · have : sgK (B a) (hrV B n (a + 1)) ≤ 24 := q.2; omega
          · have : sgK (B a) (hrV B n (a + 1)) = 30 := q; omega
          · have : sgK (B a) (hrV B n (a + 1)) = 31 := q; omega
  | succ m ih =>
    intro fu M a g0 g1 g2 hF ha
    obtain ⟨g, rfl⟩ : ∃ g, fu = g + 1 := ⟨fu - 1, by omega⟩
    have hM := h.fr hF (fun q j a z => by omega)
    have hh := m_here hM ha (by omega)
    have hb : hrV B n a = B a := if_pos (by omega)
    have hbl := r2 a g1 (by omega)
    have hbl2 : B a = 10 ∨ B a = 32 := of_decide_eq_true hbl
    rw [hb] at hh
    rw [t_MO_token_L0, hh, obind_some, obind_some]
    unfold t_MO_token_L18
    simp only [qlet]
    rw [ha, w32_id (x := a + 1) (by unfold InR; omega)]
    have nx := ih g (setI M 191 20 (a + 1)) (a + 1) (by omega) (by omega) (by omega) (hF.setI ⟨rfl, rfl⟩) (sI_self _ _ _ _)
    by_cases c : B a = 10
    · rw [if_pos c]; exact nx
    · rw [if_neg c, if_pos (by omega)]; exact nx
theorem m_token {M : Mem} {B : Int → Int} {n a : Int} (h : TpOK M B n) (h0 : 0 ≤ a) (h1 : a ≤ n) (ha : M.1 191 20 = a) : ∃ N, t_MO_token M = some N ∧ Fr TkW M N ∧ RTk N (tkS B n a).1 (tkS B n a).2.1 (tkS B n a).2.2.1 (tkS B n a).2.2.2 := by
  have r := rnE_facts (p := blB) (B := B) h0 h1 h.1.2
  exact m_tok_L0 h h0 h1 (rnE blB B n a - a).toNat FU M a (by omega) (Int.le_refl _) (fu_big (by have := h.1; omega)) Fr.rf ha
end
section
/-! ===== formulas over tokens: what is to come out ===== -/
/-- fault (0), the token behind it (or the faulty one), knots counted, what is put -/
abbrev ER : Type := Int × Nat × Int × List (Int × Int)
def exL (K : Nat → Int) (op : Int → Bool) (rc : Nat → Int → Option ER) : Nat → Nat → Int → List (Int × Int) → Option ER
  | 0, _, _, _ => none
  | fu + 1, i, c, out => if op (K i) = true then (if c = 64 then some (2, i, c, out) else (rc (i + 1) (c + 1)).bind (fun r => if r.1 = 0 then exL K op rc fu r.2.1 r.2.2.1 (out ++ r.2.2.2 ++ [(K i, 0)]) else some r)) else some (0, i, c, out)
def opK (nt : Nat) (k : Int) : Bool := if nt = 0 then decide (k = 15) else if nt = 1 then decide (k = 16) else if nt = 3 then decide (k = 43 ∨ k = 44) else decide (k = 45 ∨ k = 46)
def exG (K W : Nat → Int) : Nat → Nat → Int → Nat → Int → Option ER
  | 0, _, _, _, _ => none
  | d + 1, nt, o, i, c =>
    if nt = 2 then
      (if K i = 17 then (if c = 64 then some (2, i, c, []) else (exG K W d 2 o (i + 1) (c + 1)).bind (fun r => if r.1 = 0 then some (0, r.2.1, r.2.2.1, r.2.2.2 ++ [(17, 0)]) else some r))
       else (exG K W d 3 o i c).bind (fun r => if r.1 = 0 ∧ 47 ≤ K r.2.1 ∧ K r.2.1 ≤ 52 then (if r.2.2.1 = 64 then some (2, r.2.1, r.2.2.1, r.2.2.2) else (exG K W d 3 o (r.2.1 + 1) (r.2.2.1 + 1)).bind (fun r3 => if r3.1 = 0 then some (0, r3.2.1, r3.2.2.1, r.2.2.2 ++ r3.2.2.2 ++ [(K r.2.1, 0)]) else some r3)) else some r))
    else if nt = 5 then
      (if K i = 41 then (if o = 8 then some (2, i, c, []) else (exG K W d 0 (o + 1) (i + 1) c).bind (fun r => if r.1 = 0 then (if K r.2.1 = 42 then some (0, r.2.1 + 1, r.2.2.1, r.2.2.2) else some (1, r.2.1, r.2.2.1, r.2.2.2)) else some r))
       else if K i = 31 then (if 9999 < W i then some (2, i, c, []) else if c = 64 then some (2, i, c, []) else some (0, i + 1, c + 1, [(31, W i)]))
       else if 18 ≤ K i ∧ K i ≤ 24 then (if c = 64 then some (2, i, c, []) else some (0, i + 1, c + 1, [(K i, 0)]))
       else some (1, i, c, []))
    else (exG K W d (nt + 1) o i c).bind (fun r => if r.1 = 0 then exL K (opK nt) (fun i' c' => exG K W d (nt + 1) o i' c') FU r.2.1 r.2.2.1 r.2.2.2 else some r)
/-! well made rows of knots -/
def dpL : List (Int × Int) → Int → Option Int
  | [], h => some h
  | x :: r, h => if x.1 = 17 then (if 1 ≤ h then dpL r h else none) else if ktwo x.1 then (if 2 ≤ h then dpL r (h - 1) else none) else if x.1 = 31 ∨ (18 ≤ x.1 ∧ x.1 ≤ 24) then dpL r (h + 1) else none
def wfL (l : List (Int × Int)) : Prop := ∀ h, 0 ≤ h → dpL l h = some (h + 1)
theorem dpL_app : ∀ (a b : List (Int × Int)) (h : Int), dpL (a ++ b) h = (dpL a h).bind (dpL b) := by
  intro a
  induction a with
  | nil => intro b h; rfl
  | cons x r ih =>
    intro b h
    rw [List.cons_append, dpL, dpL]
    split
    · split
      · exact ih b h
      · rfl
    · split
      · split
        · exact ih b (h - 1)
        · rfl
      · split
        · exact ih b (h + 1)
        · rfl
theorem wf_one {k v : Int} (h : k = 31 ∨ (18 ≤ k ∧ k ≤ 24)) : wfL [(k, v)] := by
  intro x hx
  rw [dpL, if_neg (by show ¬ k = 17; omega), if_neg (by show ¬ ktwo k; unfold ktwo; omega), if_pos h, dpL]
theorem wf_not {a : List (Int × Int)} (h : wfL a) : wfL (a ++ [(17, 0)]) := by
  intro x hx
  rw [dpL_app, h x hx]
  show dpL [(17, 0)] (x + 1) = _
  rw [dpL, if_pos rfl, if_pos (by omega), dpL]
theorem wf_two {a b : List (Int × Int)} {k : Int} (ha : wfL a) (hb : wfL b) (hk : ktwo k) : wfL (a ++ b ++ [(k, 0)]) := by
  intro x hx
  rw [dpL_app, dpL_app, ha x hx]
  show ((dpL b (x + 1)).bind (dpL [(k, 0)])) = _
  rw [hb (x + 1) (by omega)]
  show dpL [(k, 0)] (x + 1 + 1) = _
  rw [dpL, if_neg (by show ¬ k = 17; unfold ktwo at hk; omega), if_pos hk, if_pos (by omega), dpL, show x + 1 + 1 - 1 = x + 1 by omega]
/-- what a result keeps to -/
def RG (i : Nat) (c : Int) (r : ER) : Prop := (r.1 = 0 → i < r.2.1 ∧ c ≤ r.2.2.1 ∧ r.2.2.1 ≤ 64 ∧ (r.2.2.2.length : Int) = r.2.2.1 - c ∧ wfL r.2.2.2) ∧ (r.1 = 0 ∨ r.1 = 1 ∨ r.1 = 2)
theorem op_two {nt : Nat} {k : Int} (h : opK nt k = true) : ktwo k := by
  unfold opK at h
  unfold ktwo
  split at h
  · have := of_decide_eq_true h; omega
  · split at h
    · have := of_decide_eq_true h; omega
    · split at h
      · have := of_decide_eq_true h; omega
      · have := of_decide_eq_true h; omega
theorem op_end {nt : Nat} : opK nt 32 = false := by
  unfold opK
  split
  · rfl
  · split
    · rfl
    · split <;> rfl
section EXP
variable {K W : Nat → Int} {T : Nat}
theorem exL_facts {nt : Nat} {rc : Nat → Int → Option ER} {lo c0 : Int} (hT : ∀ x, T ≤ x → K x = 32) (hrc : ∀ i c, lo ≤ c → c ≤ 64 → ∃ r, rc i c = some r ∧ RG i c r) : ∀ (n i fu : Nat) (c : Int) (out : List (Int × Int)), T ≤ n + i → n < fu → lo ≤ c → c ≤ 64 → (out.length : Int) = c - c0 → wfL out →
    ∃ r, exL K (opK nt) rc fu i c out = some r ∧ (r.1 = 0 → i ≤ r.2.1 ∧ c ≤ r.2.2.1 ∧ r.2.2.1 ≤ 64 ∧ (r.2.2.2.length : Int) = r.2.2.1 - c0 ∧ wfL r.2.2.2 ∧ opK nt (K r.2.1) = false) ∧ (r.1 = 0 ∨ r.1 = 1 ∨ r.1 = 2) := by
  intro n
  induction n with
  | zero =>
    intro i fu c out g0 g1 g2 g3 g4 g5
    obtain ⟨g, rfl⟩ : ∃ g, fu = g + 1 := ⟨fu - 1, by omega⟩
    have : opK nt (K i) = false := by rw [hT i (by omega)]; exact op_end
    rw [exL, this, if_neg (by decide)]
    exact ⟨_, rfl, fun _ => ⟨Nat.le_refl _, Int.le_refl _, g3, g4, g5, this⟩, Or.inl rfl⟩
  | succ n ih =>
    intro i fu c out g0 g1 g2 g3 g4 g5
    obtain ⟨g, rfl⟩ : ∃ g, fu = g + 1 := ⟨fu - 1, by omega⟩
    rw [exL]
    cases e : opK nt (K i) with
    | false =>
      rw [if_neg (by decide)]
      exact ⟨_, rfl, fun _ => ⟨Nat.le_refl _, Int.le_refl _, g3, g4, g5, e⟩, Or.inl rfl⟩
    | true =>
      rw [if_pos rfl]
      by_cases c64 : c = 64
      · rw [if_pos c64]
        exact ⟨_, rfl, fun q => absurd (show (2 : Int) = 0 from q) (by decide), Or.inr (Or.inr rfl)⟩
      · rw [if_neg c64]
        obtain ⟨r, r1, r2, r3⟩ := hrc (i + 1) (c + 1) (by omega) (by omega)
        rw [r1]
        show ∃ r', (if r.1 = 0 then _ else some r) = some r' ∧ _
        by_cases z : r.1 = 0
        · rw [if_pos z]
          obtain ⟨s1, s2, s3, s4, s5⟩ := r2 z
          obtain ⟨r', t1, t2, t3⟩ := ih r.2.1 g r.2.2.1 (out ++ r.2.2.2 ++ [(K i, 0)]) (by omega) (by omega) (by omega) s3 (by simp only [List.length_append, List.length_cons, List.length_nil]; omega) (wf_two g5 s5 (op_two e))
          exact ⟨r', t1, fun q => by have := t2 q; exact ⟨by omega, by omega, this.2.2⟩, t3⟩
        · rw [if_neg z]
          exact ⟨r, rfl, fun q => absurd q z, r3⟩
/-- depth that is enough -/
def nd (nt : Nat) (o c : Int) : Int := 8 * (8 - o) + (64 - c) + (6 - (nt : Int)) + 10
theorem exG_facts (hT : ∀ x, T ≤ x → K x = 32) (hT2 : T < 1000000) : ∀ (d nt : Nat) (o : Int) (i : Nat) (c : Int), nt ≤ 5 → 0 ≤ o → o ≤ 8 → 0 ≤ c → c ≤ 64 → nd nt o c ≤ (d : Int) → ∃ r, exG K W d nt o i c = some r ∧ RG i c r := by
  intro d
  induction d with
  | zero => intro nt o i c h1 h2 h3 h4 h5 h6; unfold nd at h6; omega
  | succ d ih =>
    intro nt o i c h1 h2 h3 h4 h5 h6
    unfold nd at ih h6
    rw [exG]
    by_cases n2 : nt = 2
    · subst n2
      rw [if_pos rfl]
      by_cases k17 : K i = 17
      · rw [if_pos k17]
        by_cases c64 : c = 64
        · rw [if_pos c64]; exact ⟨_, rfl, fun q => absurd (show (2 : Int) = 0 from q) (by decide), Or.inr (Or.inr rfl)⟩
        · rw [if_neg c64]
          obtain ⟨r, r1, r2, r3⟩ := ih 2 o (i + 1) (c + 1) (by omega) h2 h3 (by omega) (by omega) (by omega)
          rw [r1]
          show ∃ r', (if r.1 = 0 then _ else some r) = some r' ∧ _
          by_cases z : r.1 = 0
          · rw [if_pos z]
            obtain ⟨s1, s2, s3, s4, s5⟩ := r2 z
            refine ⟨_, rfl, fun _ => ⟨by show i < r.2.1; omega, by show c ≤ r.2.2.1; omega, s3, ?_, wf_not s5⟩, Or.inl rfl⟩
            show ((r.2.2.2 ++ [(17, 0)]).length : Int) = r.2.2.1 - c
            simp only [List.length_append, List.length_cons, List.length_nil]; omega
          · rw [if_neg z]; exact ⟨r, rfl, fun q => absurd q z, r3⟩
      · rw [if_neg k17]
        obtain ⟨r, r1, r2, r3⟩ := ih 3 o i c (by omega) h2 h3 h4 h5 (by omega)
        rw [r1]
        show ∃ r', (if r.1 = 0 ∧ 47 ≤ K r.2.1 ∧ K r.2.1 ≤ 52 then _ else some r) = some r' ∧ _
        by_cases z : r.1 = 0 ∧ 47 ≤ K r.2.1 ∧ K r.2.1 ≤ 52
        · rw [if_pos z]
          obtain ⟨s1, s2, s3, s4, s5⟩ := r2 z.1
          by_cases c64 : r.2.2.1 = 64
          · rw [if_pos c64]; exact ⟨_, rfl, fun q => absurd (show (2 : Int) = 0 from q) (by decide), Or.inr (Or.inr rfl)⟩
          · rw [if_neg c64]
            obtain ⟨u, u1, u2, u3⟩ := ih 3 o (r.2.1 + 1) (r.2.2.1 + 1) (by omega) h2 h3 (by omega) (by omega) (by omega)
            rw [u1]
            show ∃ r', (if u.1 = 0 then _ else some u) = some r' ∧ _
            by_cases z2 : u.1 = 0
            · rw [if_pos z2]
              obtain ⟨v1, v2, v3, v4, v5⟩ := u2 z2
              refine ⟨_, rfl, fun _ => ⟨by show i < u.2.1; omega, by show c ≤ u.2.2.1; omega, v3, ?_, wf_two s5 v5 (by unfold ktwo; omega)⟩, Or.inl rfl⟩
              show ((r.2.2.2 ++ u.2.2.2 ++ [(K r.2.1, 0)]).length : Int) = u.2.2.1 - c
              simp only [List.length_append, List.length_cons, List.length_nil]; omega
            · rw [if_neg z2]; exact ⟨u, rfl, fun q => absurd q z2, u3⟩
        · rw [if_neg z]
          exact ⟨r, rfl, r2, r3⟩
    · rw [if_neg n2]
      by_cases n5 : nt = 5
      · subst n5
        rw [if_pos rfl]
        by_cases k41 : K i = 41
        · rw [if_pos k41]
          by_cases o8 : o = 8
          · rw [if_pos o8]; exact ⟨_, rfl, fun q => absurd (show (2 : Int) = 0 from q) (by decide), Or.inr (Or.inr rfl)⟩
          · rw [if_neg o8]
            obtain ⟨r, r1, r2, r3⟩ := ih 0 (o + 1) (i + 1) c (by omega) (by omega) (by omega) h4 h5 (by omega)
            rw [r1]
            show ∃ r', (if r.1 = 0 then _ else some r) = some r' ∧ _
            by_cases z : r.1 = 0
            · rw [if_pos z]
              obtain ⟨s1, s2, s3, s4, s5⟩ := r2 z
              by_cases k42 : K r.2.1 = 42
              · rw [if_pos k42]; exact ⟨_, rfl, fun _ => ⟨by show i < r.2.1 + 1; omega, s2, s3, s4, s5⟩, Or.inl rfl⟩
              · rw [if_neg k42]; exact ⟨_, rfl, fun q => absurd (show (1 : Int) = 0 from q) (by decide), Or.inr (Or.inl rfl)⟩
            · rw [if_neg z]; exact ⟨r, rfl, fun q => absurd q z, r3⟩
        · rw [if_neg k41]
          by_cases k31 : K i = 31
          · rw [if_pos k31]
            by_cases w9 : 9999 < W i
            · rw [if_pos w9]; exact ⟨_, rfl, fun q => absurd (show (2 : Int) = 0 from q) (by decide), Or.inr (Or.inr rfl)⟩
            · rw [if_neg w9]
              by_cases c64 : c = 64
              · rw [if_pos c64]; exact ⟨_, rfl, fun q => absurd (show (2 : Int) = 0 from q) (by decide), Or.inr (Or.inr rfl)⟩
              · rw [if_neg c64]
                exact ⟨_, rfl, fun _ => ⟨by show i < i + 1; omega, by show c ≤ c + 1; omega, by show c + 1 ≤ 64; omega, by show (([(31, W i)] : List (Int × Int)).length : Int) = c + 1 - c; simp only [List.length_cons, List.length_nil]; omega, wf_one (Or.inl rfl)⟩, Or.inl rfl⟩
          · rw [if_neg k31]
            by_cases k18 : 18 ≤ K i ∧ K i ≤ 24
            · rw [if_pos k18]
              by_cases c64 : c = 64
              · rw [if_pos c64]; exact ⟨_, rfl, fun q => absurd (show (2 : Int) = 0 from q) (by decide), Or.inr (Or.inr rfl)⟩
              · rw [if_neg c64]
                exact ⟨_, rfl, fun _ => ⟨by show i < i + 1; omega, by show c ≤ c + 1; omega, by show c + 1 ≤ 64; omega, by show (([(K i, 0)] : List (Int × Int)).length : Int) = c + 1 - c; simp only [List.length_cons, List.length_nil]; omega, wf_one (Or.inr k18)⟩, Or.inl rfl⟩
            · rw [if_neg k18]; exact ⟨_, rfl, fun q => absurd (show (1 : Int) = 0 from q) (by decide), Or.inr (Or.inl rfl)⟩
      · rw [if_neg n5]
        obtain ⟨r, r1, r2, r3⟩ := ih (nt + 1) o i c (by omega) h2 h3 h4 h5 (by push_cast; omega)
        rw [r1]
        show ∃ r', (if r.1 = 0 then _ else some r) = some r' ∧ _
        by_cases z : r.1 = 0
        · rw [if_pos z]
          obtain ⟨s1, s2, s3, s4, s5⟩ := r2 z
          obtain ⟨r', t1, t2, t3⟩ := exL_facts (nt := nt) (rc := fun i' c' => exG K W d (nt + 1) o i' c') (lo := c) (c0 := c) hT (fun i' c' a b => ih (nt + 1) o i' c' (by omega) h2 h3 (by omega) b (by push_cast; omega)) T r.2.1 FU r.2.2.1 r.2.2.2 (by omega) (fu_big hT2) s2 s3 s4 s5
          exact ⟨r', t1, fun q => by have := t2 q; exact ⟨by omega, by omega, this.2.2.1, this.2.2.2.1, this.2.2.2.2.1⟩, t3⟩
        · rw [if_neg z]; exact ⟨r, rfl, fun q => absurd q z, r3⟩
end EXP
end
section
/-! ===== formulas: the reference's side ===== -/
def XW (q : Int) : Nat → Int → Prop := fun k j => (k = 191 ∧ (j = 20 ∨ j = 21 ∨ j = 22 ∨ j = 23 ∨ j = 24 ∨ j = 25 ∨ j = 28 ∨ j = 29)) ∨ (k = 193 ∧ j = 17) ∨ ((k = 205 ∨ k = 206) ∧ 64 + q ≤ j)
theorem XW.mono {q q' : Int} (h : q ≤ q') : ∀ k j, XW q' k j → XW q k j := by intro k j z; unfold XW at *; omega
theorem TkW_XW {q : Int} : ∀ k j, TkW k j → XW q k j := by intro k j z; unfold TkW at z; unfold XW; omega
section MEX
variable {B : Int → Int} {n : Int}
/-- within a formula: token, counted, open, put -/
def EP (M : Mem) (B : Int → Int) (n : Int) (i : Nat) (c o q : Int) : Prop := TpOK M B n ∧ RTk M (tK B n i) (tW B n i) (tP B n i) (tkA B n (i + 1)) ∧ M.1 191 24 = 0 ∧ M.1 191 29 = c ∧ M.1 191 28 = o ∧ M.1 193 17 = q
def KnL (M : Mem) (q : Int) (out : List (Int × Int)) : Prop := ∀ x : Nat, x < out.length → M.1 205 (64 + q + (x : Int)) = ksort (out.getD x (0, 0)).1 ∧ M.1 206 (64 + q + (x : Int)) = kval (out.getD x (0, 0)).1 (out.getD x (0, 0)).2
theorem KnL.fr {W : Nat → Int → Prop} {M N : Mem} {q : Int} {out : List (Int × Int)} (h : KnL M q out) (hF : Fr W M N) (hd : ∀ k j, (k = 205 ∨ k = 206) → j < 64 + q + (out.length : Int) → ¬ W k j) : KnL N q out := fun x hx =>
  ⟨((hF 205 _ (hd _ _ (by omega) (by omega))).1).trans (h x hx).1, ((hF 206 _ (hd _ _ (by omega) (by omega))).1).trans (h x hx).2⟩
theorem KnL.app {M : Mem} {q : Int} {a b : List (Int × Int)} (ha : KnL M q a) (hb : KnL M (q + (a.length : Int)) b) : KnL M q (a ++ b) := by
  intro x hx
  by_cases c : x < a.length
  · have e : (a ++ b).getD x (0, 0) = a.getD x (0, 0) := by
      rw [List.getD_eq_getElem?_getD, List.getD_eq_getElem?_getD, List.getElem?_append_left c]
    rw [e]; exact ha x c
  · have e : (a ++ b).getD x (0, 0) = b.getD (x - a.length) (0, 0) := by
      rw [List.getD_eq_getElem?_getD, List.getD_eq_getElem?_getD, List.getElem?_append_right (by omega)]
    simp only [List.length_append] at hx
    have := hb (x - a.length) (by omega)
    rw [show 64 + (q + (a.length : Int)) + ((x - a.length : Nat) : Int) = 64 + q + (x : Int) by omega] at this
    rw [e]; exact this
theorem KnL.nil {M : Mem} {q : Int} : KnL M q [] := fun x hx => by simp at hx
theorem EP.next {M : Mem} {i : Nat} {c o q : Int} (h : EP M B n i c o q) : ∃ N, t_MO_token M = some N ∧ Fr TkW M N ∧ EP N B n (i + 1) c o q := by
  obtain ⟨h1, h2, h3, h4, h5, h6⟩ := h
  have a := tA_rng (B := B) h1.1.1 h1.1.2 (i + 1)
  obtain ⟨N, n1, n2, n3⟩ := m_token h1 a.1.1 a.1.2 h2.2.1
  refine ⟨N, n1, n2, h1.fr n2 (fun k j x z => by unfold TkW at z; omega), n3, ?_, ?_, ?_, ?_⟩
  · rw [(n2 191 24 (by unfold TkW; omega)).1]; exact h3
  · rw [(n2 191 29 (by unfold TkW; omega)).1]; exact h4
  · rw [(n2 191 28 (by unfold TkW; omega)).1]; exact h5
  · rw [(n2 193 17 (by unfold TkW; omega)).1]; exact h6
/-- sorts and values against kinds -/
theorem srt_word {M : Mem} {k v p e : Int} (h : RTk M k v p e) (hk : kOK k) (w : Int) (w0 : 0 ≤ w) (w1 : w ≤ 24) : (M.1 191 22 = 0 ∧ M.1 191 23 = w) ↔ k = w := by
  obtain ⟨-, -, h3, h4⟩ := h
  unfold srtV at h3
  constructor
  · rintro ⟨a, b⟩
    have : k ≤ 24 := by
      by_cases q : k ≤ 24
      · exact q
      · rw [if_neg q] at h3
        repeat (first | omega | split at h3)
    have := h4.1 ⟨by omega, this⟩
    omega
  · intro e2
    rw [if_pos (by omega)] at h3
    exact ⟨h3, by rw [h4.1 ⟨by omega, by omega⟩]; exact e2⟩
theorem sgV_inj : ∀ a : Nat, a < 13 → ∀ b : Nat, b < 13 → sgV (40 + a) = sgV (40 + b) → a = b := by decide +kernel
theorem srt_sign {M : Mem} {k v p e : Int} (h : RTk M k v p e) (hk : kOK k) (w : Int) (w0 : 40 ≤ w) (w1 : w ≤ 52) : (M.1 191 22 = 3 ∧ M.1 191 23 = sgV w) ↔ k = w := by
  obtain ⟨-, -, h3, h4⟩ := h
  unfold srtV at h3
  constructor
  · rintro ⟨a, b⟩
    have h40 : 40 ≤ k := by
      apply Classical.byContradiction
      intro q
      repeat (first | omega | split at h3)
    have := h4.2.2.2 h40
    rw [this] at b
    have := sgV_inj (k - 40).toNat (by omega) (w - 40).toNat (by omega) (by rw [Int.toNat_of_nonneg (by omega), Int.toNat_of_nonneg (by omega), show 40 + (k - 40) = k by omega, show 40 + (w - 40) = w by omega]; exact b)
    omega
  · intro e2
    have h3' : M.1 191 22 = 3 := by
      rw [if_neg (by omega), if_neg (by omega), if_neg (by omega), if_neg (by omega), if_neg (by omega)] at h3
      exact h3
    exact ⟨h3', by rw [h4.2.2.2 (by omega), e2]⟩
theorem srt_num {M : Mem} {k v p e : Int} (h : RTk M k v p e) (hk : kOK k) : M.1 191 22 = 2 ↔ k = 31 := by
  obtain ⟨-, -, h3, -⟩ := h
  unfold srtV at h3
  constructor
  · intro a
    repeat (first | omega | split at h3)
  · intro e2
    rw [if_neg (by omega), if_neg (by omega), if_pos e2] at h3
    exact h3
theorem srt_name {M : Mem} {k v p e : Int} (h : RTk M k v p e) (hk : kOK k) : M.1 191 22 = 1 ↔ k = 30 := by
  obtain ⟨-, -, h3, -⟩ := h
  unfold srtV at h3
  constructor
  · intro a
    repeat (first | omega | split at h3)
  · intro e2
    rw [if_neg (by omega), if_pos e2] at h3
    exact h3
theorem srt_endT {M : Mem} {k v p e : Int} (h : RTk M k v p e) (hk : kOK k) : M.1 191 22 = 4 ↔ k = 32 := by
  obtain ⟨-, -, h3, -⟩ := h
  unfold srtV at h3
  constructor
  · intro a
    repeat (first | omega | split at h3)
  · intro e2
    rw [if_neg (by omega), if_neg (by omega), if_neg (by omega), if_pos e2] at h3
    exact h3
theorem EP.kok {M : Mem} {i : Nat} {c o q : Int} (h : EP M B n i c o q) : kOK (tK B n i) := tK_ok h.1.1.1 h.1.1.2 i
theorem EP.word {M : Mem} {i : Nat} {c o q : Int} (h : EP M B n i c o q) {w : Int} (w0 : 0 ≤ w) (w1 : w ≤ 24) : t_MO_isWord M w = if tK B n i = w then 1 else 0 := by
  have s := srt_word h.2.1 h.kok w w0 w1
  unfold t_MO_isWord
  rw [if_pos h.2.2.1]
  by_cases e : tK B n i = w
  · have := s.mpr e
    rw [if_pos this.1, if_pos this.2, if_pos e]
  · rw [if_neg e]
    by_cases a : M.1 191 22 = 0
    · rw [if_pos a, if_neg (fun b => e (s.mp ⟨a, b⟩))]
    · rw [if_neg a]
theorem EP.sign {M : Mem} {i : Nat} {c o q : Int} (h : EP M B n i c o q) {w v : Int} (w0 : 40 ≤ w) (w1 : w ≤ 52) (hv : sgV w = v) : t_MO_isSign M v = if tK B n i = w then 1 else 0 := by
  have s := srt_sign h.2.1 h.kok w w0 w1
  rw [hv] at s
  unfold t_MO_isSign
  rw [if_pos h.2.2.1]
  by_cases e : tK B n i = w
  · have := s.mpr e
    rw [if_pos this.1, if_pos this.2, if_pos e]
  · rw [if_neg e]
    by_cases a : M.1 191 22 = 3
    · rw [if_pos a, if_neg (fun b => e (s.mp ⟨a, b⟩))]
    · rw [if_neg a]
/-! faults -/
theorem m_wrong0 {M : Mem} {k : Int} (h : M.1 191 24 = 0) : t_MO_wrong M k = setI (setI M 191 24 k) 191 25 (M.1 191 21) := by
  unfold t_MO_wrong
  simp only [qlet]
  rw [if_pos h, uI_ne _ _ (by omega)]
theorem m_wrong1 {M : Mem} {k : Int} (h : ¬ M.1 191 24 = 0) : t_MO_wrong M k = M := by
  unfold t_MO_wrong
  rw [if_neg h]
theorem flt_goOn {M : Mem} (h : ¬ M.1 191 24 = 0) : t_MO_goOn M = some M := by unfold t_MO_goOn; rw [if_neg h]
theorem flt_puts {M : Mem} (h : ¬ M.1 191 24 = 0) (a b : Int) : t_MO_puts M a b = some M := by unfold t_MO_puts; rw [if_neg h]
theorem flt_word {M : Mem} (h : ¬ M.1 191 24 = 0) (w : Int) : t_MO_isWord M w = 0 := by unfold t_MO_isWord; rw [if_neg h]
theorem flt_sign {M : Mem} (h : ¬ M.1 191 24 = 0) (w : Int) : t_MO_isSign M w = 0 := by unfold t_MO_isSign; rw [if_neg h]
theorem flt_knot {M : Mem} (h : ¬ M.1 191 24 = 0) : t_MO_knot M = M := by unfold t_MO_knot; rw [if_neg h]
theorem fu_succ : ∃ f, FU = f + 1 := ⟨FU - 1, by unfold FU; decide⟩
theorem flt_G : ∀ (d nt : Nat) (M : Mem), nt ≤ 5 → 6 ≤ d + nt → ¬ M.1 191 24 = 0 → t_MO_G d nt M = some M := by
  intro d
  induction d with
  | zero => intro nt M h1 h2; omega
  | succ d ih =>
    intro nt M h1 h2 h3
    obtain ⟨f, hf⟩ := fu_succ
    rw [t_MO_G]
    have hn : nt = 0 ∨ nt = 1 ∨ nt = 2 ∨ nt = 3 ∨ nt = 4 ∨ nt = 5 := by omega
    rcases hn with rfl | rfl | rfl | rfl | rfl | rfl
    · rw [if_pos rfl]; unfold t_MO_expression_B
      dsimp only
      rw [ih 1 M (by omega) (by omega) h3, obind_some, hf, t_MO_expression_L4]
      simp only [qlet]
      rw [flt_word h3, if_pos rfl]
    · rw [if_neg (by decide), if_pos rfl]; unfold t_MO_conjunction_B
      dsimp only
      rw [ih 2 M (by omega) (by omega) h3, obind_some, hf, t_MO_conjunction_L4]
      simp only [qlet]
      rw [flt_word h3, if_pos rfl]
    · rw [if_neg (by decide), if_neg (by decide), if_pos rfl]; unfold t_MO_negation_B
      simp only [qlet]
      rw [flt_word h3, if_pos rfl, ih 3 M (by omega) (by omega) h3, obind_some, if_neg h3]
    · rw [if_neg (by decide), if_neg (by decide), if_neg (by decide), if_pos rfl]; unfold t_MO_sum_B
      dsimp only
      rw [ih 4 M (by omega) (by omega) h3, obind_some, hf, t_MO_sum_L4]
      simp only [qlet]
      rw [flt_sign h3, if_pos rfl, flt_sign h3, if_pos rfl]
    · rw [if_neg (by decide), if_neg (by decide), if_neg (by decide), if_neg (by decide), if_pos rfl]; unfold t_MO_product_B
      dsimp only
      rw [ih 5 M (by omega) (by omega) h3, obind_some, hf, t_MO_product_L4]
      simp only [qlet]
      rw [flt_sign h3, if_pos rfl, flt_sign h3, if_pos rfl]
    · rw [if_neg (by decide), if_neg (by decide), if_neg (by decide), if_neg (by decide), if_neg (by decide), if_pos rfl]; unfold t_MO_primary_B
      rw [if_neg h3]
/-! the outcome of a piece -/
def XR (M : Mem) (B : Int → Int) (n o q : Int) (r : ER) (x : Option Mem) : Prop := ∃ N, x = some N ∧ Fr (XW q) M N ∧ ((r.1 = 0 ∧ EP N B n r.2.1 r.2.2.1 o (q + (r.2.2.2.length : Int)) ∧ KnL N q r.2.2.2) ∨ (¬ r.1 = 0 ∧ N.1 191 24 = r.1 ∧ N.1 191 25 = tP B n r.2.1))
theorem XR.from {M0 M : Mem} {o q : Int} {r : ER} {x : Option Mem} (hF : Fr (XW q) M0 M) (h : XR M B n o q r x) : XR M0 B n o q r x := by
  obtain ⟨N, n1, n2, n3⟩ := h
  exact ⟨N, n1, hF.trans n2, n3⟩
theorem EP.fault {M : Mem} {i : Nat} {c o q : Int} (h : EP M B n i c o q) (k : Int) : Fr (XW q) M (t_MO_wrong M k) ∧ (t_MO_wrong M k).1 191 24 = k ∧ (t_MO_wrong M k).1 191 25 = tP B n i := by
  rw [m_wrong0 h.2.2.1]
  refine ⟨(Fr.rf.setI (by unfold XW; omega)).setI (by unfold XW; omega), by rw [sI_ne (by omega), sI_self], by rw [sI_self]; exact h.2.1.1⟩
/-- a knot is counted, and the next token comes -/
theorem EP.knotFull {M : Mem} {i : Nat} {o q : Int} (h : EP M B n i 64 o q) : t_MO_knot M = t_MO_wrong M 2 := by
  unfold t_MO_knot
  simp only [qlet]
  rw [if_pos h.2.2.1, if_pos h.2.2.2.1]
theorem EP.knot {M : Mem} {i : Nat} {c o q : Int} (h : EP M B n i c o q) (h0 : 0 ≤ c) (h1 : c < 64) : EP (t_MO_knot M) B n i (c + 1) o q ∧ Fr (XW q) M (t_MO_knot M) ∧ (t_MO_knot M).1 191 23 = M.1 191 23 := by
  have e : t_MO_knot M = setI M 191 29 (c + 1) := by
    unfold t_MO_knot
    simp only [qlet]
    rw [if_pos h.2.2.1, if_neg (by have := h.2.2.2.1; omega), h.2.2.2.1, w32_id (x := c + 1) (by unfold InR; omega)]
  rw [e]
  have hF : Fr (fun k j => k = 191 ∧ j = 29) M (setI M 191 29 (c + 1)) := Fr.rf.setI ⟨rfl, rfl⟩
  obtain ⟨h1', h2, h3, h4, h5, h6⟩ := h
  exact ⟨⟨h1'.fr hF (fun k j a z => by omega), h2.fr hF (fun k j a z => by unfold TkW at a; omega), by rw [sI_ne (by omega)]; exact h3, sI_self _ _ _ _, by rw [sI_ne (by omega)]; exact h5, by rw [sI_ne (by omega)]; exact h6⟩, hF.mono (fun k j z => by unfold XW; omega), sI_ne (by omega)⟩
theorem EP.goOn {M : Mem} {i : Nat} {c o q : Int} (h : EP M B n i c o q) : ∃ N, t_MO_goOn M = some N ∧ Fr (XW q) M N ∧ EP N B n (i + 1) c o q := by
  obtain ⟨N, n1, n2, n3⟩ := h.next
  unfold t_MO_goOn
  rw [if_pos h.2.2.1, n1, obind_some]
  exact ⟨N, rfl, n2.mono TkW_XW, n3⟩
theorem EP.puts {M : Mem} {i : Nat} {c o q : Int} (h : EP M B n i c o q) (q0 : 0 ≤ q) (q1 : q < 64) (s v : Int) : ∃ N, t_MO_puts M s v = some N ∧ Fr (fun k j => ((k = 205 ∨ k = 206) ∧ j = 64 + q) ∨ (k = 193 ∧ j = 17)) M N ∧ EP N B n i c o (q + 1) ∧ N.1 205 (64 + q) = s ∧ N.1 206 (64 + q) = v := by
  obtain ⟨h1, h2, h3, h4, h5, h6⟩ := h
  unfold t_MO_puts t_MO_fresher t_MO_reads
  rw [if_pos h3]
  have e17 : w32 (9 + 8) = 17 := w32_id (by unfold InR; omega)
  simp only [e17]
  rw [qguard_pos ⟨by omega, by omega⟩, obind_some, h6, w32_id (x := 64 + q) (by unfold InR; omega), qguard_pos ⟨by omega, by omega⟩]
  simp only [qlet]
  rw [qguard_pos ⟨by omega, by omega⟩, obind_some, uI_ne _ _ (by omega), h6, w32_id (x := 64 + q) (by unfold InR; omega), qguard_pos ⟨by omega, by omega⟩, qguard_pos ⟨by omega, by omega⟩, obind_some, uI_ne _ _ (by omega), uI_ne _ _ (by omega), h6, w32_id (x := q + 1) (by unfold InR; omega), qguard_pos ⟨by omega, by omega⟩, obind_some]
  have hF : Fr (fun k j => ((k = 205 ∨ k = 206) ∧ j = 64 + q) ∨ (k = 193 ∧ j = 17)) M (setI (setI (setI M 205 (64 + q) s) 206 (64 + q) v) 193 17 (q + 1)) := ((Fr.rf.setI (by omega)).setI (by omega)).setI (by omega)
  refine ⟨_, rfl, hF, ⟨h1.fr hF (fun k j a z => by omega), h2.fr hF (fun k j a z => by unfold TkW at a; omega), ?_, ?_, ?_, sI_self _ _ _ _⟩, ?_, ?_⟩
  · rw [(hF 191 24 (by omega)).1]; exact h3
  · rw [(hF 191 29 (by omega)).1]; exact h4
  · rw [(hF 191 28 (by omega)).1]; exact h5
  · rw [sI_ne (by omega), sI_ne (by omega), sI_self]
  · rw [sI_ne (by omega), sI_self]
/-- loops of signs -/
theorem m_opL {T : Nat} {F : Nat → Mem → Option Mem} {op : Int → Bool} {rc : Nat → Int → Option ER} {G : Mem → Option Mem} {o q0 lo : Int} (q00 : 0 ≤ q0)
    (Fa : ∀ fu M i c q, EP M B n i c o q → op (tK B n i) = false → F (fu + 1) M = some M)
    (Fb : ∀ fu M, ¬ M.1 191 24 = 0 → F (fu + 1) M = some M)
    (Fc : ∀ fu M i c q, EP M B n i c o q → op (tK B n i) = true → F (fu + 1) M = obind (t_MO_goOn (t_MO_knot M)) fun q8 => obind (G q8) fun q10 => obind (t_MO_puts q10 2 (kval (tK B n i) 0)) fun q12 => F fu q12)
    (hop : ∀ k, op k = true → ktwo k) (hT : ∀ x, T ≤ x → op (tK B n x) = false)
    (hG0 : ∀ M, ¬ M.1 191 24 = 0 → G M = some M)
    (hrc : ∀ i c r, rc i c = some r → lo ≤ c → c ≤ 64 → RG i c r)
    (hG : ∀ M i c q r, EP M B n i c o q → 0 ≤ q → q ≤ c → lo ≤ c → c ≤ 64 → rc i c = some r → XR M B n o q r (G M)) :
    ∀ (fu : Nat) (M0 M : Mem) (i : Nat) (c : Int) (out : List (Int × Int)) (r : ER), Fr (XW q0) M0 M → EP M B n i c o (q0 + (out.length : Int)) → KnL M q0 out → q0 + (out.length : Int) ≤ c → lo ≤ c → c ≤ 64 → 0 ≤ c → T < i + fu → exL (tK B n) op rc fu i c out = some r → XR M0 B n o q0 r (F fu M) := by
  intro fu
  induction fu with
  | zero => intro M0 M i c out r _ _ _ _ _ _ _ _ h; cases h
  | succ fu ih =>
    intro M0 M i c out r hF hE hK hq hlo hc c0 hi h
    rw [exL] at h
    cases e : op (tK B n i) with
    | false =>
      rw [e, if_neg (by decide)] at h
      have h := Option.some.inj h
      subst h
      exact ⟨M, Fa fu M i c _ hE e, hF, Or.inl ⟨rfl, hE, hK⟩⟩
    | true =>
      rw [e, if_pos rfl] at h
      rw [Fc fu M i c _ hE e]
      by_cases c64 : c = 64
      · rw [if_pos c64] at h
        have h := Option.some.inj h
        subst h
        subst c64
        obtain ⟨w1, w2, w3⟩ := hE.fault 2
        have hz : ¬ (t_MO_wrong M 2).1 191 24 = 0 := by rw [w2]; decide
        obtain ⟨f, hf⟩ : ∃ f, fu = f + 1 := by
          by_cases z : T ≤ i
          · have := hT i z
            rw [e] at this
            cases this
          · exact ⟨fu - 1, by omega⟩
        rw [hE.knotFull, flt_goOn hz, obind_some, hG0 _ hz, obind_some, flt_puts hz, obind_some, hf, Fb f _ hz]
        exact ⟨_, rfl, hF.trans (w1.mono (XW.mono (by omega))), Or.inr ⟨by show ¬ (2 : Int) = 0; decide, w2, w3⟩⟩
      · rw [if_neg c64] at h
        obtain ⟨k1, k2, k3⟩ := hE.knot c0 (by omega)
        obtain ⟨N8, g1, g2, g3⟩ := k1.goOn
        rw [g1, obind_some]
        cases er : rc (i + 1) (c + 1) with
        | none => rw [er] at h; cases h
        | some r8 =>
          rw [er] at h
          have h : (if r8.1 = 0 then exL (tK B n) op rc fu r8.2.1 r8.2.2.1 (out ++ r8.2.2.2 ++ [(tK B n i, 0)]) else some r8) = some r := h
          obtain ⟨N10, x1, x2, x3⟩ := hG N8 (i + 1) (c + 1) _ r8 g3 (by omega) (by omega) (by omega) (by omega) er
          have hF10 : Fr (XW q0) M0 N10 := (((hF.trans (k2.mono (XW.mono (by omega)))).trans (g2.mono (XW.mono (by omega)))).trans (x2.mono (XW.mono (by omega))))
          rw [x1, obind_some]
          rcases x3 with ⟨z, y1, y2⟩ | ⟨z, y1, y2⟩
          · rw [if_pos z] at h
            obtain ⟨s1, s2, s3, s4, s5⟩ := (hrc _ _ _ er (by omega) (by omega)).1 z
            obtain ⟨N12, p1, p2, p3, p4, p5⟩ := y1.puts (by omega) (by omega) 2 (kval (tK B n i) 0)
            rw [p1, obind_some]
            have hl : ((out ++ r8.2.2.2 ++ [(tK B n i, 0)]).length : Int) = (out.length : Int) + (r8.2.2.2.length : Int) + 1 := by simp only [List.length_append, List.length_cons, List.length_nil]; omega
            refine ih M0 N12 r8.2.1 r8.2.2.1 (out ++ r8.2.2.2 ++ [(tK B n i, 0)]) r (hF10.trans (p2.mono (fun k j z => by unfold XW; omega))) ?_ ?_ (by omega) (by omega) s3 (by omega) (by omega) h
            · rw [hl, show q0 + ((out.length : Int) + (r8.2.2.2.length : Int) + 1) = q0 + (out.length : Int) + (r8.2.2.2.length : Int) + 1 by omega]
              exact p3
            · have hk0 : KnL N12 q0 out := ((((hK.fr k2 (fun k j a b z => by unfold XW at z; omega)).fr g2 (fun k j a b z => by unfold XW at z; omega)).fr x2 (fun k j a b z => by unfold XW at z; omega)).fr p2 (fun k j a b z => by omega))
              have hk1 : KnL N12 (q0 + (out.length : Int)) r8.2.2.2 := y2.fr p2 (fun k j a b z => by omega)
              refine (hk0.app hk1).app (fun x hx => ?_)
              have hx0 : x = 0 := by simp only [List.length_cons, List.length_nil] at hx; omega
              subst hx0
              have ek := hop _ e
              unfold ktwo at ek
              have ei : 64 + (q0 + ((out ++ r8.2.2.2).length : Int)) + ((0 : Nat) : Int) = 64 + (q0 + (out.length : Int) + (r8.2.2.2.length : Int)) := by simp only [List.length_append]; omega
              rw [ei, p4, p5]
              refine ⟨?_, rfl⟩
              show (2 : Int) = ksort (tK B n i)
              unfold ksort
              rw [if_neg (by omega), if_neg (by omega)]
          · rw [if_neg z] at h
            have h := Option.some.inj h
            subst h
            have hz : ¬ N10.1 191 24 = 0 := by rw [y1]; exact z
            obtain ⟨f, hf⟩ : ∃ f, fu = f + 1 := by
              by_cases z : T ≤ i
              · have := hT i z
                rw [e] at this
                cases this
              · exact ⟨fu - 1, by omega⟩
            rw [flt_puts hz, obind_some, hf, Fb f _ hz]
            exact ⟨N10, rfl, hF10, Or.inr ⟨z, y1, y2⟩⟩
end MEX
end
