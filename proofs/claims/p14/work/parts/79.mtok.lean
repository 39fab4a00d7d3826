/-! ===== tokens: the reference's side ===== -/
theorem q_or_nn {x y : Int} (x0 : 0 ≤ x) (x1 : x < 2147483648) (y0 : 0 ≤ y) (y1 : y < 2147483648) : q_or x y = ((x.toNat ||| y.toNat : Nat) : Int) := by
  unfold q_or
  have hx : (Int32.ofInt x).toBitVec = BitVec.ofNat 32 x.toNat := by
    apply BitVec.eq_of_toInt_eq
    rw [Int32.toInt_toBitVec, q_toInt_of (by unfold InR; omega), BitVec.toInt_ofNat', bm32 (by unfold InR; omega)]
    omega
  have hy : (Int32.ofInt y).toBitVec = BitVec.ofNat 32 y.toNat := by
    apply BitVec.eq_of_toInt_eq
    rw [Int32.toInt_toBitVec, q_toInt_of (by unfold InR; omega), BitVec.toInt_ofNat', bm32 (by unfold InR; omega)]
    omega
  have hlt : x.toNat ||| y.toNat < 2 ^ 31 := Nat.or_lt_two_pow (by omega) (by omega)
  rw [← Int32.toInt_toBitVec, Int32.toBitVec_or, hx, hy, ← BitVec.ofNat_or, BitVec.toInt_ofNat', bm32 (by unfold InR; omega)]
theorem sh_am32 : ∀ k : Nat, k < 32 → ((Int32.ofInt (k : Int)) &&& 31).toBitVec = BitVec.ofNat 32 k ∧ (BitVec.ofNat 32 k).smod 32 = BitVec.ofNat 32 k ∧ (BitVec.ofNat 32 k).toNat = k := by decide +kernel
theorem q_shl_nn {x : Int} {k : Nat} (hk : k < 32) (x0 : 0 ≤ x) (x1 : x * 2 ^ k < 2147483648) : q_shl x (k : Int) = x * 2 ^ k := by
  obtain ⟨a, b, c⟩ := sh_am32 k hk
  have hp : (1 : Int) ≤ 2 ^ k := by
    have : (0 : Nat) < 2 ^ k := Nat.two_pow_pos k
    have h2 : ((2 ^ k : Nat) : Int) = (2 : Int) ^ k := by push_cast; rfl
    omega
  have xl : x ≤ x * 2 ^ k := by
    have := Int.mul_le_mul_of_nonneg_left hp x0
    omega
  have hx : (Int32.ofInt x).toBitVec = BitVec.ofNat 32 x.toNat := by
    apply BitVec.eq_of_toInt_eq
    rw [Int32.toInt_toBitVec, q_toInt_of (by unfold InR; omega), BitVec.toInt_ofNat', bm32 (by unfold InR; omega)]
    omega
  unfold q_shl
  rw [← Int32.toInt_toBitVec, Int32.toBitVec_shiftLeft, a, b]
  show (Int32.toBitVec (Int32.ofInt x) <<< (BitVec.ofNat 32 k).toNat).toInt = _
  rw [c, hx]
  have e : (BitVec.ofNat 32 x.toNat <<< k) = BitVec.ofNat 32 (x.toNat * 2 ^ k) := by
    apply BitVec.eq_of_toNat_eq
    rw [BitVec.toNat_shiftLeft, BitVec.toNat_ofNat, BitVec.toNat_ofNat, Nat.shiftLeft_eq, Nat.mod_mul_mod]
  have hn : ((x.toNat * 2 ^ k : Nat) : Int) = x * 2 ^ k := by
    push_cast
    rw [Int.toNat_of_nonneg x0]
  rw [e, BitVec.toInt_ofNat', bm32 (by unfold InR; omega), hn]
theorem or_add {v x : Int} {k : Nat} (v0 : 0 ≤ v) (x0 : 0 ≤ x) (x1 : x < 2 ^ k) (hv : v * 2 ^ k + x < 2147483648) : q_or (v * 2 ^ k) x = v * 2 ^ k + x := by
  have hp : (0 : Int) ≤ v * 2 ^ k := Int.mul_nonneg v0 (by
    have h2 : ((2 ^ k : Nat) : Int) = (2 : Int) ^ k := by push_cast; rfl
    omega)
  rw [q_or_nn hp (by omega) x0 (by omega)]
  have e1 : (v * 2 ^ k).toNat = 2 ^ k * v.toNat := by
    have : ((2 ^ k * v.toNat : Nat) : Int) = v * 2 ^ k := by
      push_cast
      rw [Int.toNat_of_nonneg v0, Int.mul_comm]
    omega
  have e2 : x.toNat < 2 ^ k := by
    have h2 : ((2 ^ k : Nat) : Int) = (2 : Int) ^ k := by push_cast; rfl
    omega
  rw [e1, ← Nat.two_pow_add_eq_or_of_lt e2]
  omega
/-- what stands on the tape -/
def TpOK (M : Mem) (B : Int → Int) (n : Int) : Prop := (0 ≤ n ∧ n ≤ 700) ∧ M.1 191 19 = n ∧ ∀ j, 0 ≤ j → j < n → M.1 192 j = B j ∧ 0 ≤ B j ∧ B j ≤ 255
def TkW : Nat → Int → Prop := fun k j => k = 191 ∧ (j = 20 ∨ j = 21 ∨ j = 22 ∨ j = 23)
theorem TpOK.fr {W : Nat → Int → Prop} {M N : Mem} {B : Int → Int} {n : Int} (h : TpOK M B n) (hF : Fr W M N) (hd : ∀ k j, (k = 192 ∨ (k = 191 ∧ j = 19)) → ¬ W k j) : TpOK N B n :=
  ⟨h.1, (hF 191 19 (hd _ _ (by omega))).1.trans h.2.1, fun j a b => ⟨(hF 192 j (hd _ _ (by omega))).1.trans (h.2.2 j a b).1, (h.2.2 j a b).2⟩⟩
def hrV (B : Int → Int) (n a : Int) : Int := if a < n then B a else -1
theorem m_here {M : Mem} {B : Int → Int} {n a : Int} (h : TpOK M B n) (ha : M.1 191 20 = a) (a0 : 0 ≤ a) : t_MO_here M = some (hrV B n a) := by
  have h0 := h.1
  unfold t_MO_here hrV
  rw [h.2.1, ha]
  by_cases c : a < n
  · rw [if_neg (by omega), if_pos c, qguard_pos ⟨by omega, by omega⟩, (h.2.2 a a0 c).1]
  · rw [if_pos (by omega), if_neg c]
theorem isSmall_eq (M : Mem) (c : Int) : t_MO_isSmall M c = if ltB c = true then 1 else 0 := by
  unfold t_MO_isSmall ltB
  by_cases h1 : c < 97
  · rw [if_pos h1, decide_eq_false (by omega), if_neg (by decide)]
  · rw [if_neg h1]
    by_cases h2 : 122 < c
    · rw [if_pos h2, decide_eq_false (by omega), if_neg (by decide)]
    · rw [if_neg h2, decide_eq_true (by omega), if_pos rfl]
theorem isDigit_eq (M : Mem) (c : Int) : t_MO_isDigit M c = if dgB c = true then 1 else 0 := by
  unfold t_MO_isDigit dgB
  by_cases h1 : c < 48
  · rw [if_pos h1, decide_eq_false (by omega), if_neg (by decide)]
  · rw [if_neg h1]
    by_cases h2 : 57 < c
    · rw [if_pos h2, decide_eq_false (by omega), if_neg (by decide)]
    · rw [if_neg h2, decide_eq_true (by omega), if_pos rfl]
/-! the word -/
theorem m_word_L97 {M : Mem} {bk : Mem → Int → Int → Option Int} {w e : Int} (he : e < 126) (h32 : chW e = 32) : ∀ (n : Nat) (fu : Nat) (s : Int), s + (n : Int) = e → 0 ≤ s → n < fu → (∀ x, s ≤ x → x < e → chW x ≠ 32) → t_MO_word_L97 bk fu M w s = bk M (w32 (w + 1)) (e + 1) := by
  intro n
  induction n with
  | zero =>
    intro fu s g0 g1 g2 hx
    obtain ⟨g, rfl⟩ : ∃ g, fu = g + 1 := ⟨fu - 1, by omega⟩
    have hs : s = e := by omega
    subst hs
    rw [t_MO_word_L97, qguard_pos ⟨by omega, by omega⟩, if_pos h32, w32_id (x := s + 1) (by unfold InR; omega)]
  | succ n ih =>
    intro fu s g0 g1 g2 hx
    obtain ⟨g, rfl⟩ : ∃ g, fu = g + 1 := ⟨fu - 1, by omega⟩
    rw [t_MO_word_L97, qguard_pos ⟨by omega, by omega⟩, if_neg (hx s (Int.le_refl _) (by omega)), w32_id (x := s + 1) (by unfold InR; omega)]
    exact ih g (s + 1) (by omega) (by omega) (by omega) (fun x a b => hx x (by omega) b)
theorem m_word_L15 {M : Mem} {B : Int → Int} {n p a : Int} {bk : Mem → Int → Int → Option Int} (h : TpOK M B n) (hp : M.1 191 21 = p) (ha : M.1 191 20 = a) (p0 : 0 ≤ p) (pa : p ≤ a) (an : a ≤ n) {w : Int} {k : Nat} (hk : k < 25) : ∀ (m i fu : Nat), (i : Int) + (m : Int) = nxW (stW k) - stW k → m < fu → mtS B p (stW k) i = true → p + (i : Int) ≤ a →
    t_MO_word_L15 bk fu M w (stW k) (i : Int) = if nxW (stW k) - stW k = a - p ∧ mtS B p (stW k) (a - p).toNat = true then some w else bk M (w32 (w + 1)) (stW (k + 1)) := by
  have hst := st_all k hk
  have hnx := nx_all (stW k).toNat (by omega)
  rw [Int.toNat_of_nonneg hst.1] at hnx
  have h0 := h.1
  have bet : ∀ j : Nat, (j : Int) < nxW (stW k) - stW k → chW (stW k + (j : Int)) ≠ 32 := by
    intro j hj
    have := nx_bet (stW k).toNat (by omega) j (by omega)
    rw [Int.toNat_of_nonneg hst.1] at this
    exact this (by omega)
  have skip : ∀ fu : Nat, 200 < fu → t_MO_word_L97 bk fu M w (stW k) = bk M (w32 (w + 1)) (stW (k + 1)) := by
    intro fu hfu
    have := m_word_L97 (M := M) (bk := bk) (w := w) hnx.2.1 hnx.2.2 (nxW (stW k) - stW k).toNat fu (stW k) (by omega) hst.1 (by omega) (fun x x0 x1 => by
      have := bet (x - stW k).toNat (by omega)
      rw [Int.toNat_of_nonneg (by omega), show stW k + (x - stW k) = x by omega] at this
      exact this)
    rw [this]
    rfl
  have hFU : 200 < FU := by unfold FU; decide
  intro m
  induction m with
  | zero =>
    intro i fu g0 g1 hm hpa
    obtain ⟨g, rfl⟩ : ∃ g, fu = g + 1 := ⟨fu - 1, by omega⟩
    have e1 : stW k + (i : Int) = nxW (stW k) := by omega
    rw [t_MO_word_L15]
    unfold t_MO_word_L69
    rw [w32_id (x := stW k + (i : Int)) (by unfold InR; omega), e1, qguard_pos ⟨by omega, by omega⟩, if_pos hnx.2.2, qguard_pos ⟨by omega, by omega⟩, if_pos hnx.2.2, hp, ha, w32_id (x := p + (i : Int)) (by unfold InR; omega)]
    by_cases q : p + (i : Int) = a
    · rw [if_pos q, if_pos ⟨by omega, by rw [show (a - p).toNat = i by omega]; exact hm⟩]
    · rw [if_neg q, if_neg (fun z => q (by omega))]
      exact skip FU hFU
  | succ m ih =>
    intro i fu g0 g1 hm hpa
    obtain ⟨g, rfl⟩ : ∃ g, fu = g + 1 := ⟨fu - 1, by omega⟩
    have hne := bet i (by omega)
    rw [t_MO_word_L15]
    unfold t_MO_word_L69
    rw [w32_id (x := stW k + (i : Int)) (by unfold InR; omega), hp, ha, w32_id (x := p + (i : Int)) (by unfold InR; omega)]
    have gd : 0 ≤ stW k + (i : Int) ∧ stW k + (i : Int) < 126 := by omega
    simp only [qguard_pos gd]
    rw [if_neg hne, if_neg hne]
    by_cases q : a ≤ p + (i : Int)
    · rw [if_pos q, if_neg (fun z => by omega)]
      exact skip FU hFU
    · rw [if_neg q, qguard_pos ⟨by omega, by omega⟩, (h.2.2 _ (by omega) (by omega)).1]
      by_cases c : B (p + (i : Int)) = chW (stW k + (i : Int))
      · rw [if_pos c, w32_succ (by omega)]
        exact ih (i + 1) g (by omega) (by omega) (by rw [mtS, hm, decide_eq_true c]; rfl) (by omega)
      · rw [if_neg c, if_neg (fun z => by
          rw [mtS_mono (k := i + 1) (by omega) (by rw [mtS, decide_eq_false c, Bool.and_false])] at z
          cases z.2)]
        exact skip FU hFU
theorem m_word_L4 {M : Mem} {B : Int → Int} {n p a : Int} (h : TpOK M B n) (hp : M.1 191 21 = p) (ha : M.1 191 20 = a) (p0 : 0 ≤ p) (pa : p ≤ a) (an : a ≤ n) : ∀ (m k fu : Nat), m + k = 25 → m < fu → t_MO_word_L4 fu M (k : Int) (stW k) = some (wdS B p (a - p) m k) := by
  intro m
  induction m with
  | zero =>
    intro k fu g0 g1
    obtain ⟨g, rfl⟩ : ∃ g, fu = g + 1 := ⟨fu - 1, by omega⟩
    have hk : k = 25 := by omega
    subst hk
    rw [t_MO_word_L4, if_pos (by rw [st_end]; decide), wdS]
  | succ m ih =>
    intro k fu g0 g1
    obtain ⟨g, rfl⟩ : ∃ g, fu = g + 1 := ⟨fu - 1, by omega⟩
    have hst := st_all k (by omega)
    have := m_word_L15 (bk := fun a0_ a1_ a2_ => t_MO_word_L4 g a0_ a1_ a2_) h hp ha p0 pa an (w := (k : Int)) (k := k) (by omega) (nxW (stW k) - stW k).toNat 0 FU (by omega) (fu_big (by omega)) rfl (by omega)
    rw [show ((0 : Nat) : Int) = 0 from rfl] at this
    rw [t_MO_word_L4, if_neg (by omega), this, wdS, w32_succ (by omega)]
    by_cases c : nxW (stW k) - stW k = a - p ∧ mtS B p (stW k) (a - p).toNat = true
    · rw [if_pos c, if_pos c]
    · rw [if_neg c, if_neg c]
      exact ih (k + 1) g (by omega) (by omega)
theorem m_word {M : Mem} {B : Int → Int} {n p a : Int} (h : TpOK M B n) (hp : M.1 191 21 = p) (ha : M.1 191 20 = a) (p0 : 0 ≤ p) (pa : p ≤ a) (an : a ≤ n) : t_MO_word M = some (wordS B p (a - p)) := m_word_L4 h hp ha p0 pa an 25 0 FU rfl (fu_big (by omega))
/-! the name -/
theorem nl_rng {B : Int → Int} {p e k : Int} (h : ∀ x, p ≤ x → x < e → ltB (B x) = true) (k0 : 0 ≤ k) : 0 ≤ nlS B p e k ∧ nlS B p e k ≤ 26 := by
  unfold nlS
  split
  · have := h (p + k) (by omega) (by assumption)
    unfold ltB at this
    have := of_decide_eq_true this
    omega
  · omega
theorem nv_rng {B : Int → Int} {p e : Int} (h : ∀ x, p ≤ x → x < e → ltB (B x) = true) : ∀ k : Nat, 0 ≤ nvS B p e k ∧ nvS B p e k < 32 ^ k := by
  intro k
  induction k with
  | zero => rw [nvS]; exact ⟨Int.le_refl _, by decide⟩
  | succ k ih =>
    have := nl_rng h (k := (k : Int)) (by omega)
    rw [nvS, Int.pow_succ]
    omega
theorem p32 : ∀ k : Nat, k ≤ 6 → (32 : Int) ^ k ≤ 1073741824 := by decide +kernel
theorem m_name_L7 {M0 : Mem} {B : Int → Int} {n p e : Int} (h : TpOK M0 B n) (p0 : 0 ≤ p) (pe : p ≤ e) (en : e ≤ n) (hl : ∀ x, p ≤ x → x < e → ltB (B x) = true) (hp : M0.1 191 21 = p) (ha : M0.1 191 20 = e) : ∀ (m k fu : Nat) (M : Mem), k + m = 6 → m < fu → Fr (fun k j => k = 191 ∧ j = 23) M0 M → M.1 191 23 = nvS B p e k →
    ∃ N, t_MO_name_L7 fu M (k : Int) = some N ∧ Fr (fun k j => k = 191 ∧ j = 23) M0 N ∧ N.1 191 23 = nvS B p e 6 := by
  have h0 := h.1
  intro m
  induction m with
  | zero =>
    intro k fu M g0 g1 hF hv
    obtain ⟨g, rfl⟩ : ∃ g, fu = g + 1 := ⟨fu - 1, by omega⟩
    have hk : k = 6 := by omega
    subst hk
    rw [t_MO_name_L7, if_pos (by omega)]
    exact ⟨M, rfl, hF, hv⟩
  | succ m ih =>
    intro k fu M g0 g1 hF hv
    obtain ⟨g, rfl⟩ : ∃ g, fu = g + 1 := ⟨fu - 1, by omega⟩
    have hr := nv_rng hl k
    have h32 := p32 (k + 1) (by omega)
    rw [Int.pow_succ] at h32
    have hnl := nl_rng hl (k := (k : Int)) (by omega)
    have e5 : q_shl (nvS B p e k) 5 = nvS B p e k * 2 ^ 5 := q_shl_nn (k := 5) (by decide) hr.1 (by rw [show (2 : Int) ^ 5 = 32 from rfl]; omega)
    have eo : q_or (nvS B p e k * 2 ^ 5) (nlS B p e (k : Int)) = nvS B p e (k + 1) := by
      rw [or_add hr.1 hnl.1 (by rw [show (2 : Int) ^ 5 = 32 from rfl]; omega) (by rw [show (2 : Int) ^ 5 = 32 from rfl]; omega), nvS]
      rfl
    have nx := fun N q1 q2 => ih (k + 1) g N (by omega) (by omega) q1 q2
    rw [t_MO_name_L7, if_neg (by omega), (hF 191 20 (by omega)).1, (hF 191 21 (by omega)).1, hp, ha, w32_id (x := p + (k : Int)) (by unfold InR; omega), hv, e5]
    unfold t_MO_name_L53
    rw [w32_succ (by omega)]
    by_cases c : e ≤ p + (k : Int)
    · have : nlS B p e (k : Int) = 0 := if_neg (by omega)
      rw [this] at eo
      rw [if_pos c, eo]
      exact nx _ (hF.setI ⟨rfl, rfl⟩) (sI_self _ _ _ _)
    · have : nlS B p e (k : Int) = B (p + (k : Int)) - 96 := if_pos (by omega)
      rw [this] at eo
      rw [if_neg c, qguard_pos ⟨by omega, by omega⟩, (hF 192 _ (by omega)).1, (h.2.2 _ (by omega) (by omega)).1, w32_id (x := B (p + (k : Int)) - 97) (by unfold InR; omega), w32_id (by unfold InR; omega), show B (p + (k : Int)) - 97 + 1 = B (p + (k : Int)) - 96 by omega, eo]
      exact nx _ (hF.setI ⟨rfl, rfl⟩) (sI_self _ _ _ _)
theorem m_name {M : Mem} {B : Int → Int} {n p e : Int} (h : TpOK M B n) (p0 : 0 ≤ p) (pe : p ≤ e) (en : e ≤ n) (hl : ∀ x, p ≤ x → x < e → ltB (B x) = true) (hp : M.1 191 21 = p) (ha : M.1 191 20 = e) : ∃ N, t_MO_name M = some N ∧ Fr (fun k j => k = 191 ∧ j = 23) M N ∧ N.1 191 23 = nvS B p e 6 := by
  unfold t_MO_name
  simp only [qlet]
  have hF : Fr (fun k j => k = 191 ∧ j = 23) M (setI M 191 23 0) := Fr.rf.setI ⟨rfl, rfl⟩
  obtain ⟨N, n1, n2, n3⟩ := m_name_L7 (h.fr hF (fun k j a q => by omega)) p0 pe en hl (by rw [sI_ne (by omega)]; exact hp) (by rw [sI_ne (by omega)]; exact ha) 6 0 FU (setI M 191 23 0) rfl (fu_big (by omega)) Fr.rf (sI_self _ _ _ _)
  exact ⟨N, n1, hF.trans n2, n3⟩
/-! a token -/
abbrev kval2 (k r v : Int) : Prop := (0 ≤ k ∧ k ≤ 24 → r = k) ∧ (k = 30 → r = v) ∧ (k = 31 → nvR r v) ∧ (40 ≤ k → r = sgV k)
def srtV (k : Int) : Int := if k ≤ 24 then 0 else if k = 30 then 1 else if k = 31 then 2 else if k = 32 then 4 else if k = 33 then 5 else 3
/-- the token at hand -/
def RTk (M : Mem) (k v p e : Int) : Prop := M.1 191 21 = p ∧ M.1 191 20 = e ∧ M.1 191 22 = srtV k ∧ kval2 k (M.1 191 23) v
theorem RTk.fr {W : Nat → Int → Prop} {M N : Mem} {k v p e : Int} (h : RTk M k v p e) (hF : Fr W M N) (hd : ∀ q j, TkW q j → ¬ W q j) : RTk N k v p e := by
  have f : ∀ j, (j = 20 ∨ j = 21 ∨ j = 22 ∨ j = 23) → N.1 191 j = M.1 191 j := fun j hj => (hF 191 j (hd _ _ ⟨rfl, hj⟩)).1
  unfold RTk
  rw [f 21 (by omega), f 20 (by omega), f 22 (by omega), f 23 (by omega)]
  exact h
theorem dv_rng2 (B : Int → Int) (p : Int) : ∀ k : Nat, (∀ j : Nat, j < k → 48 ≤ B (p + (j : Int)) ∧ B (p + (j : Int)) ≤ 57) → 0 ≤ dvS B p k ∧ dvS B p k ≤ 1000000 := by
  intro k
  induction k with
  | zero => intro _; rw [dvS]; omega
  | succ k ih =>
    intro h
    have a := ih (fun j hj => h j (by omega))
    have b := h k (by omega)
    rw [dvS]
    unfold q_min
    split <;> omega
theorem m_tok_L162 {M0 : Mem} {B : Int → Int} {n p e : Int} (h : TpOK M0 B n) (p0 : 0 ≤ p) (en : e ≤ n) (hd : ∀ x, p ≤ x → x < e → dgB (B x) = true) (he : e < n → dgB (B e) = false) : ∀ (m k fu : Nat) (M : Mem), p + (k : Int) + (m : Int) = e → m < fu → Fr (fun q j => q = 191 ∧ (j = 20 ∨ j = 23)) M0 M → M.1 191 20 = p + (k : Int) → nvR (M.1 191 23) (dvS B p k) →
    ∃ N, t_MO_token_L162 fu M = some N ∧ Fr (fun q j => q = 191 ∧ (j = 20 ∨ j = 23)) M0 N ∧ N.1 191 20 = e ∧ nvR (N.1 191 23) (dvS B p (e - p).toNat) := by
  have h0 := h.1
  intro m
  induction m with
  | zero =>
    intro k fu M g0 g1 hF ha hv
    obtain ⟨g, rfl⟩ : ∃ g, fu = g + 1 := ⟨fu - 1, by omega⟩
    have hM := h.fr hF (fun q j a z => by omega)
    have hh := m_here hM ha (by omega)
    have hz : dgB (hrV B n (p + (k : Int))) = false := by
      unfold hrV
      split
      · rw [show p + (k : Int) = e by omega]; exact he (by omega)
      · rfl
    rw [t_MO_token_L162, hh, obind_some]
    simp only [qlet]
    rw [isDigit_eq, hz, if_pos (show (if false = true then (1 : Int) else 0) = 0 from rfl)]
    refine ⟨M, rfl, hF, by omega, ?_⟩
    rw [show (e - p).toNat = k by omega]
    exact hv
  | succ m ih =>
    intro k fu M g0 g1 hF ha hv
    obtain ⟨g, rfl⟩ : ∃ g, fu = g + 1 := ⟨fu - 1, by omega⟩
    have hM := h.fr hF (fun q j a z => by omega)
    have hh := m_here hM ha (by omega)
    have hb : hrV B n (p + (k : Int)) = B (p + (k : Int)) := if_pos (by omega)
    have hdg := hd (p + (k : Int)) (by omega) (by omega)
    have hdr : 48 ≤ B (p + (k : Int)) ∧ B (p + (k : Int)) ≤ 57 := of_decide_eq_true hdg
    rw [hb] at hh
    rw [t_MO_token_L162, hh, obind_some]
    simp only [qlet]
    rw [isDigit_eq, hdg, if_pos rfl, if_neg (by decide), obind_some]
    unfold t_MO_token_L204
    simp only [qlet]
    unfold nvR at hv
    have nx := fun N q1 q2 q3 => ih (k + 1) g N (by omega) (by omega) q1 q2 q3
    have e20 : w32 (uI M.1 191 23 (M.1 191 23) 191 20 + 1) = p + ((k + 1 : Nat) : Int) := by
      rw [uI_ne _ _ (by omega), ha, w32_id (by unfold InR; omega)]; omega
    have e20' : ∀ x, w32 (uI M.1 191 23 x 191 20 + 1) = p + ((k + 1 : Nat) : Int) := by
      intro x
      rw [uI_ne _ _ (by omega), ha, w32_id (by unfold InR; omega)]; omega
    have step : ∀ x, nvR x (dvS B p (k + 1)) → ∃ N, t_MO_token_L162 g (setI (setI M 191 23 x) 191 20 (p + ((k + 1 : Nat) : Int))) = some N ∧ Fr (fun q j => q = 191 ∧ (j = 20 ∨ j = 23)) M0 N ∧ N.1 191 20 = e ∧ nvR (N.1 191 23) (dvS B p (e - p).toNat) := by
      intro x hx
      refine nx _ ((hF.setI (by omega)).setI (by omega)) (sI_self _ _ _ _) ?_
      rw [sI_ne (by omega), sI_self]
      exact hx
    by_cases c : M.1 191 23 ≤ 99999
    · rw [if_pos c, w32_id (x := 10 * M.1 191 23) (by unfold InR; omega), w32_id (x := 10 * M.1 191 23 + B (p + (k : Int))) (by unfold InR; omega), w32_id (x := 10 * M.1 191 23 + B (p + (k : Int)) - 48) (by unfold InR; omega), e20']
      refine step _ ?_
      unfold nvR
      rw [dvS]
      unfold q_min
      split <;> omega
    · rw [if_neg c, e20']
      refine step _ ?_
      unfold nvR
      rw [dvS]
      unfold q_min
      split <;> omega
