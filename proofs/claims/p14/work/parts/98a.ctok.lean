/-! ===== tokens: the class's side ===== -/
def TpC (M : Mem) (B : Int → Int) (n : Int) : Prop := (0 ≤ n ∧ n ≤ 700) ∧ ∀ j, 0 ≤ j → j < n → M.1 1 j = B j ∧ 0 ≤ B j ∧ B j ≤ 255
theorem TpC.fr {W : Nat → Int → Prop} {M N : Mem} {B : Int → Int} {n : Int} (h : TpC M B n) (hF : Fr W M N) (hd : ∀ j, ¬ W 1 j) : TpC N B n := ⟨h.1, fun j a b => ⟨(hF 1 j (hd j)).1.trans (h.2 j a b).1, (h.2 j a b).2⟩⟩
theorem c_lk {M : Mem} {B : Int → Int} {n a : Int} (h : TpC M B n) (a0 : 0 ≤ a) (a1 : a < n) : t_WF_look M 1 700 a = B a := by
  have := h.1
  rw [look_in a0 (by omega), (h.2 a a0 a1).1]
theorem isLetter_eq (M : Mem) (c : Int) : t_Tokens_isLetter M c = if ltB c = true then 1 else 0 := by
  unfold t_Tokens_isLetter ltB
  by_cases h1 : c < 97
  · rw [if_pos h1, decide_eq_false (by omega), if_neg (by decide)]
  · rw [if_neg h1]
    by_cases h2 : 122 < c
    · rw [if_pos h2, decide_eq_false (by omega), if_neg (by decide)]
    · rw [if_neg h2, decide_eq_true (by omega), if_pos rfl]
theorem isDig_eq (M : Mem) (c : Int) : t_Tokens_isDigit M c = if dgB c = true then 1 else 0 := by
  unfold t_Tokens_isDigit dgB
  by_cases h1 : c < 48
  · rw [if_pos h1, decide_eq_false (by omega), if_neg (by decide)]
  · rw [if_neg h1]
    by_cases h2 : 57 < c
    · rw [if_pos h2, decide_eq_false (by omega), if_neg (by decide)]
    · rw [if_neg h2, decide_eq_true (by omega), if_pos rfl]
/-! words -/
theorem c_isWord {M : Mem} {B : Int → Int} {n p s len : Int} (h : TpC M B n) (p0 : 0 ≤ p) (pe : p + len ≤ n) (s0 : 0 ≤ s) (s1 : s + len ≤ 126) : ∀ (m i fu : Nat), (i : Int) + (m : Int) = len → m < fu → mtS B p s i = true → t_Tokens_isWord_L3 s 1 700 p len fu M (i : Int) = some (if mtS B p s len.toNat = true then 1 else 0) := by
  have hn := h.1
  intro m
  induction m with
  | zero =>
    intro i fu g0 g1 hm
    obtain ⟨g, rfl⟩ : ∃ g, fu = g + 1 := ⟨fu - 1, by omega⟩
    rw [t_Tokens_isWord_L3, if_pos (by omega), show len.toNat = i by omega, hm, if_pos rfl]
  | succ m ih =>
    intro i fu g0 g1 hm
    obtain ⟨g, rfl⟩ : ∃ g, fu = g + 1 := ⟨fu - 1, by omega⟩
    rw [t_Tokens_isWord_L3, if_neg (by omega), w32_id (x := s + (i : Int)) (by unfold InR; omega), if_neg (by omega), qguard_pos ⟨by omega, by omega⟩, w32_id (x := p + (i : Int)) (by unfold InR; omega)]
    simp only [qlet]
    rw [c_lk h (by omega) (by omega)]
    by_cases c : chW (s + (i : Int)) = B (p + (i : Int))
    · rw [if_pos c, w32_succ (by omega)]
      exact ih (i + 1) g (by omega) (by omega) (by rw [mtS, hm, decide_eq_true c.symm]; rfl)
    · rw [if_neg c, if_neg (fun z => by
        rw [mtS_mono (k := i + 1) (by omega) (by rw [mtS, decide_eq_false (fun q => c q.symm), Bool.and_false])] at z
        cases z)]
theorem c_wordOf_L8 {M : Mem} {B : Int → Int} {n p len : Int} (h : TpC M B n) (p0 : 0 ≤ p) (l1 : 1 ≤ len) (pe : p + len ≤ n) : ∀ (m k fu : Nat) (i : Int), i + (m : Int) = 126 → k ≤ 25 → stW k ≤ i → (k < 25 → i ≤ nxW (stW k)) → m < fu → t_Tokens_wordOf_L8 1 700 p len fu M (k : Int) (stW k) i = some (wdS B p len (25 - k) k) := by
  have hn := h.1
  intro m
  induction m with
  | zero =>
    intro k fu i g0 g1 g2 g3 g4
    obtain ⟨g, rfl⟩ : ∃ g, fu = g + 1 := ⟨fu - 1, by omega⟩
    have hk : k = 25 := by
      by_cases q : k < 25
      · have := g3 q
        have hst := st_all k q
        have hnx := nx_all (stW k).toNat (by omega)
        rw [Int.toNat_of_nonneg hst.1] at hnx
        omega
      · omega
    subst hk
    rw [t_Tokens_wordOf_L8, if_pos (by omega), show 25 - 25 = 0 from rfl, wdS]
  | succ m ih =>
    intro k fu i g0 g1 g2 g3 g4
    obtain ⟨g, rfl⟩ : ∃ g, fu = g + 1 := ⟨fu - 1, by omega⟩
    have hk : k < 25 := by
      by_cases q : k = 25
      · rw [q, st_end] at g2; omega
      · omega
    have hi := g3 hk
    have hst := st_all k hk
    have hnx := nx_all (stW k).toNat (by omega)
    rw [Int.toNat_of_nonneg hst.1] at hnx
    obtain ⟨r, hr⟩ : ∃ r, 25 - k = r + 1 := ⟨24 - k, by omega⟩
    have nxt : i = nxW (stW k) → t_Tokens_wordOf_L8 1 700 p len g M (w32 ((k : Int) + 1)) (w32 (i + 1)) (w32 (i + 1)) = some (wdS B p len r (k + 1)) := by
      intro e
      have es : stW (k + 1) = i + 1 := by rw [e]; rfl
      rw [w32_succ (by omega), w32_id (x := i + 1) (by unfold InR; omega), ← es, show r = 25 - (k + 1) by omega]
      refine ih (k + 1) g _ (by omega) (by omega) (Int.le_refl _) (fun q => ?_) (by omega)
      have h2 := st_all (k + 1) q
      omega
    rw [t_Tokens_wordOf_L8, if_neg (by omega), qguard_pos ⟨by omega, by omega⟩, hr, wdS]
    by_cases c : i = nxW (stW k)
    · have c32 : chW i = 32 := by rw [c]; exact hnx.2.2
      rw [if_pos c32, w32_id (x := i - stW k) (by unfold InR; omega)]
      unfold t_Tokens_wordOf_L52 t_Tokens_wordOf_L61
      by_cases l : i - stW k = len
      · have hw := c_isWord h p0 pe hst.1 (s := stW k) (by omega) len.toNat 0 FU (by omega) (fu_big (by omega)) rfl
        rw [show ((0 : Nat) : Int) = 0 from rfl] at hw
        rw [if_pos l]
        unfold t_Tokens_isWord
        rw [hw, obind_some]
        by_cases q : mtS B p (stW k) len.toNat = true
        · rw [if_pos q, if_neg (by decide), if_pos ⟨by omega, q⟩]
        · rw [if_neg q, if_pos rfl, if_neg (fun z => q z.2)]
          exact nxt c
      · rw [if_neg l, if_neg (fun z => l (by omega))]
        exact nxt c
    · have c32 : ¬ chW i = 32 := by
        have := nx_bet (stW k).toNat (by omega) (i - stW k).toNat (by omega)
        rw [Int.toNat_of_nonneg hst.1, Int.toNat_of_nonneg (by omega), show stW k + (i - stW k) = i by omega] at this
        exact this (by omega)
      rw [if_neg c32]
      unfold t_Tokens_wordOf_L61
      rw [w32_id (x := i + 1) (by unfold InR; omega)]
      have := ih k g (i + 1) (by omega) (by omega) (by omega) (fun _ => by omega) (by omega)
      rw [hr, wdS] at this
      exact this
theorem c_wordOf {M : Mem} {B : Int → Int} {n p len : Int} (h : TpC M B n) (p0 : 0 ≤ p) (l1 : 1 ≤ len) (pe : p + len ≤ n) : t_Tokens_wordOf M 1 700 p len = some (wordS B p len) := by
  have := c_wordOf_L8 h p0 l1 pe 126 0 FU 0 (by omega) (by omega) (Int.le_refl _) (fun _ => by have := st_all 0 (by omega); have e : stW 0 = 0 := rfl; omega) (fu_big (by omega))
  exact this
/-! names -/
theorem or_sh {v x : Int} {K : Nat} {a : Int} (ha : (2 : Int) ^ K = a) (hK : K ≤ 25) (a0 : 1 ≤ a) (v0 : 0 ≤ v) (x0 : 0 ≤ x) (x1 : x < 32) (hv : (v * 32 + x) * a < 2147483648) : q_or (v * (32 * a)) (q_shl x (K : Int)) = (v * 32 + x) * a := by
  have m1 : 0 ≤ v * (32 * a) := Int.mul_nonneg v0 (by omega)
  have m2 : (v * 32 + x) * a = v * (32 * a) + x * a := by rw [Int.add_mul, Int.mul_assoc]
  have m3 : 0 ≤ x * a := Int.mul_nonneg x0 (by omega)
  have m4 : x * a < 32 * a := Int.mul_lt_mul_of_pos_right x1 (by omega)
  have e5 : (2 : Int) ^ (K + 5) = 32 * a := by rw [Int.pow_add, ha, Int.mul_comm]; rfl
  rw [q_shl_nn (by omega) x0 (by rw [ha]; omega), ha, m2, ← e5]
  exact or_add v0 m3 (by rw [e5]; exact m4) (by rw [e5]; omega)
def tw : Nat → Int
  | 0 => 1073741824
  | 1 => 33554432
  | 2 => 1048576
  | 3 => 32768
  | 4 => 1024
  | 5 => 32
  | _ => 1
def lwV (B : Int → Int) (p e : Int) (k : Nat) : Int := if k ≤ 6 then nvS B p e k * tw k else nvS B p e 6
theorem lw_end {B : Int → Int} {p e : Int} {k : Nat} (h : p + (k : Int) = e) : lwV B p e k = nvS B p e 6 := by
  unfold lwV
  by_cases c : k ≤ 6
  · rw [if_pos c]
    have s : ∀ j : Nat, nvS B p e (j + 1) = nvS B p e j * 32 + nlS B p e (j : Int) := fun _ => rfl
    have z : ∀ j : Nat, k ≤ j → nlS B p e (j : Int) = 0 := fun j hj => if_neg (by omega)
    have s0 := s 0; have s1 := s 1; have s2 := s 2; have s3 := s 3; have s4 := s 4; have s5 := s 5
    have hk : k = 0 ∨ k = 1 ∨ k = 2 ∨ k = 3 ∨ k = 4 ∨ k = 5 ∨ k = 6 := by omega
    rcases hk with rfl | rfl | rfl | rfl | rfl | rfl | rfl
    · have z0 := z 0 (by omega); have z1 := z 1 (by omega); have z2 := z 2 (by omega); have z3 := z 3 (by omega); have z4 := z 4 (by omega); have z5 := z 5 (by omega)
      show nvS B p e 0 * 1073741824 = _
      simp only [Nat.zero_add, Nat.reduceAdd] at s0 s1 s2 s3 s4 s5
      omega
    · have z1 := z 1 (by omega); have z2 := z 2 (by omega); have z3 := z 3 (by omega); have z4 := z 4 (by omega); have z5 := z 5 (by omega)
      show nvS B p e 1 * 33554432 = _
      simp only [Nat.zero_add, Nat.reduceAdd] at s0 s1 s2 s3 s4 s5
      omega
    · have z2 := z 2 (by omega); have z3 := z 3 (by omega); have z4 := z 4 (by omega); have z5 := z 5 (by omega)
      show nvS B p e 2 * 1048576 = _
      simp only [Nat.zero_add, Nat.reduceAdd] at s0 s1 s2 s3 s4 s5
      omega
    · have z3 := z 3 (by omega); have z4 := z 4 (by omega); have z5 := z 5 (by omega)
      show nvS B p e 3 * 32768 = _
      simp only [Nat.zero_add, Nat.reduceAdd] at s0 s1 s2 s3 s4 s5
      omega
    · have z4 := z 4 (by omega); have z5 := z 5 (by omega)
      show nvS B p e 4 * 1024 = _
      simp only [Nat.zero_add, Nat.reduceAdd] at s0 s1 s2 s3 s4 s5
      omega
    · have z5 := z 5 (by omega)
      show nvS B p e 5 * 32 = _
      simp only [Nat.zero_add, Nat.reduceAdd] at s0 s1 s2 s3 s4 s5
      omega
    · show nvS B p e 6 * 1 = _
      omega
  · rw [if_neg c]
theorem lw_step {B : Int → Int} {p e : Int} (hl : ∀ x, p ≤ x → x < e → ltB (B x) = true) {k : Nat} (hk : k < 6) (he : p + (k : Int) < e) : q_or (lwV B p e k) (q_shl (B (p + (k : Int)) - 96) (5 * (5 - (k : Int)))) = lwV B p e (k + 1) := by
  have r := (nv_rng hl (k := k)).1
  have r1 := nv_rng hl (k := k + 1)
  have nl := nl_rng hl (k := (k : Int)) (by omega)
  have en : nlS B p e (k : Int) = B (p + (k : Int)) - 96 := if_pos he
  rw [en] at nl
  have s : nvS B p e (k + 1) = nvS B p e k * 32 + (B (p + (k : Int)) - 96) := by rw [nvS, en]
  unfold lwV
  rw [if_pos (by omega), if_pos (by omega), s]
  rw [s] at r1
  generalize nvS B p e k = v at *
  have hk' : k = 0 ∨ k = 1 ∨ k = 2 ∨ k = 3 ∨ k = 4 ∨ k = 5 := by omega
  rcases hk' with rfl | rfl | rfl | rfl | rfl | rfl
  · have b : (32 : Int) ^ (0 + 1) = 32 := by decide +kernel
    rw [b] at r1
    exact or_sh (K := 25) (a := 33554432) (by decide +kernel) (by omega) (by omega) r nl.1 (by omega) (by omega)
  · have b : (32 : Int) ^ (1 + 1) = 1024 := by decide +kernel
    rw [b] at r1
    exact or_sh (K := 20) (a := 1048576) (by decide +kernel) (by omega) (by omega) r nl.1 (by omega) (by omega)
  · have b : (32 : Int) ^ (2 + 1) = 32768 := by decide +kernel
    rw [b] at r1
    exact or_sh (K := 15) (a := 32768) (by decide +kernel) (by omega) (by omega) r nl.1 (by omega) (by omega)
  · have b : (32 : Int) ^ (3 + 1) = 1048576 := by decide +kernel
    rw [b] at r1
    exact or_sh (K := 10) (a := 1024) (by decide +kernel) (by omega) (by omega) r nl.1 (by omega) (by omega)
  · have b : (32 : Int) ^ (4 + 1) = 33554432 := by decide +kernel
    rw [b] at r1
    exact or_sh (K := 5) (a := 32) (by decide +kernel) (by omega) (by omega) r nl.1 (by omega) (by omega)
  · have b : (32 : Int) ^ (5 + 1) = 1073741824 := by decide +kernel
    rw [b] at r1
    exact or_sh (K := 0) (a := 1) (by decide +kernel) (by omega) (by omega) r nl.1 (by omega) (by omega)
