section
/-! ===== tokens: the class's side ===== -/
def TpC (M : Mem) (B : Int → Int) (n : Int) : Prop := (0 ≤ n ∧ n ≤ 700) ∧ ∀ j, 0 ≤ j → j < n → M.1 1 j = B j ∧ 0 ≤ B j ∧ B j ≤ 255
theorem TpC.fr {W : Nat → Int → Prop} {M N : Mem} {B : Int → Int} {n : Int} (h : TpC M B n) (hF : Fr W M N) (hd : ∀ j, ¬ W 1 j) : TpC N B n := ⟨h.1, fun j a b => ⟨(hF 1 j (hd j)).1.trans (h.2 j a b).1, (h.2 j a b).2⟩⟩
theorem c_lk {M : Mem} {B : Int → Int} {n a : Int} (h : TpC M B n) (a0 : 0 ≤ a) (a1 : a < n) : t_WF_look M 1 700 a = B a := by
  have := h.1
  rw [look_in a0 (by omega), (h.2 a a0 a1).1]
theorem isLetter_eq (M : Mem) (c : Int) : t_Tokens_isLetter M c = if ltB c = true then 1 else 0 := by
  unfold t_Tokens_isLetter ltB
  by_cases h1 : c < 97
  · rw [if_pos h1, decide_eq_false (by omega), if_neg (by decide)]
  · rw [if_neg h1]
    by_cases h2 : 122 < c
    · rw [if_pos h2, decide_eq_false (by omega), if_neg (by decide)]
    · rw [if_neg h2, decide_eq_true (by omega), if_pos rfl]
theorem isDig_eq (M : Mem) (c : Int) : t_Tokens_isDigit M c = if dgB c = true then 1 else 0 := by
  unfold t_Tokens_isDigit dgB
  by_cases h1 : c < 48
  · rw [if_pos h1, decide_eq_false (by omega), if_neg (by decide)]
  · rw [if_neg h1]
    by_cases h2 : 57 < c
    · rw [if_pos h2, decide_eq_false (by omega), if_neg (by decide)]
    · rw [if_neg h2, decide_eq_true (by omega), if_pos rfl]
/-! words -/
theorem c_isWord {M : Mem} {B : Int → Int} {n p s len : Int} (h : TpC M B n) (p0 : 0 ≤ p) (pe : p + len ≤ n) (s0 : 0 ≤ s) (s1 : s + len ≤ 126) : ∀ (m i fu : Nat), (i : Int) + (m : Int) = len → m < fu → mtS B p s i = true → t_Tokens_isWord_L3 s 1 700 p len fu M (i : Int) = some (if mtS B p s len.toNat = true then 1 else 0) := by
  have hn := h.1
  intro m
  induction m with
  | zero =>
    intro i fu g0 g1 hm
    obtain ⟨g, rfl⟩ : ∃ g, fu = g + 1 := ⟨fu - 1, by omega⟩
    rw [t_Tokens_isWord_L3, if_pos (by omega), show len.toNat = i by omega, hm, if_pos rfl]
  | succ m ih =>
    intro i fu g0 g1 hm
    obtain ⟨g, rfl⟩ : ∃ g, fu = g + 1 := ⟨fu - 1, by omega⟩
    rw [t_Tokens_isWord_L3, if_neg (by omega), w32_id (x := s + (i : Int)) (by unfold InR; omega), if_neg (by omega), qguard_pos ⟨by omega, by omega⟩, w32_id (x := p + (i : Int)) (by unfold InR; omega)]
    simp only [qlet]
    rw [c_lk h (by omega) (by omega)]
    by_cases c : chW (s + (i : Int)) = B (p + (i : Int))
    · rw [if_pos c, w32_succ (by omega)]
      exact ih (i + 1) g (by omega) (by omega) (by rw [mtS, hm, decide_eq_true c.symm]; rfl)
    · rw [if_neg c, if_neg (fun z => by
        rw [mtS_mono (k := i + 1) (by omega) (by rw [mtS, decide_eq_false (fun q => c q.symm), Bool.and_false])] at z
        cases z)]
theorem c_wordOf_L8 {M : Mem} {B : Int → Int} {n p len : Int} (h : TpC M B n) (p0 : 0 ≤ p) (l1 : 1 ≤ len) (pe : p + len ≤ n) : ∀ (m k fu : Nat) (i : Int), i + (m : Int) = 126 → k ≤ 25 → stW k ≤ i → (k < 25 → i ≤ nxW (stW k)) → m < fu → t_Tokens_wordOf_L8 1 700 p len fu M (k : Int) (stW k) i = some (wdS B p len (25 - k) k) := by
  have hn := h.1
  intro m
  induction m with
  | zero =>
    intro k fu i g0 g1 g2 g3 g4
    obtain ⟨g, rfl⟩ : ∃ g, fu = g + 1 := ⟨fu - 1, by omega⟩
    have hk : k = 25 := by
      by_cases q : k < 25
      · have := g3 q
        have hst := st_all k q
        have hnx := nx_all (stW k).toNat (by omega)
        rw [Int.toNat_of_nonneg hst.1] at hnx
        omega
      · omega
    subst hk
    rw [t_Tokens_wordOf_L8, if_pos (by omega), show 25 - 25 = 0 from rfl, wdS]
  | succ m ih =>
    intro k fu i g0 g1 g2 g3 g4
    obtain ⟨g, rfl⟩ : ∃ g, fu = g + 1 := ⟨fu - 1, by omega⟩
    have hk : k < 25 := by
      by_cases q : k = 25
      · rw [q, st_end] at g2; omega
      · omega
    have hi := g3 hk
    have hst := st_all k hk
    have hnx := nx_all (stW k).toNat (by omega)
    rw [Int.toNat_of_nonneg hst.1] at hnx
    obtain ⟨r, hr⟩ : ∃ r, 25 - k = r + 1 := ⟨24 - k, by omega⟩
    have nxt : i = nxW (stW k) → t_Tokens_wordOf_L8 1 700 p len g M (w32 ((k : Int) + 1)) (w32 (i + 1)) (w32 (i + 1)) = some (wdS B p len r (k + 1)) := by
      intro e
      have es : stW (k + 1) = i + 1 := by rw [e]; rfl
      rw [w32_succ (by omega), w32_id (x := i + 1) (by unfold InR; omega), ← es, show r = 25 - (k + 1) by omega]
      refine ih (k + 1) g _ (by omega) (by omega) (Int.le_refl _) (fun q => ?_) (by omega)
      have h2 := st_all (k + 1) q
      omega
    rw [t_Tokens_wordOf_L8, if_neg (by omega), qguard_pos ⟨by omega, by omega⟩, hr, wdS]
    by_cases c : i = nxW (stW k)
    · have c32 : chW i = 32 := by rw [c]; exact hnx.2.2
      rw [if_pos c32, w32_id (x := i - stW k) (by unfold InR; omega)]
      unfold t_Tokens_wordOf_L52 t_Tokens_wordOf_L61
      by_cases l : i - stW k = len
      · have hw := c_isWord h p0 pe hst.1 (s := stW k) (by omega) len.toNat 0 FU (by omega) (fu_big (by omega)) rfl
        rw [show ((0 : Nat) : Int) = 0 from rfl] at hw
        rw [if_pos l]
        unfold t_Tokens_isWord
        rw [hw, obind_some]
        by_cases q : mtS B p (stW k) len.toNat = true
        · rw [if_pos q, if_neg (by decide), if_pos ⟨by omega, q⟩]
        · rw [if_neg q, if_pos rfl, if_neg (fun z => q z.2)]
          exact nxt c
      · rw [if_neg l, if_neg (fun z => l (by omega))]
        exact nxt c
    · have c32 : ¬ chW i = 32 := by
        have := nx_bet (stW k).toNat (by omega) (i - stW k).toNat (by omega)
        rw [Int.toNat_of_nonneg hst.1, Int.toNat_of_nonneg (by omega), show stW k + (i - stW k) = i by omega] at this
        exact this (by omega)
      rw [if_neg c32]
      unfold t_Tokens_wordOf_L61
      rw [w32_id (x := i + 1) (by unfold InR; omega)]
      have := ih k g (i + 1) (by omega) (by omega) (by omega) (fun _ => by omega) (by omega)
      rw [hr, wdS] at this
      exact this
theorem c_wordOf {M : Mem} {B : Int → Int} {n p len : Int} (h : TpC M B n) (p0 : 0 ≤ p) (l1 : 1 ≤ len) (pe : p + len ≤ n) : t_Tokens_wordOf M 1 700 p len = some (wordS B p len) := by
  have := c_wordOf_L8 h p0 l1 pe 126 0 FU 0 (by omega) (by omega) (Int.le_refl _) (fun _ => by have := st_all 0 (by omega); have e : stW 0 = 0 := rfl; omega) (fu_big (by omega))
  exact this
/-! names -/
theorem or_sh {v x : Int} {K : Nat} {a : Int} (ha : (2 : Int) ^ K = a) (hK : K ≤ 25) (a0 : 1 ≤ a) (v0 : 0 ≤ v) (x0 : 0 ≤ x) (x1 : x < 32) (hv : (v * 32 + x) * a < 2147483648) : q_or (v * (32 * a)) (q_shl x (K : Int)) = (v * 32 + x) * a := by
  have m1 : 0 ≤ v * (32 * a) := Int.mul_nonneg v0 (by omega)
  have m2 : (v * 32 + x) * a = v * (32 * a) + x * a := by rw [Int.add_mul, Int.mul_assoc]
  have m3 : 0 ≤ x * a := Int.mul_nonneg x0 (by omega)
  have m4 : x * a < 32 * a := Int.mul_lt_mul_of_pos_right x1 (by omega)
  have e5 : (2 : Int) ^ (K + 5) = 32 * a := by rw [Int.pow_add, ha, Int.mul_comm]; rfl
  rw [q_shl_nn (by omega) x0 (by rw [ha]; omega), ha, m2, ← e5]
  exact or_add v0 m3 (by rw [e5]; exact m4) (by rw [e5]; omega)
def tw : Nat → Int
  | 0 => 1073741824
  | 1 => 33554432
  | 2 => 1048576
  | 3 => 32768
  | 4 => 1024
  | 5 => 32
  | _ => 1
def lwV (B : Int → Int) (p e : Int) (k : Nat) : Int := if k ≤ 6 then nvS B p e k * tw k else nvS B p e 6
theorem lw_end {B : Int → Int} {p e : Int} {k : Nat} (h : p + (k : Int) = e) : lwV B p e k = nvS B p e 6 := by
  unfold lwV
  by_cases c : k ≤ 6
  · rw [if_pos c]
    have s : ∀ j : Nat, nvS B p e (j + 1) = nvS B p e j * 32 + nlS B p e (j : Int) := fun _ => rfl
    have z : ∀ j : Nat, k ≤ j → nlS B p e (j : Int) = 0 := fun j hj => if_neg (by omega)
    have s0 := s 0; have s1 := s 1; have s2 := s 2; have s3 := s 3; have s4 := s 4; have s5 := s 5
    have hk : k = 0 ∨ k = 1 ∨ k = 2 ∨ k = 3 ∨ k = 4 ∨ k = 5 ∨ k = 6 := by omega
    rcases hk with rfl | rfl | rfl | rfl | rfl | rfl | rfl
    · have z0 := z 0 (by omega); have z1 := z 1 (by omega); have z2 := z 2 (by omega); have z3 := z 3 (by omega); have z4 := z 4 (by omega); have z5 := z 5 (by omega)
      show nvS B p e 0 * 1073741824 = _
      simp only [Nat.zero_add, Nat.reduceAdd] at s0 s1 s2 s3 s4 s5
      omega
    · have z1 := z 1 (by omega); have z2 := z 2 (by omega); have z3 := z 3 (by omega); have z4 := z 4 (by omega); have z5 := z 5 (by omega)
      show nvS B p e 1 * 33554432 = _
      simp only [Nat.zero_add, Nat.reduceAdd] at s0 s1 s2 s3 s4 s5
      omega
    · have z2 := z 2 (by omega); have z3 := z 3 (by omega); have z4 := z 4 (by omega); have z5 := z 5 (by omega)
      show nvS B p e 2 * 1048576 = _
      simp only [Nat.zero_add, Nat.reduceAdd] at s0 s1 s2 s3 s4 s5
      omega
    · have z3 := z 3 (by omega); have z4 := z 4 (by omega); have z5 := z 5 (by omega)
      show nvS B p e 3 * 32768 = _
      simp only [Nat.zero_add, Nat.reduceAdd] at s0 s1 s2 s3 s4 s5
      omega
    · have z4 := z 4 (by omega); have z5 := z 5 (by omega)
      show nvS B p e 4 * 1024 = _
      simp only [Nat.zero_add, Nat.reduceAdd] at s0 s1 s2 s3 s4 s5
      omega
    · have z5 := z 5 (by omega)
      show nvS B p e 5 * 32 = _
      simp only [Nat.zero_add, Nat.reduceAdd] at s0 s1 s2 s3 s4 s5
      omega
    · show nvS B p e 6 * 1 = _
      omega
  · rw [if_neg c]
theorem lw_step {B : Int → Int} {p e : Int} (hl : ∀ x, p ≤ x → x < e → ltB (B x) = true) {k : Nat} (hk : k < 6) (he : p + (k : Int) < e) : q_or (lwV B p e k) (q_shl (B (p + (k : Int)) - 96) (5 * (5 - (k : Int)))) = lwV B p e (k + 1) := by
  have r := (nv_rng hl (k := k)).1
  have r1 := nv_rng hl (k := k + 1)
  have nl := nl_rng hl (k := (k : Int)) (by omega)
  have en : nlS B p e (k : Int) = B (p + (k : Int)) - 96 := if_pos he
  rw [en] at nl
  have s : nvS B p e (k + 1) = nvS B p e k * 32 + (B (p + (k : Int)) - 96) := by rw [nvS, en]
  unfold lwV
  rw [if_pos (by omega), if_pos (by omega), s]
  rw [s] at r1
  generalize nvS B p e k = v at *
  have hk' : k = 0 ∨ k = 1 ∨ k = 2 ∨ k = 3 ∨ k = 4 ∨ k = 5 := by omega
  rcases hk' with rfl | rfl | rfl | rfl | rfl | rfl
  · have b : (32 : Int) ^ (0 + 1) = 32 := by decide +kernel
    rw [b] at r1
    exact or_sh (K := 25) (a := 33554432) (by decide +kernel) (by omega) (by omega) r nl.1 (by omega) (by omega)
  · have b : (32 : Int) ^ (1 + 1) = 1024 := by decide +kernel
    rw [b] at r1
    exact or_sh (K := 20) (a := 1048576) (by decide +kernel) (by omega) (by omega) r nl.1 (by omega) (by omega)
  · have b : (32 : Int) ^ (2 + 1) = 32768 := by decide +kernel
    rw [b] at r1
    exact or_sh (K := 15) (a := 32768) (by decide +kernel) (by omega) (by omega) r nl.1 (by omega) (by omega)
  · have b : (32 : Int) ^ (3 + 1) = 1048576 := by decide +kernel
    rw [b] at r1
    exact or_sh (K := 10) (a := 1024) (by decide +kernel) (by omega) (by omega) r nl.1 (by omega) (by omega)
  · have b : (32 : Int) ^ (4 + 1) = 33554432 := by decide +kernel
    rw [b] at r1
    exact or_sh (K := 5) (a := 32) (by decide +kernel) (by omega) (by omega) r nl.1 (by omega) (by omega)
  · have b : (32 : Int) ^ (5 + 1) = 1073741824 := by decide +kernel
    rw [b] at r1
    exact or_sh (K := 0) (a := 1) (by decide +kernel) (by omega) (by omega) r nl.1 (by omega) (by omega)
end
section
/-! ===== tokens: the class's side, all of them ===== -/
theorem c_scanWord_L6 {M : Mem} {B : Int → Int} {n p e : Int} (h : TpC M B n) (p0 : 0 ≤ p) (pe : p < e) (en : e ≤ n) (hl : ∀ x, p ≤ x → x < e → ltB (B x) = true) (he : e < n → ltB (B e) = false) : ∀ (m k fu : Nat), p + (k : Int) + (m : Int) = e → m < fu → t_Tokens_scanWord_L6 1 700 p n fu M (lwV B p e k) (p + (k : Int)) = t_Tokens_scanWord_L64 1 700 p n M (nvS B p e 6) e := by
  have hn := h.1
  intro m
  induction m with
  | zero =>
    intro k fu g0 g1
    obtain ⟨g, rfl⟩ : ∃ g, fu = g + 1 := ⟨fu - 1, by omega⟩
    have e0 : p + (k : Int) = e := by omega
    rw [lw_end e0, e0, t_Tokens_scanWord_L6]
    by_cases c : n ≤ e
    · rw [if_pos c]
    · rw [if_neg c]
      simp only [qlet]
      rw [c_lk h (by omega) (by omega), isLetter_eq, he (by omega), if_pos (show (if false = true then (1 : Int) else 0) = 0 from rfl)]
  | succ m ih =>
    intro k fu g0 g1
    obtain ⟨g, rfl⟩ : ∃ g, fu = g + 1 := ⟨fu - 1, by omega⟩
    have nx := ih (k + 1) g (by omega) (by omega)
    rw [show p + ((k + 1 : Nat) : Int) = p + (k : Int) + 1 by omega] at nx
    rw [t_Tokens_scanWord_L6, if_neg (by omega)]
    simp only [qlet]
    unfold t_Tokens_scanWord_L58
    rw [c_lk h (by omega) (by omega), isLetter_eq, hl _ (by omega) (by omega), if_neg (show ¬ (if true = true then (1 : Int) else 0) = 0 by decide), w32_id (x := p + (k : Int) - p) (by unfold InR; omega), w32_id (x := p + (k : Int) + 1) (by unfold InR; omega)]
    have hB := (h.2 (p + (k : Int)) (by omega) (by omega)).2
    by_cases c : 6 ≤ p + (k : Int) - p
    · rw [if_pos c]
      rw [show lwV B p e k = lwV B p e (k + 1) by
        unfold lwV
        by_cases q : k = 6
        · subst q; rw [if_pos (by omega), if_neg (by omega)]; show nvS B p e 6 * 1 = _; omega
        · rw [if_neg (by omega), if_neg (by omega)]]
      exact nx
    · rw [if_neg c, w32_id (x := B (p + (k : Int)) - 97) (by unfold InR; omega), w32_id (x := B (p + (k : Int)) - 97 + 1) (by unfold InR; omega), show p + (k : Int) - p = (k : Int) by omega, w32_id (x := 5 - (k : Int)) (by unfold InR; omega), w32_id (x := 5 * (5 - (k : Int))) (by unfold InR; omega), show B (p + (k : Int)) - 97 + 1 = B (p + (k : Int)) - 96 by omega, lw_step hl (by omega) (by omega)]
      exact nx
theorem c_scanWord {M : Mem} {B : Int → Int} {n p e : Int} (h : TpC M B n) (p0 : 0 ≤ p) (pe : p < e) (en : e ≤ n) (hl : ∀ x, p ≤ x → x < e → ltB (B x) = true) (he : e < n → ltB (B e) = false) : ∃ v, t_Tokens_scanWord M 1 700 p n = some (t_Tokens_add M (if 0 ≤ wordS B p (e - p) then wordS B p (e - p) else if e - p ≤ 6 then 30 else 33) v p, e) ∧ (wordS B p (e - p) < 0 → v = nvS B p e 6) ∧ (0 ≤ wordS B p (e - p) → v = 0) := by
  have hn := h.1
  have hw := c_scanWord_L6 h p0 pe en hl he (e - p).toNat 0 FU (by omega) (fu_big (by omega))
  have l0 : lwV B p e 0 = 0 := by show nvS B p e 0 * 1073741824 = 0; rw [nvS]; rfl
  rw [l0, show p + ((0 : Nat) : Int) = p by omega] at hw
  unfold t_Tokens_scanWord
  rw [hw]
  unfold t_Tokens_scanWord_L64
  rw [w32_id (x := e - p) (by unfold InR; omega), c_wordOf h p0 (by omega) (by omega), obind_some]
  unfold t_Tokens_scanWord_L108
  simp only [qlet]
  by_cases c : wordS B p (e - p) < 0
  · rw [if_pos c, if_neg (show ¬ 0 ≤ wordS B p (e - p) by omega)]
    by_cases d : e - p ≤ 6
    · rw [if_pos d, if_pos d]; exact ⟨_, rfl, fun _ => rfl, fun q => by omega⟩
    · rw [if_neg d, if_neg d]; exact ⟨_, rfl, fun _ => rfl, fun q => by omega⟩
  · rw [if_neg c, if_pos (show 0 ≤ wordS B p (e - p) by omega)]
    exact ⟨_, rfl, fun q => absurd q c, fun _ => rfl⟩
theorem c_scanNumber_L6 {M : Mem} {B : Int → Int} {n p e : Int} (h : TpC M B n) (p0 : 0 ≤ p) (en : e ≤ n) (hl : ∀ x, p ≤ x → x < e → dgB (B x) = true) (he : e < n → dgB (B e) = false) : ∀ (m k fu : Nat), p + (k : Int) + (m : Int) = e → m < fu → t_Tokens_scanNumber_L6 1 700 p n fu M (dvS B p k) (p + (k : Int)) = some (t_Tokens_add M 31 (dvS B p (e - p).toNat) p, e) := by
  have hn := h.1
  intro m
  induction m with
  | zero =>
    intro k fu g0 g1
    obtain ⟨g, rfl⟩ : ∃ g, fu = g + 1 := ⟨fu - 1, by omega⟩
    have e0 : p + (k : Int) = e := by omega
    rw [show k = (e - p).toNat by omega, show p + (((e - p).toNat : Nat) : Int) = e by omega, t_Tokens_scanNumber_L6]
    unfold t_Tokens_scanNumber_L52
    by_cases c : n ≤ e
    · rw [if_pos c]
    · rw [if_neg c]
      simp only [qlet]
      rw [c_lk h (by omega) (by omega), isDig_eq, he (by omega), if_pos (show (if false = true then (1 : Int) else 0) = 0 from rfl)]
  | succ m ih =>
    intro k fu g0 g1
    obtain ⟨g, rfl⟩ : ∃ g, fu = g + 1 := ⟨fu - 1, by omega⟩
    have nx := ih (k + 1) g (by omega) (by omega)
    have dg : ∀ j : Nat, j < k + 1 → 48 ≤ B (p + (j : Int)) ∧ B (p + (j : Int)) ≤ 57 := fun j hj => of_decide_eq_true (hl _ (by omega) (by omega))
    have hd := dv_rng2 B p k (fun j hj => dg j (by omega))
    have hb := dg k (by omega)
    rw [show p + ((k + 1 : Nat) : Int) = p + (k : Int) + 1 by omega, dvS] at nx
    rw [t_Tokens_scanNumber_L6, if_neg (by omega)]
    simp only [qlet]
    rw [c_lk h (by omega) (by omega), isDig_eq, hl _ (by omega) (by omega), if_neg (show ¬ (if true = true then (1 : Int) else 0) = 0 by decide), w32_id (x := p + (k : Int) + 1) (by unfold InR; omega), w32_id (x := dvS B p k * 10) (by unfold InR; omega), w32_id (x := dvS B p k * 10 + B (p + (k : Int))) (by unfold InR; omega), w32_id (x := dvS B p k * 10 + B (p + (k : Int)) - 48) (by unfold InR; omega), show dvS B p k * 10 + B (p + (k : Int)) - 48 = dvS B p k * 10 + (B (p + (k : Int)) - 48) by omega]
    exact nx
theorem c_scanNumber {M : Mem} {B : Int → Int} {n p e : Int} (h : TpC M B n) (p0 : 0 ≤ p) (pe : p ≤ e) (en : e ≤ n) (hl : ∀ x, p ≤ x → x < e → dgB (B x) = true) (he : e < n → dgB (B e) = false) : t_Tokens_scanNumber M 1 700 p n = some (t_Tokens_add M 31 (dvS B p (e - p).toNat) p, e) := by
  have hn := h.1
  have := c_scanNumber_L6 h p0 en hl he (e - p).toNat 0 FU (by omega) (fu_big (by omega))
  rw [show p + ((0 : Nat) : Int) = p by omega, dvS] at this
  exact this
theorem signOf_in : ∀ n : Nat, n < 23 → t_Tokens_signOf (fun _ _ => 0, fun _ _ => 0) (40 + (n : Int)) = sgK (40 + (n : Int)) 0 := by decide +kernel
theorem signOf_eq (M : Mem) (c : Int) : t_Tokens_signOf M c = sgK c 0 := by
  by_cases h : 40 ≤ c ∧ c ≤ 62
  · have e := signOf_in (c - 40).toNat (by omega)
    rw [show (40 : Int) + ((c - 40).toNat : Int) = c by omega] at e
    exact e
  · have n : ∀ d : Int, 40 ≤ d → d ≤ 62 → ¬ c = d := fun d a b z => h ⟨by omega, by omega⟩
    have o : sgK c 0 = 33 := by
      unfold sgK
      rw [if_neg (n 59 (by decide) (by decide)), if_neg (n 40 (by decide) (by decide)), if_neg (n 41 (by decide) (by decide)), if_neg (n 43 (by decide) (by decide)), if_neg (n 45 (by decide) (by decide)), if_neg (n 42 (by decide) (by decide)), if_neg (n 47 (by decide) (by decide)), if_neg (n 60 (by decide) (by decide)), if_neg (n 61 (by decide) (by decide)), if_neg (n 62 (by decide) (by decide))]
    unfold t_Tokens_signOf
    exact (if_neg (n 40 (by decide) (by decide))).trans ((if_neg (n 41 (by decide) (by decide))).trans ((if_neg (n 42 (by decide) (by decide))).trans ((if_neg (n 43 (by decide) (by decide))).trans ((if_neg (n 44 (by decide) (by decide))).trans ((if_neg (n 45 (by decide) (by decide))).trans ((if_neg (n 46 (by decide) (by decide))).trans ((if_neg (n 47 (by decide) (by decide))).trans ((if_neg (n 48 (by decide) (by decide))).trans ((if_neg (n 49 (by decide) (by decide))).trans ((if_neg (n 50 (by decide) (by decide))).trans ((if_neg (n 51 (by decide) (by decide))).trans ((if_neg (n 52 (by decide) (by decide))).trans ((if_neg (n 53 (by decide) (by decide))).trans ((if_neg (n 54 (by decide) (by decide))).trans ((if_neg (n 55 (by decide) (by decide))).trans ((if_neg (n 56 (by decide) (by decide))).trans ((if_neg (n 57 (by decide) (by decide))).trans ((if_neg (n 58 (by decide) (by decide))).trans ((if_neg (n 59 (by decide) (by decide))).trans ((if_neg (n 60 (by decide) (by decide))).trans ((if_neg (n 61 (by decide) (by decide))).trans ((if_neg (n 62 (by decide) (by decide))).trans o.symm))))))))))))))))))))))
theorem c_scanSign {M : Mem} {c c2 a : Int} (a0 : 0 ≤ a) (a1 : a ≤ 700) : t_Tokens_scanSign M c c2 a = (t_Tokens_add M (sgK c c2) 0 a, a + sgL (sgK c c2)) := by
  unfold t_Tokens_scanSign t_Tokens_scanSign_L25 t_Tokens_scanSign_L48 t_Tokens_scanSign_L73 t_Tokens_scanSign_L39
  simp only [qlet]
  rw [signOf_eq, w32_id (x := a + 2) (by unfold InR; omega), w32_id (x := a + 1) (by unfold InR; omega)]
  by_cases k60 : c = 60
  · subst k60
    rw [if_pos (show sgK 60 0 = 47 from rfl), if_neg (show ¬ sgK 60 0 = 52 by decide)]
    by_cases e : c2 = 61
    · subst e; rfl
    · by_cases e2 : c2 = 62
      · subst e2; rfl
      · have : sgK 60 c2 = 47 := by unfold sgK; simp [e, e2]
        rw [this, if_neg e, if_neg e2]; rfl
  · by_cases k62 : c = 62
    · subst k62
      rw [if_neg (show ¬ sgK 62 0 = 47 by decide), if_pos (show sgK 62 0 = 52 from rfl)]
      by_cases e : c2 = 61
      · subst e; rfl
      · have : sgK 62 c2 = 52 := by unfold sgK; simp [e]
        rw [this, if_neg e]; rfl
    · have e : sgK c c2 = sgK c 0 := by
        unfold sgK
        simp only [if_neg k60, if_neg k62]
      have n1 : sgK c 0 ≠ 47 ∧ sgK c 0 ≠ 52 ∧ sgK c 0 ≠ 48 ∧ sgK c 0 ≠ 50 ∧ sgK c 0 ≠ 51 := by
        unfold sgK
        repeat (first | omega | split)
      rw [if_neg n1.1, if_neg n1.2.1, e]
      unfold sgL
      rw [if_neg (by omega)]
/-! the table -/
def ScW : Nat → Int → Prop := fun k j => (k = 42 ∧ j = 3) ∨ (43 ≤ k ∧ k ≤ 45)
theorem add_eq {M : Mem} {c k v p : Int} (h : M.1 42 3 = c) (c0 : 0 ≤ c) (c1 : c ≤ 700) : t_Tokens_add M k v p = setI (setI (setI (setI M 43 c k) 44 c v) 45 c p) 42 3 (c + 1) := by
  unfold t_Tokens_add
  simp (config := { proj := false }) only [qlet]
  rw [h, put_in (M := M) c0 (by omega), show (setI M 43 c k).1 42 3 = c from (sI_ne (by omega)).trans h, put_in c0 (by omega), show (setI (setI M 43 c k) 44 c v).1 42 3 = c from (sI_ne (by omega)).trans ((sI_ne (by omega)).trans h), put_in c0 (by omega), show (setI (setI (setI M 43 c k) 44 c v) 45 c p).1 42 3 = c from (sI_ne (by omega)).trans ((sI_ne (by omega)).trans ((sI_ne (by omega)).trans h)), w32_id (x := c + 1) (by unfold InR; omega)]
def CTk (M : Mem) (B : Int → Int) (n : Int) (c : Nat) : Prop := M.1 42 3 = (c : Int) ∧ ∀ i : Nat, i < c → M.1 43 (i : Int) = tK B n i ∧ M.1 45 (i : Int) = tP B n i ∧ (tK B n i ≠ 33 → M.1 44 (i : Int) = tW B n i)
theorem ctk_add {M : Mem} {B : Int → Int} {n k v p : Int} {c : Nat} (h : CTk M B n c) (hc : c ≤ 700) (hk : tK B n c = k) (hp : tP B n c = p) (hv : k ≠ 33 → v = tW B n c) : Fr ScW M (t_Tokens_add M k v p) ∧ CTk (t_Tokens_add M k v p) B n (c + 1) := by
  rw [add_eq h.1 (by omega) (by omega)]
  refine ⟨(((Fr.rf.setI (by unfold ScW; omega)).setI (by unfold ScW; omega)).setI (by unfold ScW; omega)).setI (by unfold ScW; omega), sI_self _ _ _ _, fun i hi => ?_⟩
  by_cases e : i = c
  · subst e
    refine ⟨?_, ?_, fun q => ?_⟩
    · rw [sI_ne (by omega), sI_ne (by omega), sI_ne (by omega), sI_self, hk]
    · rw [sI_ne (by omega), sI_self, hp]
    · rw [sI_ne (by omega), sI_ne (by omega), sI_self]
      exact hv (by rw [← hk]; exact q)
  · have hi' := h.2 i (by omega)
    refine ⟨?_, ?_, fun q => ?_⟩
    · rw [sI_ne (by omega), sI_ne (by omega), sI_ne (by omega), sI_ne (by omega)]; exact hi'.1
    · rw [sI_ne (by omega), sI_ne (by omega), sI_ne (by omega), sI_ne (by omega)]; exact hi'.2.1
    · rw [sI_ne (by omega), sI_ne (by omega), sI_ne (by omega), sI_ne (by omega)]; exact hi'.2.2 q
theorem c_scan_L10 {M0 : Mem} {B : Int → Int} {n : Int} : ∀ (m fu c : Nat) (M : Mem) (a v : Int), n ≤ a + (m : Int) → m < fu → 0 ≤ v → v ≤ a → a ≤ n → (c : Int) ≤ a → tkA B n c ≤ a → 0 ≤ tkA B n c → (∀ x, tkA B n c ≤ x → x < a → blB (B x) = true) → (∀ i : Nat, i < c → tK B n i ≠ 32) → TpC M B n → CTk M B n c → Fr ScW M0 M →
    ∃ N c', t_Tokens_scan_L10 1 700 n fu M a v = some N ∧ Fr ScW M0 N ∧ CTk N B n (c' + 1) ∧ tK B n c' = 32 ∧ c' ≤ 700 ∧ (∀ i : Nat, i < c' → tK B n i ≠ 32) := by
  have fin : ∀ (c : Nat) (M : Mem) (a : Int), a = n → (c : Int) ≤ a → tkA B n c ≤ a → 0 ≤ tkA B n c → (∀ x, tkA B n c ≤ x → x < a → blB (B x) = true) → (∀ i : Nat, i < c → tK B n i ≠ 32) → TpC M B n → CTk M B n c → Fr ScW M0 M → ∃ N c', t_Tokens_scan_L120 1 700 n M = some N ∧ Fr ScW M0 N ∧ CTk N B n (c' + 1) ∧ tK B n c' = 32 ∧ c' ≤ 700 ∧ (∀ i : Nat, i < c' → tK B n i ≠ 32) := by
    intro c M a ea g5 g6 g7 hb hl h hC hF
    have hn := h.1
    have hr : rnE blB B n (tkA B n c) = n := rnE_eq g7 hn.2 (by omega) (Int.le_refl _) (fun x x0 x1 => hb x x0 (by omega)) (fun q => by omega)
    have ht : tkS B n (tkA B n c) = (32, 0, n, n) := by
      unfold tkS
      rw [hr, if_pos (Int.le_refl _)]
    have hk : tK B n c = 32 := by unfold tK; rw [ht]
    have hp : tP B n c = n := by unfold tP; rw [ht]
    have hw : tW B n c = 0 := by unfold tW; rw [ht]
    obtain ⟨f1, f2⟩ := ctk_add (v := 0) hC (by omega) hk hp (fun q => hw.symm)
    unfold t_Tokens_scan_L120
    exact ⟨_, c, rfl, hF.trans f1, f2, hk, by omega, hl⟩
  intro m
  induction m with
  | zero =>
    intro fu c M a v g0 g1 g2 g3 g4 g5 g6 g7 hb hl h hC hF
    obtain ⟨g, rfl⟩ : ∃ g, fu = g + 1 := ⟨fu - 1, by omega⟩
    rw [t_Tokens_scan_L10]
    by_cases q : 700 ≤ v
    · rw [if_pos q]; exact fin c M a (by omega) g5 g6 g7 hb hl h hC hF
    · rw [if_neg q, if_pos (by omega)]; exact fin c M a (by omega) g5 g6 g7 hb hl h hC hF
  | succ m ih =>
    intro fu c M a v g0 g1 g2 g3 g4 g5 g6 g7 hb hl h hC hF
    obtain ⟨g, rfl⟩ : ∃ g, fu = g + 1 := ⟨fu - 1, by omega⟩
    have hn := h.1
    rw [t_Tokens_scan_L10]
    by_cases q : 700 ≤ v
    · rw [if_pos q]; exact fin c M a (by omega) g5 g6 g7 hb hl h hC hF
    rw [if_neg q]
    by_cases q2 : n ≤ a
    · rw [if_pos q2]; exact fin c M a (by omega) g5 g6 g7 hb hl h hC hF
    rw [if_neg q2]
    simp only [qlet]
    unfold t_Tokens_scan_L44 t_Tokens_scan_L109 t_Tokens_scan_L114
    rw [c_lk h (by omega) (by omega), w32_id (x := v + 1) (by unfold InR; omega), w32_id (x := a + 1) (by unfold InR; omega)]
    by_cases b : blB (B a) = true
    · have b' : B a = 10 ∨ B a = 32 := of_decide_eq_true b
      have nx := ih g c M (a + 1) (v + 1) (by omega) (by omega) (by omega) (by omega) (by omega) (by omega) (by omega) g7 (fun x x0 x1 => by
        by_cases e : x = a
        · rw [e]; exact b
        · exact hb x x0 (by omega)) hl h hC hF
      by_cases c10 : B a = 10
      · rw [if_pos c10]; exact nx
      · rw [if_neg c10, if_pos (by omega)]; exact nx
    · have bf : blB (B a) = false := by
        cases e : blB (B a) with
        | true => exact absurd e b
        | false => rfl
      have b' : ¬ (B a = 10 ∨ B a = 32) := of_decide_eq_false bf
      have hr : rnE blB B n (tkA B n c) = a := rnE_eq g7 hn.2 g6 g4 hb (fun _ => bf)
      have hB := (h.2 a (by omega) (by omega)).2
      -- one token, and on
      have step : ∀ (k w e v' : Int) (N : Mem), tkS B n (tkA B n c) = (k, w, a, e) → k ≠ 32 → a < e → e ≤ n → (k ≠ 33 → v' = w) → N = t_Tokens_add M k v' a → ∃ N' c', t_Tokens_scan_L10 1 700 n g N e (v + 1) = some N' ∧ Fr ScW M0 N' ∧ CTk N' B n (c' + 1) ∧ tK B n c' = 32 ∧ c' ≤ 700 ∧ (∀ i : Nat, i < c' → tK B n i ≠ 32) := by
        intro k w e v' N ht k32 ae en hv eN
        have hk : tK B n c = k := by unfold tK; rw [ht]
        have hp : tP B n c = a := by unfold tP; rw [ht]
        have hw : tW B n c = w := by unfold tW; rw [ht]
        have ha : tkA B n (c + 1) = e := by rw [tkA, ht]
        obtain ⟨f1, f2⟩ := ctk_add (v := v') hC (by omega) hk hp (fun z => by rw [hw]; exact hv z)
        rw [eN]
        refine ih g (c + 1) _ e (v + 1) (by omega) (by omega) (by omega) (by omega) en (by omega) (by omega) (by omega) (fun x x0 x1 => by omega) (fun i hi => ?_) (h.fr f1 (fun j z => by unfold ScW at z; omega)) f2 (hF.trans f1)
        by_cases z : i = c
        · rw [z, hk]; exact k32
        · exact hl i (by omega)
      rw [if_neg (fun z => b' (Or.inl z)), if_neg (fun z => b' (Or.inr z)), isLetter_eq, isDig_eq]
      cases c2 : ltB (B a) with
      | true =>
        rw [if_neg (show ¬ (if true = true then (1 : Int) else 0) = 0 by decide)]
        obtain ⟨l1, l2, l3⟩ := rnE_facts (p := ltB) (B := B) (n := n) (a := a) (by omega) (by omega) hn.2
        have lt : a < rnE ltB B n a := by
          by_cases z : rnE ltB B n a = a
          · have := l3 (by omega)
            rw [z, c2] at this
            cases this
          · omega
        obtain ⟨u, w1, w2, w3⟩ := c_scanWord h (p := a) (e := rnE ltB B n a) (by omega) lt l1.2 l2 l3
        rw [w1, obind_some]
        have hr2 := wd_rng B a (rnE ltB B n a - a) 25 0 rfl
        change -1 ≤ wordS B a (rnE ltB B n a - a) ∧ wordS B a (rnE ltB B n a - a) ≤ 24 at hr2
        by_cases c3 : 0 ≤ wordS B a (rnE ltB B n a - a)
        · rw [if_pos c3]
          exact step (wordS B a (rnE ltB B n a - a)) 0 (rnE ltB B n a) u _ (by unfold tkS; rw [hr, if_neg q2, c2, if_pos rfl, if_pos c3]) (by omega) lt l1.2 (fun z => w3 c3) rfl
        · rw [if_neg c3]
          by_cases c4 : rnE ltB B n a - a ≤ 6
          · rw [if_pos c4]
            exact step 30 (nvS B a (rnE ltB B n a) 6) (rnE ltB B n a) u _ (by unfold tkS; rw [hr, if_neg q2, c2, if_pos rfl, if_neg c3, if_pos c4]) (by omega) lt l1.2 (fun _ => w2 (by omega)) rfl
          · rw [if_neg c4]
            exact step 33 0 (rnE ltB B n a) u _ (by unfold tkS; rw [hr, if_neg q2, c2, if_pos rfl, if_neg c3, if_neg c4]) (by omega) lt l1.2 (fun z => absurd rfl z) rfl
      | false =>
        rw [if_pos (show (if false = true then (1 : Int) else 0) = 0 from rfl)]
        cases c3 : dgB (B a) with
        | true =>
          rw [if_neg (show ¬ (if true = true then (1 : Int) else 0) = 0 by decide)]
          obtain ⟨l1, l2, l3⟩ := rnE_facts (p := dgB) (B := B) (n := n) (a := a) (by omega) (by omega) hn.2
          have lt : a < rnE dgB B n a := by
            by_cases z : rnE dgB B n a = a
            · have := l3 (by omega)
              rw [z, c3] at this
              cases this
            · omega
          rw [c_scanNumber h (p := a) (e := rnE dgB B n a) (by omega) l1.1 l1.2 l2 l3, obind_some]
          exact step 31 (dvS B a (rnE dgB B n a - a).toNat) (rnE dgB B n a) _ _ (by unfold tkS; rw [hr, if_neg q2, c2, if_neg (by decide), c3, if_pos rfl]) (by omega) lt l1.2 (fun _ => rfl) rfl
        | false =>
          rw [if_pos (show (if false = true then (1 : Int) else 0) = 0 from rfl)]
          have hs := sgK_rng (B a) (if a + 1 < n then B (a + 1) else -1)
          have htwo := @sgK_two (B a) (if a + 1 < n then B (a + 1) else -1)
          have ht : tkS B n (tkA B n c) = (sgK (B a) (if a + 1 < n then B (a + 1) else -1), 0, a, a + sgL (sgK (B a) (if a + 1 < n then B (a + 1) else -1))) := by
            unfold tkS; rw [hr, if_neg q2, c2, if_neg (by decide), c3, if_neg (by decide)]
          have hL : ∀ k, 1 ≤ sgL k ∧ sgL k ≤ 2 ∧ (sgL k = 2 → k = 48 ∨ k = 50 ∨ k = 51) := fun k => by
            unfold sgL
            split
            · rename_i z; exact ⟨by omega, by omega, fun _ => z⟩
            · exact ⟨by omega, by omega, fun z => by omega⟩
          by_cases d : n ≤ a + 1
          · rw [if_pos d]
            rw [if_neg (show ¬ a + 1 < n by omega)] at ht hs htwo
            have hl2 := hL (sgK (B a) (-1))
            have : sgL (sgK (B a) (-1)) ≠ 2 := fun z => by have := htwo (hl2.2.2 z); omega
            rw [c_scanSign (by omega) (by omega)]
            exact step _ 0 _ 0 _ ht (by omega) (by omega) (by omega) (fun z => rfl) rfl
          · rw [if_neg d, c_lk h (by omega) (by omega)]
            rw [if_pos (show a + 1 < n by omega)] at ht hs htwo
            have hl2 := hL (sgK (B a) (B (a + 1)))
            rw [c_scanSign (by omega) (by omega)]
            exact step _ 0 _ 0 _ ht (by omega) (by omega) (by omega) (fun z => rfl) rfl
/-- tokens that are read -/
def Lv (B : Int → Int) (n : Int) (i : Nat) : Prop := ∀ j : Nat, j < i → tK B n j ≠ 32
theorem Lv.zero {B : Int → Int} {n : Int} : Lv B n 0 := fun j hj => by omega
theorem Lv.succ {B : Int → Int} {n : Int} {i : Nat} (h : Lv B n i) (k : tK B n i ≠ 32) : Lv B n (i + 1) := fun j hj => by
  by_cases e : j = i
  · rw [e]; exact k
  · exact h j (by omega)
theorem Lv.le {B : Int → Int} {n : Int} {i : Nat} (h : Lv B n i) (hn : 0 ≤ n ∧ n ≤ 700) : (i : Int) ≤ n := by
  by_cases c : (i : Int) ≤ n
  · exact c
  · exact absurd (tK_end (B := B) hn.1 hn.2 (i := n.toNat) (by omega)) (h n.toNat (by omega))
/-- the class's tokens -/
def TBl (M : Mem) (B : Int → Int) (n : Int) : Prop := (0 ≤ n ∧ n ≤ 700) ∧ ∀ i : Nat, Lv B n i → M.1 43 (i : Int) = tK B n i ∧ M.1 45 (i : Int) = tP B n i ∧ (tK B n i ≠ 33 → M.1 44 (i : Int) = tW B n i)
theorem TBl.fr {W : Nat → Int → Prop} {M N : Mem} {B : Int → Int} {n : Int} (h : TBl M B n) (hF : Fr W M N) (hd : ∀ k j, 43 ≤ k → k ≤ 45 → ¬ W k j) : TBl N B n := ⟨h.1, fun i hi => by
  rw [(hF 43 _ (hd _ _ (by omega) (by omega))).1, (hF 44 _ (hd _ _ (by omega) (by omega))).1, (hF 45 _ (hd _ _ (by omega) (by omega))).1]
  exact h.2 i hi⟩
theorem c_scan {M : Mem} {B : Int → Int} {n : Int} (h : TpC M B n) : ∃ N, t_Tokens_scan M 1 700 n = some N ∧ Fr ScW M N ∧ TBl N B n := by
  have hn := h.1
  unfold t_Tokens_scan
  simp (config := { proj := false }) only [qlet]
  have f0 : Fr ScW M (setI M 42 3 0) := Fr.rf.setI (by unfold ScW; omega)
  obtain ⟨N, c, n1, n2, n3, n4, n5, n6⟩ := c_scan_L10 (M0 := M) (B := B) (n := n) n.toNat FU 0 (setI M 42 3 0) 0 0 (by omega) (fu_big (by omega)) (by omega) (by omega) (by omega) (by omega) (Int.le_refl _) (Int.le_refl _) (fun x x0 x1 => by rw [tkA] at x0; omega) (fun i hi => by omega) (h.fr f0 (fun j z => by unfold ScW at z; omega)) ⟨sI_self _ _ _ _, fun i hi => by omega⟩ f0
  refine ⟨N, n1, n2, hn, fun i hi => n3.2 i ?_⟩
  by_cases q : i < c + 1
  · exact q
  · exact absurd n4 (hi c (by omega))
end
section
/-! ===== how many bits a long has ===== -/
theorem and_sp {p q r s : Nat} (hp : p < 256) (hr : r < 256) : (p + 256 * q) &&& (r + 256 * s) = (p &&& r) + 256 * (q &&& s) := by
  have h1 : ((p + 256 * q) &&& (r + 256 * s)) % 2 ^ 8 = (p + 256 * q) % 2 ^ 8 &&& (r + 256 * s) % 2 ^ 8 := by first | exact Nat.and_mod_two_pow | exact Nat.and_mod_two_pow _ _ _ | simp [Nat.and_mod_two_pow]
  have h2 : ((p + 256 * q) &&& (r + 256 * s)) / 2 ^ 8 = (p + 256 * q) / 2 ^ 8 &&& (r + 256 * s) / 2 ^ 8 := by first | exact Nat.and_div_two_pow | exact Nat.and_div_two_pow _ _ _ | simp [Nat.and_div_two_pow]
  rw [show (p + 256 * q) % 2 ^ 8 = p by omega, show (r + 256 * s) % 2 ^ 8 = r by omega] at h1
  rw [show (p + 256 * q) / 2 ^ 8 = q by omega, show (r + 256 * s) / 2 ^ 8 = s by omega] at h2
  generalize (p + 256 * q) &&& (r + 256 * s) = z at *
  generalize p &&& r = y at *
  generalize q &&& s = x at *
  omega
def mkC (a : Nat) : Nat → Nat
  | 0 => 0
  | n + 1 => a + 256 * mkC a n
def bwC (f : Nat → Nat) : Nat → Nat → Nat
  | 0, _ => 0
  | n + 1, X => f (X % 256) + 256 * bwC f n (X / 256)
def g1C (b : Nat) : Nat := b - (b / 2 &&& 85)
def g2C (b : Nat) : Nat := (g1C b &&& 51) + (g1C b / 4 &&& 51)
def g3C (b : Nat) : Nat := (g2C b + g2C b / 16) &&& 15
def pcC (b : Nat) : Nat := b % 2 + b / 2 % 2 + b / 4 % 2 + b / 8 % 2 + b / 16 % 2 + b / 32 % 2 + b / 64 % 2 + b / 128 % 2
theorem byte1 : ∀ b : Nat, b < 256 → ∀ e : Nat, e < 2 → (b / 2 + 128 * e) &&& 85 = b / 2 &&& 85 := by decide +kernel
theorem byte1b : ∀ b : Nat, b < 256 → (b / 2 &&& 85) ≤ b ∧ g1C b < 256 ∧ g2C b ≤ 68 ∧ g2C b % 16 ≤ 4 ∧ g3C b = pcC b := by decide +kernel
theorem byte2 : ∀ c : Nat, c < 256 → ∀ e : Nat, e < 4 → (c / 4 + 64 * e) &&& 51 = c / 4 &&& 51 := by decide +kernel
theorem byte3 : ∀ d : Nat, d < 69 → ∀ e : Nat, e < 5 → (d + d / 16 + 16 * e) &&& 15 = (d + d / 16) &&& 15 := by decide +kernel
theorem st1C : ∀ (n X : Nat), X < 256 ^ n → X - (X / 2 &&& mkC 85 n) = bwC g1C n X := by
  intro n
  induction n with
  | zero =>
    intro X h
    have : X = 0 := by rw [Nat.pow_zero] at h; omega
    subst this
    rfl
  | succ n ih =>
    intro X h
    rw [Nat.pow_succ] at h
    have hX : X = X % 256 + 256 * (X / 256) := by omega
    have hb : X % 256 < 256 := by omega
    have hY : X / 256 < 256 ^ n := by rw [Nat.div_lt_iff_lt_mul (by decide)]; exact h
    have e2 : X / 2 = (X % 256 / 2 + 128 * (X / 256 % 2)) + 256 * (X / 256 / 2) := by omega
    rw [bwC, ← ih _ hY, mkC, e2, and_sp (by omega) (by decide), byte1 _ hb _ (by omega)]
    have q := (byte1b _ hb).1
    have l2 : X / 256 / 2 &&& mkC 85 n ≤ X / 256 / 2 := Nat.and_le_left
    unfold g1C
    generalize X % 256 / 2 &&& 85 = u at *
    generalize X / 256 / 2 &&& mkC 85 n = w at *
    omega
theorem st2C : ∀ (n X : Nat), (bwC g1C n X &&& mkC 51 n) + (bwC g1C n X / 4 &&& mkC 51 n) = bwC g2C n X := by
  intro n
  induction n with
  | zero => intro X; simp [bwC, mkC]
  | succ n ih =>
    intro X
    have hb : X % 256 < 256 := by omega
    obtain ⟨-, q1, -⟩ := byte1b _ hb
    have i := ih (X / 256)
    rw [bwC, bwC, mkC, ← i]
    unfold g2C
    generalize g1C (X % 256) = c at *
    generalize bwC g1C n (X / 256) = Y at *
    have e4 : (c + 256 * Y) / 4 = (c / 4 + 64 * (Y % 4)) + 256 * (Y / 4) := by omega
    rw [e4, and_sp q1 (by decide), and_sp (by omega) (by decide), byte2 c q1 _ (by omega)]
    generalize c &&& 51 = u at *
    generalize c / 4 &&& 51 = w at *
    generalize Y &&& mkC 51 n = u2 at *
    generalize Y / 4 &&& mkC 51 n = w2 at *
    omega
theorem bw_low : ∀ (n X : Nat), bwC g2C n X % 16 ≤ 4 := by
  intro n X
  cases n with
  | zero => exact Nat.zero_le _
  | succ n =>
    have := (byte1b (X % 256) (by omega)).2.2.2.1
    rw [bwC]
    omega
theorem st3C : ∀ (n X : Nat), (bwC g2C n X + bwC g2C n X / 16) &&& mkC 15 n = bwC g3C n X := by
  intro n
  induction n with
  | zero => intro X; simp [bwC, mkC]
  | succ n ih =>
    intro X
    have hb : X % 256 < 256 := by omega
    obtain ⟨-, -, q2, -, -⟩ := byte1b _ hb
    have i := ih (X / 256)
    have lw := bw_low n (X / 256)
    rw [bwC, bwC, mkC, ← i]
    unfold g3C
    generalize g2C (X % 256) = d at *
    generalize bwC g2C n (X / 256) = Y at *
    have e : (d + 256 * Y) + (d + 256 * Y) / 16 = (d + d / 16 + 16 * (Y % 16)) + 256 * (Y + Y / 16) := by omega
    rw [e, and_sp (by omega) (by decide), byte3 d (by omega) _ (by omega)]
def nL (x : Int64) : Nat := x.toBitVec.toNat
theorem nL_lt (x : Int64) : nL x < 2 ^ 64 := x.toBitVec.isLt
theorem nL_sh (x : Int64) {k : Int} (h0 : 0 ≤ k) (h1 : k < 64) : nL (q_lushr x k) = nL x / 2 ^ k.toNat := by
  unfold nL
  rw [lushr_bv h0 h1, BitVec.toNat_ushiftRight, Nat.shiftRight_eq_div_pow]
theorem nL_and (x y : Int64) : nL (x &&& y) = nL x &&& nL y := by
  unfold nL
  rw [Int64.toBitVec_and, BitVec.toNat_and]
theorem nL_add (x y : Int64) (h : nL x + nL y < 2 ^ 64) : nL (x + y) = nL x + nL y := by
  unfold nL at *
  rw [Int64.toBitVec_add, BitVec.toNat_add, Nat.mod_eq_of_lt h]
theorem nL_sub (x y : Int64) (h : nL y ≤ nL x) : nL (x - y) = nL x - nL y := by
  have hx := nL_lt x
  unfold nL at *
  rw [Int64.toBitVec_sub, BitVec.toNat_sub]
  omega
def cntT (x : Int64) : Nat → Int
  | 0 => 0
  | n + 1 => cntT x n + (if tb x (n : Int) = true then 1 else 0)
theorem tb_nat (x : Int64) (n : Nat) : (if tb x (n : Int) = true then (1 : Int) else 0) = ((nL x / 2 ^ n % 2 : Nat) : Int) := by
  have e : tb x (n : Int) = decide (nL x / 2 ^ n % 2 = 1) := by
    unfold tb nL
    show x.toBitVec.toNat.testBit (n : Int).toNat = _
    rw [Int.toNat_natCast, Nat.testBit_eq_decide_div_mod_eq]
  rw [e]
  by_cases c : nL x / 2 ^ n % 2 = 1
  · rw [decide_eq_true c, if_pos rfl, c]; rfl
  · rw [decide_eq_false c, if_neg (by decide), show nL x / 2 ^ n % 2 = 0 by omega]; rfl
theorem cnt_8 (x : Int64) (n : Nat) : cntT x (n + 8) = cntT x n + ((pcC (nL x / 2 ^ n % 256) : Nat) : Int) := by
  have s : ∀ j : Nat, nL x / 2 ^ (n + j) = nL x / 2 ^ n / 2 ^ j := fun j => by rw [Nat.pow_add, Nat.div_div_eq_div_mul]
  have t : ∀ j : Nat, cntT x (n + (j + 1)) = cntT x (n + j) + ((nL x / 2 ^ n / 2 ^ j % 2 : Nat) : Int) := fun j => by
    rw [show n + (j + 1) = (n + j) + 1 by omega, cntT, tb_nat, s]
  have t0 := t 0; have t1 := t 1; have t2 := t 2; have t3 := t 3; have t4 := t 4; have t5 := t 5; have t6 := t 6; have t7 := t 7
  unfold pcC
  generalize nL x / 2 ^ n = Y at *
  have e0 : Y % 256 % 2 = Y / 1 % 2 := by omega
  have e1 : Y % 256 / 2 % 2 = Y / 2 % 2 := by omega
  have e2 : Y % 256 / 4 % 2 = Y / 4 % 2 := by omega
  have e3 : Y % 256 / 8 % 2 = Y / 8 % 2 := by omega
  have e4 : Y % 256 / 16 % 2 = Y / 16 % 2 := by omega
  have e5 : Y % 256 / 32 % 2 = Y / 32 % 2 := by omega
  have e6 : Y % 256 / 64 % 2 = Y / 64 % 2 := by omega
  have e7 : Y % 256 / 128 % 2 = Y / 128 % 2 := by omega
  rw [e0, e1, e2, e3, e4, e5, e6, e7]
  clear e0 e1 e2 e3 e4 e5 e6 e7 s t
  simp only [Nat.zero_add, Nat.add_zero, Nat.reduceAdd, Nat.reducePow] at t0 t1 t2 t3 t4 t5 t6 t7
  generalize Y / 1 % 2 = u0 at *
  generalize Y / 2 % 2 = u1 at *
  generalize Y / 4 % 2 = u2 at *
  generalize Y / 8 % 2 = u3 at *
  generalize Y / 16 % 2 = u4 at *
  generalize Y / 32 % 2 = u5 at *
  generalize Y / 64 % 2 = u6 at *
  generalize Y / 128 % 2 = u7 at *
  rw [t7, t6, t5, t4, t3, t2, t1, t0]
  push_cast
  omega
theorem dv1 {a Z : Nat} (ha : a < 256) : (a + 256 * Z) / 256 = Z := by omega
theorem dv2 {a b Z : Nat} (ha : a < 256) (hb : b < 256) : (a + 256 * (b + 256 * Z)) / 65536 = Z := by omega
theorem dv4 {a b c d Z : Nat} (ha : a < 256) (hb : b < 256) (hc : c < 256) (hd : d < 256) : (a + 256 * (b + 256 * (c + 256 * (d + 256 * Z)))) / 4294967296 = Z := by
  have e : (a + 256 * (b + 256 * (c + 256 * (d + 256 * Z)))) / 4294967296 = (a + 256 * (b + 256 * (c + 256 * (d + 256 * Z)))) / 65536 / 65536 := by rw [Nat.div_div_eq_div_mul]
  rw [e, dv2 ha hb, dv2 hc hd]
theorem sm7 (r0 r1 r2 r3 r4 r5 r6 r7 : Nat) : (r0 + 256 * (r1 + 256 * (r2 + 256 * (r3 + 256 * (r4 + 256 * (r5 + 256 * (r6 + 256 * r7))))))) + (r1 + 256 * (r2 + 256 * (r3 + 256 * (r4 + 256 * (r5 + 256 * (r6 + 256 * r7)))))) = (r0 + r1) + 256 * ((r1 + r2) + 256 * ((r2 + r3) + 256 * ((r3 + r4) + 256 * ((r4 + r5) + 256 * ((r5 + r6) + 256 * ((r6 + r7) + 256 * r7)))))) := by omega
theorem sm6 (r0 r1 r2 r3 r4 r5 r6 r7 : Nat) : (r0 + 256 * (r1 + 256 * (r2 + 256 * (r3 + 256 * (r4 + 256 * (r5 + 256 * (r6 + 256 * r7))))))) + (r2 + 256 * (r3 + 256 * (r4 + 256 * (r5 + 256 * (r6 + 256 * r7))))) = (r0 + r2) + 256 * ((r1 + r3) + 256 * ((r2 + r4) + 256 * ((r3 + r5) + 256 * ((r4 + r6) + 256 * ((r5 + r7) + 256 * (r6 + 256 * r7)))))) := by omega
theorem sm4 (r0 r1 r2 r3 r4 r5 r6 r7 : Nat) : (r0 + 256 * (r1 + 256 * (r2 + 256 * (r3 + 256 * (r4 + 256 * (r5 + 256 * (r6 + 256 * r7))))))) + (r4 + 256 * (r5 + 256 * (r6 + 256 * r7))) = (r0 + r4) + 256 * ((r1 + r5) + 256 * ((r2 + r6) + 256 * ((r3 + r7) + 256 * (r4 + 256 * (r5 + 256 * (r6 + 256 * r7)))))) := by omega
theorem md1 {a Z : Nat} (ha : a < 128) : (a + 256 * Z) % 128 = a := by omega
theorem bcK : nL 6148914691236517205 = mkC 85 8 ∧ nL 3689348814741910323 = mkC 51 8 ∧ nL 1085102592571150095 = mkC 15 8 ∧ (256 : Nat) ^ 8 = 2 ^ 64 ∧ mkC 1 8 = 72340172838076673 ∧ 68 * mkC 1 8 < 2 ^ 63 := by decide +kernel
theorem bw_bd (f : Nat → Nat) (m : Nat) (hf : ∀ b, b < 256 → f b ≤ m) : ∀ n X, bwC f n X ≤ m * mkC 1 n := by
  intro n
  induction n with
  | zero => intro X; exact Nat.zero_le _
  | succ n ih =>
    intro X
    have a := hf (X % 256) (Nat.mod_lt _ (by decide))
    have b := ih (X / 256)
    rw [bwC, mkC, Nat.mul_add, Nat.mul_one, Nat.mul_left_comm]
    generalize f (X % 256) = u at *
    generalize bwC f n (X / 256) = v at *
    generalize m * mkC 1 n = w at *
    omega
theorem bcL1 (x : Int64) : nL (x - ((q_lushr x 1) &&& 6148914691236517205)) = bwC g1C 8 (nL x) := by
  have e : nL ((q_lushr x 1) &&& 6148914691236517205) = nL x / 2 &&& mkC 85 8 := by rw [nL_and, nL_sh x (by decide) (by decide), bcK.1]; rfl
  have l : nL x / 2 &&& mkC 85 8 ≤ nL x := Nat.le_trans Nat.and_le_left (Nat.div_le_self _ _)
  rw [nL_sub _ _ (by rw [e]; exact l), e]
  exact st1C 8 _ (by rw [bcK.2.2.2.1]; exact nL_lt x)
theorem bcL2 (y : Int64) (X : Nat) (ny : nL y = bwC g1C 8 X) : nL ((y &&& 3689348814741910323) + ((q_lushr y 2) &&& 3689348814741910323)) = bwC g2C 8 X := by
  have e1 : nL (y &&& 3689348814741910323) = bwC g1C 8 X &&& mkC 51 8 := by rw [nL_and, ny, bcK.2.1]
  have e2 : nL ((q_lushr y 2) &&& 3689348814741910323) = bwC g1C 8 X / 4 &&& mkC 51 8 := by rw [nL_and, nL_sh y (by decide) (by decide), ny, bcK.2.1]; rfl
  have b2 := bw_bd g2C 68 (fun b hb => (byte1b b hb).2.2.1) 8 X
  have s2 := st2C 8 X
  have h64 : bwC g2C 8 X < 2 ^ 64 := Nat.lt_of_le_of_lt b2 (Nat.lt_trans bcK.2.2.2.2.2 (by decide))
  rw [nL_add _ _ (by rw [e1, e2, s2]; exact h64), e1, e2, s2]
theorem bcL3 (z : Int64) (X : Nat) (nz : nL z = bwC g2C 8 X) : nL ((z + (q_lushr z 4)) &&& 1085102592571150095) = bwC g3C 8 X := by
  have b2 := bw_bd g2C 68 (fun b hb => (byte1b b hb).2.2.1) 8 X
  have b3 := Nat.lt_of_le_of_lt b2 bcK.2.2.2.2.2
  have e1 : nL (q_lushr z 4) = bwC g2C 8 X / 16 := by rw [nL_sh z (by decide) (by decide), nz]; rfl
  have hs : nL z + nL (q_lushr z 4) < 2 ^ 64 := by
    rw [e1, nz]
    generalize bwC g2C 8 X = Z at *
    clear b2 e1 nz
    have : Z / 16 ≤ Z := Nat.div_le_self _ _
    generalize Z / 16 = Y at *
    omega
  rw [nL_and, nL_add _ _ hs, e1, nz, bcK.2.2.1]
  exact st3C 8 X
theorem bcU (X : Nat) (g3 : ∀ k : Nat, k < 256 → g3C k = pcC k) : bwC g3C 8 X = pcC (X % 256) + 256 * (pcC (X / 256 % 256) + 256 * (pcC (X / 65536 % 256) + 256 * (pcC (X / 16777216 % 256) + 256 * (pcC (X / 4294967296 % 256) + 256 * (pcC (X / 1099511627776 % 256) + 256 * (pcC (X / 281474976710656 % 256) + 256 * pcC (X / 72057594037927936 % 256))))))) := by
  have m : ∀ k : Nat, k % 256 < 256 := fun k => Nat.mod_lt _ (by decide)
  have d : ∀ a b c : Nat, a * b = c → X / a / b = X / c := fun a b c h => by rw [Nat.div_div_eq_div_mul, h]
  rw [bwC, bwC, bwC, bwC, bwC, bwC, bwC, bwC, bwC, d 256 256 65536 (by decide), d 65536 256 16777216 (by decide), d 16777216 256 4294967296 (by decide), d 4294967296 256 1099511627776 (by decide), d 1099511627776 256 281474976710656 (by decide), d 281474976710656 256 72057594037927936 (by decide), g3 _ (m _), g3 _ (m _), g3 _ (m _), g3 _ (m _), g3 _ (m _), g3 _ (m _), g3 _ (m _), g3 _ (m _), Nat.mul_zero, Nat.add_zero]
theorem bcA (w3 : Int64) : q_and (q_l2i w3) 127 = ((nL w3 % 128 : Nat) : Int) := by
  unfold q_and q_l2i nL
  rw [q_of_toInt, ← Int32.toInt_toBitVec, Int32.toBitVec_and]
  rw [Int64.toBitVec_toInt32, BitVec.signExtend_eq_setWidth_of_le _ (by decide)]
  show (w3.toBitVec.setWidth 32 &&& 127#32).toInt = _
  have e1 : (w3.toBitVec.setWidth 32 &&& 127#32).toNat = w3.toBitVec.toNat % 128 := by
    rw [BitVec.toNat_and, BitVec.toNat_setWidth]
    show (w3.toBitVec.toNat % 2 ^ 32) &&& (2 ^ 7 - 1) = _
    rw [Nat.and_two_pow_sub_one_eq_mod]
    omega
  rw [BitVec.toInt_eq_toNat_of_lt (by rw [e1]; omega), e1]
theorem bcE (M : Mem) (x : Int64) : ∃ y z w w1 w2 w3 : Int64, y = x - ((q_lushr x 1) &&& 6148914691236517205) ∧ z = (y &&& 3689348814741910323) + ((q_lushr y 2) &&& 3689348814741910323) ∧ w = (z + (q_lushr z 4)) &&& 1085102592571150095 ∧ w1 = w + q_lushr w 8 ∧ w2 = w1 + q_lushr w1 16 ∧ w3 = w2 + q_lushr w2 32 ∧ t_Long_bitCount M x = q_and (q_l2i w3) 127 := by
  refine ⟨_, _, _, _, _, _, rfl, rfl, rfl, rfl, rfl, rfl, ?_⟩
  unfold t_Long_bitCount
  simp only [qlet]
theorem bcF {r0 r1 r2 r3 r4 r5 r6 r7 a a1 a2 a3 : Nat} (f0 : r0 ≤ 8) (f1 : r1 ≤ 8) (f2 : r2 ≤ 8) (f3 : r3 ≤ 8) (f4 : r4 ≤ 8) (f5 : r5 ≤ 8) (f6 : r6 ≤ 8) (f7 : r7 ≤ 8) (ha : a = r0 + 256 * (r1 + 256 * (r2 + 256 * (r3 + 256 * (r4 + 256 * (r5 + 256 * (r6 + 256 * r7))))))) (h1 : a1 = a + a / 256) (h2 : a2 = a1 + a1 / 65536) (h3 : a3 = a2 + a2 / 4294967296) : a3 % 128 = r0 + r1 + r2 + r3 + r4 + r5 + r6 + r7 := by
  rw [ha, dv1 (by omega), sm7] at h1
  clear ha
  rw [h1, dv2 (by omega) (by omega), sm6] at h2
  clear h1
  rw [h2, dv4 (by omega) (by omega) (by omega) (by omega), sm4] at h3
  clear h2
  rw [h3, md1 (by omega)]
  omega
theorem bcS (x : Int64) : cntT x 64 = ((pcC (nL x % 256) + pcC (nL x / 256 % 256) + pcC (nL x / 65536 % 256) + pcC (nL x / 16777216 % 256) + pcC (nL x / 4294967296 % 256) + pcC (nL x / 1099511627776 % 256) + pcC (nL x / 281474976710656 % 256) + pcC (nL x / 72057594037927936 % 256) : Nat) : Int) := by
  have z0 : cntT x 0 = 0 := rfl
  have c0 := cnt_8 x 0
  have c1 := cnt_8 x 8
  have c2 := cnt_8 x 16
  have c3 := cnt_8 x 24
  have c4 := cnt_8 x 32
  have c5 := cnt_8 x 40
  have c6 := cnt_8 x 48
  have c7 := cnt_8 x 56
  rw [show 0 + 8 = 8 from rfl, z0, show nL x / 2 ^ 0 = nL x from Nat.div_one _] at c0
  rw [show 8 + 8 = 16 from rfl, c0, show (2 : Nat) ^ 8 = 256 by decide] at c1
  rw [show 16 + 8 = 24 from rfl, c1, show (2 : Nat) ^ 16 = 65536 by decide] at c2
  rw [show 24 + 8 = 32 from rfl, c2, show (2 : Nat) ^ 24 = 16777216 by decide] at c3
  rw [show 32 + 8 = 40 from rfl, c3, show (2 : Nat) ^ 32 = 4294967296 by decide] at c4
  rw [show 40 + 8 = 48 from rfl, c4, show (2 : Nat) ^ 40 = 1099511627776 by decide] at c5
  rw [show 48 + 8 = 56 from rfl, c5, show (2 : Nat) ^ 48 = 281474976710656 by decide] at c6
  rw [show 56 + 8 = 64 from rfl, c6, show (2 : Nat) ^ 56 = 72057594037927936 by decide] at c7
  rw [c7]
  generalize pcC (nL x % 256) = r0
  generalize pcC (nL x / 256 % 256) = r1
  generalize pcC (nL x / 65536 % 256) = r2
  generalize pcC (nL x / 16777216 % 256) = r3
  generalize pcC (nL x / 4294967296 % 256) = r4
  generalize pcC (nL x / 1099511627776 % 256) = r5
  generalize pcC (nL x / 281474976710656 % 256) = r6
  generalize pcC (nL x / 72057594037927936 % 256) = r7
  clear c0 c1 c2 c3 c4 c5 c6 c7 z0
  omega
theorem bitCount_eq (M : Mem) (x : Int64) : t_Long_bitCount M x = cntT x 64 := by
  obtain ⟨y, z, w, w1, w2, w3, hy, hz, hw, hw1, hw2, hw3, et⟩ := bcE M x
  have nw : nL w = bwC g3C 8 (nL x) := by rw [hw]; exact bcL3 z _ (by rw [hz]; exact bcL2 y _ (by rw [hy]; exact bcL1 x))
  have g3 : ∀ k : Nat, k < 256 → g3C k = pcC k := fun k hk => (byte1b k hk).2.2.2.2
  have pf : ∀ k : Nat, pcC k ≤ 8 := fun k => by unfold pcC; omega
  rw [bcU _ g3] at nw
  have f0 := pf (nL x % 256)
  have f1 := pf (nL x / 256 % 256)
  have f2 := pf (nL x / 65536 % 256)
  have f3 := pf (nL x / 16777216 % 256)
  have f4 := pf (nL x / 4294967296 % 256)
  have f5 := pf (nL x / 1099511627776 % 256)
  have f6 := pf (nL x / 281474976710656 % 256)
  have f7 := pf (nL x / 72057594037927936 % 256)
  rw [et, bcA, bcS]
  clear et pf g3 hy hz hw
  have e1 : nL (q_lushr w 8) = nL w / 256 := by rw [nL_sh w (by decide) (by decide)]; rfl
  have e2 : nL (q_lushr w1 16) = nL w1 / 65536 := by rw [nL_sh w1 (by decide) (by decide)]; rfl
  have e3 : nL (q_lushr w2 32) = nL w2 / 4294967296 := by rw [nL_sh w2 (by decide) (by decide)]; rfl
  generalize pcC (nL x % 256) = r0 at *
  generalize pcC (nL x / 256 % 256) = r1 at *
  generalize pcC (nL x / 65536 % 256) = r2 at *
  generalize pcC (nL x / 16777216 % 256) = r3 at *
  generalize pcC (nL x / 4294967296 % 256) = r4 at *
  generalize pcC (nL x / 1099511627776 % 256) = r5 at *
  generalize pcC (nL x / 281474976710656 % 256) = r6 at *
  generalize pcC (nL x / 72057594037927936 % 256) = r7 at *
  have b0 : nL w ≤ 578721382704613384 := by rw [nw]; omega
  have n1 : nL w1 = nL w + nL w / 256 := by
    rw [hw1, nL_add _ _ (by rw [e1]; clear nw; omega), e1]
  have b1 : nL w1 ≤ 600000000000000000 := by clear nw; omega
  have n2 : nL w2 = nL w1 + nL w1 / 65536 := by
    rw [hw2, nL_add _ _ (by rw [e2]; clear nw; omega), e2]
  have b2 : nL w2 ≤ 700000000000000000 := by clear nw; omega
  have n3 : nL w3 = nL w2 + nL w2 / 4294967296 := by
    rw [hw3, nL_add _ _ (by rw [e3]; clear nw; omega), e3]
  rw [bcF f0 f1 f2 f3 f4 f5 f6 f7 nw n1 n2 n3]
theorem cnt_zero : ∀ n : Nat, cntT 0 n = 0 := by
  intro n
  induction n with
  | zero => rfl
  | succ n ih => rw [cntT, ih, tb_zero, if_neg (by decide)]; rfl
theorem cnt_set {x : Int64} {i : Int} (h0 : 0 ≤ i) (h1 : i < 64) (hx : tb x i = false) : ∀ n : Nat, n ≤ 64 → cntT (x ||| q_lshl 1 i) n = cntT x n + (if i < (n : Int) then 1 else 0) := by
  intro n
  induction n with
  | zero => intro _; rw [cntT, cntT, if_neg (by omega)]; rfl
  | succ n ih =>
    intro hn
    rw [cntT, cntT, ih (by omega), tb_or x h0 h1 (by omega) (by omega)]
    by_cases c : (n : Int) = i
    · rw [← c] at hx ⊢
      rw [hx, decide_eq_true rfl, if_neg (show ¬ (n : Int) < (n : Int) by omega), if_pos (show (false || true) = true from rfl), if_neg (show ¬ false = true by decide), if_pos (show (n : Int) < ((n + 1 : Nat) : Int) by omega)]
    · rw [decide_eq_false c, Bool.or_false]
      by_cases d : i < (n : Int)
      · rw [if_pos d, if_pos (show i < ((n + 1 : Nat) : Int) by omega)]; omega
      · rw [if_neg d, if_neg (show ¬ i < ((n + 1 : Nat) : Int) by omega)]; omega
theorem cnt_rng (x : Int64) : ∀ n : Nat, 0 ≤ cntT x n ∧ cntT x n ≤ (n : Int) := by
  intro n
  induction n with
  | zero => exact ⟨Int.le_refl _, Int.le_refl _⟩
  | succ n ih => rw [cntT]; split <;> omega
theorem cnt_none {x : Int64} : ∀ {n : Nat}, cntT x n = 0 → ∀ i : Nat, i < n → tb x (i : Int) = false := by
  intro n
  induction n with
  | zero => intro _ i hi; omega
  | succ n ih =>
    intro h i hi
    rw [cntT] at h
    have := cnt_rng x n
    by_cases c : tb x (n : Int) = true
    · rw [if_pos c] at h; omega
    · rw [if_neg c] at h
      by_cases e : i = n
      · rw [e]
        cases z : tb x (n : Int) with
        | true => exact absurd z c
        | false => rfl
      · exact ih (by omega) i (by omega)
theorem tb_ext {x y : Int64} (h : ∀ i : Nat, i < 64 → tb x (i : Int) = tb y (i : Int)) : x = y := by
  apply Int64.toBitVec_inj.mp
  apply BitVec.eq_of_getLsbD_eq
  intro i hi
  have := h i hi
  unfold tb at this
  rw [Int.toNat_natCast] at this
  exact this
theorem cnt_eq0 {x : Int64} : cntT x 64 = 0 ↔ x = 0 := ⟨fun h => tb_ext (fun i hi => by rw [cnt_none h i hi, tb_zero]), fun h => by rw [h]; exact cnt_zero 64⟩
/-- nothing behind n: counting on adds nothing -/
theorem cnt_more {x : Int64} {n : Nat} : ∀ {m : Nat}, n ≤ m → (∀ i : Nat, n ≤ i → i < m → tb x (i : Int) = false) → cntT x m = cntT x n := by
  intro m
  induction m with
  | zero => intro h _; rw [show n = 0 by omega]
  | succ m ih =>
    intro h g
    by_cases e : n = m + 1
    · rw [e]
    · rw [cntT, g m (by omega) (by omega), if_neg (by decide), ih (by omega) (fun i a b => g i a (by omega))]; omega
end
section
/-! ===== the class's formula machine, purely: it answers as exG ===== -/
def stF (k : Int) : Int := if k = 15 then 1 else if k = 16 then 2 else if k = 43 ∨ k = 44 then 5 else if k = 45 ∨ k = 46 then 6 else if 47 ≤ k ∧ k ≤ 52 then 4 else 0
def bdF (p : Int) : Int := if p = 17 then 3 else stF p
def rlF (s : Int) : List (Int × Int) → List Int → List (Int × Int) × List Int
  | out, [] => (out, [])
  | out, p :: ws => if bdF p < s then (out, p :: ws) else rlF s (out ++ [(p, 0)]) ws
def tpF : List Int → Int
  | [] => 0
  | p :: _ => bdF p
/-- token, counted, put, waiting, open, compared, wants, may not -/
abbrev FSt : Type := Nat × Int × List (Int × Int) × List Int × Int × (Int → Bool) × Bool × Bool
def cz (cm : Int → Bool) (o : Int) (b : Bool) : Int → Bool := fun x => if x = o then b else cm x
theorem cz_self (cm : Int → Bool) (o : Int) (b : Bool) : cz cm o b o = b := if_pos rfl
theorem cz_ne {cm : Int → Bool} {o x : Int} (b : Bool) (h : ¬ x = o) : cz cm o b x = cm x := if_neg h
def sF (K W : Nat → Int) (i : Nat) (c : Int) (out : List (Int × Int)) (ws : List Int) (o : Int) (cm : Int → Bool) (wp mn : Bool) : Sum ER FSt :=
  if wp = true then
    (if K i = 41 then (if o = 8 then Sum.inl (2, i, 0, []) else Sum.inr (i + 1, c, out, 41 :: ws, o + 1, cz cm (o + 1) false, true, true))
     else if K i = 17 ∧ mn = true then (if c = 64 then Sum.inl (2, i, 0, []) else Sum.inr (i + 1, c + 1, out, 17 :: ws, o, cm, true, mn))
     else if K i = 31 ∨ (18 ≤ K i ∧ K i ≤ 24) then (if c = 64 ∨ (K i = 31 ∧ 9999 < W i) then Sum.inl (2, i, 0, []) else Sum.inr (i + 1, c + 1, out ++ [(K i, W i)], ws, o, cm, false, mn))
     else Sum.inl (1, i, 0, []))
  else if K i = 40 ∧ o = 0 then Sum.inl (0, i, c, (rlF 1 out ws).1)
  else if K i = 42 then (if o = 0 then Sum.inl (1, i, 0, []) else Sum.inr (i + 1, c, (rlF 1 out ws).1, (rlF 1 out ws).2.tail, o - 1, cm, false, mn))
  else if stF (K i) = 0 ∨ (stF (K i) = 4 ∧ cm o = true) then Sum.inl (1, i, 0, [])
  else if c = 64 then Sum.inl (2, i, 0, [])
  else Sum.inr (i + 1, c + 1, (rlF (stF (K i)) out ws).1, K i :: (rlF (stF (K i)) out ws).2, o, (if stF (K i) = 4 then cz cm o true else if stF (K i) < 4 then cz cm o false else cm), true, decide (stF (K i) < 4))
def rnF (K W : Nat → Int) : Nat → FSt → Option ER
  | 0, _ => none
  | f + 1, s => match sF K W s.1 s.2.1 s.2.2.1 s.2.2.2.1 s.2.2.2.2.1 s.2.2.2.2.2.1 s.2.2.2.2.2.2.1 s.2.2.2.2.2.2.2 with
    | Sum.inl r => some r
    | Sum.inr t => rnF K W f t
def RnF (K W : Nat → Int) (s : FSt) (r : ER) : Prop := ∃ f, rnF K W f s = some r
section FM
variable {K W : Nat → Int} {i : Nat} {c : Int} {out : List (Int × Int)} {ws : List Int} {o : Int} {cm : Int → Bool} {mn wp : Bool}
theorem sF_w : sF K W i c out ws o cm true mn = (if K i = 41 then (if o = 8 then Sum.inl (2, i, 0, []) else Sum.inr (i + 1, c, out, 41 :: ws, o + 1, cz cm (o + 1) false, true, true))
     else if K i = 17 ∧ mn = true then (if c = 64 then Sum.inl (2, i, 0, []) else Sum.inr (i + 1, c + 1, out, 17 :: ws, o, cm, true, mn))
     else if K i = 31 ∨ (18 ≤ K i ∧ K i ≤ 24) then (if c = 64 ∨ (K i = 31 ∧ 9999 < W i) then Sum.inl (2, i, 0, []) else Sum.inr (i + 1, c + 1, out ++ [(K i, W i)], ws, o, cm, false, mn))
     else Sum.inl (1, i, 0, [])) := if_pos rfl
theorem sF_s : sF K W i c out ws o cm false mn = (if K i = 40 ∧ o = 0 then Sum.inl (0, i, c, (rlF 1 out ws).1)
  else if K i = 42 then (if o = 0 then Sum.inl (1, i, 0, []) else Sum.inr (i + 1, c, (rlF 1 out ws).1, (rlF 1 out ws).2.tail, o - 1, cm, false, mn))
  else if stF (K i) = 0 ∨ (stF (K i) = 4 ∧ cm o = true) then Sum.inl (1, i, 0, [])
  else if c = 64 then Sum.inl (2, i, 0, [])
  else Sum.inr (i + 1, c + 1, (rlF (stF (K i)) out ws).1, K i :: (rlF (stF (K i)) out ws).2, o, (if stF (K i) = 4 then cz cm o true else if stF (K i) < 4 then cz cm o false else cm), true, decide (stF (K i) < 4))) := if_neg (by decide)
theorem rnF_s (f : Nat) : rnF K W (f + 1) (i, c, out, ws, o, cm, wp, mn) = (match sF K W i c out ws o cm wp mn with
    | Sum.inl r => some r
    | Sum.inr t => rnF K W f t) := rfl
theorem RnF.fin {r : ER} (h : sF K W i c out ws o cm wp mn = Sum.inl r) : RnF K W (i, c, out, ws, o, cm, wp, mn) r := ⟨1, by rw [rnF_s, h]⟩
theorem RnF.nxt {r : ER} {t : FSt} (h : sF K W i c out ws o cm wp mn = Sum.inr t) (g : RnF K W t r) : RnF K W (i, c, out, ws, o, cm, wp, mn) r := by
  obtain ⟨f, hf⟩ := g
  exact ⟨f + 1, by rw [rnF_s, h]; exact hf⟩
theorem stF_rng (k : Int) : stF k = 0 ∨ stF k = 1 ∨ stF k = 2 ∨ stF k = 4 ∨ stF k = 5 ∨ stF k = 6 := by
  unfold stF
  repeat (first | omega | split)
theorem stF_4 {k : Int} : stF k = 4 ↔ 47 ≤ k ∧ k ≤ 52 := by
  unfold stF
  constructor
  · intro h
    repeat (first | omega | split at h)
  · intro h
    repeat (first | omega | split)
theorem stF_ne {k : Int} (h : stF k ≠ 0) : k ≠ 40 ∧ k ≠ 42 := ⟨fun e => h (by rw [e]; rfl), fun e => h (by rw [e]; rfl)⟩
theorem rl_no {s : Int} (h : tpF ws < s) : rlF s out ws = (out, ws) := by
  cases ws with
  | nil => rfl
  | cons p ws =>
    rw [rlF]
    exact if_pos h
theorem rl_one {s p : Int} (h : s ≤ bdF p) : rlF s out (p :: ws) = rlF s (out ++ [(p, 0)]) ws := by rw [rlF, if_neg (by omega)]
/-- what waits and binds as strongly may be put at once -/
theorem RnF.rel {p : Int} {r : ER} (h : RnF K W (i, c, out ++ [(p, 0)], ws, o, cm, false, mn) r) (hp : 1 ≤ bdF p) (hk : stF (K i) ≤ bdF p ∨ (stF (K i) = 4 ∧ cm o = true)) : RnF K W (i, c, out, p :: ws, o, cm, false, mn) r := by
  have e : sF K W i c out (p :: ws) o cm false mn = sF K W i c (out ++ [(p, 0)]) ws o cm false mn := by
    rw [sF_s, sF_s, rl_one hp]
    by_cases b : stF (K i) = 0 ∨ (stF (K i) = 4 ∧ cm o = true)
    · rw [if_pos b, if_pos b]
    · have hk' : stF (K i) ≤ bdF p := by
        rcases hk with q | q
        · exact q
        · exact absurd (Or.inr q) b
      rw [rl_one hk']
  obtain ⟨f, hf⟩ := h
  cases f with
  | zero => exact absurd hf (by rw [rnF]; exact fun q => by cases q)
  | succ f => exact ⟨f + 1, by rw [rnF_s, e]; rw [rnF_s] at hf; exact hf⟩
theorem sF_op (h0 : stF (K i) ≠ 0) (h4 : ¬ (stF (K i) = 4 ∧ cm o = true)) (hc : c ≠ 64) (ht : tpF ws < stF (K i)) : sF K W i c out ws o cm false mn = Sum.inr (i + 1, c + 1, out, K i :: ws, o, (if stF (K i) = 4 then cz cm o true else if stF (K i) < 4 then cz cm o false else cm), true, decide (stF (K i) < 4)) := by
  have n := stF_ne h0
  rw [sF_s, if_neg (fun q => n.1 q.1), if_neg n.2, if_neg (fun q => by rcases q with q | q; exact h0 q; exact h4 q), if_neg hc, rl_no ht]
theorem sF_op64 (h0 : stF (K i) ≠ 0) (h4 : ¬ (stF (K i) = 4 ∧ cm o = true)) (hc : c = 64) : sF K W i c out ws o cm false mn = Sum.inl (2, i, 0, []) := by
  have n := stF_ne h0
  rw [sF_s, if_neg (fun q => n.1 q.1), if_neg n.2, if_neg (fun q => by rcases q with q | q; exact h0 q; exact h4 q), if_pos hc]
end FM
def uB (nt : Nat) : Int := if nt = 0 then 0 else if nt = 1 then 1 else if nt = 2 then 2 else if nt = 3 then 4 else if nt = 4 then 5 else 6
def mB (nt : Nat) : Int := if nt = 0 then 1 else if nt = 1 then 2 else if nt = 2 then 4 else if nt = 3 then 5 else if nt = 4 then 6 else 7
def ECF (nt : Nat) (k : Int) (b : Bool) : Prop := stF k ≤ uB nt ∨ (nt ≤ 2 ∧ stF k = 4 ∧ b = true)
def SimP (K W : Nat → Int) (nt : Nat) (o : Int) (i : Nat) (c : Int) (r : ER) : Prop := ∀ (out : List (Int × Int)) (ws : List Int) (cm : Int → Bool) (mn : Bool), (nt ≤ 2 → mn = true ∧ cm o = false) → (3 ≤ nt → mn = true → K i ≠ 17) → tpF ws < mB nt →
  (r.1 ≠ 0 → RnF K W (i, c, out, ws, o, cm, true, mn) (r.1, r.2.1, 0, [])) ∧
  (r.1 = 0 → ∃ cm' mn', (∀ x, x < o → cm' x = cm x) ∧ (3 ≤ nt → cm' o = cm o) ∧ ECF nt (K r.2.1) (cm' o) ∧ ∀ res, RnF K W (r.2.1, r.2.2.1, out ++ r.2.2.2, ws, o, cm', false, mn') res → RnF K W (i, c, out, ws, o, cm, true, mn) res)
abbrev nt4 (nt : Nat) : Prop := nt = 0 ∨ nt = 1 ∨ nt = 3 ∨ nt = 4
theorem op_st {nt : Nat} {k : Int} (h : nt4 nt) : opK nt k = true ↔ stF k = mB nt := by
  rcases h with rfl | rfl | rfl | rfl
  · show decide (k = 15) = true ↔ stF k = 1
    rw [decide_eq_true_iff]
    unfold stF
    exact ⟨fun e => by repeat (first | omega | split), fun e => by repeat (first | omega | split at e)⟩
  · show decide (k = 16) = true ↔ stF k = 2
    rw [decide_eq_true_iff]
    unfold stF
    exact ⟨fun e => by repeat (first | omega | split), fun e => by repeat (first | omega | split at e)⟩
  · show decide (k = 43 ∨ k = 44) = true ↔ stF k = 5
    rw [decide_eq_true_iff]
    unfold stF
    exact ⟨fun e => by repeat (first | omega | split), fun e => by repeat (first | omega | split at e)⟩
  · show decide (k = 45 ∨ k = 46) = true ↔ stF k = 6
    rw [decide_eq_true_iff]
    unfold stF
    exact ⟨fun e => by repeat (first | omega | split), fun e => by repeat (first | omega | split at e)⟩
theorem mB_facts {nt : Nat} (h : nt4 nt) : mB nt < mB (nt + 1) ∧ mB nt ≠ 0 ∧ mB nt ≠ 4 ∧ 1 ≤ mB nt ∧ mB nt ≤ 6 ∧ uB (nt + 1) = mB nt ∧ (nt ≤ 1 ↔ mB nt < 4) := by
  rcases h with rfl | rfl | rfl | rfl <;> decide
theorem ECF_stop {nt : Nat} {k : Int} {b : Bool} (h : nt4 nt) (e : ECF (nt + 1) k b) (n : ¬ stF k = mB nt) : ECF nt k b := by
  have r := stF_rng k
  unfold ECF at *
  rcases e with e | e
  · left
    have := (mB_facts h).2.2.2.2.2.1
    rcases h with rfl | rfl | rfl | rfl
    · change stF k ≤ 1 at e; change ¬ stF k = 1 at n; show stF k ≤ 0; omega
    · change stF k ≤ 2 at e; change ¬ stF k = 2 at n; show stF k ≤ 1; omega
    · change stF k ≤ 5 at e; change ¬ stF k = 5 at n; show stF k ≤ 4; omega
    · change stF k ≤ 6 at e; change ¬ stF k = 6 at n; show stF k ≤ 5; omega
  · exact Or.inr ⟨by omega, e.2⟩
theorem simL {K W : Nat → Int} {nt : Nat} {o : Int} {rc : Nat → Int → Option ER} (h4 : nt4 nt) (hrc : ∀ i c r, rc i c = some r → SimP K W (nt + 1) o i c r) : ∀ (fu i : Nat) (c : Int) (ol : List (Int × Int)) (r : ER), exL K (opK nt) rc fu i c ol = some r → ∀ (out : List (Int × Int)) (ws : List Int) (cm : Int → Bool) (mn : Bool), tpF ws < mB nt → ECF (nt + 1) (K i) (cm o) →
    (r.1 ≠ 0 → RnF K W (i, c, out ++ ol, ws, o, cm, false, mn) (r.1, r.2.1, 0, [])) ∧
    (r.1 = 0 → ∃ cm' mn', (∀ x, x < o → cm' x = cm x) ∧ (3 ≤ nt → cm' o = cm o) ∧ ECF nt (K r.2.1) (cm' o) ∧ ∀ res, RnF K W (r.2.1, r.2.2.1, out ++ r.2.2.2, ws, o, cm', false, mn') res → RnF K W (i, c, out ++ ol, ws, o, cm, false, mn) res) := by
  obtain ⟨b1, b2, b3, b4, b5, b6, b7⟩ := mB_facts h4
  intro fu
  induction fu with
  | zero => intro i c ol r h; rw [exL] at h; cases h
  | succ fu ih =>
    intro i c ol r h out ws cm mn g3 gE
    rw [exL] at h
    by_cases p : opK nt (K i) = true
    · rw [if_pos p] at h
      have ps := (op_st h4).mp p
      have q0 : stF (K i) ≠ 0 := by rw [ps]; exact b2
      have q4 : ¬ (stF (K i) = 4 ∧ cm o = true) := fun q => b3 (by rw [← ps]; exact q.1)
      by_cases c64 : c = 64
      · rw [if_pos c64] at h
        have e := Option.some.inj h
        subst e
        exact ⟨fun _ => RnF.fin (sF_op64 q0 q4 c64), fun q => absurd q (show ¬ (2 : Int) = 0 by decide)⟩
      · rw [if_neg c64] at h
        have st := sF_op (W := W) (out := out ++ ol) (mn := mn) q0 q4 c64 (by rw [ps]; exact g3)
        cases e : rc (i + 1) (c + 1) with
        | none => rw [e] at h; cases h
        | some r1 =>
          rw [e] at h
          change (if r1.1 = 0 then exL K (opK nt) rc fu r1.2.1 r1.2.2.1 (ol ++ r1.2.2.2 ++ [(K i, 0)]) else some r1) = some r at h
          obtain ⟨cm1, hcm1⟩ : ∃ cm1, cm1 = (if stF (K i) = 4 then cz cm o true else if stF (K i) < 4 then cz cm o false else cm) := ⟨_, rfl⟩
          rw [← hcm1] at st
          rw [ps, if_neg b3] at hcm1
          have cx : ∀ x, x < o → cm1 x = cm x := by
            intro x hx
            rw [hcm1]
            split
            · exact cz_ne _ (by omega)
            · rfl
          have c3 : 3 ≤ nt → cm1 o = cm o := by
            intro hx
            rw [hcm1, if_neg (fun z => by have := b7.mpr z; omega)]
          have bd : bdF (K i) = mB nt := by
            unfold bdF
            rw [if_neg (fun z => by rw [z] at ps; exact b2 (by rw [← ps]; rfl)), ps]
          obtain ⟨s1, s2⟩ := hrc (i + 1) (c + 1) r1 e (out ++ ol) (K i :: ws) cm1 (decide (stF (K i) < 4)) (fun z => by
            have := b7.mp (by omega)
            refine ⟨decide_eq_true (by omega), ?_⟩
            rw [hcm1, if_pos this]
            exact cz_self _ _ _) (fun z z2 => by
            have z3 := of_decide_eq_true z2
            have := b7.mpr (by omega)
            omega) (by show bdF (K i) < _; rw [bd]; exact b1)
          by_cases z : r1.1 = 0
          · rw [if_pos z] at h
            obtain ⟨cm2, mn2, t1, t2, t3, t4⟩ := s2 z
            have rl : ∀ res, RnF K W (r1.2.1, r1.2.2.1, out ++ (ol ++ r1.2.2.2 ++ [(K i, 0)]), ws, o, cm2, false, mn2) res → RnF K W (i, c, out ++ ol, ws, o, cm, false, mn) res := by
              intro res hr
              refine RnF.nxt st (t4 res (RnF.rel ?_ (by rw [bd]; exact b4) ?_))
              · rw [List.append_assoc, List.append_assoc]
                rw [List.append_assoc] at hr
                exact hr
              · rw [bd, ← b6]
                rcases t3 with t3 | t3
                · exact Or.inl t3
                · exact Or.inr t3.2
            obtain ⟨u1, u2⟩ := ih r1.2.1 r1.2.2.1 _ r h out ws cm2 mn2 g3 t3
            refine ⟨fun q => rl _ (u1 q), fun q => ?_⟩
            obtain ⟨cm3, mn3, v1, v2, v3, v4⟩ := u2 q
            exact ⟨cm3, mn3, fun x hx => ((v1 x hx).trans (t1 x hx)).trans (cx x hx), fun hx => ((v2 hx).trans (t2 (by omega))).trans (c3 hx), v3, fun res hr => rl res (v4 res hr)⟩
          · rw [if_neg z] at h
            have e2 := Option.some.inj h
            subst e2
            exact ⟨fun q => RnF.nxt st (s1 z), fun q => absurd q z⟩
    · rw [if_neg p] at h
      have e := Option.some.inj h
      subst e
      exact ⟨fun q => absurd rfl q, fun _ => ⟨cm, mn, fun x hx => rfl, fun _ => rfl, ECF_stop h4 gE (fun q => p ((op_st h4).mpr q)), fun res hr => hr⟩⟩
theorem simF {K W : Nat → Int} (hW : ∀ i, 18 ≤ K i → K i ≤ 24 → W i = 0) : ∀ (d nt : Nat) (o : Int) (i : Nat) (c : Int) (r : ER), nt ≤ 5 → 0 ≤ o → exG K W d nt o i c = some r → SimP K W nt o i c r := by
  intro d
  induction d with
  | zero => intro nt o i c r _ _ h; rw [exG] at h; cases h
  | succ d ih =>
    intro nt o i c r hn ho h
    rw [exG] at h
    by_cases n2 : nt = 2
    · subst n2
      rw [if_pos rfl] at h
      intro out ws cm mn g1 g2 g3
      obtain ⟨hmn, hcm⟩ := g1 (by omega)
      subst hmn
      have g3' : tpF ws < 4 := g3
      by_cases k17 : K i = 17
      · rw [if_pos k17] at h
        by_cases c64 : c = 64
        · rw [if_pos c64] at h
          have e := Option.some.inj h
          subst e
          exact ⟨fun _ => RnF.fin (by rw [sF_w, if_neg (by omega), if_pos ⟨k17, rfl⟩, if_pos c64]), fun q => absurd q (show ¬ (2 : Int) = 0 by decide)⟩
        · rw [if_neg c64] at h
          have st : sF K W i c out ws o cm true true = Sum.inr (i + 1, c + 1, out, 17 :: ws, o, cm, true, true) := by rw [sF_w, if_neg (by omega), if_pos ⟨k17, rfl⟩, if_neg c64]
          cases e : exG K W d 2 o (i + 1) (c + 1) with
          | none => rw [e] at h; cases h
          | some r1 =>
            rw [e] at h
            change (if r1.1 = 0 then some (0, r1.2.1, r1.2.2.1, r1.2.2.2 ++ [(17, 0)]) else some r1) = some r at h
            obtain ⟨s1, s2⟩ := ih 2 o (i + 1) (c + 1) r1 (by omega) ho e out (17 :: ws) cm true (fun _ => ⟨rfl, hcm⟩) (fun q => by omega) (by show (3 : Int) < 4; decide)
            by_cases z : r1.1 = 0
            · rw [if_pos z] at h
              have e2 := Option.some.inj h
              subst e2
              obtain ⟨cm', mn', t1, t2, t3, t4⟩ := s2 z
              refine ⟨fun q => absurd rfl q, fun _ => ⟨cm', mn', t1, t2, t3, fun res hr => RnF.nxt st (t4 res (RnF.rel ?_ (by decide) ?_))⟩⟩
              · rw [List.append_assoc]; exact hr
              · rcases t3 with t3 | t3
                · left
                  change stF (K r1.2.1) ≤ 2 at t3
                  show stF (K r1.2.1) ≤ 3
                  omega
                · exact Or.inr t3.2
            · rw [if_neg z] at h
              have e2 := Option.some.inj h
              subst e2
              exact ⟨fun q => RnF.nxt st (s1 z), fun q => absurd q z⟩
      · rw [if_neg k17] at h
        cases e : exG K W d 3 o i c with
        | none => rw [e] at h; cases h
        | some r1 =>
          rw [e] at h
          change (if r1.1 = 0 ∧ 47 ≤ K r1.2.1 ∧ K r1.2.1 ≤ 52 then (if r1.2.2.1 = 64 then some (2, r1.2.1, r1.2.2.1, r1.2.2.2) else (exG K W d 3 o (r1.2.1 + 1) (r1.2.2.1 + 1)).bind (fun r3 => if r3.1 = 0 then some (0, r3.2.1, r3.2.2.1, r1.2.2.2 ++ r3.2.2.2 ++ [(K r1.2.1, 0)]) else some r3)) else some r1) = some r at h
          obtain ⟨s1, s2⟩ := ih 3 o i c r1 (by omega) ho e out ws cm true (fun q => by omega) (fun _ _ => k17) (by show tpF ws < 5; omega)
          by_cases z : r1.1 = 0 ∧ 47 ≤ K r1.2.1 ∧ K r1.2.1 ≤ 52
          · rw [if_pos z] at h
            obtain ⟨cm', mn', t1, t2, t3, t4⟩ := s2 z.1
            have cmo : cm' o = false := (t2 (by omega)).trans hcm
            have s4 := stF_4.mpr z.2
            have q0 : stF (K r1.2.1) ≠ 0 := by omega
            have q4 : ¬ (stF (K r1.2.1) = 4 ∧ cm' o = true) := fun q => by rw [cmo] at q; exact absurd q.2 (by decide)
            by_cases c64 : r1.2.2.1 = 64
            · rw [if_pos c64] at h
              have e2 := Option.some.inj h
              subst e2
              exact ⟨fun _ => t4 _ (RnF.fin (sF_op64 q0 q4 c64)), fun q => absurd q (show ¬ (2 : Int) = 0 by decide)⟩
            · rw [if_neg c64] at h
              have st := sF_op (W := W) (out := out ++ r1.2.2.2) (mn := mn') q0 q4 c64 (ws := ws) (by omega)
              rw [s4, if_pos rfl] at st
              have bd : bdF (K r1.2.1) = 4 := by
                unfold bdF
                rw [if_neg (by omega), s4]
              cases e3 : exG K W d 3 o (r1.2.1 + 1) (r1.2.2.1 + 1) with
              | none => rw [e3] at h; cases h
              | some r3 =>
                rw [e3] at h
                change (if r3.1 = 0 then some (0, r3.2.1, r3.2.2.1, r1.2.2.2 ++ r3.2.2.2 ++ [(K r1.2.1, 0)]) else some r3) = some r at h
                obtain ⟨u1, u2⟩ := ih 3 o (r1.2.1 + 1) (r1.2.2.1 + 1) r3 (by omega) ho e3 (out ++ r1.2.2.2) (K r1.2.1 :: ws) (cz cm' o true) (decide ((4 : Int) < 4)) (fun q => by omega) (fun _ q => absurd q (by decide)) (by show bdF (K r1.2.1) < 5; omega)
                by_cases z3 : r3.1 = 0
                · rw [if_pos z3] at h
                  have e2 := Option.some.inj h
                  subst e2
                  obtain ⟨cm3, mn3, v1, v2, v3, v4⟩ := u2 z3
                  have cm3o : cm3 o = true := (v2 (by omega)).trans (cz_self _ _ _)
                  have st3 : stF (K r3.2.1) ≤ 4 := by
                    rcases v3 with v3 | v3
                    · exact v3
                    · omega
                  have sr := stF_rng (K r3.2.1)
                  refine ⟨fun q => absurd rfl q, fun _ => ⟨cm3, mn3, fun x hx => ((v1 x hx).trans (cz_ne _ (by omega))).trans (t1 x hx), fun q => by omega, ?_, fun res hr => t4 res (RnF.nxt st (v4 res (RnF.rel ?_ (by omega) (Or.inl (by omega)))))⟩⟩
                  · show ECF 2 (K r3.2.1) (cm3 o)
                    by_cases y : stF (K r3.2.1) = 4
                    · exact Or.inr ⟨by omega, y, cm3o⟩
                    · exact Or.inl (by show stF (K r3.2.1) ≤ 2; omega)
                  · rw [List.append_assoc, List.append_assoc]
                    rw [List.append_assoc] at hr
                    exact hr
                · rw [if_neg z3] at h
                  have e2 := Option.some.inj h
                  subst e2
                  exact ⟨fun q => t4 _ (RnF.nxt st (u1 z3)), fun q => absurd q z3⟩
          · rw [if_neg z] at h
            have e2 := Option.some.inj h
            subst e2
            refine ⟨s1, fun q => ?_⟩
            obtain ⟨cm', mn', t1, t2, t3, t4⟩ := s2 q
            refine ⟨cm', mn', t1, fun y => by omega, ?_, t4⟩
            have sr := stF_rng (K r1.2.1)
            have n4 : ¬ stF (K r1.2.1) = 4 := fun y => z ⟨q, stF_4.mp y⟩
            left
            rcases t3 with t3 | t3
            · change stF (K r1.2.1) ≤ 4 at t3
              show stF (K r1.2.1) ≤ 2
              omega
            · omega
    · rw [if_neg n2] at h
      by_cases n5 : nt = 5
      · subst n5
        rw [if_pos rfl] at h
        intro out ws cm mn g1 g2 g3
        have g2' := g2 (by omega)
        by_cases k41 : K i = 41
        · rw [if_pos k41] at h
          by_cases o8 : o = 8
          · rw [if_pos o8] at h
            have e := Option.some.inj h
            subst e
            exact ⟨fun _ => RnF.fin (by rw [sF_w, if_pos k41, if_pos o8]), fun q => absurd q (show ¬ (2 : Int) = 0 by decide)⟩
          · rw [if_neg o8] at h
            have st : sF K W i c out ws o cm true mn = Sum.inr (i + 1, c, out, 41 :: ws, o + 1, cz cm (o + 1) false, true, true) := by rw [sF_w, if_pos k41, if_neg o8]
            cases e : exG K W d 0 (o + 1) (i + 1) c with
            | none => rw [e] at h; cases h
            | some r1 =>
              rw [e] at h
              change (if r1.1 = 0 then (if K r1.2.1 = 42 then some (0, r1.2.1 + 1, r1.2.2.1, r1.2.2.2) else some (1, r1.2.1, r1.2.2.1, r1.2.2.2)) else some r1) = some r at h
              obtain ⟨s1, s2⟩ := ih 0 (o + 1) (i + 1) c r1 (by omega) (by omega) e out (41 :: ws) (cz cm (o + 1) false) true (fun _ => ⟨rfl, cz_self _ _ _⟩) (fun q => by omega) (by show bdF 41 < 1; decide)
              by_cases z : r1.1 = 0
              · rw [if_pos z] at h
                obtain ⟨cm', mn', t1, t2, t3, t4⟩ := s2 z
                have sr := stF_rng (K r1.2.1)
                by_cases k42 : K r1.2.1 = 42
                · rw [if_pos k42] at h
                  have e2 := Option.some.inj h
                  subst e2
                  refine ⟨fun q => absurd rfl q, fun _ => ⟨cm', mn', fun x hx => (t1 x (by omega)).trans (cz_ne _ (by omega)), fun _ => (t1 o (by omega)).trans (cz_ne _ (by omega)), Or.inl (by have := stF_rng (K (r1.2.1 + 1)); show stF (K (r1.2.1 + 1)) ≤ 6; omega), fun res hr => RnF.nxt st (t4 res (RnF.nxt (t := (r1.2.1 + 1, r1.2.2.1, out ++ r1.2.2.2, ws, o, cm', false, mn')) ?_ hr))⟩⟩
                  rw [sF_s, if_neg (fun q => by omega), if_pos k42, if_neg (by omega), rl_no (by show bdF 41 < 1; decide), show o + 1 - 1 = o by omega]
                  rfl
                · rw [if_neg k42] at h
                  have e2 := Option.some.inj h
                  subst e2
                  refine ⟨fun _ => RnF.nxt st (t4 _ (RnF.fin ?_)), fun q => absurd q (show ¬ (1 : Int) = 0 by decide)⟩
                  rw [sF_s, if_neg (fun q => by omega), if_neg k42, if_pos]
                  rcases t3 with t3 | t3
                  · left
                    change stF (K r1.2.1) ≤ 0 at t3
                    omega
                  · exact Or.inr t3.2
              · rw [if_neg z] at h
                have e2 := Option.some.inj h
                subst e2
                exact ⟨fun q => RnF.nxt st (s1 z), fun q => absurd q z⟩
        · rw [if_neg k41] at h
          have n17 : ¬ (K i = 17 ∧ mn = true) := fun q => g2' q.2 q.1
          by_cases k31 : K i = 31
          · rw [if_pos k31] at h
            by_cases w9 : 9999 < W i
            · rw [if_pos w9] at h
              have e := Option.some.inj h
              subst e
              exact ⟨fun _ => RnF.fin (by rw [sF_w, if_neg k41, if_neg n17, if_pos (Or.inl k31), if_pos (Or.inr ⟨k31, w9⟩)]), fun q => absurd q (show ¬ (2 : Int) = 0 by decide)⟩
            · rw [if_neg w9] at h
              by_cases c64 : c = 64
              · rw [if_pos c64] at h
                have e := Option.some.inj h
                subst e
                exact ⟨fun _ => RnF.fin (by rw [sF_w, if_neg k41, if_neg n17, if_pos (Or.inl k31), if_pos (Or.inl c64)]), fun q => absurd q (show ¬ (2 : Int) = 0 by decide)⟩
              · rw [if_neg c64] at h
                have e := Option.some.inj h
                subst e
                have sr := stF_rng (K (i + 1))
                refine ⟨fun q => absurd rfl q, fun _ => ⟨cm, mn, fun x hx => rfl, fun _ => rfl, Or.inl (by show stF (K (i + 1)) ≤ 6; omega), fun res hr => RnF.nxt (t := (i + 1, c + 1, out ++ [(K i, W i)], ws, o, cm, false, mn)) (by rw [sF_w, if_neg k41, if_neg n17, if_pos (Or.inl k31), if_neg (fun q => by rcases q with q | q; exact c64 q; exact w9 q.2)]) ?_⟩⟩
                rw [k31]
                exact hr
          · rw [if_neg k31] at h
            by_cases k18 : 18 ≤ K i ∧ K i ≤ 24
            · rw [if_pos k18] at h
              by_cases c64 : c = 64
              · rw [if_pos c64] at h
                have e := Option.some.inj h
                subst e
                exact ⟨fun _ => RnF.fin (by rw [sF_w, if_neg k41, if_neg n17, if_pos (Or.inr k18), if_pos (Or.inl c64)]), fun q => absurd q (show ¬ (2 : Int) = 0 by decide)⟩
              · rw [if_neg c64] at h
                have e := Option.some.inj h
                subst e
                have sr := stF_rng (K (i + 1))
                refine ⟨fun q => absurd rfl q, fun _ => ⟨cm, mn, fun x hx => rfl, fun _ => rfl, Or.inl (by show stF (K (i + 1)) ≤ 6; omega), fun res hr => RnF.nxt (t := (i + 1, c + 1, out ++ [(K i, W i)], ws, o, cm, false, mn)) (by rw [sF_w, if_neg k41, if_neg n17, if_pos (Or.inr k18), if_neg (fun q => by rcases q with q | q; exact c64 q; exact k31 q.1)]) ?_⟩⟩
                rw [hW i k18.1 k18.2]
                exact hr
            · rw [if_neg k18] at h
              have e := Option.some.inj h
              subst e
              exact ⟨fun _ => RnF.fin (by rw [sF_w, if_neg k41, if_neg n17, if_neg (fun q => by rcases q with q | q; exact k31 q; exact k18 q)]), fun q => absurd q (show ¬ (1 : Int) = 0 by decide)⟩
      · rw [if_neg n5] at h
        have h4 : nt4 nt := by unfold nt4; omega
        obtain ⟨b1, b2, b3, b4, b5, b6, b7⟩ := mB_facts h4
        intro out ws cm mn g1 g2 g3
        cases e : exG K W d (nt + 1) o i c with
        | none => rw [e] at h; cases h
        | some r1 =>
          rw [e] at h
          change (if r1.1 = 0 then exL K (opK nt) (fun i' c' => exG K W d (nt + 1) o i' c') FU r1.2.1 r1.2.2.1 r1.2.2.2 else some r1) = some r at h
          obtain ⟨s1, s2⟩ := ih (nt + 1) o i c r1 (by omega) ho e out ws cm mn (fun q => g1 (by omega)) (fun q => g2 (by unfold nt4 at h4; omega)) (by omega)
          by_cases z : r1.1 = 0
          · rw [if_pos z] at h
            obtain ⟨cm', mn', t1, t2, t3, t4⟩ := s2 z
            obtain ⟨u1, u2⟩ := simL h4 (fun i' c' r' hr => ih (nt + 1) o i' c' r' (by omega) ho hr) FU r1.2.1 r1.2.2.1 r1.2.2.2 r h out ws cm' mn' g3 t3
            refine ⟨fun q => t4 _ (u1 q), fun q => ?_⟩
            obtain ⟨cm3, mn3, v1, v2, v3, v4⟩ := u2 q
            exact ⟨cm3, mn3, fun x hx => (v1 x hx).trans (t1 x hx), fun hx => (v2 hx).trans (t2 (by omega)), v3, fun res hr => t4 res (v4 res hr)⟩
          · rw [if_neg z] at h
            have e2 := Option.some.inj h
            subst e2
            exact ⟨fun q => s1 z, fun q => absurd q z⟩
/-- the whole machine -/
theorem mach {K W : Nat → Int} (hW : ∀ i, 18 ≤ K i → K i ≤ 24 → W i = 0) {d i : Nat} {c : Int} {r : ER} (h : exG K W d 0 0 i c = some r) (cm : Int → Bool) (hcm : cm 0 = false) :
    (r.1 ≠ 0 → RnF K W (i, c, [], [], 0, cm, true, true) (r.1, r.2.1, 0, [])) ∧
    (r.1 = 0 → K r.2.1 = 40 → RnF K W (i, c, [], [], 0, cm, true, true) (0, r.2.1, r.2.2.1, r.2.2.2)) ∧
    (r.1 = 0 → K r.2.1 ≠ 40 → RnF K W (i, c, [], [], 0, cm, true, true) (1, r.2.1, 0, [])) := by
  obtain ⟨s1, s2⟩ := simF hW d 0 0 i c r (by omega) (by omega) h [] [] cm true (fun _ => ⟨rfl, hcm⟩) (fun q => by omega) (by show (0 : Int) < 1; decide)
  refine ⟨s1, fun z k => ?_, fun z k => ?_⟩
  · obtain ⟨cm', mn', t1, t2, t3, t4⟩ := s2 z
    exact t4 _ (RnF.fin (by rw [sF_s, if_pos ⟨k, rfl⟩]; rfl))
  · obtain ⟨cm', mn', t1, t2, t3, t4⟩ := s2 z
    have sr := stF_rng (K r.2.1)
    refine t4 _ (RnF.fin ?_)
    rw [sF_s, if_neg (fun q => k q.1)]
    by_cases k42 : K r.2.1 = 42
    · rw [if_pos k42, if_pos rfl]
    · rw [if_neg k42, if_pos]
      rcases t3 with t3 | t3
      · left
        change stF (K r.2.1) ≤ 0 at t3
        omega
      · exact Or.inr t3.2
/-- steps go token by token -/
theorem sF_next {K W : Nat → Int} {i : Nat} {c : Int} {out : List (Int × Int)} {ws : List Int} {o : Int} {cm : Int → Bool} {wp mn : Bool} {t : FSt} (h : sF K W i c out ws o cm wp mn = Sum.inr t) : t.1 = i + 1 ∧ K i ≠ 32 := by
  cases wp with
  | true =>
    rw [sF_w] at h
    (repeat' (split at h)) <;> first | (cases h; exact ⟨rfl, by omega⟩) | cases h
  | false =>
    rw [sF_s] at h
    by_cases k : K i = 32
    · rw [k, if_neg (fun q => absurd q.1 (by decide)), if_neg (by decide), if_pos (show stF 32 = 0 ∨ (stF 32 = 4 ∧ cm o = true) from Or.inl rfl)] at h
      cases h
    · (repeat' (split at h)) <;> first | (cases h; exact ⟨rfl, k⟩) | cases h
theorem rnF_fuel {K W : Nat → Int} {T : Nat} (hT : K T = 32) : ∀ (f g : Nat) (s : FSt) (r : ER), s.1 ≤ T → T + 1 ≤ g + s.1 → rnF K W f s = some r → rnF K W g s = some r := by
  intro f
  induction f with
  | zero => intro g s r _ _ h; rw [rnF] at h; cases h
  | succ f ih =>
    intro g s r h1 h2 h
    obtain ⟨g', rfl⟩ : ∃ g', g = g' + 1 := ⟨g - 1, by omega⟩
    rw [rnF] at h ⊢
    cases e : sF K W s.1 s.2.1 s.2.2.1 s.2.2.2.1 s.2.2.2.2.1 s.2.2.2.2.2.1 s.2.2.2.2.2.2.1 s.2.2.2.2.2.2.2 with
    | inl r1 => rw [e] at h; exact h
    | inr t =>
      rw [e] at h
      obtain ⟨n1, n2⟩ := sF_next e
      have : s.1 ≠ T := fun q => n2 (by rw [q]; exact hT)
      exact ih g' t r (by omega) (by omega) h
end
