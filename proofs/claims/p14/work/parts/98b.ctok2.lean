/-! ===== tokens: the class's side, all of them ===== -/
theorem c_scanWord_L6 {M : Mem} {B : Int → Int} {n p e : Int} (h : TpC M B n) (p0 : 0 ≤ p) (pe : p < e) (en : e ≤ n) (hl : ∀ x, p ≤ x → x < e → ltB (B x) = true) (he : e < n → ltB (B e) = false) : ∀ (m k fu : Nat), p + (k : Int) + (m : Int) = e → m < fu → t_Tokens_scanWord_L6 1 700 p n fu M (lwV B p e k) (p + (k : Int)) = t_Tokens_scanWord_L64 1 700 p n M (nvS B p e 6) e := by
  have hn := h.1
  intro m
  induction m with
  | zero =>
    intro k fu g0 g1
    obtain ⟨g, rfl⟩ : ∃ g, fu = g + 1 := ⟨fu - 1, by omega⟩
    have e0 : p + (k : Int) = e := by omega
    rw [lw_end e0, e0, t_Tokens_scanWord_L6]
    by_cases c : n ≤ e
    · rw [if_pos c]
    · rw [if_neg c]
      simp only [qlet]
      rw [c_lk h (by omega) (by omega), isLetter_eq, he (by omega), if_pos (show (if false = true then (1 : Int) else 0) = 0 from rfl)]
  | succ m ih =>
    intro k fu g0 g1
    obtain ⟨g, rfl⟩ : ∃ g, fu = g + 1 := ⟨fu - 1, by omega⟩
    have nx := ih (k + 1) g (by omega) (by omega)
    rw [show p + ((k + 1 : Nat) : Int) = p + (k : Int) + 1 by omega] at nx
    rw [t_Tokens_scanWord_L6, if_neg (by omega)]
    simp only [qlet]
    unfold t_Tokens_scanWord_L58
    rw [c_lk h (by omega) (by omega), isLetter_eq, hl _ (by omega) (by omega), if_neg (show ¬ (if true = true then (1 : Int) else 0) = 0 by decide), w32_id (x := p + (k : Int) - p) (by unfold InR; omega), w32_id (x := p + (k : Int) + 1) (by unfold InR; omega)]
    have hB := (h.2 (p + (k : Int)) (by omega) (by omega)).2
    by_cases c : 6 ≤ p + (k : Int) - p
    · rw [if_pos c]
      rw [show lwV B p e k = lwV B p e (k + 1) by
        unfold lwV
        by_cases q : k = 6
        · subst q; rw [if_pos (by omega), if_neg (by omega)]; show nvS B p e 6 * 1 = _; omega
        · rw [if_neg (by omega), if_neg (by omega)]]
      exact nx
    · rw [if_neg c, w32_id (x := B (p + (k : Int)) - 97) (by unfold InR; omega), w32_id (x := B (p + (k : Int)) - 97 + 1) (by unfold InR; omega), show p + (k : Int) - p = (k : Int) by omega, w32_id (x := 5 - (k : Int)) (by unfold InR; omega), w32_id (x := 5 * (5 - (k : Int))) (by unfold InR; omega), show B (p + (k : Int)) - 97 + 1 = B (p + (k : Int)) - 96 by omega, lw_step hl (by omega) (by omega)]
      exact nx
theorem c_scanWord {M : Mem} {B : Int → Int} {n p e : Int} (h : TpC M B n) (p0 : 0 ≤ p) (pe : p < e) (en : e ≤ n) (hl : ∀ x, p ≤ x → x < e → ltB (B x) = true) (he : e < n → ltB (B e) = false) : ∃ v, t_Tokens_scanWord M 1 700 p n = some (t_Tokens_add M (if 0 ≤ wordS B p (e - p) then wordS B p (e - p) else if e - p ≤ 6 then 30 else 33) v p, e) ∧ (wordS B p (e - p) < 0 → v = nvS B p e 6) ∧ (0 ≤ wordS B p (e - p) → v = 0) := by
  have hn := h.1
  have hw := c_scanWord_L6 h p0 pe en hl he (e - p).toNat 0 FU (by omega) (fu_big (by omega))
  have l0 : lwV B p e 0 = 0 := by show nvS B p e 0 * 1073741824 = 0; rw [nvS]; rfl
  rw [l0, show p + ((0 : Nat) : Int) = p by omega] at hw
  unfold t_Tokens_scanWord
  rw [hw]
  unfold t_Tokens_scanWord_L64
  rw [w32_id (x := e - p) (by unfold InR; omega), c_wordOf h p0 (by omega) (by omega), obind_some]
  unfold t_Tokens_scanWord_L108
  simp only [qlet]
  by_cases c : wordS B p (e - p) < 0
  · rw [if_pos c, if_neg (show ¬ 0 ≤ wordS B p (e - p) by omega)]
    by_cases d : e - p ≤ 6
    · rw [if_pos d, if_pos d]; exact ⟨_, rfl, fun _ => rfl, fun q => by omega⟩
    · rw [if_neg d, if_neg d]; exact ⟨_, rfl, fun _ => rfl, fun q => by omega⟩
  · rw [if_neg c, if_pos (show 0 ≤ wordS B p (e - p) by omega)]
    exact ⟨_, rfl, fun q => absurd q c, fun _ => rfl⟩
theorem c_scanNumber_L6 {M : Mem} {B : Int → Int} {n p e : Int} (h : TpC M B n) (p0 : 0 ≤ p) (en : e ≤ n) (hl : ∀ x, p ≤ x → x < e → dgB (B x) = true) (he : e < n → dgB (B e) = false) : ∀ (m k fu : Nat), p + (k : Int) + (m : Int) = e → m < fu → t_Tokens_scanNumber_L6 1 700 p n fu M (dvS B p k) (p + (k : Int)) = some (t_Tokens_add M 31 (dvS B p (e - p).toNat) p, e) := by
  have hn := h.1
  intro m
  induction m with
  | zero =>
    intro k fu g0 g1
    obtain ⟨g, rfl⟩ : ∃ g, fu = g + 1 := ⟨fu - 1, by omega⟩
    have e0 : p + (k : Int) = e := by omega
    rw [show k = (e - p).toNat by omega, show p + (((e - p).toNat : Nat) : Int) = e by omega, t_Tokens_scanNumber_L6]
    unfold t_Tokens_scanNumber_L52
    by_cases c : n ≤ e
    · rw [if_pos c]
    · rw [if_neg c]
      simp only [qlet]
      rw [c_lk h (by omega) (by omega), isDig_eq, he (by omega), if_pos (show (if false = true then (1 : Int) else 0) = 0 from rfl)]
  | succ m ih =>
    intro k fu g0 g1
    obtain ⟨g, rfl⟩ : ∃ g, fu = g + 1 := ⟨fu - 1, by omega⟩
    have nx := ih (k + 1) g (by omega) (by omega)
    have dg : ∀ j : Nat, j < k + 1 → 48 ≤ B (p + (j : Int)) ∧ B (p + (j : Int)) ≤ 57 := fun j hj => of_decide_eq_true (hl _ (by omega) (by omega))
    have hd := dv_rng2 B p k (fun j hj => dg j (by omega))
    have hb := dg k (by omega)
    rw [show p + ((k + 1 : Nat) : Int) = p + (k : Int) + 1 by omega, dvS] at nx
    rw [t_Tokens_scanNumber_L6, if_neg (by omega)]
    simp only [qlet]
    rw [c_lk h (by omega) (by omega), isDig_eq, hl _ (by omega) (by omega), if_neg (show ¬ (if true = true then (1 : Int) else 0) = 0 by decide), w32_id (x := p + (k : Int) + 1) (by unfold InR; omega), w32_id (x := dvS B p k * 10) (by unfold InR; omega), w32_id (x := dvS B p k * 10 + B (p + (k : Int))) (by unfold InR; omega), w32_id (x := dvS B p k * 10 + B (p + (k : Int)) - 48) (by unfold InR; omega), show dvS B p k * 10 + B (p + (k : Int)) - 48 = dvS B p k * 10 + (B (p + (k : Int)) - 48) by omega]
    exact nx
theorem c_scanNumber {M : Mem} {B : Int → Int} {n p e : Int} (h : TpC M B n) (p0 : 0 ≤ p) (pe : p ≤ e) (en : e ≤ n) (hl : ∀ x, p ≤ x → x < e → dgB (B x) = true) (he : e < n → dgB (B e) = false) : t_Tokens_scanNumber M 1 700 p n = some (t_Tokens_add M 31 (dvS B p (e - p).toNat) p, e) := by
  have hn := h.1
  have := c_scanNumber_L6 h p0 en hl he (e - p).toNat 0 FU (by omega) (fu_big (by omega))
  rw [show p + ((0 : Nat) : Int) = p by omega, dvS] at this
  exact this
theorem signOf_eq (M : Mem) (c : Int) : t_Tokens_signOf M c = sgK c 0 := by
  unfold t_Tokens_signOf sgK
  repeat (first | omega | split)
theorem c_scanSign {M : Mem} {c c2 a : Int} (a0 : 0 ≤ a) (a1 : a ≤ 700) : t_Tokens_scanSign M c c2 a = (t_Tokens_add M (sgK c c2) 0 a, a + sgL (sgK c c2)) := by
  unfold t_Tokens_scanSign t_Tokens_scanSign_L25 t_Tokens_scanSign_L48 t_Tokens_scanSign_L73 t_Tokens_scanSign_L39
  simp only [qlet]
  rw [signOf_eq, w32_id (x := a + 2) (by unfold InR; omega), w32_id (x := a + 1) (by unfold InR; omega)]
  by_cases k60 : c = 60
  · subst k60
    rw [if_pos (show sgK 60 0 = 47 from rfl), if_neg (show ¬ sgK 60 0 = 52 by decide)]
    by_cases e : c2 = 61
    · subst e; rfl
    · by_cases e2 : c2 = 62
      · subst e2; rfl
      · have : sgK 60 c2 = 47 := by unfold sgK; simp [e, e2]
        rw [this, if_neg e, if_neg e2]; rfl
  · by_cases k62 : c = 62
    · subst k62
      rw [if_neg (show ¬ sgK 62 0 = 47 by decide), if_pos (show sgK 62 0 = 52 from rfl)]
      by_cases e : c2 = 61
      · subst e; rfl
      · have : sgK 62 c2 = 52 := by unfold sgK; simp [e]
        rw [this, if_neg e]; rfl
    · have e : sgK c c2 = sgK c 0 := by
        unfold sgK
        simp only [if_neg k60, if_neg k62]
      have n1 : sgK c 0 ≠ 47 ∧ sgK c 0 ≠ 52 ∧ sgK c 0 ≠ 48 ∧ sgK c 0 ≠ 50 ∧ sgK c 0 ≠ 51 := by
        unfold sgK
        repeat (first | omega | split)
      rw [if_neg n1.1, if_neg n1.2.1, e]
      unfold sgL
      rw [if_neg (by omega)]
/-! the table -/
def ScW : Nat → Int → Prop := fun k j => (k = 42 ∧ j = 3) ∨ (43 ≤ k ∧ k ≤ 45)
theorem add_eq {M : Mem} {c k v p : Int} (h : M.1 42 3 = c) (c0 : 0 ≤ c) (c1 : c ≤ 700) : t_Tokens_add M k v p = setI (setI (setI (setI M 43 c k) 44 c v) 45 c p) 42 3 (c + 1) := by
  unfold t_Tokens_add
  simp (config := { proj := false }) only [qlet]
  rw [h, put_in (M := M) c0 (by omega), show (setI M 43 c k).1 42 3 = c from (sI_ne (by omega)).trans h, put_in c0 (by omega), show (setI (setI M 43 c k) 44 c v).1 42 3 = c from (sI_ne (by omega)).trans ((sI_ne (by omega)).trans h), put_in c0 (by omega), show (setI (setI (setI M 43 c k) 44 c v) 45 c p).1 42 3 = c from (sI_ne (by omega)).trans ((sI_ne (by omega)).trans ((sI_ne (by omega)).trans h)), w32_id (x := c + 1) (by unfold InR; omega)]
def CTk (M : Mem) (B : Int → Int) (n : Int) (c : Nat) : Prop := M.1 42 3 = (c : Int) ∧ ∀ i : Nat, i < c → M.1 43 (i : Int) = tK B n i ∧ M.1 45 (i : Int) = tP B n i ∧ (tK B n i ≠ 33 → M.1 44 (i : Int) = tW B n i)
theorem ctk_add {M : Mem} {B : Int → Int} {n k v p : Int} {c : Nat} (h : CTk M B n c) (hc : c ≤ 700) (hk : tK B n c = k) (hp : tP B n c = p) (hv : k ≠ 33 → v = tW B n c) : Fr ScW M (t_Tokens_add M k v p) ∧ CTk (t_Tokens_add M k v p) B n (c + 1) := by
  rw [add_eq h.1 (by omega) (by omega)]
  refine ⟨(((Fr.rf.setI (by unfold ScW; omega)).setI (by unfold ScW; omega)).setI (by unfold ScW; omega)).setI (by unfold ScW; omega), sI_self _ _ _ _, fun i hi => ?_⟩
  by_cases e : i = c
  · subst e
    refine ⟨?_, ?_, fun q => ?_⟩
    · rw [sI_ne (by omega), sI_ne (by omega), sI_ne (by omega), sI_self, hk]
    · rw [sI_ne (by omega), sI_self, hp]
    · rw [sI_ne (by omega), sI_ne (by omega), sI_self]
      exact hv (by rw [← hk]; exact q)
  · have hi' := h.2 i (by omega)
    refine ⟨?_, ?_, fun q => ?_⟩
    · rw [sI_ne (by omega), sI_ne (by omega), sI_ne (by omega), sI_ne (by omega)]; exact hi'.1
    · rw [sI_ne (by omega), sI_ne (by omega), sI_ne (by omega), sI_ne (by omega)]; exact hi'.2.1
    · rw [sI_ne (by omega), sI_ne (by omega), sI_ne (by omega), sI_ne (by omega)]; exact hi'.2.2 q
theorem c_scan_L10 {M0 : Mem} {B : Int → Int} {n : Int} : ∀ (m fu c : Nat) (M : Mem) (a v : Int), n ≤ a + (m : Int) → m < fu → 0 ≤ v → v ≤ a → a ≤ n → (c : Int) ≤ a → tkA B n c ≤ a → 0 ≤ tkA B n c → (∀ x, tkA B n c ≤ x → x < a → blB (B x) = true) → (∀ i : Nat, i < c → tK B n i ≠ 32) → TpC M B n → CTk M B n c → Fr ScW M0 M →
    ∃ N c', t_Tokens_scan_L10 1 700 n fu M a v = some N ∧ Fr ScW M0 N ∧ CTk N B n (c' + 1) ∧ tK B n c' = 32 ∧ c' ≤ 700 ∧ (∀ i : Nat, i < c' → tK B n i ≠ 32) := by
  have fin : ∀ (c : Nat) (M : Mem) (a : Int), a = n → (c : Int) ≤ a → tkA B n c ≤ a → 0 ≤ tkA B n c → (∀ x, tkA B n c ≤ x → x < a → blB (B x) = true) → (∀ i : Nat, i < c → tK B n i ≠ 32) → TpC M B n → CTk M B n c → Fr ScW M0 M → ∃ N c', t_Tokens_scan_L120 1 700 n M = some N ∧ Fr ScW M0 N ∧ CTk N B n (c' + 1) ∧ tK B n c' = 32 ∧ c' ≤ 700 ∧ (∀ i : Nat, i < c' → tK B n i ≠ 32) := by
    intro c M a ea g5 g6 g7 hb hl h hC hF
    have hn := h.1
    have hr : rnE blB B n (tkA B n c) = n := rnE_eq g7 hn.2 (by omega) (Int.le_refl _) (fun x x0 x1 => hb x x0 (by omega)) (fun q => by omega)
    have ht : tkS B n (tkA B n c) = (32, 0, n, n) := by
      unfold tkS
      rw [hr, if_pos (Int.le_refl _)]
    have hk : tK B n c = 32 := by unfold tK; rw [ht]
    have hp : tP B n c = n := by unfold tP; rw [ht]
    have hw : tW B n c = 0 := by unfold tW; rw [ht]
    obtain ⟨f1, f2⟩ := ctk_add (v := 0) hC (by omega) hk hp (fun q => hw.symm)
    unfold t_Tokens_scan_L120
    exact ⟨_, c, rfl, hF.trans f1, f2, hk, by omega, hl⟩
  intro m
  induction m with
  | zero =>
    intro fu c M a v g0 g1 g2 g3 g4 g5 g6 g7 hb hl h hC hF
    obtain ⟨g, rfl⟩ : ∃ g, fu = g + 1 := ⟨fu - 1, by omega⟩
    rw [t_Tokens_scan_L10]
    by_cases q : 700 ≤ v
    · rw [if_pos q]; exact fin c M a (by omega) g5 g6 g7 hb hl h hC hF
    · rw [if_neg q, if_pos (by omega)]; exact fin c M a (by omega) g5 g6 g7 hb hl h hC hF
  | succ m ih =>
    intro fu c M a v g0 g1 g2 g3 g4 g5 g6 g7 hb hl h hC hF
    obtain ⟨g, rfl⟩ : ∃ g, fu = g + 1 := ⟨fu - 1, by omega⟩
    have hn := h.1
    rw [t_Tokens_scan_L10]
    by_cases q : 700 ≤ v
    · rw [if_pos q]; exact fin c M a (by omega) g5 g6 g7 hb hl h hC hF
    rw [if_neg q]
    by_cases q2 : n ≤ a
    · rw [if_pos q2]; exact fin c M a (by omega) g5 g6 g7 hb hl h hC hF
    rw [if_neg q2]
    simp only [qlet]
    unfold t_Tokens_scan_L44 t_Tokens_scan_L109 t_Tokens_scan_L114
    rw [c_lk h (by omega) (by omega), w32_id (x := v + 1) (by unfold InR; omega), w32_id (x := a + 1) (by unfold InR; omega)]
    by_cases b : blB (B a) = true
    · have b' : B a = 10 ∨ B a = 32 := of_decide_eq_true b
      have nx := ih g c M (a + 1) (v + 1) (by omega) (by omega) (by omega) (by omega) (by omega) (by omega) (by omega) g7 (fun x x0 x1 => by
        by_cases e : x = a
        · rw [e]; exact b
        · exact hb x x0 (by omega)) hl h hC hF
      by_cases c10 : B a = 10
      · rw [if_pos c10]; exact nx
      · rw [if_neg c10, if_pos (by omega)]; exact nx
    · have bf : blB (B a) = false := by
        cases e : blB (B a) with
        | true => exact absurd e b
        | false => rfl
      have b' : ¬ (B a = 10 ∨ B a = 32) := of_decide_eq_false bf
      have hr : rnE blB B n (tkA B n c) = a := rnE_eq g7 hn.2 g6 g4 hb (fun _ => bf)
      have hB := (h.2 a (by omega) (by omega)).2
      -- one token, and on
      have step : ∀ (k w e v' : Int) (N : Mem), tkS B n (tkA B n c) = (k, w, a, e) → k ≠ 32 → a < e → e ≤ n → (k ≠ 33 → v' = w) → N = t_Tokens_add M k v' a → ∃ N' c', t_Tokens_scan_L10 1 700 n g N e (v + 1) = some N' ∧ Fr ScW M0 N' ∧ CTk N' B n (c' + 1) ∧ tK B n c' = 32 ∧ c' ≤ 700 ∧ (∀ i : Nat, i < c' → tK B n i ≠ 32) := by
        intro k w e v' N ht k32 ae en hv eN
        have hk : tK B n c = k := by unfold tK; rw [ht]
        have hp : tP B n c = a := by unfold tP; rw [ht]
        have hw : tW B n c = w := by unfold tW; rw [ht]
        have ha : tkA B n (c + 1) = e := by rw [tkA, ht]
        obtain ⟨f1, f2⟩ := ctk_add (v := v') hC (by omega) hk hp (fun z => by rw [hw]; exact hv z)
        rw [eN]
        refine ih g (c + 1) _ e (v + 1) (by omega) (by omega) (by omega) (by omega) en (by omega) (by omega) (by omega) (fun x x0 x1 => by omega) (fun i hi => ?_) (h.fr f1 (fun j z => by unfold ScW at z; omega)) f2 (hF.trans f1)
        by_cases z : i = c
        · rw [z, hk]; exact k32
        · exact hl i (by omega)
      rw [if_neg (fun z => b' (Or.inl z)), if_neg (fun z => b' (Or.inr z)), isLetter_eq, isDig_eq]
      cases c2 : ltB (B a) with
      | true =>
        rw [if_neg (show ¬ (if true = true then (1 : Int) else 0) = 0 by decide)]
        obtain ⟨l1, l2, l3⟩ := rnE_facts (p := ltB) (B := B) (n := n) (a := a) (by omega) (by omega) hn.2
        have lt : a < rnE ltB B n a := by
          by_cases z : rnE ltB B n a = a
          · have := l3 (by omega)
            rw [z, c2] at this
            cases this
          · omega
        obtain ⟨u, w1, w2, w3⟩ := c_scanWord h (p := a) (e := rnE ltB B n a) (by omega) lt l1.2 l2 l3
        rw [w1, obind_some]
        have hr2 := wd_rng B a (rnE ltB B n a - a) 25 0 rfl
        change -1 ≤ wordS B a (rnE ltB B n a - a) ∧ wordS B a (rnE ltB B n a - a) ≤ 24 at hr2
        by_cases c3 : 0 ≤ wordS B a (rnE ltB B n a - a)
        · rw [if_pos c3]
          exact step (wordS B a (rnE ltB B n a - a)) 0 (rnE ltB B n a) u _ (by unfold tkS; rw [hr, if_neg q2, c2, if_pos rfl, if_pos c3]) (by omega) lt l1.2 (fun z => w3 c3) rfl
        · rw [if_neg c3]
          by_cases c4 : rnE ltB B n a - a ≤ 6
          · rw [if_pos c4]
            exact step 30 (nvS B a (rnE ltB B n a) 6) (rnE ltB B n a) u _ (by unfold tkS; rw [hr, if_neg q2, c2, if_pos rfl, if_neg c3, if_pos c4]) (by omega) lt l1.2 (fun _ => w2 (by omega)) rfl
          · rw [if_neg c4]
            exact step 33 0 (rnE ltB B n a) u _ (by unfold tkS; rw [hr, if_neg q2, c2, if_pos rfl, if_neg c3, if_neg c4]) (by omega) lt l1.2 (fun z => absurd rfl z) rfl
      | false =>
        rw [if_pos (show (if false = true then (1 : Int) else 0) = 0 from rfl)]
        cases c3 : dgB (B a) with
        | true =>
          rw [if_neg (show ¬ (if true = true then (1 : Int) else 0) = 0 by decide)]
          obtain ⟨l1, l2, l3⟩ := rnE_facts (p := dgB) (B := B) (n := n) (a := a) (by omega) (by omega) hn.2
          have lt : a < rnE dgB B n a := by
            by_cases z : rnE dgB B n a = a
            · have := l3 (by omega)
              rw [z, c3] at this
              cases this
            · omega
          rw [c_scanNumber h (p := a) (e := rnE dgB B n a) (by omega) l1.1 l1.2 l2 l3, obind_some]
          exact step 31 (dvS B a (rnE dgB B n a - a).toNat) (rnE dgB B n a) _ _ (by unfold tkS; rw [hr, if_neg q2, c2, if_neg (by decide), c3, if_pos rfl]) (by omega) lt l1.2 (fun _ => rfl) rfl
        | false =>
          rw [if_pos (show (if false = true then (1 : Int) else 0) = 0 from rfl)]
          have hs := sgK_rng (B a) (if a + 1 < n then B (a + 1) else -1)
          have htwo := @sgK_two (B a) (if a + 1 < n then B (a + 1) else -1)
          have ht : tkS B n (tkA B n c) = (sgK (B a) (if a + 1 < n then B (a + 1) else -1), 0, a, a + sgL (sgK (B a) (if a + 1 < n then B (a + 1) else -1))) := by
            unfold tkS; rw [hr, if_neg q2, c2, if_neg (by decide), c3, if_neg (by decide)]
          have hL : ∀ k, 1 ≤ sgL k ∧ sgL k ≤ 2 ∧ (sgL k = 2 → k = 48 ∨ k = 50 ∨ k = 51) := fun k => by
            unfold sgL
            split
            · rename_i z; exact ⟨by omega, by omega, fun _ => z⟩
            · exact ⟨by omega, by omega, fun z => by omega⟩
          by_cases d : n ≤ a + 1
          · rw [if_pos d]
            rw [if_neg (show ¬ a + 1 < n by omega)] at ht hs htwo
            have hl2 := hL (sgK (B a) (-1))
            have : sgL (sgK (B a) (-1)) ≠ 2 := fun z => by have := htwo (hl2.2.2 z); omega
            rw [c_scanSign (by omega) (by omega)]
            exact step _ 0 _ 0 _ ht (by omega) (by omega) (by omega) (fun z => rfl) rfl
          · rw [if_neg d, c_lk h (by omega) (by omega)]
            rw [if_pos (show a + 1 < n by omega)] at ht hs htwo
            have hl2 := hL (sgK (B a) (B (a + 1)))
            rw [c_scanSign (by omega) (by omega)]
            exact step _ 0 _ 0 _ ht (by omega) (by omega) (by omega) (fun z => rfl) rfl
/-- tokens that are read -/
def Lv (B : Int → Int) (n : Int) (i : Nat) : Prop := ∀ j : Nat, j < i → tK B n j ≠ 32
theorem Lv.zero {B : Int → Int} {n : Int} : Lv B n 0 := fun j hj => by omega
theorem Lv.succ {B : Int → Int} {n : Int} {i : Nat} (h : Lv B n i) (k : tK B n i ≠ 32) : Lv B n (i + 1) := fun j hj => by
  by_cases e : j = i
  · rw [e]; exact k
  · exact h j (by omega)
theorem Lv.le {B : Int → Int} {n : Int} {i : Nat} (h : Lv B n i) (hn : 0 ≤ n ∧ n ≤ 700) : (i : Int) ≤ n := by
  by_cases c : (i : Int) ≤ n
  · exact c
  · exact absurd (tK_end (B := B) hn.1 hn.2 (i := n.toNat) (by omega)) (h n.toNat (by omega))
/-- the class's tokens -/
def TBl (M : Mem) (B : Int → Int) (n : Int) : Prop := (0 ≤ n ∧ n ≤ 700) ∧ ∀ i : Nat, Lv B n i → M.1 43 (i : Int) = tK B n i ∧ M.1 45 (i : Int) = tP B n i ∧ (tK B n i ≠ 33 → M.1 44 (i : Int) = tW B n i)
theorem TBl.fr {W : Nat → Int → Prop} {M N : Mem} {B : Int → Int} {n : Int} (h : TBl M B n) (hF : Fr W M N) (hd : ∀ k j, 43 ≤ k → k ≤ 45 → ¬ W k j) : TBl N B n := ⟨h.1, fun i hi => by
  rw [(hF 43 _ (hd _ _ (by omega) (by omega))).1, (hF 44 _ (hd _ _ (by omega) (by omega))).1, (hF 45 _ (hd _ _ (by omega) (by omega))).1]
  exact h.2 i hi⟩
theorem c_scan {M : Mem} {B : Int → Int} {n : Int} (h : TpC M B n) : ∃ N, t_Tokens_scan M 1 700 n = some N ∧ Fr ScW M N ∧ TBl N B n := by
  have hn := h.1
  unfold t_Tokens_scan
  simp (config := { proj := false }) only [qlet]
  have f0 : Fr ScW M (setI M 42 3 0) := Fr.rf.setI (by unfold ScW; omega)
  obtain ⟨N, c, n1, n2, n3, n4, n5, n6⟩ := c_scan_L10 (M0 := M) (B := B) (n := n) n.toNat FU 0 (setI M 42 3 0) 0 0 (by omega) (fu_big (by omega)) (by omega) (by omega) (by omega) (by omega) (Int.le_refl _) (Int.le_refl _) (fun x x0 x1 => by rw [tkA] at x0; omega) (fun i hi => by omega) (h.fr f0 (fun j z => by unfold ScW at z; omega)) ⟨sI_self _ _ _ _, fun i hi => by omega⟩ f0
  refine ⟨N, n1, n2, hn, fun i hi => n3.2 i ?_⟩
  by_cases q : i < c + 1
  · exact q
  · exact absurd n4 (hi c (by omega))
