section
/-! ===== the class's formula, its value ===== -/
def ckC (q : Int64) : Option Int64 := if 1000000000000 < q then none else if -1000000000000 ≤ q then some q else none
theorem ckC_eq (q : Int64) : ckC q = chkS q := by
  unfold ckC chkS
  by_cases a : 1000000000000 < q
  · rw [if_pos a, if_pos a]
  · rw [if_neg a, if_neg a]
    by_cases b : -1000000000000 ≤ q
    · rw [if_pos b, if_neg (Int64.not_lt.mpr b)]
    · rw [if_neg b, if_pos (Int64.not_le.mp b)]
theorem ckC_min : ckC (-9223372036854775808) = none := by decide +kernel
theorem c_product (M : Mem) (x y : Int64) (hd : q_absl 0 ≤ 1000000000000 / q_absl x) : ∃ q, t_Formula_product M x y = some q ∧ ckC q = (if x = 0 then chkS (x * y) else if q_absl y ≤ 1000000000000 / q_absl x then chkS (x * y) else none) := by
  unfold t_Formula_product
  by_cases a : x = 0
  · rw [if_pos a, if_pos a]
    refine ⟨0, rfl, ?_⟩
    rw [a, Int64.zero_mul, ckC_eq]
  · rw [if_neg a, if_neg a]
    by_cases b : y = 0
    · rw [if_pos b]
      refine ⟨0, rfl, ?_⟩
      rw [b, if_pos hd, Int64.mul_zero, ckC_eq]
    · rw [if_neg b, if_neg (fun q => a (absl_zero q))]
      by_cases c : q_absl y ≤ 1000000000000 / q_absl x
      · rw [if_pos c, if_pos c]; exact ⟨_, rfl, ckC_eq _⟩
      · rw [if_neg c, if_neg c]; exact ⟨_, rfl, ckC_min⟩
theorem c_join (M : Mem) {c : Int} {x y : Int64} (hc : ktwo c) (hd : q_absl 0 ≤ 1000000000000 / q_absl x) : ∃ q, t_Formula_join M c x y = some q ∧ ckC q = joinS c x y := by
  have b0 : ∀ N : Mem, t_Formula_asBit N 0 = 0 := fun N => rfl
  have b1 : ∀ N : Mem, t_Formula_asBit N 1 = 1 := fun N => rfl
  unfold ktwo at hc
  have hc' : c = 15 ∨ c = 16 ∨ c = 43 ∨ c = 44 ∨ c = 45 ∨ c = 46 ∨ c = 47 ∨ c = 48 ∨ c = 49 ∨ c = 50 ∨ c = 51 ∨ c = 52 := by omega
  have hp := c_product M x y hd
  unfold t_Formula_join t_Formula_join_L180 t_Formula_join_L185 t_Formula_join_L205 t_Formula_join_L206 t_Formula_join_L221 t_Formula_join_L236 t_Formula_join_L251 t_Formula_join_L266 t_Formula_join_L281 t_Formula_join_L296 t_Formula_join_L314 joinS
  simp only [qlet, b0, b1]
  rcases hc' with rfl | rfl | rfl | rfl | rfl | rfl | rfl | rfl | rfl | rfl | rfl | rfl
  · simp only [Int.reduceEq, ↓reduceIte]
    by_cases a : x = 0
    · rw [if_pos a, if_pos a]
      by_cases b : y = 0
      · rw [if_pos b, if_pos b]; exact ⟨_, rfl, ckC_eq _⟩
      · rw [if_neg b, if_neg b]; exact ⟨_, rfl, ckC_eq _⟩
    · rw [if_neg a, if_neg a]; exact ⟨_, rfl, ckC_eq _⟩
  · simp only [Int.reduceEq, ↓reduceIte]
    by_cases a : x = 0
    · rw [if_pos a, if_pos a]; exact ⟨_, rfl, ckC_eq _⟩
    · rw [if_neg a, if_neg a]
      by_cases b : y = 0
      · rw [if_pos b, if_pos b]; exact ⟨_, rfl, ckC_eq _⟩
      · rw [if_neg b, if_neg b]; exact ⟨_, rfl, ckC_eq _⟩
  · simp only [Int.reduceEq, ↓reduceIte]; exact ⟨_, rfl, ckC_eq _⟩
  · simp only [Int.reduceEq, ↓reduceIte]; exact ⟨_, rfl, ckC_eq _⟩
  · simp only [Int.reduceEq, ↓reduceIte]
    obtain ⟨q, q1, q2⟩ := hp
    rw [q1, obind_some]
    exact ⟨q, rfl, q2⟩
  · simp only [Int.reduceEq, ↓reduceIte]
    by_cases b : y = 0
    · rw [if_pos b, if_pos b]; exact ⟨_, rfl, ckC_min⟩
    · rw [if_neg b, if_neg b]; exact ⟨_, rfl, ckC_eq _⟩
  · simp only [Int.reduceEq, ↓reduceIte]
    by_cases b : y ≤ x
    · rw [if_pos b, if_pos b]; exact ⟨_, rfl, ckC_eq _⟩
    · rw [if_neg b, if_neg b]; exact ⟨_, rfl, ckC_eq _⟩
  · simp only [Int.reduceEq, ↓reduceIte]
    by_cases b : y < x
    · rw [if_pos b, if_pos b]; exact ⟨_, rfl, ckC_eq _⟩
    · rw [if_neg b, if_neg b]; exact ⟨_, rfl, ckC_eq _⟩
  · simp only [Int.reduceEq, ↓reduceIte]
    by_cases b : x = y
    · rw [if_pos b, if_pos b]; exact ⟨_, rfl, ckC_eq _⟩
    · rw [if_neg b, if_neg b]; exact ⟨_, rfl, ckC_eq _⟩
  · simp only [Int.reduceEq, ↓reduceIte]
    by_cases b : x = y
    · rw [if_pos b, if_pos b]; exact ⟨_, rfl, ckC_eq _⟩
    · rw [if_neg b, if_neg b]; exact ⟨_, rfl, ckC_eq _⟩
  · simp only [Int.reduceEq, ↓reduceIte]
    by_cases b : x < y
    · rw [if_pos b, if_pos b]; exact ⟨_, rfl, ckC_eq _⟩
    · rw [if_neg b, if_neg b]; exact ⟨_, rfl, ckC_eq _⟩
  · simp only [Int.reduceEq, ↓reduceIte]
    by_cases b : x ≤ y
    · rw [if_pos b, if_pos b]; exact ⟨_, rfl, ckC_eq _⟩
    · rw [if_neg b, if_neg b]; exact ⟨_, rfl, ckC_eq _⟩
theorem c_value_loop {M0 : Mem} {k0 r1 N1 : Nat} {K L : Int → Int} {n : Int} {nm : Int → Int64} (hK : KOK K n) (ho : OutR M0 k0 K L n) (h4 : 0 < n → ¬ M0.1 k0 4 = 0) (hr : r1 ≠ k0 + 3) (hN : N1 = 7) (hn : ∀ j, 0 ≤ j → j ≤ 6 → M0.2 r1 j = nm j) (hd : ∀ x : Int64, q_absl 0 ≤ 1000000000000 / q_absl x) : ∀ (m i fu : Nat) (M : Mem) (st : List Int64), (i : Int) + (m : Int) = n → m < fu → Fr (fun q _ => q = k0 + 3) M0 M → (∀ k j, M.1 k j = M0.1 k j) → evS K L nm i = some st → Stk (M.2 (k0 + 3)) st → ∃ N, t_Formula_value_L4 k0 r1 N1 fu M (st.length : Int) (i : Int) = some (N, eM (valS K L nm n)) ∧ Fr (fun q _ => q = k0 + 3) M0 N := by
  obtain ⟨o1, o2⟩ := ho
  intro m
  induction m with
  | zero =>
    intro i fu M st g0 g1 hF hI he hst
    obtain ⟨g, rfl⟩ : ∃ g, fu = g + 1 := ⟨fu - 1, by omega⟩
    rw [t_Formula_value_L4, hI k0 3, o1, if_pos (by omega)]
    unfold t_Formula_value_L234
    have hi : n.toNat = i := by omega
    by_cases h0 : 0 < n
    · obtain ⟨v, rfl, hv⟩ := valS_some hK h0 (by rw [hi]; exact he)
      rw [if_pos (show (([v] : List Int64).length : Int) = 1 from rfl), hv]
      have : M.2 (k0 + 3) 0 = v := hst.1
      rw [this]
      exact ⟨M, rfl, hF⟩
    · have i0 : i = 0 := by have := hK.1; omega
      subst i0
      have e0 : st = [] := (Option.some.inj he).symm
      subst e0
      have hv : valS K L nm n = none := by unfold valS; rw [hi]; rfl
      rw [if_neg (show ¬ (([] : List Int64).length : Int) = 1 by decide), hv]
      exact ⟨M, rfl, hF⟩
  | succ m ih =>
    intro i fu M st g0 g1 hF hI he hst
    obtain ⟨g, rfl⟩ : ∃ g, fu = g + 1 := ⟨fu - 1, by omega⟩
    have hln := ev_len hK i (by omega) st he
    have hle := hK.2.1
    have q := o2 (i : Int) (by omega) (by omega)
    have lk1 : t_WF_look M (k0 + 1) 64 (i : Int) = K (i : Int) := by rw [look_in (by omega) (by omega), hI]; exact q.1
    have lk2 : t_WF_look M (k0 + 2) 64 (i : Int) = L (i : Int) := by rw [look_in (by omega) (by omega), hI]; exact q.2
    rw [t_Formula_value_L4, hI k0 3, o1, if_neg (by omega), hI k0 4, if_neg (h4 (by omega))]
    simp (config := { proj := false }) only [qlet]
    rw [lk1]
    have push : ∀ v : Int64, knS K L nm (i : Int) st = some (v :: st) → ∃ N, t_Formula_value_L90 k0 r1 N1 (fun a0_ a1_ a2_ => t_Formula_value_L4 k0 r1 N1 g a0_ a1_ a2_) M (st.length : Int) (i : Int) (st.length : Int) v = some (N, eM (valS K L nm n)) ∧ Fr (fun q _ => q = k0 + 3) M0 N := by
      intro v hv
      unfold t_Formula_value_L90 t_Formula_value_L228
      simp (config := { proj := false }) only [qlet]
      rw [qguard_pos ⟨by omega, by omega⟩, w32_succ (t := st.length) (by omega), w32_succ (t := i) (by omega)]
      exact ih (i + 1) g _ (v :: st) (by omega) (by omega) (hF.setL rfl) (fun k j => hI k j) (by rw [evS, he]; exact hv) ⟨sL_self _ _ _ _, Stk.of (fun j hj => sL_ne (by omega)) hst⟩
    have stay : ∀ (P : Mem) (s' : List Int64), Fr (fun q _ => q = k0 + 3) M0 P → (∀ k j, P.1 k j = M0.1 k j) → knS K L nm (i : Int) st = some s' → Stk (P.2 (k0 + 3)) s' → ∃ N, t_Formula_value_L228 k0 r1 N1 (fun a0_ a1_ a2_ => t_Formula_value_L4 k0 r1 N1 g a0_ a1_ a2_) P (s'.length : Int) (i : Int) = some (N, eM (valS K L nm n)) ∧ Fr (fun q _ => q = k0 + 3) M0 N := by
      intro P s' hP hPI hv hs
      unfold t_Formula_value_L228
      rw [w32_succ (t := i) (by omega)]
      exact ih (i + 1) g P s' (by omega) (by omega) hP hPI (by rw [evS, he]; exact hv) hs
    have nam : t_Formula_isName M (K (i : Int)) = if 18 ≤ K (i : Int) ∧ K (i : Int) ≤ 24 then 1 else 0 := by
      unfold t_Formula_isName
      by_cases a : K (i : Int) < 18
      · rw [if_pos a, if_neg (fun z => by omega)]
      · rw [if_neg a]
        by_cases b : 24 < K (i : Int)
        · rw [if_pos b, if_neg (fun z => by omega)]
        · rw [if_neg b, if_pos ⟨by omega, by omega⟩]
    rw [nam]
    have hk := hK.2.2.1 i (by omega)
    rcases hk with hk | hk | hk
    · rcases hk with hk | hk
      · rw [if_pos hk]
        unfold t_Formula_value_L44
        simp (config := { proj := false }) only [qlet]
        rw [if_pos (show (st.length : Int) < 64 by omega), if_pos hk, lk2]
        exact push _ (knS_num hk st)
      · rw [if_neg (show ¬ K (i : Int) = 31 by omega), if_pos hk, if_neg (show ¬ (1 : Int) = 0 by decide)]
        unfold t_Formula_value_L44
        simp (config := { proj := false }) only [qlet]
        rw [if_pos (show (st.length : Int) < 64 by omega), if_neg (show ¬ K (i : Int) = 31 by omega), w32_id (x := K (i : Int) - 18) (by unfold InR; omega)]
        have vo : t_Formula_valueOf M r1 N1 (K (i : Int) - 18) = nm (K (i : Int) - 18) := by
          unfold t_Formula_valueOf
          rw [if_neg (show ¬ K (i : Int) - 18 < 0 by omega), if_neg (show ¬ (N1 : Int) ≤ K (i : Int) - 18 by omega), (hF r1 _ hr).2]
          exact hn _ (by omega) (by omega)
        rw [vo]
        exact push _ (knS_name hk st)
    · rw [if_neg (show ¬ K (i : Int) = 31 by omega), if_neg (show ¬ (18 ≤ K (i : Int) ∧ K (i : Int) ≤ 24) by omega), if_pos rfl]
      match st, he, hst, hln, push, stay with
      | [], he, hst, hln, push, stay => simp only [List.length_nil] at hln; omega
      | y :: r, he, hst, hln, push, stay =>
        simp only [List.length_cons] at hln
        have hl : ((y :: r).length : Int) = (r.length : Int) + 1 := by simp only [List.length_cons]; omega
        have hy : M.2 (k0 + 3) (r.length : Int) = y := hst.1
        rw [hl, if_neg (show ¬ (r.length : Int) + 1 ≤ 0 by omega), if_neg (show ¬ 64 < (r.length : Int) + 1 by omega), if_pos hk.1, w32_id (x := (r.length : Int) + 1 - 1) (by unfold InR; omega), show (r.length : Int) + 1 - 1 = (r.length : Int) by omega, qguard_pos ⟨by omega, by omega⟩, hy]
        unfold t_Formula_value_L142 t_Formula_asBit
        simp (config := { proj := false }) only [qlet]
        have fin : ∀ b : Int64, b = (if y = 0 then 1 else 0) → ∃ N, (qguard (0 ≤ (r.length : Int) ∧ (r.length : Int) < 64) (t_Formula_value_L228 k0 r1 N1 (fun a0_ a1_ a2_ => t_Formula_value_L4 k0 r1 N1 g a0_ a1_ a2_) (setL M (k0 + 3) (r.length : Int) b) ((r.length : Int) + 1) (i : Int))) = some (N, eM (valS K L nm n)) ∧ Fr (fun q _ => q = k0 + 3) M0 N := by
          intro b hb
          rw [qguard_pos ⟨by omega, by omega⟩]
          have s := stay (setL M (k0 + 3) (r.length : Int) b) (b :: r) (hF.setL rfl) (fun k j => hI k j) (by rw [knS_not hk.1, hb]) ⟨sL_self _ _ _ _, Stk.of (fun j hj => sL_ne (by omega)) hst.2⟩
          rw [show ((b :: r).length : Int) = (r.length : Int) + 1 by simp only [List.length_cons]; omega] at s
          exact s
        by_cases z : y = 0
        · rw [if_pos z, if_neg (show ¬ (1 : Int) = 0 by decide)]
          exact fin 1 (by rw [if_pos z])
        · rw [if_neg z, if_pos trivial]
          exact fin 0 (by rw [if_neg z])
    · have hkt := hk.1
      unfold ktwo at hkt
      rw [if_neg (show ¬ K (i : Int) = 31 by omega), if_neg (show ¬ (18 ≤ K (i : Int) ∧ K (i : Int) ≤ 24) by omega), if_pos rfl]
      match st, he, hst, hln, push, stay with
      | [], he, hst, hln, push, stay => simp only [List.length_nil] at hln; omega
      | [y], he, hst, hln, push, stay => simp only [List.length_cons, List.length_nil] at hln; omega
      | y :: x :: r, he, hst, hln, push, stay =>
        simp only [List.length_cons] at hln
        have hl : ((y :: x :: r).length : Int) = (r.length : Int) + 2 := by simp only [List.length_cons]; omega
        have hy : M.2 (k0 + 3) ((r.length : Int) + 1) = y := by
          have := hst.1
          rw [show (((x :: r).length : Nat) : Int) = (r.length : Int) + 1 by simp only [List.length_cons]; omega] at this
          exact this
        have hx : M.2 (k0 + 3) (r.length : Int) = x := hst.2.1
        obtain ⟨v, v1, v2⟩ := c_join M (x := x) (y := y) hk.1 (hd x)
        rw [hl, if_neg (show ¬ (r.length : Int) + 2 ≤ 0 by omega), if_neg (show ¬ 64 < (r.length : Int) + 2 by omega), if_neg (show ¬ K (i : Int) = 17 by omega)]
        unfold t_Formula_value_L149
        simp (config := { proj := false }) only [qlet]
        rw [if_neg (show ¬ (r.length : Int) + 2 ≤ 1 by omega), if_neg (show ¬ 64 < (r.length : Int) + 2 by omega), w32_id (x := (r.length : Int) + 2 - 2) (by unfold InR; omega), w32_id (x := (r.length : Int) + 2 - 1) (by unfold InR; omega), show (r.length : Int) + 2 - 2 = (r.length : Int) by omega, show (r.length : Int) + 2 - 1 = (r.length : Int) + 1 by omega, qguard_pos ⟨by omega, by omega⟩, qguard_pos ⟨by omega, by omega⟩, hx, hy, v1, obind_some]
        have hno : joinS (K (i : Int)) x y = none → valS K L nm n = none := fun ej => by
          have hno : ∀ a : Nat, evS K L nm (i + 1 + a) = none := by
            intro a
            induction a with
            | zero => rw [Nat.add_zero, evS, he]; show knS K L nm (i : Int) (y :: x :: r) = none; rw [knS_two hk.1, ej]; rfl
            | succ a iha => rw [show i + 1 + (a + 1) = (i + 1 + a) + 1 by omega, evS, iha]; rfl
          have hna : n.toNat = i + 1 + (n.toNat - (i + 1)) := by omega
          exact valS_none (by rw [hna]; exact hno _)
        unfold ckC at v2
        by_cases a : 1000000000000 < v
        · rw [if_pos a] at v2
          rw [if_pos a, hno v2.symm]
          exact ⟨M, rfl, hF⟩
        rw [if_neg a] at v2
        rw [if_neg a]
        by_cases b : -1000000000000 ≤ v
        · rw [if_pos b] at v2
          rw [if_pos b, qguard_pos ⟨by omega, by omega⟩, w32_id (x := (r.length : Int) + 2 + -1) (by unfold InR; omega)]
          have s := stay (setL M (k0 + 3) (r.length : Int) v) (v :: r) (hF.setL rfl) (fun k j => hI k j) (by rw [knS_two hk.1, ← v2]; rfl) ⟨sL_self _ _ _ _, Stk.of (fun j hj => sL_ne (by omega)) hst.2.2⟩
          rw [show ((v :: r).length : Int) = (r.length : Int) + 2 + -1 by simp only [List.length_cons]; omega] at s
          exact s
        · rw [if_neg b] at v2
          rw [if_neg b, hno v2.symm]
          exact ⟨M, rfl, hF⟩
end
section
/-! ===== the class measures ===== -/
def MeW : Nat → Int → Prop := fun q j => q = 179 ∨ q = 180 ∨ q = 181 ∨ (q = 182 ∧ 1 ≤ j ∧ j ≤ 4) ∨ q = 183
def MeR (M : Mem) (V : TV) (f A : Int → Int) (t : Nat) : Prop := ∀ w, 0 ≤ w → w < 4 → M.1 179 w = (jyS V f A w t).1 ∧ M.1 180 w = (jyS V f A w t).2.1 ∧ M.1 181 w = (jyS V f A w t).2.2
theorem c_measure_loop {M0 : Mem} {T k2 : Nat} {V : TV} {D A S L : Int → Int} {nets wat : Int64} {wl : Int → Bool} (hV : VOK V) (hT : T = 2 ∨ T = 22) (hk2 : k2 = 47 ∨ k2 = 52) (hX : CT0 M0 T V ∧ CTs M0 T V) (hS : CScF M0 k2 V D A S L nets wat wl) (hA : ∀ t, 0 ≤ t → t < V 0 3 → 0 ≤ A t ∧ A t < cellsV V) : ∀ (n t fu : Nat) (M : Mem), (t : Int) + (n : Int) = V 0 3 → n < fu → Fr MeW M0 M → MeR M V (nxV V D nets wl) A t → ∃ N, t_Laws_measure_L26 T k2 fu M (t : Int) = some N ∧ Fr MeW M0 N ∧ MeR N V (nxV V D nets wl) A (V 0 3).toNat := by
  have hv := hV.1
  have hC := hV.cells
  intro n
  induction n with
  | zero =>
    intro t fu M g0 g1 hF hm
    obtain ⟨g, rfl⟩ : ∃ g, fu = g + 1 := ⟨fu - 1, by omega⟩
    have e15 : M.1 T 15 = V 0 3 := by rw [(hF T 15 (by unfold MeW; omega)).1]; exact hX.1.1.2.2.2.1
    rw [t_Laws_measure_L26, e15, if_pos (by omega), show (V 0 3).toNat = t by omega]
    exact ⟨M, rfl, hF, hm⟩
  | succ n ih =>
    intro t fu M g0 g1 hF hm
    obtain ⟨g, rfl⟩ : ∃ g, fu = g + 1 := ⟨fu - 1, by omega⟩
    have hd : ∀ q j, MeW q j → 179 ≤ q ∧ q ≤ 183 := fun q j z => by unfold MeW at z; omega
    have e15 : M.1 T 15 = V 0 3 := by rw [(hF T 15 (fun z => by have := hd _ _ z; omega)).1]; exact hX.1.1.2.2.2.1
    have XM : CT0 M T V ∧ CTs M T V := ⟨CT0.fr hF (fun q j x y z => by have := hd _ _ z; omega) hX.1, CTs.fr hF (fun q j x y z => by have := hd _ _ z; omega) hX.2⟩
    have SM := hS.fr hF (fun q j x z => by have := hd _ _ z; unfold CsW at x; omega)
    have ha := hA (t : Int) (by omega) (by omega)
    have lk : t_WF_look M (k2 + 2) 8 (t : Int) = A (t : Int) := by rw [look_in (by omega) (by omega)]; exact (SM.2.1 (t : Int) (by omega) (by omega)).1
    rw [t_Laws_measure_L26, e15, if_neg (by omega)]
    unfold t_Laws_measure_L141
    simp (config := { proj := false }) only [qlet]
    rw [lk, w32_succ (by omega)]
    have wf := way_facts (c := A (t : Int)) hC.2 (nx_ok hV D nets wl) ha.1 ha.2
    obtain ⟨N, n1, n2, n3⟩ := c_follow (k := 182) (k2 := k2) hT (Or.inl rfl) (by omega) hV XM.1 XM.2 SM.sc (c := A (t : Int)) ha.1 ha.2
    rw [n1, obind_some]
    have fN : Fr MeW M0 N := hF.trans (n2.mono (fun q j z => by unfold W_Trail_follow at z; unfold MeW; omega))
    have mN : MeR N V (nxV V D nets wl) A t := fun w a b => by
      rw [(n2 179 w (by unfold W_Trail_follow; omega)).1, (n2 180 w (by unfold W_Trail_follow; omega)).1, (n2 181 w (by unfold W_Trail_follow; omega)).1]
      exact hm w a b
    have XN : CT0 N T V := CT0.fr n2 (fun q j x y z => by unfold W_Trail_follow at z; omega) XM.1
    obtain ⟨f1, f2, f3, f4, f5⟩ := n3
    have hnx := ih (t + 1) g
    have js : ∀ w, jyS V (nxV V D nets wl) A w (t + 1) = if (wayS (nxV V D nets wl) (A (t : Int))).2 = none ∧ V 7 (itr (nxV V D nets wl) (A (t : Int)) (wayS (nxV V D nets wl) (A (t : Int))).1) = w then ((jyS V (nxV V D nets wl) A w t).1 + 1, (jyS V (nxV V D nets wl) A w t).2.1 + V 5 (t : Int), (jyS V (nxV V D nets wl) A w t).2.2 + (if lcV V (nxV V D nets wl) (A (t : Int)) (wayS (nxV V D nets wl) (A (t : Int))).1 ≤ 0 then 0 else 1)) else jyS V (nxV V D nets wl) A w t := fun w => rfl
    generalize hr : wayS (nxV V D nets wl) (A (t : Int)) = r at *
    have hend : ∃ o, t_Town_ownerOf N T (t_Trail_end N 182) = o ∧ ((o = -1 ∧ ∀ w, 0 ≤ w → ¬ (r.2 = none ∧ V 7 (itr (nxV V D nets wl) (A (t : Int)) r.1) = w)) ∨ (0 ≤ o ∧ o < 4 ∧ r.2 = none ∧ V 7 (itr (nxV V D nets wl) (A (t : Int)) r.1) = o)) := by
      unfold t_Trail_end
      simp (config := { proj := false }) only [qlet]
      rw [f3, f1, w32_id (by have := wf.2.2.2.2.1; unfold InR; omega), show (r.1 : Int) + 1 - 1 = (r.1 : Int) by omega]
      obtain ⟨i, o⟩ := r
      cases o with
      | none =>
        have hi := wf.2.2.2.2.2 i (Nat.le_refl _)
        have ho := hV.2.2.2 (itr (nxV V D nets wl) (A (t : Int)) i) hi.1 (by omega)
        rw [if_pos (show wRound (i, (none : Option Nat)) ≤ 0 from Int.le_refl _), look_in (by omega) (by have := wf.2.2.2.2.1; omega), f5 i (Nat.le_refl _), c_owner XN hi.1 (by omega)]
        by_cases z : 0 ≤ V 7 (itr (nxV V D nets wl) (A (t : Int)) i)
        · exact ⟨_, rfl, Or.inr ⟨z, by omega, rfl, rfl⟩⟩
        · exact ⟨_, rfl, Or.inl ⟨by omega, fun w a b => z (by rw [b.2]; exact a)⟩⟩
      | some a =>
        have hle : (a : Int) ≤ (i : Int) := wf.2.2.1
        rw [if_neg (show ¬ wRound (i, some a) ≤ 0 by show ¬ ((i : Int) + 1 - a ≤ 0); omega)]
        refine ⟨-1, ?_, Or.inl ⟨rfl, fun w _ b => absurd b.1 (by intro q; cases q)⟩⟩
        unfold t_Town_ownerOf t_WF_look
        rfl
    obtain ⟨o, ho, hcase⟩ := hend
    rw [ho]
    rcases hcase with ⟨c1, c2⟩ | ⟨c1, c2, c3, c4⟩
    · have noput : ∀ (P : Mem) (k : Nat) (v : Int), t_WF_put P k 4 o v = P := fun P k v => by unfold t_WF_put; rw [if_pos (show o < 0 by omega)]
      rw [noput, noput, noput, noput]
      have mN' : MeR N V (nxV V D nets wl) A (t + 1) := fun w a b => by
        rw [js w, if_neg (c2 w a)]
        exact mN w a b
      by_cases z : N.1 182 4 ≤ 0
      · rw [if_pos z]; exact hnx N (by omega) (by omega) fN mN'
      · rw [if_neg z]; exact hnx N (by omega) (by omega) fN mN'
    · have ji := jyS_rng hV (nxV V D nets wl) A o t (by omega)
      obtain ⟨m1, m2, m3⟩ := mN o c1 c2
      have v5 := (hV.2.2.1 (t : Int) (by omega) (by omega)).1
      have v5' := (hV.2.2.1 (t : Int) (by omega) (by omega)).2.1
      have e5 : ∀ P : Mem, P.1 (T + 6) (t : Int) = V 5 (t : Int) → t_WF_look P (T + 6) 8 (t : Int) = V 5 (t : Int) := fun P h => by rw [look_in (by omega) (by omega)]; exact h
      have x5 : N.1 (T + 6) (t : Int) = V 5 (t : Int) := (XN.2.2.1 (t : Int) (by omega) (by omega)).2.1
      have lkp : ∀ (P : Mem) (k : Nat), t_WF_look P k 4 o = P.1 k o := fun P k => look_in c1 (by omega)
      have ptp : ∀ (P : Mem) (k : Nat) (v : Int), t_WF_put P k 4 o v = setI P k o v := fun P k v => put_in c1 (by omega)
      rw [lkp N 179, m1, w32_id (x := (jyS V (nxV V D nets wl) A o t).1 + 1) (by unfold InR; omega), ptp N 179]
      obtain ⟨P1, e1⟩ : ∃ P, P = setI N 179 o ((jyS V (nxV V D nets wl) A o t).1 + 1) := ⟨_, rfl⟩
      rw [← e1]
      have g1 : Fr (fun q j => q = 179 ∧ j = o) N P1 := by rw [e1]; exact Fr.rf.setI ⟨rfl, rfl⟩
      rw [lkp P1 180, (g1 180 o (by omega)).1, m2, e5 P1 (by rw [(g1 (T + 6) _ (by omega)).1]; exact x5), w32_id (x := (jyS V (nxV V D nets wl) A o t).2.1 + V 5 (t : Int)) (by unfold InR; omega), ptp P1 180]
      obtain ⟨P2, e2⟩ : ∃ P, P = setI P1 180 o ((jyS V (nxV V D nets wl) A o t).2.1 + V 5 (t : Int)) := ⟨_, rfl⟩
      rw [← e2]
      have g2 : Fr (fun q j => (q = 179 ∨ q = 180) ∧ j = o) N P2 := by rw [e2]; exact (g1.mono (fun q j z => by omega)).setI (by omega)
      rw [lkp P2 181, (g2 181 o (by omega)).1, m3, (g2 182 4 (by omega)).1, f4]
      have fin : ∀ b : Int, b = (if lcV V (nxV V D nets wl) (A (t : Int)) r.1 ≤ 0 then 0 else 1) → ∃ Q, t_Laws_measure_L26 T k2 g (t_WF_put P2 181 4 o (w32 ((jyS V (nxV V D nets wl) A o t).2.2 + b))) ((t + 1 : Nat) : Int) = some Q ∧ Fr MeW M0 Q ∧ MeR Q V (nxV V D nets wl) A (V 0 3).toNat := by
        intro b hb
        have b01 : 0 ≤ b ∧ b ≤ 1 := by rw [hb]; split <;> omega
        rw [w32_id (x := (jyS V (nxV V D nets wl) A o t).2.2 + b) (by unfold InR; omega), ptp P2 181]
        have g3 : Fr (fun q j => (q = 179 ∨ q = 180 ∨ q = 181) ∧ j = o) N (setI P2 181 o ((jyS V (nxV V D nets wl) A o t).2.2 + b)) := (g2.mono (fun q j z => by omega)).setI (by omega)
        refine hnx _ (by omega) (by omega) (fN.trans (g3.mono (fun q j z => by unfold MeW; omega))) (fun w p q => ?_)
        rw [js w]
        by_cases z : w = o
        · rw [z, if_pos ⟨c3, c4⟩]
          refine ⟨?_, ?_, ?_⟩
          · rw [sI_ne (by omega), e2, sI_ne (by omega), e1, sI_self]
          · rw [sI_ne (by omega), e2, sI_self]
          · rw [sI_self, hb]
        · rw [if_neg (show ¬ (r.2 = none ∧ V 7 (itr (nxV V D nets wl) (A (t : Int)) r.1) = w) from fun y => z (y.2.symm.trans c4))]
          have := mN w p q
          rw [(g3 179 w (by omega)).1, (g3 180 w (by omega)).1, (g3 181 w (by omega)).1]
          exact this
      have hl : wLines V (nxV V D nets wl) (A (t : Int)) r = lcV V (nxV V D nets wl) (A (t : Int)) r.1 := by
        unfold wLines
        rw [c3]
      rw [hl]
      by_cases z : lcV V (nxV V D nets wl) (A (t : Int)) r.1 ≤ 0
      · rw [if_pos z]; exact fin 0 (by rw [if_pos z])
      · rw [if_neg z]; exact fin 1 (by rw [if_neg z])
theorem c_measure {M : Mem} {T k2 : Nat} {V : TV} {D A S L : Int → Int} {nets wat : Int64} {wl : Int → Bool} (hV : VOK V) (hT : T = 2 ∨ T = 22) (hk2 : k2 = 47 ∨ k2 = 52) (hX : CT0 M T V ∧ CTs M T V) (hS : CScF M k2 V D A S L nets wat wl) (hA : ∀ t, 0 ≤ t → t < V 0 3 → 0 ≤ A t ∧ A t < cellsV V) : ∃ N, t_Laws_measure M T k2 = some N ∧ Fr MeW M N ∧ MeR N V (nxV V D nets wl) A (V 0 3).toNat := by
  have hv := hV.1
  unfold t_Laws_measure
  obtain ⟨N1, a1, a2, a3⟩ := c_fill (M := M) (r := 179) (N1 := 4) (x := 0) (by omega)
  obtain ⟨N2, b1, b2, b3⟩ := c_fill (M := N1) (r := 180) (N1 := 4) (x := 0) (by omega)
  obtain ⟨N3, c1, c2, c3⟩ := c_fill (M := N2) (r := 181) (N1 := 4) (x := 0) (by omega)
  rw [a1, obind_some, b1, obind_some, c1, obind_some]
  have hF : Fr MeW M N3 := ((a2.mono (fun q j z => by unfold MeW; omega)).trans (b2.mono (fun q j z => by unfold MeW; omega))).trans (c2.mono (fun q j z => by unfold MeW; omega))
  exact c_measure_loop hV hT hk2 hX hS hA (V 0 3).toNat 0 FU N3 (by omega) (fu_big (by omega)) hF (fun w p q => ⟨by rw [(c2 179 w (by omega)).1, (b2 179 w (by omega)).1]; exact a3 w p (by omega), by rw [(c2 180 w (by omega)).1]; exact b3 w p (by omega), c3 w p (by omega)⟩)
end
section
/-! ===== the class's joys ===== -/
theorem nm_eq {x : Int} (h : 18 ≤ x ∧ x ≤ 24) (P : Mem) (v : Int64) : t_Laws_name P x v = setL P 178 (x - 18) v := by
  unfold t_Laws_name
  simp (config := { proj := false }) only [qlet]
  rw [w32_id (x := x - 18) (by unfold InR; omega), if_neg (show ¬ x - 18 < 0 by omega), if_neg (show ¬ 7 ≤ x - 18 by omega)]
theorem look_sL (M : Mem) (k : Nat) (j : Int) (v : Int64) (r N : Nat) (i : Int) : t_WF_look (setL M k j v) r N i = t_WF_look M r N i := rfl
theorem c_value {M : Mem} {k0 : Nat} {K L : Int → Int} {n : Int} {nm : Int → Int64} (hK : KOK K n) (ho : OutR M k0 K L n) (h4 : 0 < n → ¬ M.1 k0 4 = 0) (hr : (178 : Nat) ≠ k0 + 3) (hn : ∀ j, 0 ≤ j → j ≤ 6 → M.2 178 j = nm j) (hd : ∀ x : Int64, q_absl 0 ≤ 1000000000000 / q_absl x) : ∃ N, t_Formula_value M k0 178 7 = some (N, eM (valS K L nm n)) ∧ Fr (fun q _ => q = k0 + 3) M N := by
  have h1 := hK.1
  have h2 := hK.2.1
  exact c_value_loop (r1 := 178) (N1 := 7) hK ho h4 hr rfl hn hd n.toNat 0 FU M [] (by omega) (fu_big (by omega)) Fr.rf (fun _ _ => rfl) rfl trivial
theorem c_joyTold {M : Mem} {T : Nat} {V : TV} {f A : Int → Int} {w yr : Int} (hV : VOK V) (hK : FOK V) (hT : T = 2 ∨ T = 22) (hX : CTx M T V) (hm : MeR M V f A (V 0 3).toNat) (hw : 0 ≤ w ∧ w < V 0 2) (hd : ∀ x : Int64, q_absl 0 ≤ 1000000000000 / q_absl x) : ∃ N, t_Laws_joyTold M T w yr = some (N, eM (valS (V 12) (V 13) (nmJ V f A w yr) (V 0 12))) ∧ Fr (fun q _ => q = 178 ∨ q = T + 18) M N := by
  have hv := hV.1
  obtain ⟨m1, m2, m3⟩ := hm w hw.1 (by omega)
  have l1 : t_WF_look M (T + 3) 4 w = V 3 w := by rw [look_in hw.1 (by omega)]; exact (hX.1.2.1 w hw.1 hw.2).2.2
  have l2 : t_WF_look M (T + 4) 4 w = szV V w := by rw [look_in hw.1 (by omega)]; exact hX.2.1.2.1 w hw.1 hw.2
  have l3 : t_WF_look M 179 4 w = (jyS V f A w (V 0 3).toNat).1 := by rw [look_in hw.1 (by omega)]; exact m1
  have l4 : t_WF_look M 180 4 w = (jyS V f A w (V 0 3).toNat).2.1 := by rw [look_in hw.1 (by omega)]; exact m2
  have l5 : t_WF_look M 181 4 w = (jyS V f A w (V 0 3).toNat).2.2 := by rw [look_in hw.1 (by omega)]; exact m3
  unfold t_Laws_joyTold
  simp (config := { proj := false }) only [qlet]
  rw [nm_eq (x := 18) (by omega), nm_eq (x := 19) (by omega), nm_eq (x := 20) (by omega), nm_eq (x := 21) (by omega), nm_eq (x := 22) (by omega), nm_eq (x := 23) (by omega), nm_eq (x := 24) (by omega)]
  simp only [look_sL]
  rw [l1, l2, l3, l4, l5]
  obtain ⟨N7, e7⟩ : ∃ P, P = setL (setL (setL (setL (setL (setL (setL M 178 (18 - 18) (q_i2l (V 3 w))) 178 (19 - 18) (q_i2l (szV V w))) 178 (20 - 18) (q_i2l (jyS V f A w (V 0 3).toNat).1)) 178 (21 - 18) (q_i2l (jyS V f A w (V 0 3).toNat).2.1)) 178 (22 - 18) (q_i2l (jyS V f A w (V 0 3).toNat).2.2)) 178 (23 - 18) 0) 178 (24 - 18) (q_i2l yr) := ⟨_, rfl⟩
  rw [← e7]
  have f7 : Fr (fun q _ => q = 178) M N7 := by rw [e7]; exact ((((((Fr.rf.setL rfl).setL rfl).setL rfl).setL rfl).setL rfl).setL rfl).setL rfl
  have i7 : ∀ k j, N7.1 k j = M.1 k j := fun k j => by rw [e7]
  have hn : ∀ j, 0 ≤ j → j ≤ 6 → N7.2 178 j = nmJ V f A w yr j := by
    intro j a b
    rw [e7]
    unfold nmJ
    have hj : j = 0 ∨ j = 1 ∨ j = 2 ∨ j = 3 ∨ j = 4 ∨ j = 5 ∨ j = 6 := by omega
    rcases hj with rfl | rfl | rfl | rfl | rfl | rfl | rfl
    · rw [sL_ne (by omega), sL_ne (by omega), sL_ne (by omega), sL_ne (by omega), sL_ne (by omega), sL_ne (by omega)]; exact (sL_self _ _ _ _).trans (if_pos rfl).symm
    · rw [sL_ne (by omega), sL_ne (by omega), sL_ne (by omega), sL_ne (by omega), sL_ne (by omega)]; exact sL_self _ _ _ _
    · rw [sL_ne (by omega), sL_ne (by omega), sL_ne (by omega), sL_ne (by omega)]; exact sL_self _ _ _ _
    · rw [sL_ne (by omega), sL_ne (by omega), sL_ne (by omega)]; exact sL_self _ _ _ _
    · rw [sL_ne (by omega), sL_ne (by omega)]; exact sL_self _ _ _ _
    · rw [sL_ne (by omega)]; exact sL_self _ _ _ _
    · exact sL_self _ _ _ _
  have ho : OutR N7 (T + 15) (V 12) (V 13) (V 0 12) := by
    obtain ⟨o1, o2⟩ := hX.2.2.2.2
    exact ⟨(i7 _ _).trans o1, fun j a b => ⟨(i7 _ _).trans (o2 j a b).1, (i7 _ _).trans (o2 j a b).2⟩⟩
  have h4 : 0 < V 0 12 → ¬ N7.1 (T + 15) 4 = 0 := fun z => by
    have e : N7.1 (T + 15) 4 = V 0 10 := (i7 _ _).trans hX.2.2.2.1
    have := hK.2.2.2.2.2.mpr z
    omega
  obtain ⟨N, n1, n2⟩ := c_value (k0 := T + 15) hK.2.1 ho h4 (by omega) hn hd
  rw [n1, obind_some]
  exact ⟨N, rfl, (f7.mono (fun q j z => Or.inl z)).trans (n2.mono (fun q j z => Or.inr z))⟩
end
section
/-! ===== a bound; ward and law, both sides ===== -/
theorem absl_neg {x : Int64} (h : ¬ 0 ≤ (q_absl x).toInt) : x = -9223372036854775808 := by
  have z0 : (0 : Int64).toInt = 0 := by decide +kernel
  unfold q_absl at h
  by_cases c : 0 < x
  · rw [if_pos c] at h
    have := Int64.lt_iff_toInt_lt.mp c
    omega
  · rw [if_neg c, Int64.toInt_neg] at h
    have c1 : ¬ 0 < x.toInt := fun q => c (Int64.lt_iff_toInt_lt.mpr (by rw [z0]; exact q))
    have c2 := Int64.le_toInt x
    apply Int64.toInt_inj.mp
    have e : (-9223372036854775808 : Int64).toInt = -9223372036854775808 := by decide +kernel
    rw [e]
    by_cases q : x.toInt = -9223372036854775808
    · exact q
    · exfalso
      apply h
      rw [Int.bmod_eq_of_le (by omega) (by omega)]
      omega
theorem dv0 (x : Int64) : q_absl 0 ≤ 1000000000000 / q_absl x := by
  have h0 : q_absl 0 = 0 := by decide +kernel
  have z0 : (0 : Int64).toInt = 0 := by decide +kernel
  have e : (1000000000000 : Int64).toInt = 1000000000000 := by decide +kernel
  rw [h0]
  by_cases hz : 0 ≤ (q_absl x).toInt
  · rw [Int64.le_iff_toInt_le, Int64.toInt_div, e, z0, Int.tdiv_eq_ediv_of_nonneg (by decide)]
    have t0 : 0 ≤ (1000000000000 : Int) / (q_absl x).toInt := Int.ediv_nonneg (by decide) hz
    have t1 : (1000000000000 : Int) / (q_absl x).toInt ≤ 1000000000000 := Int.ediv_le_self _ (by decide)
    rw [Int.bmod_eq_of_le (by omega) (by omega)]
    exact t0
  · rw [absl_neg hz]
    decide +kernel
/-- no value is the least long -/
def nMin (v : Int64) : Prop := v ≠ -9223372036854775808
theorem nMin_i2l (x : Int) : nMin (q_i2l x) := by
  intro h
  have e : (q_i2l x).toInt = (-9223372036854775808 : Int64).toInt := by rw [h]
  have e2 : (-9223372036854775808 : Int64).toInt = -9223372036854775808 := by decide +kernel
  rw [e2] at e
  unfold q_i2l at e
  rw [Int32.toInt_toInt64] at e
  have := Int32.le_toInt (Int32.ofInt x)
  omega
theorem nMin_chk {q v : Int64} (h : chkS q = some v) : nMin v := by
  intro e
  rw [← ckC_eq] at h
  unfold ckC at h
  by_cases a : 1000000000000 < q
  · rw [if_pos a] at h; cases h
  · rw [if_neg a] at h
    by_cases b : -1000000000000 ≤ q
    · rw [if_pos b] at h
      have : q = v := Option.some.inj h
      rw [this, e] at b
      exact absurd b (by decide +kernel)
    · rw [if_neg b] at h; cases h
def nMo (v : Int64) (o : Option Int64) : Prop := o = some v → nMin v
theorem nMo_ite {v : Int64} {c : Prop} [Decidable c] {a b : Option Int64} (h1 : nMo v a) (h2 : nMo v b) : nMo v (if c then a else b) := by
  by_cases z : c
  · rw [if_pos z]; exact h1
  · rw [if_neg z]; exact h2
theorem nMo_chk (v q : Int64) : nMo v (chkS q) := fun h => nMin_chk h
theorem nMo_none (v : Int64) : nMo v none := fun h => by cases h
theorem nMin_join {c : Int} {x y v : Int64} (h : joinS c x y = some v) : nMin v := by
  have k : nMo v (joinS c x y) := by
    unfold joinS
    repeat' (first | exact nMo_chk _ _ | exact nMo_none _ | apply nMo_ite)
  exact k h
theorem nMin_ev {K N : Int → Int} {nm : Int → Int64} (hn : ∀ j, nMin (nm j)) : ∀ (i : Nat) (st : List Int64), evS K N nm i = some st → ∀ v ∈ st, nMin v := by
  intro i
  induction i with
  | zero => intro st h v hv; cases h; cases hv
  | succ i ih =>
    intro st h v hv
    rw [evS] at h
    cases e : evS K N nm i with
    | none => rw [e] at h; cases h
    | some s0 =>
      rw [e] at h
      have h : knS K N nm (i : Int) s0 = some st := h
      have hs := ih s0 e
      have n01 : ∀ y : Int64, nMin (if y = 0 then 1 else 0) := fun y => by split <;> (intro q; exact absurd q (by decide +kernel))
      by_cases k31 : K (i : Int) = 31
      · rw [knS_num k31] at h
        cases h
        rcases List.mem_cons.mp hv with q | q
        · rw [q]; exact nMin_i2l _
        · exact hs v q
      · by_cases k18 : 18 ≤ K (i : Int) ∧ K (i : Int) ≤ 24
        · rw [knS_name k18] at h
          cases h
          rcases List.mem_cons.mp hv with q | q
          · rw [q]; exact hn _
          · exact hs v q
        · match s0, hs, h with
          | [], hs, h => rw [knS, if_neg k31, if_neg k18] at h; cases h
          | [y], hs, h =>
            rw [knS, if_neg k31, if_neg k18] at h
            by_cases k17 : K (i : Int) = 17
            · rw [if_pos k17] at h
              cases h
              rcases List.mem_cons.mp hv with q | q
              · rw [q]; exact n01 y
              · cases q
            · rw [if_neg k17] at h; cases h
          | y :: x :: r, hs, h =>
            rw [knS, if_neg k31, if_neg k18] at h
            by_cases k17 : K (i : Int) = 17
            · rw [if_pos k17] at h
              cases h
              rcases List.mem_cons.mp hv with q | q
              · rw [q]; exact n01 y
              · exact hs v (List.mem_cons_of_mem _ q)
            · rw [if_neg k17] at h
              cases ej : joinS (K (i : Int)) x y with
              | none => rw [ej] at h; cases h
              | some u =>
                rw [ej] at h
                cases h
                rcases List.mem_cons.mp hv with q | q
                · rw [q]; exact nMin_join ej
                · exact hs v (List.mem_cons_of_mem _ (List.mem_cons_of_mem _ q))
theorem nMin_val {K N : Int → Int} {nm : Int → Int64} {n : Int} {v : Int64} (hn : ∀ j, nMin (nm j)) (h : valS K N nm n = some v) : nMin v := by
  unfold valS at h
  cases e : evS K N nm n.toNat with
  | none => rw [e] at h; cases h
  | some st =>
    rw [e] at h
    match st, e, h with
    | [], e, h => cases h
    | [u], e, h =>
      have : u = v := Option.some.inj h
      rw [← this]
      exact nMin_ev hn n.toNat [u] e u (List.mem_cons_self ..)
    | a :: b :: c, e, h => cases h
end
section
/-! ===== ward, both sides ===== -/
theorem nmJ_min (V : TV) (f A : Int → Int) (w yr : Int) : ∀ j, nMin (nmJ V f A w yr j) := by
  intro j
  unfold nmJ
  have z : nMin 0 := fun q => absurd q (by decide +kernel)
  repeat' split
  all_goals first | exact nMin_i2l _ | exact z
theorem val_zero {K N : Int → Int} {nm : Int → Int64} {n : Int} (h : ¬ 0 < n) : valS K N nm n = none := by
  unfold valS
  rw [show n.toNat = 0 by omega]
  rfl
theorem c_joyOf {M : Mem} {T : Nat} {V : TV} {f A : Int → Int} {w yr : Int} (hV : VOK V) (hK : FOK V) (hT : T = 2 ∨ T = 22) (hX : CTx M T V) (hm : MeR M V f A (V 0 3).toNat) (hw : 0 ≤ w ∧ w < V 0 2) : ∃ N, t_Laws_joyOf M T w yr = some (N, joyS V f A w yr) ∧ Fr (fun q _ => q = 178 ∨ q = T + 18) M N := by
  have hv := hV.1
  obtain ⟨N, n1, n2⟩ := c_joyTold (yr := yr) hV hK hT hX hm hw dv0
  have l4 : t_WF_look N 180 4 w = (jyS V f A w (V 0 3).toNat).2.1 := by
    rw [look_in hw.1 (by omega), (n2 180 w (by omega)).1]
    exact (hm w hw.1 (by omega)).2.1
  refine ⟨N, ?_, n2⟩
  unfold t_Laws_joyOf
  rw [n1, obind_some]
  simp (config := { proj := false }) only [qlet]
  unfold joyS witS
  cases e : valS (V 12) (V 13) (nmJ V f A w yr) (V 0 12) with
  | none =>
    have he : eM (none : Option Int64) = -9223372036854775808 := rfl
    show (if eM (none : Option Int64) = -9223372036854775808 then some (N, t_WF_look N 180 4 w) else some (N, q_l2i (q_maxl 0 (q_minl 9999 (eM (none : Option Int64)))))) = _
    rw [if_pos he, l4]
    by_cases h0 : 0 < V 0 12
    · rw [if_pos h0]
    · rw [if_neg h0]
  | some v =>
    have h0 : 0 < V 0 12 := by
      by_cases h0 : 0 < V 0 12
      · exact h0
      · rw [val_zero h0] at e; cases e
    have hn : ¬ eM (some v) = -9223372036854775808 := nMin_val (nmJ_min V f A w yr) e
    show (if eM (some v) = -9223372036854775808 then some (N, t_WF_look N 180 4 w) else some (N, q_l2i (q_maxl 0 (q_minl 9999 (eM (some v)))))) = _
    rw [if_neg hn, if_pos h0]
    rfl
theorem bs_ward {M : Mem} (h : LI M) {x1 x2 : Int} (h1 : InR x1) (h2 : InR x2) : Ok (fun q => Ok (fun r => q.2 = r.2 ∧ LI r.1) (t_MO_ward q.1 x1 x2)) (t_WF_ward M x1 x2) := by
  have h' := h
  have hTT := h.T
  obtain ⟨hI, ⟨V, hR, hX, hRL⟩, -⟩ := h
  have hV := hR.1.1
  have hv := hV.1
  have hK := hR.1.2.2.1
  have hS : CScF M 47 V (DN M 0) (AT M 0) (ST M 0) (LN M 0) (M.2 210 0) (M.2 211 0) (wlV V) := hRL.1
  obtain ⟨k1, -, -, -⟩ := hRL.2.1
  have hcl : ∃ N, t_WF_ward M x1 x2 = some (N, wardS V (DN M 0) (AT M 0) (nxR M 0 V) (M.1 207 0) x1 x2) ∧ Fr QkW M N := by
    unfold t_WF_ward wardS
    simp (config := { proj := false }) only [qlet]
    rw [c_hasWard hX.1]
    by_cases c1 : 0 ≤ x1 ∧ x1 < V 0 2
    rotate_left
    · rw [if_neg c1, if_pos rfl, if_neg c1]; exact ⟨M, rfl, Fr.rf⟩
    rw [if_pos c1, if_neg (show ¬ (1 : Int) = 0 by decide), if_pos c1]
    by_cases z0 : x2 = 0
    · rw [if_pos z0, if_pos z0, look_in c1.1 (by omega)]
      exact ⟨M, congrArg (fun y => some (M, y)) (hS.1 x1 c1.1 c1.2), Fr.rf⟩
    rw [if_neg z0, if_neg z0]
    by_cases z1 : x2 = 1
    · rw [if_pos z1, if_pos z1, look_in c1.1 (by omega), (hX.1.2.1 x1 c1.1 c1.2).2.2]; exact ⟨M, rfl, Fr.rf⟩
    rw [if_neg z1, if_neg z1]
    by_cases z2 : x2 = 2
    · rw [if_pos z2, if_pos z2, look_in c1.1 (by omega), hX.2.1.2.1 x1 c1.1 c1.2]; exact ⟨M, rfl, Fr.rf⟩
    rw [if_neg z2, if_neg z2]
    by_cases z3 : x2 = 3
    rotate_left
    · rw [if_neg z3, if_neg z3]; exact ⟨M, rfl, Fr.rf⟩
    rw [if_pos z3, if_pos z3]
    obtain ⟨N, n1, n2, n3⟩ := c_measure hV hTT.2 (Or.inl rfl) ⟨hX.1, hX.2.1⟩ hS (fun t a b => hR.row0.2.1 t a b)
    have e4 : N.1 0 4 = M.1 0 4 := (n2 0 4 (by unfold MeW; omega)).1
    have e62 : N.1 62 3 = M.1 207 0 := ((n2 62 3 (by unfold MeW; omega)).1).trans k1
    have XN : CTx N (M.1 0 4).toNat V := hX.fr n2 (fun k j a z => by unfold CxW at a; unfold MeW at z; omega)
    rw [n1, obind_some, e4, e62]
    obtain ⟨P, p1, p2⟩ := c_joyOf (yr := M.1 207 0) hV hK hTT.2 XN n3 c1
    rw [p1, obind_some]
    exact ⟨P, rfl, (n2.mono (fun q j z => by unfold MeW at z; unfold QkW; omega)).trans (p2.mono (fun q j z => by unfold QkW; omega))⟩
  obtain ⟨N, n1, n2⟩ := hcl
  obtain ⟨u, e, hu⟩ := sf_WF_ward hI h1 h2
  have : u = _ := Option.some.inj (e.symm.trans n1)
  subst this
  have hLN : LI N := h'.q hu.1 n2
  have hRN : RI N V := hR.fr n2 (fun q j a z => by unfold RIc at a; unfold QkW at z; omega)
  obtain ⟨P, p1, p2⟩ := m_ward hRN x1 x2
  have eD : DN N 0 = DN M 0 := funext (fun w => (n2 212 _ (fun z => by unfold QkW at z; omega)).1)
  have eA : AT N 0 = AT M 0 := funext (fun w => (n2 213 _ (fun z => by unfold QkW at z; omega)).1)
  have er : nxR N 0 V = nxR M 0 V := nxR_fr n2 (fun k j x q => by unfold QkW at q; omega)
  rw [eD, eA, er, (n2 207 0 (fun z => by unfold QkW at z; omega)).1] at p1
  have hIP := im_MO_ward hu.1 h1 h2 _ p1
  exact ⟨_, n1, _, p1, rfl, hLN.qm hIP.1 (p2.mono (fun k j z => by unfold JW0 JW W_MO_goesFrom GO at z; unfold QmW; omega))⟩
end
section
/-! ===== law, both sides ===== -/
theorem c_pushNames {M : Mem} {T : Nat} {V : TV} {nm : Int → Int64} (hK : FOK V) (hX : CTx M T V) (hT : T = 2 ∨ T = 22) {a0 a1 a2 a3 a4 a5 a6 : Int64} (h : a0 = nm 0 ∧ a1 = nm 1 ∧ a2 = nm 2 ∧ a3 = nm 3 ∧ a4 = nm 4 ∧ a5 = nm 5 ∧ a6 = nm 6) : ∃ N, t_Formula_value (setL (setL (setL (setL (setL (setL (setL M 178 (18 - 18) a0) 178 (19 - 18) a1) 178 (20 - 18) a2) 178 (21 - 18) a3) 178 (22 - 18) a4) 178 (23 - 18) a5) 178 (24 - 18) a6) (T + 10) 178 7 = some (N, eM (valS (V 10) (V 11) nm (V 0 11))) ∧ Fr (fun q _ => q = 178 ∨ q = T + 13) M N := by
  obtain ⟨b0, b1, b2, b3, b4, b5, b6⟩ := h
  obtain ⟨N7, e7⟩ : ∃ P, P = setL (setL (setL (setL (setL (setL (setL M 178 (18 - 18) a0) 178 (19 - 18) a1) 178 (20 - 18) a2) 178 (21 - 18) a3) 178 (22 - 18) a4) 178 (23 - 18) a5) 178 (24 - 18) a6 := ⟨_, rfl⟩
  rw [← e7]
  have f7 : Fr (fun q _ => q = 178) M N7 := by rw [e7]; exact ((((((Fr.rf.setL rfl).setL rfl).setL rfl).setL rfl).setL rfl).setL rfl).setL rfl
  have i7 : ∀ k j, N7.1 k j = M.1 k j := fun k j => by rw [e7]
  have hn : ∀ j, 0 ≤ j → j ≤ 6 → N7.2 178 j = nm j := by
    intro j a b
    rw [e7]
    have hj : j = 0 ∨ j = 1 ∨ j = 2 ∨ j = 3 ∨ j = 4 ∨ j = 5 ∨ j = 6 := by omega
    rcases hj with rfl | rfl | rfl | rfl | rfl | rfl | rfl
    · rw [sL_ne (by omega), sL_ne (by omega), sL_ne (by omega), sL_ne (by omega), sL_ne (by omega), sL_ne (by omega)]; exact (sL_self _ _ _ _).trans b0
    · rw [sL_ne (by omega), sL_ne (by omega), sL_ne (by omega), sL_ne (by omega), sL_ne (by omega)]; exact (sL_self _ _ _ _).trans b1
    · rw [sL_ne (by omega), sL_ne (by omega), sL_ne (by omega), sL_ne (by omega)]; exact (sL_self _ _ _ _).trans b2
    · rw [sL_ne (by omega), sL_ne (by omega), sL_ne (by omega)]; exact (sL_self _ _ _ _).trans b3
    · rw [sL_ne (by omega), sL_ne (by omega)]; exact (sL_self _ _ _ _).trans b4
    · rw [sL_ne (by omega)]; exact (sL_self _ _ _ _).trans b5
    · exact (sL_self _ _ _ _).trans b6
  have ho : OutR N7 (T + 10) (V 10) (V 11) (V 0 11) := by
    obtain ⟨o1, o2⟩ := hX.2.2.1.2
    exact ⟨(i7 _ _).trans o1, fun j a b => ⟨(i7 _ _).trans (o2 j a b).1, (i7 _ _).trans (o2 j a b).2⟩⟩
  have h4 : 0 < V 0 11 → ¬ N7.1 (T + 10) 4 = 0 := fun z => by
    have e : N7.1 (T + 10) 4 = V 0 9 := (i7 _ _).trans hX.2.2.1.1
    have := hK.2.2.2.2.1.mpr z
    omega
  obtain ⟨N, n1, n2⟩ := c_value (k0 := T + 10) hK.1 ho h4 (by omega) hn dv0
  exact ⟨N, n1, (f7.mono (fun q j z => Or.inl z)).trans (n2.mono (fun q j z => Or.inr z))⟩
end
section
/-! ===== law: push from a cell ===== -/
section PF
variable {T : Nat} {c d yr : Int}
theorem pf_205 (P : Mem) (v5 : Int64) : t_Laws_pushFrom_L205 T 47 c d yr P 23 v5 = obind (t_Formula_value (setL (setL P 178 (23 - 18) v5) 178 (24 - 18) (q_i2l yr)) (T + 10) 178 7) (fun q45 => some (q45.1, q45.2)) := by
  unfold t_Laws_pushFrom_L205
  simp (config := { proj := false }) only [qlet]
  rw [nm_eq (x := 23) (by omega), nm_eq (x := 24) (by omega)]
theorem pf_177 (P : Mem) {own : Int} (ho : 0 ≤ own ∧ own ≤ 4) (v7 : Int64) : t_Laws_pushFrom_L177 T 47 c d yr P own 22 v7 = t_Laws_pushFrom_L205 T 47 c d yr (setL P 178 (22 - 18) v7) 23 (if own = 4 then 0 else if q_rem (own + 2) 4 = d then 1 else 0) := by
  unfold t_Laws_pushFrom_L177 t_Laws_pushFrom_L204
  simp (config := { proj := false }) only [qlet]
  rw [nm_eq (x := 22) (by omega), w32_id (x := own + 2) (by unfold InR; omega)]
  by_cases a : own = 4
  · rw [if_pos a, if_pos a]
  · rw [if_neg a, if_neg a]
    by_cases b : q_rem (own + 2) 4 = d
    · rw [if_pos b, if_pos b]
    · rw [if_neg b, if_neg b]
theorem pf_156 (P : Mem) {to own ln : Int} (hl : ∀ v, t_Town_isLine (setL P 178 (21 - 18) v) T c to = ln) (v9 : Int64) : t_Laws_pushFrom_L156 T 47 c d yr P to own 21 v9 = t_Laws_pushFrom_L177 T 47 c d yr (setL P 178 (21 - 18) v9) own 22 (if ln = 0 then 0 else 1) := by
  unfold t_Laws_pushFrom_L156
  simp (config := { proj := false }) only [qlet]
  rw [nm_eq (x := 21) (by omega), hl]
  by_cases a : ln = 0
  · rw [if_pos a, if_pos a]
  · rw [if_neg a, if_neg a]
theorem pf_131 (P : Mem) {to th own : Int} (v10 : Int64) : t_Laws_pushFrom_L131 T 47 c d yr P to th own 20 v10 = t_Laws_pushFrom_L156 T 47 c d yr (setL P 178 (20 - 18) v10) to own 21 (if th < 0 then 0 else q_i2l (t_WF_look P (T + 6) 8 th)) := by
  unfold t_Laws_pushFrom_L131
  simp (config := { proj := false }) only [qlet]
  rw [nm_eq (x := 20) (by omega), look_sL]
  by_cases a : th < 0
  · rw [if_neg (show ¬ 0 ≤ th by omega), if_pos a]
  · rw [if_pos (show 0 ≤ th by omega), if_neg a]
theorem pf_115 (P : Mem) {to th own : Int} (v10 : Int64) : t_Laws_pushFrom_L115 T 47 c d yr P to th own 19 v10 = t_Laws_pushFrom_L131 T 47 c d yr (setL P 178 (19 - 18) v10) to th own 20 (if th < 0 then 0 else 1) := by
  unfold t_Laws_pushFrom_L115
  simp (config := { proj := false }) only [qlet]
  rw [nm_eq (x := 19) (by omega)]
  by_cases a : th < 0
  · rw [if_neg (show ¬ 0 ≤ th by omega), if_pos a]
  · rw [if_pos (show 0 ≤ th by omega), if_neg a]
theorem pf_90 (P : Mem) {to wd th own : Int} (v11 : Int64) : t_Laws_pushFrom_L90 T 47 c d yr P to wd th own 18 v11 = t_Laws_pushFrom_L115 T 47 c d yr (setL P 178 (18 - 18) v11) to th own 19 (if wd < 0 then 0 else q_i2l (t_WF_look P (T + 4) 4 wd)) := by
  unfold t_Laws_pushFrom_L90
  simp (config := { proj := false }) only [qlet]
  rw [nm_eq (x := 18) (by omega), look_sL]
  by_cases a : wd < 0
  · rw [if_neg (show ¬ 0 ≤ wd by omega), if_pos a]
  · rw [if_pos (show 0 ≤ wd by omega), if_neg a]
end PF
theorem c_beside_out {M : Mem} {T : Nat} {V : TV} (hs : CTs M T V) {c : Int} (h : ¬ (0 ≤ c ∧ c < cellsV V)) (d : Int) : t_Town_beside M T c d = -1 := by
  unfold t_Town_beside
  simp only [qlet]
  rw [c_hasCell hs, if_neg h, if_pos rfl]
theorem bs_side {V : TV} {c d : Int} (h : 0 ≤ bsV V c d) : 0 ≤ d ∧ d ≤ 3 := by
  unfold bsV bsW at h
  by_cases a : d = 0
  · omega
  · rw [if_neg a] at h
    by_cases b : d = 1
    · omega
    · rw [if_neg b] at h
      by_cases e : d = 2
      · omega
      · rw [if_neg e] at h
        by_cases f : d = 3
        · omega
        · rw [if_neg f] at h; omega
theorem wl_1 {M : Mem} {V : TV} {D A S L : Int → Int} {nets wat : Int64} {k : Nat} (hV : VOK V) (hS : CScF M k V D A S L nets wat (wlV V)) {c : Int} (c0 : 0 ≤ c) (c1 : c < cellsV V) : t_WF_bitOf M (M.2 k 4) c = V 8 c := by
  have hC := hV.cells
  have h8 := (hV.2.2.2 c c0 (by omega)).2.2.1
  rw [bitOf_tb M _ c0 (by omega), hS.2.2.2.2 c c0 (by omega)]
  unfold wlV
  rcases h8 with z | z
  · rw [z]; rfl
  · rw [z]; rfl
/-- what the class's push from a cell answers -/
def pfS (V : TV) (D A : Int → Int) (c d yr : Int) : Int64 := if opV V c ∧ opV V (bsV V c d) then eM (valS (V 10) (V 11) (nmP V D A c d yr) (V 0 11)) else -9223372036854775808
theorem c_pushFrom {M : Mem} {T : Nat} {V : TV} {D A S L : Int → Int} {nets wat : Int64} (hV : VOK V) (hK : FOK V) (hT : T = 2 ∨ T = 22) (hX : CTx M T V) (hS : CScF M 47 V D A S L nets wat (wlV V)) (hD : ∀ w, 0 ≤ w → w < V 0 2 → 0 ≤ D w ∧ D w ≤ 4) (c d yr : Int) : ∃ N, t_Laws_pushFrom M T 47 c d yr = some (N, pfS V D A c d yr) ∧ Fr (fun q _ => q = 178 ∨ q = T + 13) M N := by
  have hv := hV.1
  have hC := hV.cells
  unfold t_Laws_pushFrom
  simp (config := { proj := false }) only [qlet]
  by_cases hc : 0 ≤ c ∧ c < cellsV V
  rotate_left
  · rw [c_beside_out hX.2.1 hc, if_pos (show (-1 : Int) < 0 by decide)]
    refine ⟨M, ?_, Fr.rf⟩
    unfold pfS
    rw [if_neg (show ¬ (opV V c ∧ opV V (bsV V c d)) from fun z => hc ⟨z.1.1, z.1.2.1⟩)]
  have hr := bs_rng hV hc.1 hc.2 d
  rw [c_beside hX.2.1 hV hc.1 hc.2 d]
  by_cases hb : bsV V c d < 0
  · rw [if_pos hb]
    refine ⟨M, ?_, Fr.rf⟩
    unfold pfS
    rw [if_neg (show ¬ (opV V c ∧ opV V (bsV V c d)) from fun z => by have := z.2.1; omega)]
  rw [if_neg hb, wl_1 hV hS hc.1 hc.2, wl_1 hV hS (show 0 ≤ bsV V c d by omega) hr.2]
  have h8 := (hV.2.2.2 c hc.1 (by omega)).2.2.1
  have g8 := (hV.2.2.2 (bsV V c d) (by omega) (by omega)).2.2.1
  by_cases z1 : V 8 c = 1
  · rw [if_pos z1]
    refine ⟨M, ?_, Fr.rf⟩
    unfold pfS
    rw [if_neg (show ¬ (opV V c ∧ opV V (bsV V c d)) from fun z => by have := z.1.2.2; omega)]
  rw [if_neg z1]
  by_cases z2 : V 8 (bsV V c d) = 1
  · rw [if_pos z2]
    refine ⟨M, ?_, Fr.rf⟩
    unfold pfS
    rw [if_neg (show ¬ (opV V c ∧ opV V (bsV V c d)) from fun z => by have := z.2.2.2; omega)]
  rw [if_neg z2]
  have ho := hV.2.2.2 (bsV V c d) (by omega) (by omega)
  have hth := th_rng hV A (bsV V c d)
  have hdn := dn_rng hV hD hc.1 (show c < 48 by omega)
  have ht : t_Scene_thingIn M 47 T (bsV V c d) = some (thV V A (bsV V c d)) := c_thingIn hV ⟨hX.1, hX.2.1⟩ (fun t x y => (hS.2.1 t x y).1) (bsV V c d)
  have hln : ∀ (P : Mem), P.1 = M.1 → t_Town_isLine P T c (bsV V c d) = lnV V c (bsV V c d) := fun P hP => by
    have e : t_Town_isLine P T c (bsV V c d) = t_Town_isLine M T c (bsV V c d) := by
      unfold t_Town_isLine t_Town_ownerOf t_WF_look
      rw [hP]
    rw [e]
    exact c_line hX.1 hc.1 (by omega) (by omega) (by omega)
  rw [c_owner hX.1 (show 0 ≤ bsV V c d by omega) (by omega), ht, obind_some, c_down hX.1 hV hS.sc hc.1 (by omega)]
  have l3 : ∀ w, 0 ≤ w → w < V 0 2 → t_WF_look M (T + 3) 4 w = V 3 w := fun w x y => by rw [look_in x (by omega)]; exact (hX.1.2.1 w x y).2.2
  have l4 : ∀ w, 0 ≤ w → w < V 0 2 → t_WF_look M (T + 4) 4 w = szV V w := fun w x y => by rw [look_in x (by omega)]; exact hX.2.1.2.1 w x y
  have l6 : ∀ t, 0 ≤ t → t < V 0 3 → t_WF_look M (T + 6) 8 t = V 5 t := fun t x y => by rw [look_in x (by omega)]; exact (hX.1.2.2.1 t x y).2.1
  have start : (if 0 ≤ V 7 (bsV V c d) then t_Laws_pushFrom_L90 T 47 c d yr M (bsV V c d) (V 7 (bsV V c d)) (thV V A (bsV V c d)) (dnV V D c) 18 (q_i2l (t_WF_look M (T + 3) 4 (V 7 (bsV V c d)))) else t_Laws_pushFrom_L90 T 47 c d yr M (bsV V c d) (V 7 (bsV V c d)) (thV V A (bsV V c d)) (dnV V D c) 18 0) = t_Laws_pushFrom_L90 T 47 c d yr M (bsV V c d) (V 7 (bsV V c d)) (thV V A (bsV V c d)) (dnV V D c) 18 (if V 7 (bsV V c d) < 0 then 0 else q_i2l (t_WF_look M (T + 3) 4 (V 7 (bsV V c d)))) := by
    by_cases a : V 7 (bsV V c d) < 0
    · rw [if_neg (show ¬ 0 ≤ V 7 (bsV V c d) by omega), if_pos a]
    · rw [if_pos (show 0 ≤ V 7 (bsV V c d) by omega), if_neg a]
  have h156 := fun (P : Mem) (hP : P.1 = M.1) (v9 : Int64) => pf_156 (T := T) (c := c) (d := d) (yr := yr) P (to := bsV V c d) (own := dnV V D c) (ln := lnV V c (bsV V c d)) (fun v => hln (setL P 178 (21 - 18) v) hP) v9
  rw [start, pf_90, pf_115, pf_131, h156]
  rotate_left
  · rfl
  rw [pf_177 _ hdn, pf_205]
  simp only [look_sL]
  obtain ⟨N, n1, n2⟩ := c_pushNames (M := M) (nm := nmP V D A c d yr) hK hX hT (a0 := if V 7 (bsV V c d) < 0 then 0 else q_i2l (t_WF_look M (T + 3) 4 (V 7 (bsV V c d)))) (a1 := if V 7 (bsV V c d) < 0 then 0 else q_i2l (t_WF_look M (T + 4) 4 (V 7 (bsV V c d)))) (a2 := if thV V A (bsV V c d) < 0 then 0 else 1) (a3 := if thV V A (bsV V c d) < 0 then 0 else q_i2l (t_WF_look M (T + 6) 8 (thV V A (bsV V c d)))) (a4 := if lnV V c (bsV V c d) = 0 then 0 else 1) (a5 := if dnV V D c = 4 then 0 else if q_rem (dnV V D c + 2) 4 = d then 1 else 0) (a6 := q_i2l yr) (by
    rw [nmP0, nmP1, nmP2, nmP3, nmP4, nmP5, nmP6]
    refine ⟨?_, ?_, rfl, ?_, rfl, rfl, rfl⟩
    · by_cases a : V 7 (bsV V c d) < 0
      · rw [if_pos a, if_pos a]
      · rw [if_neg a, if_neg a, l3 _ (by omega) (by omega)]
    · by_cases a : V 7 (bsV V c d) < 0
      · rw [if_pos a, if_pos a]
      · rw [if_neg a, if_neg a, l4 _ (by omega) (by omega)]
    · by_cases a : thV V A (bsV V c d) < 0
      · rw [if_pos a, if_pos a]
      · rw [if_neg a, if_neg a, l6 _ (by omega) (by omega)])
  rw [n1, obind_some]
  refine ⟨N, ?_, n2⟩
  unfold pfS
  rw [if_pos (show opV V c ∧ opV V (bsV V c d) from ⟨⟨hc.1, hc.2, by omega⟩, ⟨by omega, hr.2, by omega⟩⟩)]
theorem bs_law {M : Mem} (h : LI M) {x1 x2 x3 : Int} (h1 : InR x1) (h2 : InR x2) (h3 : InR x3) : Ok (fun q => Ok (fun r => q.2 = r.2 ∧ LI r.1) (t_MO_law q.1 x1 x2 x3)) (t_WF_law M x1 x2 x3) := by
  have h' := h
  have hTT := h.T
  obtain ⟨hI, ⟨V, hR, hX, hRL⟩, -⟩ := h
  have hV := hR.1.1
  have hv := hV.1
  have hK := hR.1.2.2.1
  have hS : CScF M 47 V (DN M 0) (AT M 0) (ST M 0) (LN M 0) (M.2 210 0) (M.2 211 0) (wlV V) := hRL.1
  obtain ⟨k1, -, -, -⟩ := hRL.2.1
  have hcl : ∃ N, t_WF_law M x1 x2 x3 = some (N, lawS V (DN M 0) (AT M 0) (nxR M 0 V) (M.1 207 0) x1 x2 x3) ∧ Fr QkW M N := by
    unfold t_WF_law lawS
    simp (config := { proj := false }) only [qlet]
    by_cases z0 : x1 = 0
    · rw [if_pos z0, if_neg (show ¬ x1 = 1 by omega), if_pos z0, k1]
      obtain ⟨N, n1, n2⟩ := c_pushFrom hV hK hTT.2 hX hS (fun w a b => hR.row0.1 w a b) x2 x3 (M.1 207 0)
      rw [n1, obind_some]
      refine ⟨N, ?_, n2.mono (fun q j z => by unfold QkW; omega)⟩
      unfold pfS
      by_cases a : opV V x2 ∧ opV V (bsV V x2 x3)
      · have hd := bs_side a.2.1
        rw [if_pos a]
        by_cases b : 0 < V 0 11
        · rw [if_pos (show opV V x2 ∧ (0 ≤ x3 ∧ x3 ≤ 3) ∧ opV V (bsV V x2 x3) ∧ 0 < V 0 11 from ⟨a.1, hd, a.2, b⟩)]
        · rw [if_neg (show ¬ (opV V x2 ∧ (0 ≤ x3 ∧ x3 ≤ 3) ∧ opV V (bsV V x2 x3) ∧ 0 < V 0 11) from fun z => b z.2.2.2), val_zero b]
          rfl
      · rw [if_neg a, if_neg (show ¬ (opV V x2 ∧ (0 ≤ x3 ∧ x3 ≤ 3) ∧ opV V (bsV V x2 x3) ∧ 0 < V 0 11) from fun z => a ⟨z.1, z.2.2.1⟩)]
    rw [if_neg z0]
    by_cases z1 : x1 = 1
    rotate_left
    · rw [if_neg z1, if_neg z1, if_neg z0]; exact ⟨M, rfl, Fr.rf⟩
    rw [if_pos z1, if_pos z1, c_hasWard hX.1]
    by_cases c1 : 0 ≤ x2 ∧ x2 < V 0 2
    rotate_left
    · rw [if_neg c1, if_pos rfl, if_neg (show ¬ ((0 ≤ x2 ∧ x2 < V 0 2) ∧ 0 < V 0 12) from fun z => c1 z.1)]; exact ⟨M, rfl, Fr.rf⟩
    rw [if_pos c1, if_neg (show ¬ (1 : Int) = 0 by decide)]
    obtain ⟨N, n1, n2, n3⟩ := c_measure hV hTT.2 (Or.inl rfl) ⟨hX.1, hX.2.1⟩ hS (fun t a b => hR.row0.2.1 t a b)
    have e4 : N.1 0 4 = M.1 0 4 := (n2 0 4 (by unfold MeW; omega)).1
    have e62 : N.1 62 3 = M.1 207 0 := ((n2 62 3 (by unfold MeW; omega)).1).trans k1
    have XN : CTx N (M.1 0 4).toNat V := hX.fr n2 (fun k j a z => by unfold CxW at a; unfold MeW at z; omega)
    rw [n1, obind_some, e4, e62]
    obtain ⟨P, p1, p2⟩ := c_joyTold (yr := M.1 207 0) hV hK hTT.2 XN n3 c1 dv0
    rw [p1, obind_some]
    refine ⟨P, ?_, (n2.mono (fun q j z => by unfold MeW at z; unfold QkW; omega)).trans (p2.mono (fun q j z => by unfold QkW; omega))⟩
    by_cases b : 0 < V 0 12
    · rw [if_pos (show (0 ≤ x2 ∧ x2 < V 0 2) ∧ 0 < V 0 12 from ⟨c1, b⟩)]
      rfl
    · rw [if_neg (show ¬ ((0 ≤ x2 ∧ x2 < V 0 2) ∧ 0 < V 0 12) from fun z => b z.2), val_zero b]
      rfl
  obtain ⟨N, n1, n2⟩ := hcl
  obtain ⟨u, e, hu⟩ := sf_WF_law hI h1 h2 h3
  have : u = _ := Option.some.inj (e.symm.trans n1)
  subst this
  have hLN : LI N := h'.q hu n2
  have hRN : RI N V := hR.fr n2 (fun q j a z => by unfold RIc at a; unfold QkW at z; omega)
  obtain ⟨P, p1, p2⟩ := m_law hRN x1 x2 x3
  have eD : DN N 0 = DN M 0 := funext (fun w => (n2 212 _ (fun z => by unfold QkW at z; omega)).1)
  have eA : AT N 0 = AT M 0 := funext (fun w => (n2 213 _ (fun z => by unfold QkW at z; omega)).1)
  have er : nxR N 0 V = nxR M 0 V := nxR_fr n2 (fun k j x q => by unfold QkW at q; omega)
  rw [eD, eA, er, (n2 207 0 (fun z => by unfold QkW at z; omega)).1] at p1
  have hIP := im_MO_law hu h1 h2 h3 _ p1
  exact ⟨_, n1, _, p1, rfl, hLN.qm hIP (p2.mono (fun k j z => by unfold JW0 JW W_MO_goesFrom GO at z; unfold QmW; omega))⟩
end
section
/-! ===== the class's paths ===== -/
def GC (V : TV) (b wt co : Int → Int → Int) : Prop := ∀ c w, 0 ≤ c → c < cellsV V → 0 ≤ w → w < 4 → (co c w = -1 ∧ b c w = -1) ∨ (0 ≤ co c w ∧ co c w ≤ 999 ∧ 0 ≤ bsV V c w ∧ b c w = bsV V c w ∧ wt c w = co c w * 64 + 1)
def CoR (M : Mem) (V : TV) (co : Int → Int → Int) : Prop := ∀ c w, 0 ≤ c → c < cellsV V → 0 ≤ w → w < 4 → M.1 186 (c * 4 + w) = co c w
def fwC (x : Int) : Int := if x < BIG then x else -1
def LfR (M : Mem) (V : TV) (L : Int → Int) : Prop := ∀ x, 0 ≤ x → x < cellsV V → M.1 187 x = fwC (L x)
def W87 : Nat → Int → Prop := fun q _ => q = 187
section CPATH
variable {V : TV} {b wt co : Int → Int → Int} {T : Nat} {to : Int} {M0 M : Mem} {L : Int → Int}
theorem CoR.fr {W : Nat → Int → Prop} {N : Mem} (h : CoR M V co) (hF : Fr W M N) (hd : ∀ j, ¬ W 186 j) : CoR N V co := fun c w x y z u => by
  rw [(hF 186 _ (hd _)).1]
  exact h c w x y z u
theorem LfR.fr {W : Nat → Int → Prop} {N : Mem} (h : LfR M V L) (hF : Fr W M N) (hd : ∀ j, ¬ W 187 j) : LfR N V L := fun x y z => by
  rw [(hF 187 _ (hd _)).1]
  exact h x y z
theorem c_leftBy (hV : VOK V) (hX : CTs M T V) (hC : CoR M V co) (hL : LfR M V L) (hg : GC V b wt co) (hG : GOK b wt (CN V)) (hGI : GI b wt (CN V) to L) {c w : Int} (c0 : 0 ≤ c) (c1 : c < cellsV V) (w0 : 0 ≤ w) (w1 : w < 4) : t_Paths_leftBy M T c w = if 0 ≤ b c w ∧ L (b c w) < BIG then L (b c w) + wt c w else -1 := by
  have hc := hV.cells
  have hN := CN_eq hV
  unfold t_Paths_leftBy
  simp only [qlet]
  rw [w32_id (x := c * 4) (by unfold InR; omega), w32_id (x := c * 4 + w) (by unfold InR; omega), look_in (by omega) (by omega), hC c w c0 c1 w0 w1, c_beside hX hV c0 c1 w]
  have hb := bs_rng hV c0 c1 w
  rcases hg c w c0 c1 w0 w1 with ⟨e1, e2⟩ | ⟨e1, e2, e3, e4, e5⟩
  · rw [e1, e2, if_pos (show (-1 : Int) < 0 by decide), if_neg (show ¬ ((0 : Int) ≤ -1 ∧ L (-1) < BIG) from fun z => by omega)]
  · rw [if_neg (show ¬ co c w < 0 by omega), look_in e3 (by omega), hL _ e3 hb.2, e4, e5]
    have g := hGI.2 (bsV V c w) e3 (by omega)
    unfold fwC
    by_cases q : L (bsV V c w) < BIG
    · have t := hGI.top hG e3 (c := bsV V c w) (by omega) q
      rw [if_pos q, if_pos g.1, if_pos ⟨e3, q⟩, w32_id (x := co c w * 64) (by unfold InR; omega), w32_id (x := L (bsV V c w) + co c w * 64) (by unfold InR; omega), w32_id (x := L (bsV V c w) + co c w * 64 + 1) (by unfold InR; omega)]
      omega
    · rw [if_neg q, if_neg (show ¬ (0 : Int) ≤ -1 by decide), if_neg (fun z => q z.2)]
theorem c_sp_L15 (hV : VOK V) (hT : T = 2 ∨ T = 22) (hX : CTs M0 T V) (hC : CoR M0 V co) (hg : GC V b wt co) (hG : GOK b wt (CN V)) {c : Int} {bk : Mem → Int → Int → Option (Mem × Int)} (c0 : 0 ≤ c) (c1 : c < cellsV V) (LS Ls : Int → Int) (hs : ∀ x, Ls x ≤ LS x) (hgi : GI b wt (CN V) to Ls) : ∀ (n w fu : Nat) (M : Mem) (v : Int), w + n = 4 → n < fu → Fr W87 M0 M → LfR M V (rcG b wt Ls c w) → Flg (CN V) LS (rcG b wt Ls c w) v → ∃ N u, t_Paths_spread_L15 T bk fu M v c (w : Int) = bk N u (c + 1) ∧ Fr W87 M0 N ∧ LfR N V (rcG b wt Ls c 4) ∧ Flg (CN V) LS (rcG b wt Ls c 4) u := by
  have hc := hV.cells
  have hN := CN_eq hV
  have hB : BIG = 100000000 := rfl
  intro n
  induction n with
  | zero =>
    intro w fu M v g0 g1 hF hP hf
    obtain ⟨g, rfl⟩ : ∃ g, fu = g + 1 := ⟨fu - 1, by omega⟩
    have hw : w = 4 := by omega
    subst hw
    rw [t_Paths_spread_L15, if_pos (by omega), w32_id (x := c + 1) (by unfold InR; omega)]
    exact ⟨M, v, rfl, hF, hP, hf⟩
  | succ n ih =>
    intro w fu M v g0 g1 hF hP hf
    obtain ⟨g, rfl⟩ : ∃ g, fu = g + 1 := ⟨fu - 1, by omega⟩
    have XM : CTs M T V := CTs.fr hF (fun k j x y z => by unfold W87 at z; omega) hX
    have CM : CoR M V co := hC.fr hF (fun j z => by unfold W87 at z; omega)
    have hcur := rcG_GI hG hgi c0 (c := c) (by omega) w (by omega)
    have nx := fun N u q1 q2 q3 => ih (w + 1) g N u (by omega) (by omega) q1 q2 q3
    rw [rcG] at nx
    have hle : rcG b wt Ls c w c ≤ Ls c := rcG_le _ _ _ _
    have hsc := hs c
    rw [t_Paths_spread_L15, if_neg (by omega)]
    simp (config := { proj := false }) only [qlet]
    rw [c_leftBy hV XM CM hP hg hG hcur c0 c1 (by omega) (by omega), look_in c0 (by omega), hP c c0 c1]
    unfold t_Paths_spread_L58 t_Paths_spread_L70
    simp (config := { proj := false }) only [qlet]
    rw [w32_succ (by omega)]
    generalize rcG b wt Ls c w = L at *
    have gc := hcur.2 c c0 (by omega)
    have skip : rlG b wt L c (w : Int) = L → ∃ N u, t_Paths_spread_L15 T bk g M v c ((w + 1 : Nat) : Int) = bk N u (c + 1) ∧ Fr W87 M0 N ∧ LfR N V (rcG b wt Ls c 4) ∧ Flg (CN V) LS (rcG b wt Ls c 4) u := fun e => by
      rw [e] at nx
      exact nx M v hF hP hf
    by_cases p : 0 ≤ b c (w : Int) ∧ L (b c (w : Int)) < BIG
    rotate_left
    · rw [if_neg p, if_pos (show (-1 : Int) < 0 by decide)]
      refine skip ?_
      unfold rlG
      refine if_neg (fun z => p ⟨z.1, ?_⟩)
      rcases hg c (w : Int) c0 c1 (by omega) (by omega) with ⟨e1, e2⟩ | ⟨e1, e2, e3, e4, e5⟩
      · omega
      · have := z.2; omega
    rw [if_pos p]
    have hbl : b c (w : Int) < (CN V : Int) := (hG.2 c (w : Int) c0 (by omega) (by omega) (by omega)).1
    have hwt := (hG.2 c (w : Int) c0 (by omega) (by omega) (by omega)).2 p.1
    have gd := hcur.2 (b c (w : Int)) p.1 hbl
    have td := hcur.top hG p.1 hbl p.2
    rw [if_neg (show ¬ L (b c (w : Int)) + wt c (w : Int) < 0 by omega)]
    have put : L (b c (w : Int)) + wt c (w : Int) < L c → ∃ N u, t_Paths_spread_L15 T bk g (t_WF_put M 187 48 c (L (b c (w : Int)) + wt c (w : Int))) 1 c ((w + 1 : Nat) : Int) = bk N u (c + 1) ∧ Fr W87 M0 N ∧ LfR N V (rcG b wt Ls c 4) ∧ Flg (CN V) LS (rcG b wt Ls c 4) u := fun q => by
      have erl : rlG b wt L c (w : Int) = updG L c (L (b c (w : Int)) + wt c (w : Int)) := by
        unfold rlG
        rw [if_pos ⟨p.1, q⟩]
      rw [erl] at nx
      rw [put_in c0 (by omega)]
      refine nx _ _ (hF.setI rfl) (fun x x0 x1 => ?_) (Or.inr ⟨rfl, c, c0, by omega, ?_⟩)
      · by_cases ex : x = c
        · subst ex
          rw [sI_self]
          unfold updG fwC
          rw [if_pos rfl, if_pos (by omega)]
        · rw [sI_ne (by omega)]
          unfold updG
          rw [if_neg ex]
          exact hP x x0 x1
      · unfold updG
        rw [if_pos rfl]
        omega
    unfold fwC
    by_cases q1 : L c < BIG
    · rw [if_pos q1, if_neg (show ¬ L c < 0 by omega)]
      by_cases q : L c ≤ L (b c (w : Int)) + wt c (w : Int)
      · rw [if_pos q]
        refine skip ?_
        unfold rlG
        exact if_neg (fun z => by have := z.2; omega)
      · rw [if_neg q]
        exact put (by omega)
    · rw [if_neg q1, if_pos (show (-1 : Int) < 0 by decide)]
      exact put (by omega)
theorem c_sp_L4 (hV : VOK V) (hT : T = 2 ∨ T = 22) (hX : CTs M0 T V) (hC : CoR M0 V co) (hg : GC V b wt co) (hG : GOK b wt (CN V)) (LS : Int → Int) (hgi : GI b wt (CN V) to LS) : ∀ (n c fu : Nat) (M : Mem) (v : Int), c + n = CN V → n < fu → Fr W87 M0 M → LfR M V (rdG b wt LS c) → Flg (CN V) LS (rdG b wt LS c) v → ∃ N u, t_Paths_spread_L4 T fu M v (c : Int) = some (N, u) ∧ Fr W87 M0 N ∧ LfR N V (rdG b wt LS (CN V)) ∧ Flg (CN V) LS (rdG b wt LS (CN V)) u := by
  have hc := hV.cells
  have hN := CN_eq hV
  intro n
  induction n with
  | zero =>
    intro c fu M v g0 g1 hF hP hf
    obtain ⟨g, rfl⟩ : ∃ g, fu = g + 1 := ⟨fu - 1, by omega⟩
    rw [t_Paths_spread_L4, (hF T 13 (by unfold W87; omega)).1, hX.1, if_pos (by omega)]
    have hcc : c = CN V := by omega
    subst hcc
    exact ⟨M, v, rfl, hF, hP, hf⟩
  | succ n ih =>
    intro c fu M v g0 g1 hF hP hf
    obtain ⟨g, rfl⟩ : ∃ g, fu = g + 1 := ⟨fu - 1, by omega⟩
    rw [t_Paths_spread_L4, (hF T 13 (by unfold W87; omega)).1, hX.1, if_neg (by omega)]
    obtain ⟨N, u, n1, n2, n3, n4⟩ := c_sp_L15 (bk := fun a0_ a1_ a2_ => t_Paths_spread_L4 T g a0_ a1_ a2_) hV hT hX hC hg hG (c := (c : Int)) (by omega) (by omega) LS (rdG b wt LS c) (fun x => rdG_le _ _ _) (rdG_GI hG hgi c (by omega)) 4 0 FU M v (by omega) (fu_big (by omega)) hF hP hf
    rw [show ((0 : Nat) : Int) = 0 from rfl] at n1
    rw [n1, show (c : Int) + 1 = ((c + 1 : Nat) : Int) by omega]
    exact ih (c + 1) g N u (by omega) (by omega) n2 n3 n4
theorem c_find_L23 (hV : VOK V) (hT : T = 2 ∨ T = 22) (hX : CTs M0 T V) (hC : CoR M0 V co) (hg : GC V b wt co) (hG : GOK b wt (CN V)) {x2 x3 : Int} (LS : Int → Int) (hgi : GI b wt (CN V) to LS) : ∀ (n j fu : Nat) (M : Mem), j + n = 48 → n + 1 < fu → Fr W87 M0 M → LfR M V (itG b wt (CN V) LS j) → ∃ N, t_Paths_find_L23 T x2 x3 fu M 1 (j : Int) = t_Paths_find_L48 T x2 x3 N ∧ Fr W87 M0 N ∧ LfR N V (itG b wt (CN V) LS 47) := by
  have hc := hV.cells
  have hN := CN_eq hV
  have cv := it_conv hG hgi
  intro n
  induction n with
  | zero =>
    intro j fu M g0 g1 hF hP
    obtain ⟨g, rfl⟩ : ∃ g, fu = g + 2 := ⟨fu - 2, by omega⟩
    rw [t_Paths_find_L23, if_pos (by omega)]
    refine ⟨M, rfl, hF, fun x x0 x1 => ?_⟩
    rw [← cv.2 j (by omega) x x0 (by omega)]
    exact hP x x0 x1
  | succ n ih =>
    intro j fu M g0 g1 hF hP
    obtain ⟨g, rfl⟩ : ∃ g, fu = g + 2 := ⟨fu - 2, by omega⟩
    rw [t_Paths_find_L23, if_neg (by omega), if_neg (show ¬ (1 : Int) = 0 by decide)]
    unfold t_Paths_spread
    obtain ⟨N, u, n1, n2, n3, n4⟩ := c_sp_L4 hV hT hX hC hg hG _ (itG_GI hG hgi j) (CN V) 0 FU M 0 (by omega) (fu_big (by omega)) hF hP (Or.inl ⟨rfl, rfl⟩)
    rw [show ((0 : Nat) : Int) = 0 from rfl] at n1
    rw [n1, obind_some]
    show ∃ N', t_Paths_find_L23 T x2 x3 (g + 1) N u (w32 ((j : Int) + 1)) = _ ∧ _
    rw [w32_succ (by omega)]
    rcases n4 with ⟨u0, e⟩ | ⟨u1, -⟩
    · have l48 : t_Paths_find_L23 T x2 x3 (g + 1) N u ((j + 1 : Nat) : Int) = t_Paths_find_L48 T x2 x3 N := by
        rw [t_Paths_find_L23]
        by_cases q : 48 ≤ ((j + 1 : Nat) : Int)
        · rw [if_pos q]
        · rw [if_neg q, if_pos u0]
      rw [l48]
      refine ⟨N, rfl, n2, ?_⟩
      have same : ∀ m, itG b wt (CN V) LS (j + m) = itG b wt (CN V) LS j := by
        intro m
        induction m with
        | zero => rfl
        | succ m im => rw [show j + (m + 1) = (j + m) + 1 by omega, itG, im]; exact e
      rw [show 47 = j + (47 - j) by omega, same]
      rw [e] at n3
      exact n3
    · rw [u1]
      exact ih (j + 1) (g + 1) N (by omega) (by omega) n2 n3
/-! the way back -/
theorem c_tr_L45 (hV : VOK V) (hX : CTs M T V) (hC : CoR M V co) (hL : LfR M V L) (hg : GC V b wt co) (hG : GOK b wt (CN V)) (hGI : GI b wt (CN V) to L) (hF : Fix b wt (CN V) L) {x2 c i : Int} {bk : Mem → Int → Int → Option Mem} (c0 : 0 ≤ c) (c1 : c < cellsV V) (hb : L c < BIG) (hne : L c ≠ 0) (hi : 0 ≤ i ∧ i < 100) : ∀ (n fu : Nat) (w : Int), w + (n : Int) = ndG b wt L c → 0 ≤ w → n < fu → t_Paths_trace_L45 T x2 bk fu M c i w = bk M (b c (ndG b wt L c)) (i + 1) := by
  have hc := hV.cells
  have hN := CN_eq hV
  have nd := nd_some hG hGI hF c0 (c := c) (by omega) hb hne
  have gc := hGI.2 c c0 (by omega)
  generalize hnd : ndG b wt L c = m at *
  have l76 : ∀ w, w = m → t_Paths_trace_L76 T x2 bk M c i w = bk M (b c m) (i + 1) := fun w e => by
    unfold t_Paths_trace_L76
    simp only [qlet]
    rw [c_beside hX hV c0 c1 w, w32_id (x := i + 1) (by unfold InR; omega), e]
    rcases hg c m c0 c1 nd.1.1 nd.1.2 with ⟨e1, e2⟩ | ⟨e1, e2, e3, e4, e5⟩
    · have := nd.2.1.1; omega
    · rw [e4]
  have tst : ∀ w, 0 ≤ w → w < 4 → (t_Paths_leftBy M T c w = t_WF_look M 187 48 c ↔ mtG b wt L c w) := by
    intro w w0 w1
    rw [c_leftBy hV hX hC hL hg hG hGI c0 c1 w0 w1, look_in c0 (by omega), hL c c0 c1]
    unfold fwC mtG
    rw [if_pos hb]
    have hwt := (hG.2 c w c0 (by omega) w0 w1).2
    by_cases p : 0 ≤ b c w ∧ L (b c w) < BIG
    · rw [if_pos p]
      exact ⟨fun z => ⟨p.1, z⟩, fun z => z.2⟩
    · rw [if_neg p]
      refine ⟨fun z => ?_, fun z => ?_⟩
      · omega
      · exfalso
        have := hwt z.1
        exact p ⟨z.1, by have := z.2; omega⟩
  intro n
  induction n with
  | zero =>
    intro fu w g0 g1 g2
    obtain ⟨g, rfl⟩ : ∃ g, fu = g + 1 := ⟨fu - 1, by omega⟩
    have hw : w = m := by omega
    rw [t_Paths_trace_L45]
    by_cases q : 3 ≤ w
    · rw [if_pos q]; exact l76 w hw
    · rw [if_neg q]
      simp only [qlet]
      rw [if_pos ((tst w g1 (by omega)).mpr (by rw [hw]; exact nd.2.1))]
      exact l76 w hw
  | succ n ih =>
    intro fu w g0 g1 g2
    obtain ⟨g, rfl⟩ : ∃ g, fu = g + 1 := ⟨fu - 1, by omega⟩
    have hm := nd.1.2
    rw [t_Paths_trace_L45, if_neg (by omega)]
    simp only [qlet]
    rw [if_neg (fun z => nd.2.2 w g1 (by omega) ((tst w g1 (by omega)).mp z)), w32_id (x := w + 1) (by unfold InR; omega)]
    exact ih g (w + 1) (by omega) (by omega) (by omega)
def TrW : Nat → Int → Prop := fun q j => q = 188 ∨ (q = 185 ∧ j = 3)
theorem c_tr_L5 (hV : VOK V) (hT : T = 2 ∨ T = 22) (hX : CTs M0 T V) (hC : CoR M0 V co) (hL : LfR M0 V L) (hg : GC V b wt co) (hG : GOK b wt (CN V)) (hGI : GI b wt (CN V) to L) (hF : Fix b wt (CN V) L) {a : Int} (a0 : 0 ≤ a) (a1 : a < cellsV V) (hb : L a < BIG) : ∀ (n i fu : Nat) (M : Mem), (i : Int) + (n : Int) = L a % 64 → n < fu → Fr TrW M0 M → (∀ x : Nat, x < i → M.1 188 (x : Int) = tkG b wt L a x) → ∃ N, t_Paths_trace_L5 T a fu M (tkG b wt L a i) (i : Int) = some N ∧ Fr TrW M0 N ∧ N.1 185 3 = L a % 64 + 1 ∧ ∀ x : Nat, (x : Int) ≤ L a % 64 → N.1 188 (x : Int) = tkG b wt L a x := by
  have hc := hV.cells
  have hN := CN_eq hV
  have top := hGI.top hG a0 (c := a) (by omega) hb
  intro n
  induction n with
  | zero =>
    intro i fu M g0 g1 hFr hx
    obtain ⟨g, rfl⟩ : ∃ g, fu = g + 1 := ⟨fu - 1, by omega⟩
    obtain ⟨q1, q2, q3⟩ := tk_facts hG hGI hF a0 (c := a) (by omega) hb i (by omega)
    have e0 := (tk_end hG hGI hF a0 (c := a) (by omega) hb (n := i) (by omega)).mpr (by omega)
    rw [t_Paths_trace_L5, if_neg (by omega)]
    simp (config := { proj := false }) only [qlet]
    rw [put_in (by omega) (by omega), w32_succ (by omega)]
    have f2 : Fr TrW M0 (setI (setI M 188 (i : Int) (tkG b wt L a i)) 185 3 ((i + 1 : Nat) : Int)) := (hFr.setI (Or.inl rfl)).setI (Or.inr ⟨rfl, rfl⟩)
    rw [look_in q1.1 (by omega), (hL.fr f2 (fun j z => by unfold TrW at z; omega)) _ q1.1 (by omega), e0]
    rw [if_pos (show fwC 0 = 0 from rfl)]
    refine ⟨_, rfl, f2, ?_, fun x x1 => ?_⟩
    · rw [sI_self]; omega
    · rw [sI_ne (by omega)]
      by_cases e : x = i
      · rw [e]; exact sI_self _ _ _ _
      · rw [sI_ne (by omega)]; exact hx x (by omega)
  | succ n ih =>
    intro i fu M g0 g1 hFr hx
    obtain ⟨g, rfl⟩ : ∃ g, fu = g + 1 := ⟨fu - 1, by omega⟩
    obtain ⟨q1, q2, q3⟩ := tk_facts hG hGI hF a0 (c := a) (by omega) hb i (by omega)
    have hne : L (tkG b wt L a i) ≠ 0 := by intro e; rw [e] at q3; omega
    have hbi : L (tkG b wt L a i) < BIG := by omega
    have nd := nd_some hG hGI hF q1.1 q1.2 hbi hne
    rw [t_Paths_trace_L5, if_neg (by omega)]
    simp (config := { proj := false }) only [qlet]
    rw [put_in (by omega) (by omega), w32_succ (by omega)]
    have f2 : Fr TrW M0 (setI (setI M 188 (i : Int) (tkG b wt L a i)) 185 3 ((i + 1 : Nat) : Int)) := (hFr.setI (Or.inl rfl)).setI (Or.inr ⟨rfl, rfl⟩)
    have hx2 : ∀ x : Nat, x < i + 1 → (setI (setI M 188 (i : Int) (tkG b wt L a i)) 185 3 ((i + 1 : Nat) : Int)).1 188 (x : Int) = tkG b wt L a x := fun x x1 => by
      rw [sI_ne (by omega)]
      by_cases e : x = i
      · rw [e]; exact sI_self _ _ _ _
      · rw [sI_ne (by omega)]; exact hx x (by omega)
    generalize setI (setI M 188 (i : Int) (tkG b wt L a i)) 185 3 ((i + 1 : Nat) : Int) = M2 at *
    have L2 : LfR M2 V L := hL.fr f2 (fun j z => by unfold TrW at z; omega)
    have gi := hGI.2 (tkG b wt L a i) q1.1 q1.2
    rw [look_in q1.1 (by omega), L2 _ q1.1 (by omega)]
    have ef : fwC (L (tkG b wt L a i)) = L (tkG b wt L a i) := if_pos hbi
    rw [ef, if_neg hne]
    have st := c_tr_L45 (M := M2) (x2 := a) (bk := fun a0_ a1_ a2_ => t_Paths_trace_L5 T a g a0_ a1_ a2_) hV (CTs.fr f2 (fun k j x y z => by unfold TrW at z; omega) hX) (hC.fr f2 (fun j z => by unfold TrW at z; omega)) L2 hg hG hGI hF (c := tkG b wt L a i) (i := (i : Int)) q1.1 (by omega) hbi hne (by omega) (ndG b wt L (tkG b wt L a i)).toNat FU 0 (by omega) (by omega) (fu_big (by omega))
    rw [st, show (i : Int) + 1 = ((i + 1 : Nat) : Int) by omega]
    exact ih (i + 1) g M2 (by omega) (by omega) f2 hx2
def FndW : Nat → Int → Prop := fun q j => q = 187 ∨ q = 188 ∨ (q = 185 ∧ (j = 3 ∨ j = 4))
/-- what a find leaves -/
def FdR (N : Mem) (b wt : Int → Int → Int) (F : Int → Int) (a : Int) : Prop := (F a < BIG ∧ N.1 185 3 = F a % 64 + 1 ∧ N.1 185 4 = F a / 64 ∧ ∀ x : Nat, (x : Int) ≤ F a % 64 → N.1 188 (x : Int) = tkG b wt F a x) ∨ (¬ F a < BIG ∧ N.1 185 3 = 0)
theorem c_find_L48 (hV : VOK V) (hT : T = 2 ∨ T = 22) (hX : CTs M T V) (hC : CoR M V co) (hL : LfR M V L) (hg : GC V b wt co) (hG : GOK b wt (CN V)) (hGI : GI b wt (CN V) to L) (hF : Fix b wt (CN V) L) {a x3 : Int} (a0 : 0 ≤ a) (a1 : a < cellsV V) : ∃ N, t_Paths_find_L48 T a x3 M = some N ∧ Fr FndW M N ∧ FdR N b wt L a := by
  have hc := hV.cells
  have hN := CN_eq hV
  have ga := hGI.2 a a0 (by omega)
  unfold t_Paths_find_L48
  simp (config := { proj := false }) only [qlet]
  obtain ⟨M1, e1⟩ : ∃ P, P = setI M 185 3 0 := ⟨_, rfl⟩
  rw [← e1]
  have f1 : Fr (fun q j => q = 185 ∧ (j = 3 ∨ j = 4)) M M1 := by rw [e1]; exact Fr.rf.setI (by omega)
  obtain ⟨d, ed⟩ : ∃ d, d = q_div (t_WF_look M1 187 48 a) 64 := ⟨_, rfl⟩
  rw [← ed]
  obtain ⟨M2, e2⟩ : ∃ P, P = setI M1 185 4 d := ⟨_, rfl⟩
  rw [← e2]
  have f2 : Fr (fun q j => q = 185 ∧ (j = 3 ∨ j = 4)) M M2 := by rw [e2]; exact f1.setI (by omega)
  have v3 : M2.1 185 3 = 0 := by rw [e2, sI_ne (by omega), e1]; exact sI_self _ _ _ _
  have v4 : M2.1 185 4 = d := by rw [e2]; exact sI_self _ _ _ _
  have L1 : LfR M1 V L := hL.fr f1 (fun j z => by omega)
  have L2 : LfR M2 V L := hL.fr f2 (fun j z => by omega)
  rw [look_in a0 (by omega), L1 a a0 a1] at ed
  rw [look_in a0 (by omega), L2 a a0 a1]
  by_cases q : L a < BIG
  · have top := hGI.top hG a0 (c := a) (by omega) q
    have ef : fwC (L a) = L a := if_pos q
    rw [ef] at ed ⊢
    rw [q_div_nn (by unfold InR; omega) (by unfold InR; omega) ga.1 (by omega)] at ed
    obtain ⟨N, n1, n2, n3, n4⟩ := c_tr_L5 hV hT (CTs.fr f2 (fun k j x y z => by omega) hX) (hC.fr f2 (fun j z => by omega)) L2 hg hG hGI hF a0 a1 q (L a % 64).toNat 0 FU M2 (by omega) (fu_big (by omega)) Fr.rf (fun x x1 => by omega)
    have n1 : t_Paths_trace_L5 T a FU M2 a 0 = some N := n1
    unfold t_Paths_trace
    rw [if_neg (show ¬ L a < 0 by omega), n1, obind_some]
    refine ⟨N, rfl, (f2.mono (fun q j z => by unfold FndW; omega)).trans (n2.mono (fun q j z => by unfold TrW at z; unfold FndW; omega)), Or.inl ⟨q, n3, ?_, n4⟩⟩
    rw [(n2 185 4 (by unfold TrW; omega)).1, v4, ed]
  · have ef : fwC (L a) = -1 := if_neg q
    rw [ef, if_pos (show (-1 : Int) < 0 by decide)]
    exact ⟨M2, rfl, f2.mono (fun q j z => by unfold FndW; omega), Or.inr ⟨q, v3⟩⟩
theorem c_find (hV : VOK V) (hT : T = 2 ∨ T = 22) (hX : CTs M T V) (hC : CoR M V co) (hg : GC V b wt co) (hG : GOK b wt (CN V)) {a : Int} (a0 : 0 ≤ a) (a1 : a < cellsV V) (t0 : 0 ≤ to) (t1 : to < cellsV V) : ∃ N, t_Paths_find M T a to = some N ∧ Fr FndW M N ∧ FdR N b wt (itG b wt (CN V) (L0G to) 47) a := by
  have hc := hV.cells
  have hN := CN_eq hV
  have hgi := L0_GI (b := b) (wt := wt) (C := CN V) t0 (by omega)
  obtain ⟨M1, b1, b2, b3⟩ := c_fill (M := M) (r := 187) (N1 := 48) (x := -1) (by omega)
  unfold t_Paths_find
  rw [b1, obind_some]
  simp (config := { proj := false }) only [qlet]
  rw [put_in t0 (by omega)]
  have f2 : Fr W87 M (setI M1 187 to 0) := (b2.mono (fun q j z => z.1)).setI rfl
  have L2 : LfR (setI M1 187 to 0) V (L0G to) := fun x x0 x1 => by
    unfold L0G fwC
    by_cases e : x = to
    · rw [if_pos e, e, sI_self]; rfl
    · rw [if_neg e, sI_ne (by omega), b3 x x0 (by omega)]; rfl
  obtain ⟨N, n1, n2, n3⟩ := c_find_L23 (M0 := M) (x2 := a) (x3 := to) hV hT hX hC hg hG (L0G to) hgi 48 0 FU _ (by omega) (fu_big (by omega)) f2 L2
  have n1 : t_Paths_find_L23 T a to FU (setI M1 187 to 0) 1 0 = t_Paths_find_L48 T a to N := n1
  rw [n1]
  obtain ⟨P, p1, p2, p3⟩ := c_find_L48 (M := N) (x3 := to) hV hT (CTs.fr n2 (fun k j x y z => by unfold W87 at z; omega) hX) (hC.fr n2 (fun j z => by unfold W87 at z; omega)) n3 hg hG (itG_GI hG hgi 47) (it_conv hG hgi).1 a0 a1
  exact ⟨P, p1, (n2.mono (fun q j z => by unfold W87 at z; unfold FndW; omega)).trans p2, p3⟩
end CPATH
end
section
/-! ===== walk, step, both sides ===== -/
section CWALK
variable {V : TV} {T : Nat} {M M0 : Mem} {D A S L : Int → Int} {nets wat : Int64}
theorem c_canStep (hV : VOK V) (hX : CT0 M T V ∧ CTs M T V) (hS : CScF M 47 V D A S L nets wat (wlV V)) {c d : Int} (c0 : 0 ≤ c) (c1 : c < cellsV V) (d1 : d < cellsV V) : t_Paths_canStep M T 47 c d = if cnS V D c d then 1 else 0 := by
  have hC := hV.cells
  unfold t_Paths_canStep
  simp (config := { proj := false }) only [qlet]
  by_cases e : d < 0
  · rw [if_pos e, if_neg (show ¬ cnS V D c d from fun z => by have := z.1; omega)]
  rw [if_neg e, c_stands hV hX hS c0 c1, c_stands hV hX hS (show 0 ≤ d by omega) d1, c_line hX.1 c0 (by omega) (show 0 ≤ d by omega) (by omega)]
  have b9 : ∀ x, 0 ≤ x → x < cellsV V → t_WF_bitOf M (M.2 T 19) x = V 9 x := fun x x0 x1 => by
    have h9 := (hV.2.2.2 x x0 (by omega)).2.2.2
    rw [bitOf_tb M _ x0 (by omega), (hX.1.2.2.2 x x0 (by omega)).2.2]
    rcases h9 with z | z
    · rw [z]; rfl
    · rw [z]; rfl
  have h9c := (hV.2.2.2 c c0 (by omega)).2.2.2
  have h9d := (hV.2.2.2 d (by omega) (by omega)).2.2.2
  rw [b9 c c0 c1, b9 d (by omega) d1]
  by_cases s1 : stV V D c = 0
  · rw [if_pos s1, if_neg (show ¬ cnS V D c d from fun z => z.2.1 s1)]
  rw [if_neg s1]
  by_cases s2 : stV V D d = 0
  · rw [if_pos s2, if_neg (show ¬ cnS V D c d from fun z => z.2.2.1 s2)]
  rw [if_neg s2]
  by_cases s3 : lnV V c d = 0
  · rw [if_pos s3, if_pos (show cnS V D c d from ⟨by omega, s1, s2, Or.inl s3⟩)]
  rw [if_neg s3]
  by_cases s4 : V 9 c = 1
  · rw [if_pos s4, if_pos (show cnS V D c d from ⟨by omega, s1, s2, Or.inr (Or.inl (by omega))⟩)]
  rw [if_neg s4]
  by_cases s5 : V 9 d = 1
  · rw [if_pos s5, if_pos (show cnS V D c d from ⟨by omega, s1, s2, Or.inr (Or.inr (by omega))⟩)]
  · rw [if_neg s5, if_neg (show ¬ cnS V D c d from fun z => by
      rcases z.2.2.2 with q | q | q
      · exact s3 q
      · omega
      · omega)]
def coW (V : TV) (D : Int → Int) : Int → Int → Int := fun c w => if cnS V D c (bsV V c w) then 0 else -1
theorem gc_walk (V : TV) (D : Int → Int) : GC V (bwW V D) one2 (coW V D) := fun c w c0 c1 w0 w1 => by
  unfold coW bwW
  by_cases e : cnS V D c (bsV V c w)
  · rw [if_pos e, if_pos e]
    exact Or.inr ⟨by omega, by omega, e.1, rfl, rfl⟩
  · rw [if_neg e, if_neg e]
    exact Or.inl ⟨rfl, rfl⟩
def W86 : Nat → Int → Prop := fun q _ => q = 186
theorem c_wt_L15 (hV : VOK V) (hX : CT0 M0 T V ∧ CTs M0 T V) (hT : T = 2 ∨ T = 22) (hS : CScF M0 47 V D A S L nets wat (wlV V)) {x3 x4 c : Int} {bk : Mem → Int → Option Mem} (c0 : 0 ≤ c) (c1 : c < cellsV V) : ∀ (n fu : Nat) (M : Mem) (w : Int), w + (n : Int) = 4 → 0 ≤ w → n < fu → Fr W86 M0 M → (∀ x y, 0 ≤ x → 0 ≤ y → y < 4 → (x < c ∨ (x = c ∧ y < w)) → M.1 186 (x * 4 + y) = coW V D x y) → ∃ N, t_Paths_walkTo_L15 T 47 x3 x4 bk fu M c w = bk N (c + 1) ∧ Fr W86 M0 N ∧ (∀ x y, 0 ≤ x → 0 ≤ y → y < 4 → x < c + 1 → N.1 186 (x * 4 + y) = coW V D x y) := by
  have hC := hV.cells
  intro n
  induction n with
  | zero =>
    intro fu M w g0 g1 g2 hF hx
    obtain ⟨g, rfl⟩ : ∃ g, fu = g + 1 := ⟨fu - 1, by omega⟩
    rw [t_Paths_walkTo_L15, if_pos (by omega), w32_id (x := c + 1) (by unfold InR; omega)]
    exact ⟨M, rfl, hF, fun x y x0 y0 y1 x1 => hx x y x0 y0 y1 (by omega)⟩
  | succ n ih =>
    intro fu M w g0 g1 g2 hF hx
    obtain ⟨g, rfl⟩ : ∃ g, fu = g + 1 := ⟨fu - 1, by omega⟩
    have XM : CT0 M T V ∧ CTs M T V := ⟨CT0.fr hF (fun k j x y z => by unfold W86 at z; omega) hX.1, CTs.fr hF (fun k j x y z => by unfold W86 at z; omega) hX.2⟩
    have SM := hS.fr hF (fun q j x z => by unfold CsW at x; unfold W86 at z; omega)
    have hb := bs_rng hV c0 c1 w
    rw [t_Paths_walkTo_L15, if_neg (by omega)]
    simp (config := { proj := false }) only [qlet]
    rw [c_beside XM.2 hV c0 c1 w, c_canStep hV XM SM c0 c1 hb.2, w32_id (x := c * 4) (by unfold InR; omega), w32_id (x := c * 4 + w) (by unfold InR; omega)]
    unfold t_Paths_walkTo_L59
    simp (config := { proj := false }) only [qlet]
    rw [put_in (by omega) (by omega), put_in (by omega) (by omega), w32_id (x := w + 1) (by unfold InR; omega)]
    have go : ∀ k : Int, k = coW V D c w → ∃ N, t_Paths_walkTo_L15 T 47 x3 x4 bk g (setI M 186 (c * 4 + w) k) c (w + 1) = bk N (c + 1) ∧ Fr W86 M0 N ∧ (∀ x y, 0 ≤ x → 0 ≤ y → y < 4 → x < c + 1 → N.1 186 (x * 4 + y) = coW V D x y) := fun k hk => by
      refine ih g _ (w + 1) (by omega) (by omega) (by omega) (hF.setI rfl) (fun x y x0 y0 y1 h => ?_)
      by_cases e : x = c ∧ y = w
      · rw [e.1, e.2, sI_self]; exact hk
      · rw [sI_ne (by omega)]
        exact hx x y x0 y0 y1 (by omega)
    by_cases e : cnS V D c (bsV V c w)
    · have k0 : (0 : Int) = coW V D c w := by unfold coW; rw [if_pos e]
      rw [if_pos e, if_neg (show ¬ (1 : Int) = 0 by decide)]
      exact go 0 k0
    · have k0 : (-1 : Int) = coW V D c w := by unfold coW; rw [if_neg e]
      rw [if_neg e, if_pos rfl]
      exact go (-1) k0
theorem c_wt_L3 (hV : VOK V) (hX : CT0 M0 T V ∧ CTs M0 T V) (hT : T = 2 ∨ T = 22) (hS : CScF M0 47 V D A S L nets wat (wlV V)) {x3 x4 : Int} : ∀ (n fu : Nat) (M : Mem) (c : Int), c + (n : Int) = cellsV V → 0 ≤ c → n < fu → Fr W86 M0 M → (∀ x y, 0 ≤ x → 0 ≤ y → y < 4 → x < c → M.1 186 (x * 4 + y) = coW V D x y) → ∃ N, t_Paths_walkTo_L3 T 47 x3 x4 fu M c = obind (t_Paths_find N T x3 x4) (fun q3 => some q3) ∧ Fr W86 M0 N ∧ CoR N V (coW V D) := by
  have hC := hV.cells
  intro n
  induction n with
  | zero =>
    intro fu M c g0 g1 g2 hF hx
    obtain ⟨g, rfl⟩ : ∃ g, fu = g + 1 := ⟨fu - 1, by omega⟩
    rw [t_Paths_walkTo_L3, (hF T 13 (by unfold W86; omega)).1, hX.2.1, if_pos (by omega)]
    exact ⟨M, rfl, hF, fun x y x0 x1 y0 y1 => hx x y x0 y0 y1 (by omega)⟩
  | succ n ih =>
    intro fu M c g0 g1 g2 hF hx
    obtain ⟨g, rfl⟩ : ∃ g, fu = g + 1 := ⟨fu - 1, by omega⟩
    rw [t_Paths_walkTo_L3, (hF T 13 (by unfold W86; omega)).1, hX.2.1, if_neg (by omega)]
    obtain ⟨N, n1, n2, n3⟩ := c_wt_L15 (x3 := x3) (x4 := x4) (bk := fun a0_ a1_ => t_Paths_walkTo_L3 T 47 x3 x4 g a0_ a1_) hV hX hT hS g1 (show c < cellsV V by omega) 4 FU M 0 (by omega) (by omega) (fu_big (by omega)) hF (fun x y x0 y0 y1 h => hx x y x0 y0 y1 (by omega))
    rw [n1]
    exact ih g N (c + 1) (by omega) (by omega) (by omega) n2 n3
def PthW : Nat → Int → Prop := fun q j => q = 186 ∨ FndW q j
theorem c_walkTo (hV : VOK V) (hX : CT0 M T V ∧ CTs M T V) (hT : T = 2 ∨ T = 22) (hS : CScF M 47 V D A S L nets wat (wlV V)) {a to : Int} (a0 : 0 ≤ a) (a1 : a < cellsV V) (t0 : 0 ≤ to) (t1 : to < cellsV V) : ∃ N, t_Paths_walkTo M T 47 a to = some N ∧ Fr PthW M N ∧ FdR N (bwW V D) one2 (FW V D to) a := by
  have hC := hV.cells
  unfold t_Paths_walkTo
  obtain ⟨N, n1, n2, n3⟩ := c_wt_L3 (M0 := M) (x3 := a) (x4 := to) hV hX hT hS (cellsV V).toNat FU M 0 (by omega) (by omega) (fu_big (by omega)) Fr.rf (fun x y x0 y0 y1 h => by omega)
  obtain ⟨P, p1, p2, p3⟩ := c_find (M := N) (a := a) (to := to) hV hT (CTs.fr n2 (fun k j x y z => by unfold W86 at z; omega) hX.2) n3 (gc_walk V D) (bw_ok hV D) a0 a1 t0 t1
  rw [n1, p1, obind_some]
  exact ⟨P, rfl, (n2.mono (fun q j z => Or.inl z)).trans (p2.mono (fun q j z => Or.inr z)), p3⟩
theorem c_canWalk (hV : VOK V) (hT : (M.1 0 4).toNat = T) (hX : CT0 M T V ∧ CTs M T V) (hS : CScF M 47 V D A S L nets wat (wlV V)) (a b : Int) : t_WF_canWalk M a b = if wkOK V D a b then 1 else 0 := by
  have hC := hV.cells
  unfold t_WF_canWalk
  simp (config := { proj := false }) only [qlet]
  rw [hT, c_hasCell hX.2, c_hasCell hX.2]
  by_cases e1 : 0 ≤ a ∧ a < cellsV V
  rotate_left
  · rw [if_neg e1, if_pos rfl, if_neg (show ¬ wkOK V D a b from fun z => e1 z.1)]
  rw [if_pos e1, if_neg (show ¬ (1 : Int) = 0 by decide)]
  by_cases e2 : 0 ≤ b ∧ b < cellsV V
  rotate_left
  · rw [if_neg e2, if_pos rfl, if_neg (show ¬ wkOK V D a b from fun z => e2 z.2.1)]
  rw [if_pos e2, if_neg (show ¬ (1 : Int) = 0 by decide), c_stands hV hX hS e1.1 e1.2, c_stands hV hX hS e2.1 e2.2]
  by_cases e3 : stV V D a = 0
  · rw [if_pos e3, if_neg (show ¬ wkOK V D a b from fun z => z.2.2.1 e3)]
  rw [if_neg e3]
  by_cases e4 : stV V D b = 0
  · rw [if_pos e4, if_neg (show ¬ wkOK V D a b from fun z => z.2.2.2 e4)]
  · rw [if_neg e4, if_pos (show wkOK V D a b from ⟨e1, e2, e3, e4⟩)]
theorem PthW_q : ∀ q j, PthW q j → QkW q j := fun q j z => by unfold PthW FndW at z; unfold QkW; omega
end CWALK
theorem w22_qm : ∀ q j, W22 q j → QmW q j := fun q j z => by unfold W22 at z; unfold QmW; omega
theorem bs_walk {M : Mem} (h : LI M) {x1 x2 : Int} (h1 : InR x1) (h2 : InR x2) : Ok (fun q => Ok (fun r => q.2 = r.2 ∧ LI r.1) (t_MO_walk q.1 x1 x2)) (t_WF_walk M x1 x2) := by
  have h' := h
  have hTT := h.T
  obtain ⟨hI, ⟨V, hR, hX, hRL⟩, -⟩ := h
  have hV := hR.1.1
  have hC := hV.cells
  have hS : CScF M 47 V (DN M 0) (AT M 0) (ST M 0) (LN M 0) (M.2 210 0) (M.2 211 0) (wlV V) := hRL.1
  have hcl : ∃ N, t_WF_walk M x1 x2 = some (N, walkS V (DN M 0) x1 x2) ∧ Fr QkW M N := by
    unfold t_WF_walk walkS
    simp (config := { proj := false }) only [qlet]
    rw [c_canWalk hV rfl ⟨hX.1, hX.2.1⟩ hS x1 x2]
    by_cases e : wkOK V (DN M 0) x1 x2
    rotate_left
    · rw [if_neg e, if_pos rfl, if_neg e]; exact ⟨M, rfl, Fr.rf⟩
    obtain ⟨N, n1, n2, n3⟩ := c_walkTo hV ⟨hX.1, hX.2.1⟩ hTT.2 hS e.1.1 e.1.2 e.2.1.1 e.2.1.2
    have hf := fw_lt hV (DN M 0) e.2.1.1 e.2.1.2 e.1.1 e.1.2
    rw [if_pos e, if_neg (show ¬ (1 : Int) = 0 by decide), if_pos e, n1, obind_some]
    refine ⟨N, ?_, n2.mono PthW_q⟩
    rcases n3 with ⟨f1, f2, -, -⟩ | ⟨f1, f2⟩
    · have f47 := hf.2.1 f1
      rw [f2, if_neg (by omega), if_pos f1, w32_id (by unfold InR; omega), show FW V (DN M 0) x2 x1 % 64 + 1 - 1 = FW V (DN M 0) x2 x1 by omega]
    · rw [f2, if_pos rfl, if_neg f1]
  obtain ⟨N, n1, n2⟩ := hcl
  obtain ⟨u, e, hu⟩ := sf_WF_walk hI h1 h2
  have : u = _ := Option.some.inj (e.symm.trans n1)
  subst this
  have hLN : LI N := h'.q hu.1 n2
  have hRN : RI N V := hR.fr n2 (fun q j a z => by have := qk_ri z; have := ric_lo a; omega)
  obtain ⟨P, p1, p2⟩ := m_walk hRN x1 x2
  rw [DN_fr n2 (fun j z => by have := qk_ri z; omega)] at p1
  have hIP := im_MO_walk hu.1 h1 h2 _ p1
  exact ⟨_, n1, _, p1, rfl, hLN.qm hIP.1 (p2.mono w22_qm)⟩
theorem c_cellAt {N : Mem} {b wt : Int → Int → Int} {F : Int → Int} {a k : Int} (h : FdR N b wt F a) (hF : F a < BIG → 0 ≤ F a % 64 ∧ F a % 64 ≤ 47) (k0 : 0 ≤ k) : t_Paths_cellAt N k = if F a < BIG ∧ k ≤ F a % 64 then tkG b wt F a k.toNat else -2 := by
  unfold t_Paths_cellAt
  simp only [qlet]
  rcases h with ⟨f1, f2, -, f4⟩ | ⟨f1, f2⟩
  · have hf := hF f1
    rw [f2]
    by_cases q : k ≤ F a % 64
    · rw [if_neg (by omega), if_pos ⟨f1, q⟩, look_in k0 (by omega)]
      have := f4 k.toNat (by omega)
      rw [Int.toNat_of_nonneg k0] at this
      exact this
    · rw [if_pos (by omega), if_neg (fun z => q z.2)]
  · rw [f2, if_pos k0, if_neg (fun z => f1 z.1)]
theorem bs_step {M : Mem} (h : LI M) {x1 x2 x3 : Int} (h1 : InR x1) (h2 : InR x2) (h3 : InR x3) : Ok (fun q => Ok (fun r => q.2 = r.2 ∧ LI r.1) (t_MO_step q.1 x1 x2 x3)) (t_WF_step M x1 x2 x3) := by
  have h' := h
  have hTT := h.T
  obtain ⟨hI, ⟨V, hR, hX, hRL⟩, -⟩ := h
  have hV := hR.1.1
  have hC := hV.cells
  have hS : CScF M 47 V (DN M 0) (AT M 0) (ST M 0) (LN M 0) (M.2 210 0) (M.2 211 0) (wlV V) := hRL.1
  have hcl : ∃ N, t_WF_step M x1 x2 x3 = some (N, stepS V (DN M 0) x1 x2 x3) ∧ Fr QkW M N := by
    unfold t_WF_step stepS
    simp (config := { proj := false }) only [qlet]
    rw [c_canWalk hV rfl ⟨hX.1, hX.2.1⟩ hS x1 x2]
    by_cases e : wkOK V (DN M 0) x1 x2
    rotate_left
    · rw [if_neg e, if_pos rfl, if_neg (fun z => e z.1)]; exact ⟨M, rfl, Fr.rf⟩
    rw [if_pos e, if_neg (show ¬ (1 : Int) = 0 by decide)]
    by_cases k0 : 0 ≤ x3
    rotate_left
    · rw [if_neg k0, if_neg (fun z => k0 z.2)]; exact ⟨M, rfl, Fr.rf⟩
    obtain ⟨N, n1, n2, n3⟩ := c_walkTo hV ⟨hX.1, hX.2.1⟩ hTT.2 hS e.1.1 e.1.2 e.2.1.1 e.2.1.2
    have hf := fw_lt hV (DN M 0) e.2.1.1 e.2.1.2 e.1.1 e.1.2
    rw [if_pos k0, if_pos ⟨e, k0⟩, n1, obind_some, c_cellAt n3 (fun q => by have := hf.2.1 q; omega) k0]
    refine ⟨N, ?_, n2.mono PthW_q⟩
    by_cases q : FW V (DN M 0) x2 x1 < BIG
    · have f47 := hf.2.1 q
      rw [show FW V (DN M 0) x2 x1 % 64 = FW V (DN M 0) x2 x1 by omega]
    · rw [if_neg (fun z => q z.1), if_neg (fun z => q z.1)]
  obtain ⟨N, n1, n2⟩ := hcl
  obtain ⟨u, e, hu⟩ := sf_WF_step hI h1 h2 h3
  have : u = _ := Option.some.inj (e.symm.trans n1)
  subst this
  have hLN : LI N := h'.q hu.1 n2
  have hRN : RI N V := hR.fr n2 (fun q j a z => by have := qk_ri z; have := ric_lo a; omega)
  obtain ⟨P, p1, p2⟩ := m_step hRN x1 x2 x3
  rw [DN_fr n2 (fun j z => by have := qk_ri z; omega)] at p1
  have hIP := im_MO_step hu.1 h1 h2 h3 _ p1
  exact ⟨_, n1, _, p1, rfl, hLN.qm hIP.1 (p2.mono w22_qm)⟩
end
