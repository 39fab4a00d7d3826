theorem m_works_not {M : Mem} {h : Int} (e : M.1 191 54 = h) (h1 : 1 ≤ h ∧ h ≤ 64) : ∃ N, t_MO_works M 260 = some (N, 1) ∧ Fr (fun k j => k = 221) M N ∧ N.2 221 (h - 1) = (if M.2 221 (h - 1) = 0 then 1 else 0) ∧ ∀ j, j < h - 1 → N.2 221 j = M.2 221 j := by
  unfold t_MO_works t_MO_works_L40
  rw [e, w32_id (x := h - 1) (by unfold InR; omega), qguard_pos ⟨by omega, by omega⟩, if_pos rfl]
  have b0 : (if (0 : Int) = 0 then (0 : Int64) else 1) = 0 := rfl
  have b1 : (if (1 : Int) = 0 then (0 : Int64) else 1) = 1 := rfl
  simp only [qlet, m_is, b0, b1]
  have F : ∀ v : Int64, Fr (fun k j => k = 221) M (setL M 221 (h - 1) v) := fun v => Fr.rf.setL rfl
  by_cases z : M.2 221 (h - 1) = 0
  · rw [if_pos z, if_pos z, qguard_pos ⟨by omega, by omega⟩]
    exact ⟨_, rfl, F _, sL_self _ _ _ _, fun j hj => sL_ne (by omega)⟩
  · rw [if_neg z, if_neg z, qguard_pos ⟨by omega, by omega⟩]
    exact ⟨_, rfl, F _, sL_self _ _ _ _, fun j hj => sL_ne (by omega)⟩
/-! stacks as lists -/
def knS (K N : Int → Int) (nm : Int → Int64) (i : Int) : List Int64 → Option (List Int64)
  | [] => if K i = 31 then some [q_i2l (N i)] else if 18 ≤ K i ∧ K i ≤ 24 then some [nm (K i - 18)] else none
  | [y] => if K i = 31 then some [q_i2l (N i), y] else if 18 ≤ K i ∧ K i ≤ 24 then some [nm (K i - 18), y] else if K i = 17 then some [if y = 0 then 1 else 0] else none
  | y :: x :: r => if K i = 31 then some (q_i2l (N i) :: y :: x :: r) else if 18 ≤ K i ∧ K i ≤ 24 then some (nm (K i - 18) :: y :: x :: r) else if K i = 17 then some ((if y = 0 then 1 else 0) :: x :: r) else (joinS (K i) x y).map (fun v => v :: r)
def evS (K N : Int → Int) (nm : Int → Int64) : Nat → Option (List Int64)
  | 0 => some []
  | n + 1 => (evS K N nm n).bind (knS K N nm (n : Int))
def Stk (f : Int → Int64) : List Int64 → Prop
  | [] => True
  | v :: r => f (r.length : Int) = v ∧ Stk f r
theorem Stk.of {f g : Int → Int64} : ∀ {l : List Int64}, (∀ j : Int, j < (l.length : Int) → g j = f j) → Stk f l → Stk g l := by
  intro l
  induction l with
  | nil => intro _ _; trivial
  | cons v r ih =>
    intro h s
    simp only [List.length_cons] at h
    exact ⟨by rw [h _ (by omega)]; exact s.1, ih (fun j hj => h j (by omega)) s.2⟩
def valS (K N : Int → Int) (nm : Int → Int64) (n : Int) : Option Int64 := match evS K N nm n.toNat with | some [v] => some v | _ => none
theorem knS_num {K N : Int → Int} {nm : Int → Int64} {i : Int} (h : K i = 31) (st : List Int64) : knS K N nm i st = some (q_i2l (N i) :: st) := by
  match st with
  | [] => rw [knS, if_pos h]
  | [y] => rw [knS, if_pos h]
  | y :: x :: r => rw [knS, if_pos h]
theorem knS_name {K N : Int → Int} {nm : Int → Int64} {i : Int} (h : 18 ≤ K i ∧ K i ≤ 24) (st : List Int64) : knS K N nm i st = some (nm (K i - 18) :: st) := by
  have h31 : ¬ K i = 31 := by omega
  match st with
  | [] => rw [knS, if_neg h31, if_pos h]
  | [y] => rw [knS, if_neg h31, if_pos h]
  | y :: x :: r => rw [knS, if_neg h31, if_pos h]
theorem knS_not {K N : Int → Int} {nm : Int → Int64} {i : Int} (h : K i = 17) (y : Int64) (r : List Int64) : knS K N nm i (y :: r) = some ((if y = 0 then 1 else 0) :: r) := by
  have h31 : ¬ K i = 31 := by omega
  have h18 : ¬ (18 ≤ K i ∧ K i ≤ 24) := by omega
  match r with
  | [] => rw [knS, if_neg h31, if_neg h18, if_pos h]
  | x :: r => rw [knS, if_neg h31, if_neg h18, if_pos h]
theorem knS_two {K N : Int → Int} {nm : Int → Int64} {i : Int} (h : ktwo (K i)) (y x : Int64) (r : List Int64) : knS K N nm i (y :: x :: r) = (joinS (K i) x y).map (fun v => v :: r) := by
  unfold ktwo at h
  rw [knS, if_neg (by omega), if_neg (by omega), if_neg (by omega)]
theorem ev_len {K N : Int → Int} {nm : Int → Int64} {n : Int} (hK : KOK K n) : ∀ i : Nat, (i : Int) ≤ n → ∀ st, evS K N nm i = some st → (st.length : Int) = dpV K i ∧ st.length ≤ i := by
  intro i
  induction i with
  | zero => intro _ st h; cases h; exact ⟨rfl, Nat.le_refl _⟩
  | succ i ih =>
    intro hi st h
    rw [evS] at h
    cases e : evS K N nm i with
    | none => rw [e] at h; cases h
    | some s0 =>
      rw [e] at h
      have h : knS K N nm (i : Int) s0 = some st := h
      obtain ⟨l1, l2⟩ := ih (by omega) s0 e
      have hk := hK.2.2.1 i (by omega)
      rw [dpV]
      rcases hk with hk | hk | hk
      · have hn : ¬ K (i : Int) = 17 := by omega
        have hn2 : ¬ ktwo (K (i : Int)) := by unfold ktwo; omega
        rw [if_neg hn, if_neg hn2]
        rcases hk with hk | hk
        · rw [knS_num hk] at h; cases h; simp only [List.length_cons]; omega
        · rw [knS_name hk] at h; cases h; simp only [List.length_cons]; omega
      · rw [if_pos hk.1]
        match s0, l1, l2, h with
        | [], l1, l2, h => have : dpV K i = 0 := by rw [← l1]; rfl
                           omega
        | y :: r, l1, l2, h => rw [knS_not hk.1] at h; cases h; simp only [List.length_cons] at *; omega
      · have hn : ¬ K (i : Int) = 17 := by have := hk.1; unfold ktwo at this; omega
        rw [if_neg hn, if_pos hk.1]
        match s0, l1, l2, h with
        | [], l1, l2, h => have : dpV K i = 0 := by rw [← l1]; rfl
                           omega
        | [y], l1, l2, h => have : dpV K i = 1 := by rw [← l1]; rfl
                            omega
        | y :: x :: r, l1, l2, h =>
          rw [knS_two hk.1] at h
          cases ej : joinS (K (i : Int)) x y with
          | none => rw [ej] at h; cases h
          | some v => rw [ej] at h; cases h; simp only [List.length_cons] at *; omega
/-- what goes writes -/
def GO : Nat → Int → Prop := fun k j => (k = 191 ∧ j = 54) ∨ k = 221
def nmM (M : Mem) : Int → Int64 := fun j => M.2 220 j
theorem m_goes_loop1 {M0 : Mem} {s n : Int} {K L : Int → Int} (hs : 0 ≤ s ∧ s < 2) (hF : MF1 M0 s K L n) (hK : KOK K n) : ∀ (m i fu : Nat) (M : Mem) (st : List Int64), (i : Int) + (m : Int) = n → m < fu → Fr GO M0 M → evS K L (nmM M0) i = some st → Stk (M.2 221) st → M.1 191 54 = (st.length : Int) →
    ∃ N r, t_MO_goes_L12 s fu M (M0.1 203 s + (i : Int)) = some (N, r) ∧ Fr GO M0 N ∧ match evS K L (nmM M0) n.toNat with | none => r = 0 | some st => r = 1 ∧ Stk (N.2 221) st := by
  have hf := hF
  obtain ⟨f1, f2, f3, f4⟩ := hF
  intro m
  induction m with
  | zero =>
    intro i fu M st g0 g1 hM he hst hl
    obtain ⟨g, rfl⟩ : ∃ g, fu = g + 1 := ⟨fu - 1, by omega⟩
    have e4 : M.1 204 s = M0.1 204 s := (hM 204 s (by unfold GO; omega)).1
    rw [t_MO_goes_L12, qguard_pos ⟨by omega, by omega⟩, e4, if_pos (by omega)]
    refine ⟨_, _, rfl, hM, ?_⟩
    have hi : n.toNat = i := by omega
    rw [hi, he]
    exact ⟨rfl, hst⟩
  | succ m ih =>
    intro i fu M st g0 g1 hM he hst hl
    obtain ⟨g, rfl⟩ : ∃ g, fu = g + 1 := ⟨fu - 1, by omega⟩
    have e4 : M.1 204 s = M0.1 204 s := (hM 204 s (by unfold GO; omega)).1
    have hln := ev_len hK i (by omega) st he
    have q := f4 (i : Int) (by omega) (by omega)
    have e5 : M.1 205 (M0.1 203 s + (i : Int)) = ksort (K (i : Int)) := ((hM 205 _ (by unfold GO; omega)).1).trans q.1
    have e6 : M.1 206 (M0.1 203 s + (i : Int)) = kval (K (i : Int)) (L (i : Int)) := ((hM 206 _ (by unfold GO; omega)).1).trans q.2
    have gd : 0 ≤ M0.1 203 s + (i : Int) ∧ M0.1 203 s + (i : Int) < 128 := by omega
    have nx : w32 (M0.1 203 s + (i : Int) + 1) = M0.1 203 s + ((i + 1 : Nat) : Int) := by rw [w32_id (by unfold InR; omega)]; omega
    have en : nmM M = nmM M0 := funext fun j => (hM 220 j (by unfold GO; omega)).2
    rw [t_MO_goes_L12, qguard_pos ⟨by omega, by omega⟩, e4, if_neg (by omega)]
    simp only [qguard_pos gd]
    rw [e5, e6]
    -- what is pushed
    have push : ∀ v : Int64, knS K L (nmM M0) (i : Int) st = some (v :: st) → ∃ N r, t_MO_goes_L85 s (fun a0_ a1_ => t_MO_goes_L12 s g a0_ a1_) M (M0.1 203 s + (i : Int)) (M.1 191 54) v = some (N, r) ∧ Fr GO M0 N ∧ match evS K L (nmM M0) n.toNat with | none => r = 0 | some st => r = 1 ∧ Stk (N.2 221) st := by
      intro v hv
      unfold t_MO_goes_L85 t_MO_goes_L96
      have hle := hK.2.1
      rw [hl, qguard_pos ⟨by omega, by omega⟩]
      simp only [qlet]
      rw [nx]
      refine ih (i + 1) g _ (v :: st) (by omega) (by omega) ((hM.setL (Or.inr rfl)).setI (Or.inl ⟨rfl, rfl⟩)) (by rw [evS, he]; exact hv) ⟨?_, ?_⟩ ?_
      · rw [sI_snd, sL_self]
      · exact Stk.of (fun j hj => by rw [sI_snd, sL_ne (by omega)]) hst
      · rw [sI_self, hl, w32_id (by unfold InR; omega)]; simp only [List.length_cons]; omega
    have hk := hK.2.2.1 i (by omega)
    rcases hk with hk | hk | hk
    · rcases hk with hk | hk
      · have s0 : ksort (K (i : Int)) = 0 := by rw [hk]; rfl
        have v0 : kval (K (i : Int)) (L (i : Int)) = L (i : Int) := by rw [hk]; rfl
        rw [s0, v0, if_neg (by decide), if_pos rfl]
        exact push _ (knS_num hk st)
      · have s0 : ksort (K (i : Int)) = 1 := by unfold ksort; rw [if_neg (by omega), if_pos hk]
        have v0 : kval (K (i : Int)) (L (i : Int)) = K (i : Int) - 18 := by unfold kval; rw [if_neg (by omega), if_pos hk]
        rw [s0, v0, if_neg (by decide), if_neg (by decide), qguard_pos ⟨by omega, by omega⟩]
        refine push _ ?_
        rw [knS_name hk st]
        show some (nmM M0 _ :: st) = some (nmM M _ :: st)
        rw [en]
    · have s0 : ksort (K (i : Int)) = 2 := by unfold ksort; rw [if_neg (by omega), if_neg (by omega)]
      have v0 : kval (K (i : Int)) (L (i : Int)) = 260 := by rw [hk.1]; rfl
      rw [s0, v0, if_pos rfl]
      match st, he, hst, hl, hln with
      | [], he, hst, hl, hln => simp only [List.length_nil] at hln; omega
      | y :: r, he, hst, hl, hln =>
        have hle := hK.2.1
        simp only [List.length_cons] at hl hln
        obtain ⟨N, n1, n2, n3, n4⟩ := m_works_not (M := M) hl (by omega)
        rw [n1, obind_some, if_neg (show ¬ (1 : Int) = 0 by decide)]
        unfold t_MO_goes_L96
        rw [nx]
        have hy : M.2 221 (r.length : Int) = y := hst.1
        have er : ((r.length + 1 : Nat) : Int) - 1 = (r.length : Int) := by omega
        rw [er, hy] at n3
        rw [er] at n4
        refine ih (i + 1) g N ((if y = 0 then 1 else 0) :: r) (by omega) (by omega) (hM.trans (n2.mono (fun k j h => Or.inr h))) (by rw [evS, he]; exact knS_not hk.1 y r) ⟨n3, Stk.of (fun j hj => n4 j hj) hst.2⟩ ?_
        rw [(n2 191 54 (by omega)).1, hl]; simp only [List.length_cons]
    · have hkt := hk.1
      unfold ktwo at hkt
      have s0 : ksort (K (i : Int)) = 2 := by unfold ksort; rw [if_neg (by omega), if_neg (by omega)]
      rw [s0, if_pos rfl]
      match st, he, hst, hl, hln with
      | [], he, hst, hl, hln => simp only [List.length_nil] at hln; omega
      | [y], he, hst, hl, hln => simp only [List.length_cons, List.length_nil] at hln; omega
      | y :: x :: r, he, hst, hl, hln =>
        have hle := hK.2.1
        simp only [List.length_cons] at hl hln
        obtain ⟨N, q, n1, n2, n3⟩ := m_works (M := M) (n := L (i : Int)) hl (by omega) hk.1
        have hy : M.2 221 ((r.length + 1 : Nat) : Int) = y := hst.1
        have hx : M.2 221 (r.length : Int) = x := hst.2.1
        have er : ((r.length + 1 + 1 : Nat) : Int) - 1 = ((r.length + 1 : Nat) : Int) := by omega
        have er2 : ((r.length + 1 + 1 : Nat) : Int) - 2 = (r.length : Int) := by omega
        rw [er, er2, hy, hx] at n3
        rw [n1, obind_some]
        cases ej : joinS (K (i : Int)) x y with
        | none =>
          rw [ej] at n3
          have n3 : q = 0 := n3
          rw [if_pos n3]
          refine ⟨N, 0, rfl, hM.trans n2, ?_⟩
          have hno : ∀ a : Nat, evS K L (nmM M0) (i + 1 + a) = none := by
            intro a
            induction a with
            | zero => rw [Nat.add_zero, evS, he]; show knS K L (nmM M0) (i : Int) (y :: x :: r) = none; rw [knS_two hk.1, ej]; rfl
            | succ a iha => rw [show i + 1 + (a + 1) = (i + 1 + a) + 1 by omega, evS, iha]; rfl
          have hna : n.toNat = i + 1 + (n.toNat - (i + 1)) := by omega
          rw [hna, hno]
        | some v =>
          rw [ej] at n3
          obtain ⟨n4, n5, n6, n7⟩ : q = 1 ∧ N.1 191 54 = ((r.length + 1 : Nat) : Int) ∧ N.2 221 (r.length : Int) = v ∧ ∀ j, j < (r.length : Int) → N.2 221 j = M.2 221 j := n3
          rw [if_neg (show ¬ q = 0 by omega)]
          unfold t_MO_goes_L96
          rw [nx]
          refine ih (i + 1) g N (v :: r) (by omega) (by omega) (hM.trans n2) (by rw [evS, he]; show knS K L (nmM M0) (i : Int) (y :: x :: r) = _; rw [knS_two hk.1, ej]; rfl) ⟨n6, Stk.of n7 hst.2.2⟩ ?_
          rw [n5]; simp only [List.length_cons]
theorem m_goesL {M : Mem} {s n : Int} {K L : Int → Int} (hs : 0 ≤ s ∧ s < 2) (hF : MF1 M s K L n) (hK : KOK K n) : ∃ N r, t_MO_goes M s = some (N, r) ∧ Fr GO M N ∧ match evS K L (nmM M) n.toNat with | none => r = 0 | some st => r = 1 ∧ Stk (N.2 221) st := by
  unfold t_MO_goes
  simp only [qlet]
  rw [qguard_pos ⟨by omega, by omega⟩, uI_ne _ _ (by omega)]
  have h := m_goes_loop1 hs hF hK n.toNat 0 FU (setI M 191 54 0) [] (by have := hK.1; omega) (fu_big (by have := hK.2.1; omega)) (Fr.rf.setI (Or.inl ⟨rfl, rfl⟩)) rfl trivial (by rw [sI_self]; rfl)
  rwa [show M.1 203 s + ((0 : Nat) : Int) = M.1 203 s by omega] at h
/-- a law's value -/
theorem valS_some {K L : Int → Int} {nm : Int → Int64} {n : Int} (hK : KOK K n) (h0 : 0 < n) {st : List Int64} (h : evS K L nm n.toNat = some st) : ∃ v, st = [v] ∧ valS K L nm n = some v := by
  have := ev_len hK n.toNat (by omega) st h
  rw [hK.2.2.2 h0] at this
  match st, this with
  | [v], _ => exact ⟨v, rfl, by unfold valS; rw [h]⟩
  | [], t => have := t.1; simp only [List.length_nil] at this; omega
  | a :: b :: c, t => have := t.1; simp only [List.length_cons] at this; omega
theorem valS_none {K L : Int → Int} {nm : Int → Int64} {n : Int} (h : evS K L nm n.toNat = none) : valS K L nm n = none := by unfold valS; rw [h]
/-- goes: a law that has knots -/
theorem m_goesV {M : Mem} {s n : Int} {K L : Int → Int} (hs : 0 ≤ s ∧ s < 2) (hF : MF1 M s K L n) (hK : KOK K n) (h0 : 0 < n) : ∃ N r, t_MO_goes M s = some (N, r) ∧ Fr GO M N ∧ ((r = 0 ∧ valS K L (nmM M) n = none) ∨ (r = 1 ∧ valS K L (nmM M) n = some (N.2 221 0))) := by
  obtain ⟨N, r, e1, e2, e3⟩ := m_goesL hs hF hK
  refine ⟨N, r, e1, e2, ?_⟩
  cases e : evS K L (nmM M) n.toNat with
  | none => rw [e] at e3; exact Or.inl ⟨e3, valS_none e⟩
  | some st =>
    rw [e] at e3
    obtain ⟨v, rfl, hv⟩ := valS_some hK h0 e
    have h2 : N.2 221 0 = v := e3.2.1
    exact Or.inr ⟨e3.1, by rw [hv, h2]⟩
theorem m_hasLaw {M : Mem} {s n : Int} {K L : Int → Int} (hs : 0 ≤ s ∧ s < 2) (hF : MF1 M s K L n) : t_MO_hasLaw M s = some (if 0 < n then 1 else 0) := by
  unfold t_MO_hasLaw
  obtain ⟨f1, f2, f3, f4⟩ := hF
  rw [qguard_pos ⟨by omega, by omega⟩, qguard_pos ⟨by omega, by omega⟩]
  by_cases h : 0 < n
  · rw [if_neg (by omega), if_pos h]
  · rw [if_pos (by omega), if_neg h]
/-- put to 0 .. most; without, if there is none -/
def witS (K L : Int → Int) (nm : Int → Int64) (n most without : Int) : Int := if 0 < n then (match valS K L nm n with | none => without | some v => q_l2i (q_maxl 0 (q_minl (q_i2l most) v))) else without
theorem m_within {M : Mem} {s n most wo : Int} {K L : Int → Int} (hs : 0 ≤ s ∧ s < 2) (hF : MF1 M s K L n) (hK : KOK K n) : ∃ N, t_MO_within M s most wo = some (N, witS K L (nmM M) n most wo) ∧ Fr GO M N := by
  unfold t_MO_within witS
  rw [m_hasLaw hs hF, obind_some]
  by_cases h : 0 < n
  · rw [if_pos h, if_pos h, if_neg (by decide)]
    obtain ⟨N, r, e1, e2, e3⟩ := m_goesV hs hF hK h
    rw [e1, obind_some]
    rcases e3 with ⟨r0, hv⟩ | ⟨r1, hv⟩
    · rw [hv, if_pos r0]; exact ⟨N, rfl, e2⟩
    · rw [hv, if_neg (by show ¬ r = 0; omega)]; exact ⟨N, rfl, e2⟩
  · rw [if_neg h, if_neg h, if_pos rfl]
    exact ⟨M, rfl, Fr.rf⟩
