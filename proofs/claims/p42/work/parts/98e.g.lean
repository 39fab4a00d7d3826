section
/-! ===== the class's formula machine in memory ===== -/
theorem tbI_zero (j : Int) : tbI 0 j = false := by
  unfold tbI
  show (0#32).getLsbD j.toNat = false
  exact BitVec.getLsbD_zero
theorem tbI_clr {x i j : Int} (h0 : 0 ≤ i) (h1 : i < 32) (g0 : 0 ≤ j) (g1 : j < 32) : tbI (q_and x (q_xor (q_shl 1 i) (-1))) j = (tbI x j && !decide (j = i)) := by
  unfold tbI
  have e : (Int32.ofInt (q_and x (q_xor (q_shl 1 i) (-1)))).toBitVec = (Int32.ofInt x).toBitVec &&& (((Int32.ofInt 1).toBitVec <<< i.toNat) ^^^ BitVec.allOnes 32) := by
    unfold q_and q_xor
    rw [q_of_toInt, Int32.toBitVec_and, q_of_toInt, Int32.toBitVec_xor, shl_bv h0 h1]
    rfl
  rw [e, BitVec.getLsbD_and, BitVec.getLsbD_xor, BitVec.getLsbD_shiftLeft, BitVec.getLsbD_allOnes]
  congr 1
  show ((decide (j.toNat < 32) && !decide (j.toNat < i.toNat) && (1#32).getLsbD (j.toNat - i.toNat)) ^^ decide (j.toNat < 32)) = _
  rw [BitVec.getLsbD_one]
  have h32 : j.toNat < 32 := by omega
  by_cases e : j = i
  · subst e
    simp [h32]
  · have h2 : ¬ j.toNat = i.toNat := by omega
    by_cases h3 : j.toNat < i.toNat
    · simp [h3, e, h32]
    · have h4 : ¬ (j.toNat - i.toNat = 0) := by omega
      simp [h4, e, h32]
theorem tb_i2l (x : Int) {i : Int} (h0 : 0 ≤ i) (h1 : i < 32) : tb (q_i2l x) i = tbI x i := by
  unfold tb q_i2l tbI
  rw [Int32.toBitVec_toInt64, BitVec.getLsbD_signExtend, if_pos (by omega), decide_eq_true (by omega), Bool.true_and]
theorem cz_clr {B o : Int} {cm : Int → Bool} (h : ∀ x, 0 ≤ x → x ≤ 8 → tbI B x = cm x) (o0 : 0 ≤ o) (o1 : o ≤ 8) : ∀ x, 0 ≤ x → x ≤ 8 → tbI (q_and B (q_xor (q_shl 1 o) (-1))) x = cz cm o false x := by
  intro x x0 x1
  rw [tbI_clr o0 (by omega) x0 (by omega), h x x0 x1]
  by_cases e : x = o
  · rw [e, cz_self, decide_eq_true rfl]; cases cm o <;> rfl
  · rw [cz_ne _ e, decide_eq_false e]; cases cm x <;> rfl
theorem cz_set {B o : Int} {cm : Int → Bool} (h : ∀ x, 0 ≤ x → x ≤ 8 → tbI B x = cm x) (o0 : 0 ≤ o) (o1 : o ≤ 8) : ∀ x, 0 ≤ x → x ≤ 8 → tbI (q_or B (q_shl 1 o)) x = cz cm o true x := by
  intro x x0 x1
  rw [told_or o0 (by omega) x0 (by omega), h x x0 x1]
  by_cases e : x = o
  · rw [e, cz_self, decide_eq_true rfl]; cases cm o <;> rfl
  · rw [cz_ne _ e, decide_eq_false e]; cases cm x <;> rfl
def OutM (M : Mem) (k0 : Nat) (out : List (Int × Int)) : Prop := M.1 k0 3 = (out.length : Int) ∧ ∀ j : Nat, j < out.length → M.1 (k0 + 1) (j : Int) = (out.getD j (0, 0)).1 ∧ M.1 (k0 + 2) (j : Int) = (out.getD j (0, 0)).2
def WsM (M : Mem) (r : Nat) : List Int → Prop
  | [] => True
  | p :: ws => M.1 r (ws.length : Int) = p ∧ WsM M r ws
def nO : List Int → Int
  | [] => 0
  | p :: ws => nO ws + (if p = 41 then 0 else 1)
def nP : List Int → Int
  | [] => 0
  | p :: ws => nP ws + (if p = 41 then 1 else 0)
def wsOk : List Int → Prop
  | [] => True
  | p :: ws => (p = 41 ∨ 1 ≤ bdF p) ∧ wsOk ws
theorem nOP : ∀ ws : List Int, nO ws + nP ws = (ws.length : Int) ∧ 0 ≤ nO ws ∧ 0 ≤ nP ws := by
  intro ws
  induction ws with
  | nil => exact ⟨rfl, Int.le_refl _, Int.le_refl _⟩
  | cons p ws ih =>
    rw [nO, nP, List.length_cons]
    by_cases e : p = 41
    · rw [if_pos e, if_pos e]; omega
    · rw [if_neg e, if_neg e]; omega
theorem OutM.fr {W : Nat → Int → Prop} {M N : Mem} {k0 : Nat} {out : List (Int × Int)} (h : OutM M k0 out) (hF : Fr W M N) (hd : ∀ k j, ((k = k0 ∧ j = 3) ∨ k = k0 + 1 ∨ k = k0 + 2) → ¬ W k j) : OutM N k0 out :=
  ⟨((hF k0 3 (hd _ _ (Or.inl ⟨rfl, rfl⟩))).1).trans h.1, fun j hj => ⟨((hF _ _ (hd (k0 + 1) _ (Or.inr (Or.inl rfl)))).1).trans (h.2 j hj).1, ((hF _ _ (hd (k0 + 2) _ (Or.inr (Or.inr rfl)))).1).trans (h.2 j hj).2⟩⟩
theorem WsM.fr {W : Nat → Int → Prop} {M N : Mem} {r : Nat} (hF : Fr W M N) : ∀ {ws : List Int}, WsM M r ws → (∀ j, j < (ws.length : Int) → ¬ W r j) → WsM N r ws := by
  intro ws
  induction ws with
  | nil => intro _ _; exact trivial
  | cons p ws ih =>
    intro h hd
    rw [List.length_cons] at hd
    exact ⟨((hF r _ (hd _ (by omega))).1).trans h.1, ih h.2 (fun j hj => hd j (by omega))⟩
theorem rl_facts {s : Int} (hs : 1 ≤ s) : ∀ (ws : List Int) (out : List (Int × Int)), wsOk ws → wsOk (rlF s out ws).2 ∧ nP (rlF s out ws).2 = nP ws ∧ ((rlF s out ws).1.length : Int) + nO (rlF s out ws).2 = (out.length : Int) + nO ws ∧ (s = 1 → (rlF s out ws).2 = [] ∨ ∃ t, (rlF s out ws).2 = 41 :: t) := by
  intro ws
  induction ws with
  | nil => intro out h; exact ⟨trivial, rfl, rfl, fun _ => Or.inl rfl⟩
  | cons p ws ih =>
    intro out h
    rw [rlF]
    by_cases c : bdF p < s
    · rw [if_pos c]
      refine ⟨h, rfl, rfl, fun e => Or.inr ⟨ws, ?_⟩⟩
      rcases h.1 with q | q
      · rw [q]
      · omega
    · rw [if_neg c]
      have n41 : ¬ p = 41 := fun q => by rw [q] at c; exact c (by show (0 : Int) < s; omega)
      obtain ⟨i1, i2, i3, i4⟩ := ih (out ++ [(p, 0)]) h.2
      refine ⟨i1, ?_, ?_, i4⟩
      · rw [i2, nP, if_neg n41]; omega
      · rw [i3, nO, if_neg n41, List.length_append]
        show ((out.length + 1 : Nat) : Int) + _ = _
        omega
theorem rl_ws {s : Int} {M : Mem} {r : Nat} : ∀ (ws : List Int) (out : List (Int × Int)), WsM M r ws → WsM M r (rlF s out ws).2 := by
  intro ws
  induction ws with
  | nil => intro out h; exact h
  | cons p ws ih =>
    intro out h
    rw [rlF]
    by_cases c : bdF p < s
    · rw [if_pos c]; exact h
    · rw [if_neg c]; exact ih _ h.2
theorem rl_len {s : Int} : ∀ (ws : List Int) (out : List (Int × Int)), (rlF s out ws).2.length ≤ ws.length := by
  intro ws
  induction ws with
  | nil => intro out; exact Nat.le_refl _
  | cons p ws ih =>
    intro out
    rw [rlF]
    by_cases c : bdF p < s
    · rw [if_pos c]; exact Nat.le_refl _
    · rw [if_neg c]
      have := ih (out ++ [(p, 0)])
      rw [List.length_cons]
      omega
def FaW (k0 : Nat) : Nat → Int → Prop := fun k j => (k = k0 ∧ j = 3) ∨ k = k0 + 1 ∨ k = k0 + 2
theorem c_fadd {M : Mem} {k0 : Nat} {out : List (Int × Int)} (h : OutM M k0 out) (hl : out.length < 64) (x y : Int) : OutM (t_Formula_add M k0 x y) k0 (out ++ [(x, y)]) ∧ Fr (FaW k0) M (t_Formula_add M k0 x y) := by
  have e : t_Formula_add M k0 x y = setI (setI (setI M (k0 + 1) (out.length : Int) x) (k0 + 2) (out.length : Int) y) k0 3 ((out.length : Int) + 1) := by
    unfold t_Formula_add
    simp (config := { proj := false }) only [qlet]
    rw [h.1, put_in (M := M) (by omega) (by omega), show (setI M (k0 + 1) (out.length : Int) x).1 k0 3 = (out.length : Int) from (sI_ne (by omega)).trans h.1, put_in (by omega) (by omega), show (setI (setI M (k0 + 1) (out.length : Int) x) (k0 + 2) (out.length : Int) y).1 k0 3 = (out.length : Int) from (sI_ne (by omega)).trans ((sI_ne (by omega)).trans h.1), w32_id (by unfold InR; omega)]
  rw [e]
  refine ⟨⟨?_, fun j hj => ?_⟩, ((Fr.rf.setI (by unfold FaW; omega)).setI (by unfold FaW; omega)).setI (by unfold FaW; omega)⟩
  · rw [sI_self, List.length_append]; rfl
  · rw [List.length_append] at hj
    change j < out.length + 1 at hj
    rw [List.getD_eq_getElem?_getD]
    by_cases c : j < out.length
    · rw [List.getElem?_append_left c, ← List.getD_eq_getElem?_getD, sI_ne (by omega), sI_ne (by omega), sI_ne (by omega), sI_ne (by omega), sI_ne (by omega), sI_ne (by omega)]
      exact h.2 j c
    · have ej : j = out.length := by omega
      subst ej
      rw [List.getElem?_append_right (Nat.le_refl _), Nat.sub_self]
      refine ⟨?_, ?_⟩
      · rw [sI_ne (by omega), sI_ne (by omega), sI_self]; rfl
      · rw [sI_ne (by omega), sI_self]; rfl
theorem strF_in : ∀ n : Nat, n < 38 → t_Formula_strengthOf (fun _ _ => 0, fun _ _ => 0) (15 + (n : Int)) = stF (15 + (n : Int)) := by decide +kernel
theorem strF_eq (M : Mem) (k : Int) : t_Formula_strengthOf M k = stF k := by
  by_cases h : 15 ≤ k ∧ k ≤ 52
  · have e := strF_in (k - 15).toNat (by omega)
    rw [show (15 : Int) + ((k - 15).toNat : Int) = k by omega] at e
    exact e
  · have n : ∀ c : Int, 15 ≤ c → c ≤ 52 → ¬ k = c := fun c a b z => h ⟨by omega, by omega⟩
    have o : stF k = 0 := by
      unfold stF
      rw [if_neg (n 15 (by decide) (by decide)), if_neg (n 16 (by decide) (by decide)), if_neg (by omega), if_neg (by omega), if_neg (by omega)]
    unfold t_Formula_strengthOf
    exact (if_neg (n 15 (by decide) (by decide))).trans ((if_neg (n 16 (by decide) (by decide))).trans ((if_neg (n 17 (by decide) (by decide))).trans ((if_neg (n 18 (by decide) (by decide))).trans ((if_neg (n 19 (by decide) (by decide))).trans ((if_neg (n 20 (by decide) (by decide))).trans ((if_neg (n 21 (by decide) (by decide))).trans ((if_neg (n 22 (by decide) (by decide))).trans ((if_neg (n 23 (by decide) (by decide))).trans ((if_neg (n 24 (by decide) (by decide))).trans ((if_neg (n 25 (by decide) (by decide))).trans ((if_neg (n 26 (by decide) (by decide))).trans ((if_neg (n 27 (by decide) (by decide))).trans ((if_neg (n 28 (by decide) (by decide))).trans ((if_neg (n 29 (by decide) (by decide))).trans ((if_neg (n 30 (by decide) (by decide))).trans ((if_neg (n 31 (by decide) (by decide))).trans ((if_neg (n 32 (by decide) (by decide))).trans ((if_neg (n 33 (by decide) (by decide))).trans ((if_neg (n 34 (by decide) (by decide))).trans ((if_neg (n 35 (by decide) (by decide))).trans ((if_neg (n 36 (by decide) (by decide))).trans ((if_neg (n 37 (by decide) (by decide))).trans ((if_neg (n 38 (by decide) (by decide))).trans ((if_neg (n 39 (by decide) (by decide))).trans ((if_neg (n 40 (by decide) (by decide))).trans ((if_neg (n 41 (by decide) (by decide))).trans ((if_neg (n 42 (by decide) (by decide))).trans ((if_neg (n 43 (by decide) (by decide))).trans ((if_neg (n 44 (by decide) (by decide))).trans ((if_neg (n 45 (by decide) (by decide))).trans ((if_neg (n 46 (by decide) (by decide))).trans ((if_neg (n 47 (by decide) (by decide))).trans ((if_neg (n 48 (by decide) (by decide))).trans ((if_neg (n 49 (by decide) (by decide))).trans ((if_neg (n 50 (by decide) (by decide))).trans ((if_neg (n 51 (by decide) (by decide))).trans ((if_neg (n 52 (by decide) (by decide))).trans o.symm)))))))))))))))))))))))))))))))))))))
def RlW (k0 : Nat) : Nat → Int → Prop := fun k j => (k = k0 ∧ (j = 3 ∨ j = 6)) ∨ k = k0 + 1 ∨ k = k0 + 2
theorem c_release {k0 : Nat} {s : Int} (hs : 1 ≤ s) : ∀ (ws : List Int) (fu : Nat) (M : Mem) (out : List (Int × Int)), wsOk ws → OutM M k0 out → M.1 k0 6 = (ws.length : Int) → WsM M (k0 + 4) ws → (out.length : Int) + nO ws ≤ 64 → ws.length ≤ 72 → ws.length < fu →
    ∃ N, t_Formula_release_L0 k0 s fu M = some N ∧ Fr (RlW k0) M N ∧ OutM N k0 (rlF s out ws).1 ∧ N.1 k0 6 = ((rlF s out ws).2.length : Int) := by
  intro ws
  induction ws with
  | nil =>
    intro fu M out h1 h2 h3 h4 h5 h6 h7
    obtain ⟨g, rfl⟩ : ∃ g, fu = g + 1 := ⟨fu - 1, by omega⟩
    rw [t_Formula_release_L0, if_pos (by rw [h3]; exact Int.le_refl _)]
    exact ⟨M, rfl, Fr.rf, h2, h3⟩
  | cons p ws ih =>
    intro fu M out h1 h2 h3 h4 h5 h6 h7
    obtain ⟨g, rfl⟩ : ∃ g, fu = g + 1 := ⟨fu - 1, by omega⟩
    rw [List.length_cons] at h3 h6 h7
    have lk : t_WF_look M (k0 + 4) 72 (w32 (M.1 k0 6 - 1)) = p := by
      rw [h3, w32_id (by unfold InR; omega), look_in (by omega) (by omega), show ((ws.length + 1 : Nat) : Int) - 1 = (ws.length : Int) by omega]
      exact h4.1
    have on := nOP ws
    rw [t_Formula_release_L0, if_neg (by rw [h3]; omega), lk]
    simp only [qlet]
    have key : ∀ b, b = bdF p → ∃ N, t_Formula_release_L35 k0 s (fun a0_ => t_Formula_release_L0 k0 s g a0_) M p b = some N ∧ Fr (RlW k0) M N ∧ OutM N k0 (rlF s out (p :: ws)).1 ∧ N.1 k0 6 = ((rlF s out (p :: ws)).2.length : Int) := by
      intro b hb
      unfold t_Formula_release_L35
      rw [hb, rlF]
      by_cases c : bdF p < s
      · rw [if_neg (by omega), if_pos c]
        exact ⟨M, rfl, Fr.rf, h2, by rw [List.length_cons]; exact h3⟩
      · rw [if_pos (by omega), if_neg c]
        simp (config := { proj := false }) only [qlet]
        have n41 : ¬ p = 41 := fun q => by rw [q] at c; exact c (by show (0 : Int) < s; omega)
        rw [nO, if_neg n41] at h5
        obtain ⟨a1, a2⟩ := c_fadd h2 (by omega) p 0
        have a3 : (t_Formula_add M k0 p 0).1 k0 6 = (ws.length : Int) + 1 := by
          rw [(a2 k0 6 (by unfold FaW; omega)).1, h3]
          omega
        generalize t_Formula_add M k0 p 0 = M1 at *
        rw [a3, w32_id (by unfold InR; omega), show (ws.length : Int) + 1 - 1 = (ws.length : Int) by omega]
        have f2 : Fr (RlW k0) M (setI M1 k0 6 (ws.length : Int)) := (a2.mono (fun k j z => by unfold FaW at z; unfold RlW; omega)).setI (by unfold RlW; omega)
        obtain ⟨N, n1, n2, n3, n4⟩ := ih g (setI M1 k0 6 (ws.length : Int)) (out ++ [(p, 0)]) h1.2 (a1.fr (W := fun k j => k = k0 ∧ j = 6) (Fr.rf.setI ⟨rfl, rfl⟩) (fun k j z y => by omega)) (sI_self _ _ _ _) (WsM.fr f2 h4.2 (fun j hj z => by unfold RlW at z; omega)) (by rw [List.length_append]; show ((out.length + 1 : Nat) : Int) + _ ≤ _; omega) (by omega) (by omega)
        exact ⟨N, n1, f2.trans n2, n3, n4⟩
    by_cases e : p = 17
    · rw [if_pos e]
      exact key 3 (by rw [e]; rfl)
    · rw [if_neg e, strF_eq]
      exact key (stF p) (by unfold bdF; rw [if_neg e])
theorem c_rel {k0 : Nat} {s : Int} (hs : 1 ≤ s) {ws : List Int} {M : Mem} {out : List (Int × Int)} (h1 : wsOk ws) (h2 : OutM M k0 out) (h3 : M.1 k0 6 = (ws.length : Int)) (h4 : WsM M (k0 + 4) ws) (h5 : (out.length : Int) + nO ws ≤ 64) (h6 : ws.length ≤ 72) : ∃ N, t_Formula_release M k0 s = some N ∧ Fr (RlW k0) M N ∧ OutM N k0 (rlF s out ws).1 ∧ N.1 k0 6 = ((rlF s out ws).2.length : Int) ∧ WsM N (k0 + 4) (rlF s out ws).2 := by
  obtain ⟨N, n1, n2, n3, n4⟩ := c_release hs ws FU M out h1 h2 h3 h4 h5 h6 (fu_big (by omega))
  exact ⟨N, n1, n2, n3, n4, rl_ws _ _ (WsM.fr n2 h4 (fun j hj z => by unfold RlW at z; omega))⟩
theorem c_await {M : Mem} {k0 : Nat} {l : Int} (h : M.1 k0 6 = l) (l0 : 0 ≤ l) (l1 : l < 72) (x : Int) : t_Formula_await M k0 x = setI (setI M (k0 + 4) l x) k0 6 (l + 1) := by
  unfold t_Formula_await
  simp (config := { proj := false }) only [qlet]
  rw [h, put_in l0 (by omega), show (setI M (k0 + 4) l x).1 k0 6 = l from (sI_ne (by omega)).trans h, w32_id (by unfold InR; omega)]
def b01 (b : Bool) : Int := if b = true then 1 else 0
/-- the machine's cells -/
def FMs (M : Mem) (k0 k3 i : Nat) (c : Int) (out : List (Int × Int)) (ws : List Int) (o : Int) (cm : Int → Bool) (wp mn : Bool) : Prop :=
  (M.1 k0 7 = (i : Int) ∧ M.1 k3 16 = c ∧ M.1 k0 8 = o ∧ M.1 k0 10 = b01 wp ∧ M.1 k0 11 = b01 mn ∧ M.1 k0 6 = (ws.length : Int)) ∧ OutM M k0 out ∧ WsM M (k0 + 4) ws ∧ (∀ x, 0 ≤ x → x ≤ 8 → tbI (M.1 k0 9) x = cm x)
def FBd (c : Int) (out : List (Int × Int)) (ws : List Int) (o : Int) : Prop := 0 ≤ c ∧ c ≤ 64 ∧ 0 ≤ o ∧ o ≤ 8 ∧ nP ws = o ∧ (out.length : Int) + nO ws ≤ c ∧ wsOk ws
def FMt (M : Mem) (k0 k3 i : Nat) (t : FSt) : Prop := FMs M k0 k3 i t.2.1 t.2.2.1 t.2.2.2.1 t.2.2.2.2.1 t.2.2.2.2.2.1 t.2.2.2.2.2.2.1 t.2.2.2.2.2.2.2 ∧ FBd t.2.1 t.2.2.1 t.2.2.2.1 t.2.2.2.2.1
def FmW (k0 k3 : Nat) : Nat → Int → Prop := fun k j => (k = k0 ∧ (j = 3 ∨ j = 4 ∨ (6 ≤ j ∧ j ≤ 11))) ∨ k = k0 + 1 ∨ k = k0 + 2 ∨ k = k0 + 4 ∨ (k = k3 ∧ j = 16)
section FME
variable {K W : Nat → Int} {k0 k3 i : Nat} {c : Int} {out : List (Int × Int)} {ws : List Int} {o : Int} {cm : Int → Bool} {mn wp : Bool} {M : Mem}
theorem c_readPart (hk : k3 + 10 ≤ k0 ∧ k0 + 4 < 42) (h : FMs M k0 k3 i c out ws o cm true mn) (hb : FBd c out ws o) {w : Int} (hw : K i ≠ 33 → w = W i) :
    (∀ r, sF K W i c out ws o cm true mn = Sum.inl r → t_Formula_readPart M k0 (K i) w k3 = (M, r.1) ∧ r.1 ≠ 0 ∧ r.2.1 = i) ∧
    (∀ t, sF K W i c out ws o cm true mn = Sum.inr t → ∃ N, t_Formula_readPart M k0 (K i) w k3 = (N, 0) ∧ Fr (FmW k0 k3) M N ∧ FMt N k0 k3 i t) := by
  obtain ⟨⟨h7, h16, h8, h10, h11, h6⟩, hO, hS, hB⟩ := h
  obtain ⟨c0, c1, o0, o1, oP, oL, oW⟩ := hb
  have on := nOP ws
  rw [sF_w]
  unfold t_Formula_readPart
  by_cases k41 : K i = 41
  · rw [if_pos k41, if_pos k41, h8]
    by_cases o8 : o = 8
    · rw [if_pos o8, if_neg (by omega)]
      exact ⟨fun r e => by cases e; exact ⟨rfl, (by show ¬ (2 : Int) = 0; decide), rfl⟩, fun t e => by cases e⟩
    · rw [if_neg o8, if_pos (by omega), w32_id (by unfold InR; omega)]
      simp (config := { proj := false }) only [qlet]
      refine ⟨fun r e => (by cases e), fun t e => ?_⟩
      cases e
      have e1 : (setI M k0 8 (o + 1)).1 k0 9 = M.1 k0 9 := sI_ne (by omega)
      have e2 : (setI M k0 8 (o + 1)).1 k0 8 = o + 1 := sI_self _ _ _ _
      rw [e1, e2]
      have hB2 := cz_clr hB (show 0 ≤ o + 1 by omega) (by omega)
      generalize q_and (M.1 k0 9) (q_xor (q_shl 1 (o + 1)) (-1)) = B2 at *
      rw [c_await (l := (ws.length : Int)) (by rw [sI_ne (by omega), sI_ne (by omega), sI_ne (by omega)]; exact h6) (by omega) (by omega)]
      have fW : Fr (fun k j => (k = k0 ∧ (j = 6 ∨ 8 ≤ j ∧ j ≤ 11)) ∨ (k = k0 + 4 ∧ (ws.length : Int) ≤ j)) M (setI (setI (setI (setI (setI M k0 8 (o + 1)) k0 9 B2) k0 11 1) (k0 + 4) (ws.length : Int) 41) k0 6 ((ws.length : Int) + 1)) := ((((Fr.rf.setI (by omega)).setI (by omega)).setI (by omega)).setI (by omega)).setI (by omega)
      refine ⟨_, rfl, fW.mono (fun k j z => by unfold FmW; omega), ⟨⟨?_, ?_, ?_, ?_, ?_, ?_⟩, hO.fr fW (fun k j z y => by omega), ⟨?_, WsM.fr fW hS (fun j hj z => by omega)⟩, fun x x0 x1 => ?_⟩, ?_⟩
      · rw [(fW k0 7 (by omega)).1]; exact h7
      · rw [(fW k3 16 (by omega)).1]; exact h16
      · rw [sI_ne (by omega), sI_ne (by omega), sI_ne (by omega), sI_ne (by omega), sI_self]
      · rw [sI_ne (by omega), sI_ne (by omega), sI_ne (by omega), sI_ne (by omega), sI_ne (by omega)]; exact h10
      · rw [sI_ne (by omega), sI_ne (by omega), sI_self]; rfl
      · rw [sI_self]; show (ws.length : Int) + 1 = ((ws.length + 1 : Nat) : Int); omega
      · rw [sI_ne (by omega), sI_self]
      · rw [sI_ne (by omega), sI_ne (by omega), sI_ne (by omega), sI_self]; exact hB2 x x0 x1
      · refine ⟨c0, c1, by show 0 ≤ o + 1; omega, by show o + 1 ≤ 8; omega, ?_, ?_, Or.inl rfl, oW⟩
        · show nP (41 :: ws) = o + 1
          rw [nP, if_pos rfl, oP]
        · show (out.length : Int) + nO (41 :: ws) ≤ c
          rw [nO, if_pos rfl]
          omega
  · rw [if_neg k41, if_neg k41]
    by_cases kn : K i = 17 ∧ mn = true
    · rw [if_pos kn, if_pos kn.1, if_neg (show ¬ M.1 k0 11 = 0 by rw [h11, kn.2]; decide)]
      unfold t_Formula_readPart_L75 t_Formula_readPart_L97 t_Formula_readPart_L121
      rw [if_neg (show ¬ (1 : Int) = 0 by decide), h16, if_neg (show ¬ K i = 31 by omega)]
      by_cases c64 : c = 64
      · rw [if_pos c64, if_pos (by omega)]
        exact ⟨fun r e => by cases e; exact ⟨rfl, (by show ¬ (2 : Int) = 0; decide), rfl⟩, fun t e => by cases e⟩
      · rw [if_neg c64, if_neg (by omega), w32_id (by unfold InR; omega)]
        simp (config := { proj := false }) only [qlet]
        rw [if_neg (show ¬ (1 : Int) = 0 by decide), c_await (l := (ws.length : Int)) (by rw [sI_ne (by omega)]; exact h6) (by omega) (by omega)]
        refine ⟨fun r e => (by cases e), fun t e => ?_⟩
        cases e
        have fW : Fr (fun k j => (k = k3 ∧ j = 16) ∨ (k = k0 ∧ j = 6) ∨ (k = k0 + 4 ∧ (ws.length : Int) ≤ j)) M (setI (setI (setI M k3 16 (c + 1)) (k0 + 4) (ws.length : Int) 17) k0 6 ((ws.length : Int) + 1)) := ((Fr.rf.setI (by omega)).setI (by omega)).setI (by omega)
        refine ⟨_, rfl, fW.mono (fun k j z => by unfold FmW; omega), ⟨⟨?_, ?_, ?_, ?_, ?_, ?_⟩, hO.fr fW (fun k j z y => by omega), ⟨?_, WsM.fr fW hS (fun j hj z => by omega)⟩, fun x x0 x1 => ?_⟩, ?_⟩
        · rw [(fW k0 7 (by omega)).1]; exact h7
        · rw [sI_ne (by omega), sI_ne (by omega), sI_self]
        · rw [(fW k0 8 (by omega)).1]; exact h8
        · rw [(fW k0 10 (by omega)).1]; exact h10
        · rw [(fW k0 11 (by omega)).1]; exact h11
        · rw [sI_self]; show (ws.length : Int) + 1 = ((ws.length + 1 : Nat) : Int); omega
        · rw [sI_ne (by omega), sI_self]
        · rw [(fW k0 9 (by omega)).1]; exact hB x x0 x1
        · refine ⟨by show 0 ≤ c + 1; omega, by show c + 1 ≤ 64; omega, o0, o1, ?_, ?_, Or.inr (by decide), oW⟩
          · show nP (17 :: ws) = o
            rw [nP, if_neg (by decide), oP]; omega
          · show (out.length : Int) + nO (17 :: ws) ≤ c + 1
            rw [nO, if_neg (by decide)]
            omega
    · rw [if_neg kn]
      have e74 : (if K i = 17 then (if M.1 k0 11 = 0 then t_Formula_readPart_L74 k0 (K i) w k3 M else t_Formula_readPart_L75 k0 (K i) w k3 M 1) else t_Formula_readPart_L74 k0 (K i) w k3 M) = t_Formula_readPart_L75 k0 (K i) w k3 M 0 := by
        by_cases k17 : K i = 17
        · have : mn = false := by
            cases e : mn with
            | false => rfl
            | true => exact absurd ⟨k17, e⟩ kn
          rw [if_pos k17, if_pos (show M.1 k0 11 = 0 by rw [h11, this]; rfl)]
          rfl
        · rw [if_neg k17]
          rfl
      rw [e74]
      unfold t_Formula_readPart_L75 t_Formula_isName
      rw [if_pos rfl]
      simp only [qlet]
      have fin : (K i = 31 ∨ (18 ≤ K i ∧ K i ≤ 24)) → (∀ r, (if c = 64 ∨ (K i = 31 ∧ 9999 < W i) then Sum.inl (2, i, 0, []) else Sum.inr (i + 1, c + 1, out ++ [(K i, W i)], ws, o, cm, false, mn) : Sum ER FSt) = Sum.inl r → t_Formula_readPart_L97 k0 (K i) w k3 M 0 = (M, r.1) ∧ r.1 ≠ 0 ∧ r.2.1 = i) ∧
    (∀ t, (if c = 64 ∨ (K i = 31 ∧ 9999 < W i) then Sum.inl (2, i, 0, []) else Sum.inr (i + 1, c + 1, out ++ [(K i, W i)], ws, o, cm, false, mn) : Sum ER FSt) = Sum.inr t → ∃ N, t_Formula_readPart_L97 k0 (K i) w k3 M 0 = (N, 0) ∧ Fr (FmW k0 k3) M N ∧ FMt N k0 k3 i t) := by
        intro hn
        have hw' := hw (by omega)
        subst hw'
        unfold t_Formula_readPart_L97
        rw [h16]
        by_cases c64 : c = 64
        · rw [if_pos (Or.inl c64), if_pos (by omega)]
          exact ⟨fun r e => by cases e; exact ⟨rfl, (by show ¬ (2 : Int) = 0; decide), rfl⟩, fun t e => by cases e⟩
        · rw [if_neg (show ¬ 64 ≤ c by omega)]
          by_cases w9 : K i = 31 ∧ 9999 < W i
          · rw [if_pos (Or.inr w9), if_pos w9.1, if_neg (by omega)]
            exact ⟨fun r e => by cases e; exact ⟨rfl, (by show ¬ (2 : Int) = 0; decide), rfl⟩, fun t e => by cases e⟩
          · rw [if_neg (show ¬ (c = 64 ∨ (K i = 31 ∧ 9999 < W i)) from fun q => by rcases q with q | q; exact c64 q; exact w9 q)]
            have e121 : (if K i = 31 then (if W i ≤ 9999 then t_Formula_readPart_L121 k0 (K i) (W i) k3 M 0 else (M, 2)) else t_Formula_readPart_L121 k0 (K i) (W i) k3 M 0) = t_Formula_readPart_L121 k0 (K i) (W i) k3 M 0 := by
              by_cases k31 : K i = 31
              · rw [if_pos k31, if_pos (by omega)]
              · rw [if_neg k31]
            rw [e121]
            refine ⟨fun r e => (by cases e), fun t e => ?_⟩
            cases e
            unfold t_Formula_readPart_L121
            rw [h16, w32_id (by unfold InR; omega)]
            simp (config := { proj := false }) only [qlet]
            rw [if_pos trivial]
            have f0 : Fr (fun k j => k = k3 ∧ j = 16) M (setI M k3 16 (c + 1)) := Fr.rf.setI ⟨rfl, rfl⟩
            obtain ⟨a1, a2⟩ := c_fadd (hO.fr f0 (fun k j z y => by omega)) (by omega) (K i) (W i)
            have e16 : (t_Formula_add (setI M k3 16 (c + 1)) k0 (K i) (W i)).1 k3 16 = c + 1 := ((a2 k3 16 (by unfold FaW; omega)).1).trans (sI_self _ _ _ _)
            have f1 : Fr (fun k j => (k = k3 ∧ j = 16) ∨ (k = k0 ∧ j = 3) ∨ k = k0 + 1 ∨ k = k0 + 2) M (t_Formula_add (setI M k3 16 (c + 1)) k0 (K i) (W i)) := (f0.mono (fun k j z => Or.inl z)).trans (a2.mono (fun k j z => Or.inr z))
            generalize t_Formula_add (setI M k3 16 (c + 1)) k0 (K i) (W i) = M1 at *
            have fW : Fr (fun k j => (k = k3 ∧ j = 16) ∨ (k = k0 ∧ (j = 3 ∨ j = 10)) ∨ k = k0 + 1 ∨ k = k0 + 2) M (setI M1 k0 10 0) := (f1.mono (fun k j z => by omega)).setI (by omega)
            refine ⟨_, rfl, fW.mono (fun k j z => by unfold FmW; omega), ⟨⟨?_, ?_, ?_, ?_, ?_, ?_⟩, a1.fr (W := fun k j => k = k0 ∧ j = 10) (Fr.rf.setI ⟨rfl, rfl⟩) (fun k j z y => by omega), WsM.fr fW hS (fun j hj z => by omega), fun x x0 x1 => ?_⟩, ?_⟩
            · rw [(fW k0 7 (by omega)).1]; exact h7
            · rw [sI_ne (by omega)]; exact e16
            · rw [(fW k0 8 (by omega)).1]; exact h8
            · rw [sI_self]; rfl
            · rw [(fW k0 11 (by omega)).1]; exact h11
            · rw [(fW k0 6 (by omega)).1]; exact h6
            · rw [(fW k0 9 (by omega)).1]; exact hB x x0 x1
            · refine ⟨by show 0 ≤ c + 1; omega, by show c + 1 ≤ 64; omega, o0, o1, oP, ?_, oW⟩
              show ((out ++ [(K i, W i)]).length : Int) + nO ws ≤ c + 1
              rw [List.length_append]
              show ((out.length + 1 : Nat) : Int) + nO ws ≤ c + 1
              omega
      by_cases k31 : K i = 31
      · rw [if_pos k31, if_pos (Or.inl k31)]
        exact fin (Or.inl k31)
      · rw [if_neg k31]
        by_cases k18 : K i < 18
        · rw [if_pos k18, if_pos rfl, if_neg (show ¬ (K i = 31 ∨ (18 ≤ K i ∧ K i ≤ 24)) by omega)]
          exact ⟨fun r e => by cases e; exact ⟨rfl, (by show ¬ (1 : Int) = 0; decide), rfl⟩, fun t e => by cases e⟩
        · rw [if_neg k18]
          by_cases k24 : 24 < K i
          · rw [if_pos k24, if_pos rfl, if_neg (show ¬ (K i = 31 ∨ (18 ≤ K i ∧ K i ≤ 24)) by omega)]
            exact ⟨fun r e => by cases e; exact ⟨rfl, (by show ¬ (1 : Int) = 0; decide), rfl⟩, fun t e => by cases e⟩
          · rw [if_neg k24, if_neg (show ¬ (1 : Int) = 0 by decide), if_pos (show K i = 31 ∨ (18 ≤ K i ∧ K i ≤ 24) by omega)]
            exact fin (Or.inr (by omega))
end FME
end
section
section FSG
variable {K W : Nat → Int} {k0 k3 i : Nat} {c : Int} {out : List (Int × Int)} {ws : List Int} {o : Int} {cm : Int → Bool} {mn wp : Bool} {M : Mem}
theorem c_readSign (hk : k3 + 10 ≤ k0 ∧ k0 + 4 < 42) (h : FMs M k0 k3 i c out ws o cm false mn) (hb : FBd c out ws o) (h40 : ¬ (K i = 40 ∧ o = 0)) :
    (∀ r, sF K W i c out ws o cm false mn = Sum.inl r → t_Formula_readSign M k0 (K i) k3 = some (M, r.1) ∧ r.1 ≠ 0 ∧ r.2.1 = i) ∧
    (∀ t, sF K W i c out ws o cm false mn = Sum.inr t → ∃ N, t_Formula_readSign M k0 (K i) k3 = some (N, 0) ∧ Fr (FmW k0 k3) M N ∧ FMt N k0 k3 i t) := by
  obtain ⟨⟨h7, h16, h8, h10, h11, h6⟩, hO, hS, hB⟩ := h
  obtain ⟨c0, c1, o0, o1, oP, oL, oW⟩ := hb
  have on := nOP ws
  rw [sF_s, if_neg h40]
  unfold t_Formula_readSign
  by_cases k42 : K i = 42
  · rw [if_pos k42, if_pos k42, h8]
    by_cases oz : o = 0
    · rw [if_pos oz, if_pos oz]
      exact ⟨fun r e => by cases e; exact ⟨rfl, (by show ¬ (1 : Int) = 0; decide), rfl⟩, fun t e => by cases e⟩
    · rw [if_neg oz, if_neg oz]
      refine ⟨fun r e => (by cases e), fun t e => ?_⟩
      cases e
      obtain ⟨N, n1, n2, n3, n4, n5⟩ := c_rel (s := 1) (Int.le_refl _) oW hO h6 hS (by omega) (by omega)
      obtain ⟨r1, r2, r3, r4⟩ := rl_facts (s := 1) (Int.le_refl _) ws out oW
      rw [n1, obind_some]
      simp (config := { proj := false }) only [qlet]
      have hd : ∃ t, (rlF 1 out ws).2 = 41 :: t := by
        rcases r4 rfl with q | q
        · rw [q] at r2
          rw [nP] at r2
          omega
        · exact q
      obtain ⟨t, ht⟩ := hd
      rw [ht] at n4 n5 r1 r2 r3 ⊢
      rw [List.length_cons] at n4
      rw [nP, if_pos rfl] at r2
      rw [nO, if_pos rfl] at r3
      have ln := rl_len (s := 1) ws out
      rw [ht, List.length_cons] at ln
      have e8 : (setI N k0 6 (w32 (N.1 k0 6 - 1))).1 k0 8 = o := by rw [sI_ne (by omega), (n2 k0 8 (by unfold RlW; omega)).1]; exact h8
      rw [e8, n4, w32_id (x := ((t.length + 1 : Nat) : Int) - 1) (by unfold InR; omega), w32_id (x := o - 1) (by unfold InR; omega), show ((t.length + 1 : Nat) : Int) - 1 = (t.length : Int) by omega]
      have fN : Fr (fun k j => (k = k0 ∧ (j = 6 ∨ j = 8))) N (setI (setI N k0 6 (t.length : Int)) k0 8 (o - 1)) := (Fr.rf.setI (by omega)).setI (by omega)
      have fW : Fr (fun k j => (k = k0 ∧ (j = 3 ∨ j = 6 ∨ j = 8)) ∨ k = k0 + 1 ∨ k = k0 + 2) M (setI (setI N k0 6 (t.length : Int)) k0 8 (o - 1)) := (n2.mono (fun k j z => by unfold RlW at z; omega)).trans (fN.mono (fun k j z => by omega))
      refine ⟨_, rfl, fW.mono (fun k j z => by unfold FmW; omega), ⟨⟨?_, ?_, ?_, ?_, ?_, ?_⟩, n3.fr fN (fun k j z y => by omega), WsM.fr fN n5.2 (fun j hj z => by omega), fun x x0 x1 => ?_⟩, ?_⟩
      · rw [(fW k0 7 (by omega)).1]; exact h7
      · rw [(fW k3 16 (by omega)).1]; exact h16
      · rw [sI_self]
      · rw [(fW k0 10 (by omega)).1]; exact h10
      · rw [(fW k0 11 (by omega)).1]; exact h11
      · rw [sI_ne (by omega), sI_self]; rfl
      · rw [(fW k0 9 (by omega)).1]; exact hB x x0 x1
      · exact ⟨c0, c1, by show 0 ≤ o - 1; omega, by show o - 1 ≤ 8; omega, by show nP t = o - 1; omega, by show ((rlF 1 out ws).1.length : Int) + nO t ≤ c; omega, r1.2⟩
  · rw [if_neg k42, if_neg k42, strF_eq]
    simp only [qlet]
    have e57 : (if stF (K i) = 4 then t_Formula_readSign_L57 k0 (K i) k3 M (stF (K i)) 1 else t_Formula_readSign_L57 k0 (K i) k3 M (stF (K i)) 0) = t_Formula_readSign_L57 k0 (K i) k3 M (stF (K i)) (if stF (K i) = 4 then 1 else 0) := by
      by_cases q : stF (K i) = 4
      · rw [if_pos q, if_pos q]
      · rw [if_neg q, if_neg q]
    rw [e57]
    unfold t_Formula_readSign_L57
    have sr := stF_rng (K i)
    by_cases s0 : stF (K i) = 0
    · rw [if_pos s0, if_pos (Or.inl s0)]
      exact ⟨fun r e => by cases e; exact ⟨rfl, (by show ¬ (1 : Int) = 0; decide), rfl⟩, fun t e => by cases e⟩
    · rw [if_neg s0, h8, bitOf_tb M _ (by omega) (by omega), tb_i2l _ (by omega) (by omega), hB o o0 o1]
      simp only [qlet]
      have e86 : (if (if stF (K i) = 4 then (1 : Int) else 0) = 0 then t_Formula_readSign_L86 k0 (K i) k3 M (stF (K i)) (if stF (K i) = 4 then 1 else 0) else if (if cm o = true then (1 : Int) else 0) = 1 then some (M, 1) else t_Formula_readSign_L86 k0 (K i) k3 M (stF (K i)) (if stF (K i) = 4 then 1 else 0)) = if stF (K i) = 4 ∧ cm o = true then some (M, 1) else t_Formula_readSign_L86 k0 (K i) k3 M (stF (K i)) (if stF (K i) = 4 then 1 else 0) := by
        by_cases q : stF (K i) = 4
        · rw [if_pos q, if_neg (show ¬ (1 : Int) = 0 by decide)]
          cases cm o with
          | true => rw [if_pos rfl, if_pos rfl, if_pos ⟨q, rfl⟩]
          | false => rw [if_neg (show ¬ (if false = true then (1 : Int) else 0) = 1 by decide), if_neg (fun z => absurd z.2 (by decide))]
        · rw [if_neg q, if_pos rfl, if_neg (fun z => q z.1)]
      rw [e86]
      by_cases s4 : stF (K i) = 4 ∧ cm o = true
      · rw [if_pos s4, if_pos (Or.inr s4)]
        exact ⟨fun r e => by cases e; exact ⟨rfl, (by show ¬ (1 : Int) = 0; decide), rfl⟩, fun t e => by cases e⟩
      · rw [if_neg s4, if_neg (show ¬ (stF (K i) = 0 ∨ (stF (K i) = 4 ∧ cm o = true)) from fun q => by rcases q with q | q; exact s0 q; exact s4 q)]
        unfold t_Formula_readSign_L86
        rw [h16]
        by_cases c64 : c = 64
        · rw [if_pos c64, if_neg (by omega)]
          exact ⟨fun r e => by cases e; exact ⟨rfl, (by show ¬ (2 : Int) = 0; decide), rfl⟩, fun t e => by cases e⟩
        · rw [if_neg c64, if_pos (show c < 64 by omega), w32_id (x := c + 1) (by unfold InR; omega)]
          refine ⟨fun r e => (by cases e), fun t e => ?_⟩
          cases e
          simp (config := { proj := false }) only [qlet]
          have f0 : Fr (fun k j => k = k3 ∧ j = 16) M (setI M k3 16 (c + 1)) := Fr.rf.setI ⟨rfl, rfl⟩
          obtain ⟨N, n1, n2, n3, n4, n5⟩ := c_rel (M := setI M k3 16 (c + 1)) (s := stF (K i)) (by omega) oW (hO.fr f0 (fun k j z y => by omega)) (by rw [(f0 k0 6 (by omega)).1]; exact h6) (WsM.fr f0 hS (fun j hj z => by omega)) (by omega) (by omega)
          obtain ⟨r1, r2, r3, r4⟩ := rl_facts (s := stF (K i)) (by omega) ws out oW
          have ln := rl_len (s := stF (K i)) ws out
          have n16 : N.1 k3 16 = c + 1 := ((n2 k3 16 (by unfold RlW; omega)).1).trans (sI_self _ _ _ _)
          have fN : Fr (fun k j => (k = k3 ∧ j = 16) ∨ (k = k0 ∧ (j = 3 ∨ j = 6)) ∨ k = k0 + 1 ∨ k = k0 + 2) M N := (f0.mono (fun k j z => Or.inl z)).trans (n2.mono (fun k j z => Or.inr z))
          rw [n1, obind_some, c_await n4 (by omega) (by omega)]
          have bd : bdF (K i) = stF (K i) := by
            unfold bdF
            rw [if_neg (fun q => s0 (by rw [q]; rfl))]
          have n41 : ¬ K i = 41 := fun q => s0 (by rw [q]; rfl)
          -- the two last settings
          have key : ∀ (m1 : Int) (b1 : Bool) (cm' : Int → Bool) (O : Mem), b01 b1 = m1 → Fr (fun k j => k = k0 ∧ j = 9) (setI (setI (setI (setI N (k0 + 4) ((rlF (stF (K i)) out ws).2.length : Int) (K i)) k0 6 (((rlF (stF (K i)) out ws).2.length : Int) + 1)) k0 10 1) k0 11 m1) O → (∀ x, 0 ≤ x → x ≤ 8 → tbI (O.1 k0 9) x = cm' x) → Fr (FmW k0 k3) M O ∧ FMt O k0 k3 i (i + 1, c + 1, (rlF (stF (K i)) out ws).1, K i :: (rlF (stF (K i)) out ws).2, o, cm', true, b1) := by
            intro m1 b1 cm' O hm hF hc
            have fP : Fr (fun k j => (k = k0 ∧ (j = 6 ∨ 9 ≤ j ∧ j ≤ 11)) ∨ (k = k0 + 4 ∧ ((rlF (stF (K i)) out ws).2.length : Int) ≤ j)) N O := ((((Fr.rf.setI (by omega)).setI (by omega)).setI (by omega)).setI (by omega)).trans (hF.mono (fun k j z => by omega))
            have fW : Fr (fun k j => (k = k3 ∧ j = 16) ∨ (k = k0 ∧ (j = 3 ∨ j = 6 ∨ 9 ≤ j ∧ j ≤ 11)) ∨ k = k0 + 1 ∨ k = k0 + 2 ∨ k = k0 + 4) M O := (fN.mono (fun k j z => by omega)).trans (fP.mono (fun k j z => by omega))
            refine ⟨fW.mono (fun k j z => by unfold FmW; omega), ⟨⟨?_, ?_, ?_, ?_, ?_, ?_⟩, n3.fr fP (fun k j z y => by omega), ⟨?_, WsM.fr fP n5 (fun j hj z => by omega)⟩, hc⟩, ?_⟩
            · rw [(fW k0 7 (by omega)).1]; exact h7
            · rw [(fP k3 16 (by omega)).1]; exact n16
            · rw [(fW k0 8 (by omega)).1]; exact h8
            · rw [(hF k0 10 (by omega)).1, sI_ne (by omega), sI_self]; rfl
            · rw [(hF k0 11 (by omega)).1, sI_self]; exact hm.symm
            · rw [(hF k0 6 (by omega)).1, sI_ne (by omega), sI_ne (by omega), sI_self]
              show ((rlF (stF (K i)) out ws).2.length : Int) + 1 = (((rlF (stF (K i)) out ws).2.length + 1 : Nat) : Int)
              omega
            · rw [(hF (k0 + 4) _ (by omega)).1, sI_ne (by omega), sI_ne (by omega), sI_ne (by omega), sI_self]
            · refine ⟨by show 0 ≤ c + 1; omega, by show c + 1 ≤ 64; omega, o0, o1, ?_, ?_, Or.inr (by omega), r1⟩
              · show nP (K i :: (rlF (stF (K i)) out ws).2) = o
                rw [nP, if_neg n41]; omega
              · show ((rlF (stF (K i)) out ws).1.length : Int) + nO (K i :: (rlF (stF (K i)) out ws).2) ≤ c + 1
                rw [nO, if_neg n41]; omega
          have q9 : ∀ m1, (setI (setI (setI (setI N (k0 + 4) ((rlF (stF (K i)) out ws).2.length : Int) (K i)) k0 6 (((rlF (stF (K i)) out ws).2.length : Int) + 1)) k0 10 1) k0 11 m1).1 k0 9 = M.1 k0 9 := fun m1 => by rw [sI_ne (by omega), sI_ne (by omega), sI_ne (by omega), sI_ne (by omega), (fN k0 9 (by omega)).1]
          have q8 : ∀ m1, (setI (setI (setI (setI N (k0 + 4) ((rlF (stF (K i)) out ws).2.length : Int) (K i)) k0 6 (((rlF (stF (K i)) out ws).2.length : Int) + 1)) k0 10 1) k0 11 m1).1 k0 8 = o := fun m1 => by rw [sI_ne (by omega), sI_ne (by omega), sI_ne (by omega), sI_ne (by omega), (fN k0 8 (by omega)).1]; exact h8
          have q11 : ∀ m1, (setI (setI (setI (setI N (k0 + 4) ((rlF (stF (K i)) out ws).2.length : Int) (K i)) k0 6 (((rlF (stF (K i)) out ws).2.length : Int) + 1)) k0 10 1) k0 11 m1).1 k0 11 = m1 := fun m1 => sI_self _ _ _ _
          unfold t_Formula_readSign_L133
          simp (config := { proj := false }) only [qlet]
          by_cases s4' : stF (K i) = 4
          · rw [if_pos (show 4 ≤ stF (K i) by omega), if_pos s4', if_pos s4', decide_eq_false (show ¬ stF (K i) < 4 by omega), if_neg (show ¬ (1 : Int) = 0 by decide), q9, q8]
            obtain ⟨u1, u2⟩ := key 0 false (cz cm o true) _ rfl (Fr.rf.setI ⟨rfl, rfl⟩) (fun x x0 x1 => by rw [sI_self]; exact cz_set hB o0 o1 x x0 x1)
            exact ⟨_, rfl, u1, u2⟩
          · rw [if_neg s4', if_neg s4']
            by_cases s3 : 4 ≤ stF (K i)
            · rw [if_pos s3, if_pos rfl, decide_eq_false (show ¬ stF (K i) < 4 by omega), if_neg (show ¬ stF (K i) < 4 by omega), q11, if_pos rfl]
              obtain ⟨u1, u2⟩ := key 0 false cm _ rfl Fr.rf (fun x x0 x1 => by rw [q9]; exact hB x x0 x1)
              exact ⟨_, rfl, u1, u2⟩
            · rw [if_neg s3, if_pos rfl, decide_eq_true (show stF (K i) < 4 by omega), if_pos (show stF (K i) < 4 by omega), q11, if_neg (show ¬ (1 : Int) = 0 by decide), q9, q8]
              obtain ⟨u1, u2⟩ := key 1 true (cz cm o false) _ rfl (Fr.rf.setI ⟨rfl, rfl⟩) (fun x x0 x1 => by rw [sI_self]; exact cz_clr hB o0 o1 x x0 x1)
              exact ⟨_, rfl, u1, u2⟩
end FSG
theorem c_fread_loop {B : Int → Int} {n : Int} {k0 k3 : Nat} {x2 : Int} (hk : k3 + 10 ≤ k0 ∧ k0 + 4 < 42) : ∀ (f fu : Nat) (M : Mem) (v : Int) (s : FSt) (r : ER), rnF (tK B n) (tW B n) f s = some r → f < fu → 0 ≤ v → v + (f : Int) ≤ 701 → TBl M B n → Lv B n s.1 → FMt M k0 k3 s.1 s →
    ∃ N, t_Formula_read_L33 k0 x2 k3 fu M v = some (N, r.1) ∧ Fr (FmW k0 k3) M N ∧ N.1 k0 7 = (r.2.1 : Int) ∧ Lv B n r.2.1 ∧ (r.1 = 0 → OutM N k0 r.2.2.2 ∧ N.1 k3 16 = r.2.2.1 ∧ N.1 k0 4 = 1) := by
  intro f
  induction f with
  | zero => intro fu M v s r h; rw [rnF] at h; cases h
  | succ f ih =>
    intro fu M v s r h g1 g2 g3 hT hL hM
    obtain ⟨g, rfl⟩ : ∃ g, fu = g + 1 := ⟨fu - 1, by omega⟩
    obtain ⟨i, c, out, ws, o, cm, wp, mn⟩ := s
    have hi : (i : Int) ≤ n := hL.le hT.1
    have hn := hT.1
    obtain ⟨tk1, tk2, tk3⟩ := hT.2 i hL
    obtain ⟨hs, hb⟩ := hM
    change FMs M k0 k3 i c out ws o cm wp mn at hs
    change FBd c out ws o at hb
    have h7 : M.1 k0 7 = (i : Int) := hs.1.1
    have h8 : M.1 k0 8 = o := hs.1.2.2.1
    have h10 : M.1 k0 10 = b01 wp := hs.1.2.2.2.1
    have on := nOP ws
    have lk : t_WF_look M 43 701 (M.1 k0 7) = tK B n i := by rw [h7, look_in (by omega) (by omega)]; exact tk1
    have lk2 : tK B n i ≠ 33 → t_WF_look M 44 701 (M.1 k0 7) = tW B n i := fun q => by rw [h7, look_in (by omega) (by omega)]; exact tk3 q
    rw [rnF_s] at h
    rw [t_Formula_read_L33, if_neg (by omega), lk]
    simp only [qlet]
    -- going on
    have on1 : ∀ (t : FSt) (N : Mem), sF (tK B n) (tW B n) i c out ws o cm wp mn = Sum.inr t → Fr (FmW k0 k3) M N → FMt N k0 k3 i t → rnF (tK B n) (tW B n) f t = some r →
        ∃ N', t_Formula_read_L122 k0 x2 k3 (fun a0_ a1_ => t_Formula_read_L33 k0 x2 k3 g a0_ a1_) N v 0 = some (N', r.1) ∧ Fr (FmW k0 k3) M N' ∧ N'.1 k0 7 = (r.2.1 : Int) ∧ Lv B n r.2.1 ∧ (r.1 = 0 → OutM N' k0 r.2.2.2 ∧ N'.1 k3 16 = r.2.2.1 ∧ N'.1 k0 4 = 1) := by
      intro t N e hF hN hr
      obtain ⟨e1, e2⟩ := sF_next e
      unfold t_Formula_read_L122
      rw [if_pos rfl]
      simp (config := { proj := false }) only [qlet]
      have n7 : N.1 k0 7 = (i : Int) := hN.1.1.1
      rw [n7, w32_id (x := (i : Int) + 1) (by unfold InR; omega), w32_id (x := v + 1) (by unfold InR; omega)]
      have f1 : Fr (fun k j => k = k0 ∧ j = 7) N (setI N k0 7 ((i : Int) + 1)) := Fr.rf.setI ⟨rfl, rfl⟩
      have f2 : Fr (FmW k0 k3) M (setI N k0 7 ((i : Int) + 1)) := hF.setI (by unfold FmW; omega)
      have hN2 : FMt (setI N k0 7 ((i : Int) + 1)) k0 k3 t.1 t := by
        obtain ⟨⟨⟨a7, a16, a8, a10, a11, a6⟩, aO, aS, aB⟩, ab⟩ := hN
        refine ⟨⟨⟨?_, ?_, ?_, ?_, ?_, ?_⟩, aO.fr f1 (fun k j z y => by omega), WsM.fr f1 aS (fun j hj z => by omega), fun x x0 x1 => ?_⟩, ab⟩
        · rw [sI_self, e1]; rfl
        · rw [(f1 k3 16 (by omega)).1]; exact a16
        · rw [(f1 k0 8 (by omega)).1]; exact a8
        · rw [(f1 k0 10 (by omega)).1]; exact a10
        · rw [(f1 k0 11 (by omega)).1]; exact a11
        · rw [(f1 k0 6 (by omega)).1]; exact a6
        · rw [(f1 k0 9 (by omega)).1]; exact aB x x0 x1
      obtain ⟨P, p1, p2, p3, p4, p5⟩ := ih g (setI N k0 7 ((i : Int) + 1)) (v + 1) t r hr (by omega) (by omega) (by omega) (hT.fr f2 (fun k j x y z => by unfold FmW at z; omega)) (by rw [e1]; exact hL.succ e2) hN2
      exact ⟨P, p1, f2.trans p2, p3, p4, p5⟩
    cases wp with
    | true =>
      have l87 : t_Formula_read_L87 k0 x2 k3 (fun a0_ a1_ => t_Formula_read_L33 k0 x2 k3 g a0_ a1_) M v (tK B n i) = qlet (t_Formula_readPart M k0 (tK B n i) (t_WF_look M 44 701 (M.1 k0 7)) k3) fun q26 => t_Formula_read_L122 k0 x2 k3 (fun a0_ a1_ => t_Formula_read_L33 k0 x2 k3 g a0_ a1_) q26.1 v q26.2 := by
        unfold t_Formula_read_L87
        rw [if_neg (show ¬ M.1 k0 10 = 0 by rw [h10]; decide)]
      have eT : (if tK B n i = 40 then (if M.1 k0 10 = 0 then (if M.1 k0 8 = 0 then obind (t_Formula_release M k0 1) fun q16 => some (setI q16 k0 4 1, (0 : Int)) else t_Formula_read_L87 k0 x2 k3 (fun a0_ a1_ => t_Formula_read_L33 k0 x2 k3 g a0_ a1_) M v (tK B n i)) else t_Formula_read_L87 k0 x2 k3 (fun a0_ a1_ => t_Formula_read_L33 k0 x2 k3 g a0_ a1_) M v (tK B n i)) else t_Formula_read_L87 k0 x2 k3 (fun a0_ a1_ => t_Formula_read_L33 k0 x2 k3 g a0_ a1_) M v (tK B n i)) = t_Formula_read_L87 k0 x2 k3 (fun a0_ a1_ => t_Formula_read_L33 k0 x2 k3 g a0_ a1_) M v (tK B n i) := by
        by_cases q : tK B n i = 40
        · rw [if_pos q, if_neg (show ¬ M.1 k0 10 = 0 by rw [h10]; decide)]
        · rw [if_neg q]
      refine cast (congrArg (fun z => ∃ N, z = some (N, r.1) ∧ Fr (FmW k0 k3) M N ∧ N.1 k0 7 = (r.2.1 : Int) ∧ Lv B n r.2.1 ∧ (r.1 = 0 → OutM N k0 r.2.2.2 ∧ N.1 k3 16 = r.2.2.1 ∧ N.1 k0 4 = 1)) eT).symm ?_
      rw [l87]
      obtain ⟨s1, s2⟩ := c_readPart hk hs hb lk2
      cases e : sF (tK B n) (tW B n) i c out ws o cm true mn with
      | inl r1 =>
        rw [e] at h
        have e2 := Option.some.inj h
        subst e2
        obtain ⟨a1, a2, a3⟩ := s1 r1 e
        rw [a1]
        refine ⟨M, ?_, Fr.rf, by rw [a3]; exact h7, by rw [a3]; exact hL, fun q => absurd q a2⟩
        show t_Formula_read_L122 k0 x2 k3 _ M v r1.1 = _
        unfold t_Formula_read_L122
        rw [if_neg a2]
      | inr t =>
        rw [e] at h
        obtain ⟨N, a1, a2, a3⟩ := s2 t e
        rw [a1]
        exact on1 t N e a2 a3 h
    | false =>
      have l87 : t_Formula_read_L87 k0 x2 k3 (fun a0_ a1_ => t_Formula_read_L33 k0 x2 k3 g a0_ a1_) M v (tK B n i) = obind (t_Formula_readSign M k0 (tK B n i) k3) fun q21 => t_Formula_read_L122 k0 x2 k3 (fun a0_ a1_ => t_Formula_read_L33 k0 x2 k3 g a0_ a1_) q21.1 v q21.2 := by
        unfold t_Formula_read_L87
        rw [if_pos (show M.1 k0 10 = 0 by rw [h10]; rfl)]
      by_cases k40 : tK B n i = 40 ∧ o = 0
      · rw [if_pos k40.1, if_pos (show M.1 k0 10 = 0 by rw [h10]; rfl), if_pos (show M.1 k0 8 = 0 by rw [h8]; exact k40.2)]
        rw [sF_s, if_pos k40] at h
        have e2 := Option.some.inj h
        subst e2
        obtain ⟨c0, c1, o0, o1, oP, oL, oW⟩ := hb
        obtain ⟨N, n1, n2, n3, n4, n5⟩ := c_rel (s := 1) (Int.le_refl _) oW hs.2.1 hs.1.2.2.2.2.2 hs.2.2.1 (by omega) (by omega)
        rw [n1, obind_some]
        have f1 : Fr (fun k j => k = k0 ∧ j = 4) N (setI N k0 4 1) := Fr.rf.setI ⟨rfl, rfl⟩
        refine ⟨setI N k0 4 1, rfl, (n2.mono (fun k j z => by unfold RlW at z; unfold FmW; omega)).setI (by unfold FmW; omega), ?_, hL, fun _ => ⟨n3.fr f1 (fun k j z y => by omega), ?_, sI_self _ _ _ _⟩⟩
        · rw [(f1 k0 7 (by omega)).1, (n2 k0 7 (by unfold RlW; omega)).1]; exact h7
        · rw [(f1 k3 16 (by omega)).1, (n2 k3 16 (by unfold RlW; omega)).1]; exact hs.1.2.1
      · have eT : (if tK B n i = 40 then (if M.1 k0 10 = 0 then (if M.1 k0 8 = 0 then obind (t_Formula_release M k0 1) fun q16 => some (setI q16 k0 4 1, (0 : Int)) else t_Formula_read_L87 k0 x2 k3 (fun a0_ a1_ => t_Formula_read_L33 k0 x2 k3 g a0_ a1_) M v (tK B n i)) else t_Formula_read_L87 k0 x2 k3 (fun a0_ a1_ => t_Formula_read_L33 k0 x2 k3 g a0_ a1_) M v (tK B n i)) else t_Formula_read_L87 k0 x2 k3 (fun a0_ a1_ => t_Formula_read_L33 k0 x2 k3 g a0_ a1_) M v (tK B n i)) = t_Formula_read_L87 k0 x2 k3 (fun a0_ a1_ => t_Formula_read_L33 k0 x2 k3 g a0_ a1_) M v (tK B n i) := by
          by_cases q : tK B n i = 40
          · rw [if_pos q, if_pos (show M.1 k0 10 = 0 by rw [h10]; rfl), if_neg (show ¬ M.1 k0 8 = 0 by rw [h8]; exact fun y => k40 ⟨q, y⟩)]
          · rw [if_neg q]
        refine cast (congrArg (fun z => ∃ N, z = some (N, r.1) ∧ Fr (FmW k0 k3) M N ∧ N.1 k0 7 = (r.2.1 : Int) ∧ Lv B n r.2.1 ∧ (r.1 = 0 → OutM N k0 r.2.2.2 ∧ N.1 k3 16 = r.2.2.1 ∧ N.1 k0 4 = 1)) eT).symm ?_
        rw [l87]
        obtain ⟨s1, s2⟩ := c_readSign (W := tW B n) hk hs hb k40
        cases e : sF (tK B n) (tW B n) i c out ws o cm false mn with
        | inl r1 =>
          rw [e] at h
          have e2 := Option.some.inj h
          subst e2
          obtain ⟨a1, a2, a3⟩ := s1 r1 e
          rw [a1, obind_some]
          refine ⟨M, ?_, Fr.rf, by rw [a3]; exact h7, by rw [a3]; exact hL, fun q => absurd q a2⟩
          show t_Formula_read_L122 k0 x2 k3 _ M v r1.1 = _
          unfold t_Formula_read_L122
          rw [if_neg a2]
        | inr t =>
          rw [e] at h
          obtain ⟨N, a1, a2, a3⟩ := s2 t e
          rw [a1, obind_some]
          exact on1 t N e a2 a3 h
/-- words have no value -/
theorem tW_word {B : Int → Int} {n : Int} {i : Nat} (h : tK B n i ≤ 24 ∨ 32 ≤ tK B n i) : tW B n i = 0 := by
  unfold tK at h
  unfold tW
  revert h
  unfold tkS
  (repeat' split) <;> intro h
  all_goals first | rfl | (exfalso; revert h; show ¬ ((30 : Int) ≤ 24 ∨ (32 : Int) ≤ 30); decide) | (exfalso; revert h; show ¬ ((31 : Int) ≤ 24 ∨ (32 : Int) ≤ 31); decide)
/-- a formula read by the class -/
theorem c_fread {B : Int → Int} {n : Int} {k0 k3 i : Nat} {c : Int} {M : Mem} (hk : k3 + 10 ≤ k0 ∧ k0 + 4 < 42) (hT : TBl M B n) (hL : Lv B n i) (h3 : M.1 k0 3 = 0) (h16 : M.1 k3 16 = c) (c0 : 0 ≤ c) (c1 : c ≤ 64) :
    ∃ N f j, t_Formula_read M k0 (i : Int) k3 = some (N, f) ∧ Fr (FmW k0 k3) M N ∧ N.1 k0 7 = ((j : Nat) : Int) ∧ Lv B n j ∧ j = (frS B n i c).2.1 ∧
      f = (if (frS B n i c).1 = 0 then (if tK B n j = 40 then 0 else 1) else (frS B n i c).1) ∧
      (f = 0 → OutM N k0 (frS B n i c).2.2.2 ∧ N.1 k3 16 = (frS B n i c).2.2.1 ∧ N.1 k0 4 = 1) := by
  have hn := hT.1
  obtain ⟨r, r1, -⟩ := exG_facts (K := tK B n) (W := tW B n) (T := 700) (fun x hx => tK_end hn.1 hn.2 (by omega)) (by omega) 200 0 0 i c (by omega) (by omega) (by omega) c0 c1 (by unfold nd; omega)
  have er : frS B n i c = r := by unfold frS; rw [r1]; rfl
  rw [er]
  obtain ⟨T, hT1, hT2⟩ : ∃ T : Nat, tK B n T = 32 ∧ (T : Int) ≤ 700 := ⟨n.toNat, tK_end hn.1 hn.2 (by omega), by omega⟩
  have hiT : i ≤ n.toNat := by have := hL.le hn; omega
  have m := mach (K := tK B n) (W := tW B n) (fun x a b => tW_word (Or.inl b)) r1 (fun _ => false) rfl
  obtain ⟨q, hq, hqr⟩ : ∃ q : ER, RnF (tK B n) (tW B n) (i, c, [], [], 0, (fun _ => false), true, true) q ∧ q.2.1 = r.2.1 ∧ q.1 = (if r.1 = 0 then (if tK B n r.2.1 = 40 then 0 else 1) else r.1) ∧ (q.1 = 0 → q = r) := by
    by_cases z : r.1 = 0
    · by_cases k : tK B n r.2.1 = 40
      · refine ⟨_, m.2.1 z k, rfl, by rw [if_pos z, if_pos k], fun _ => ?_⟩
        rw [← z]
      · refine ⟨_, m.2.2 z k, rfl, by rw [if_pos z, if_neg k], fun y => absurd y (show ¬ (1 : Int) = 0 by decide)⟩
    · exact ⟨_, m.1 z, rfl, by rw [if_neg z], fun y => absurd y z⟩
  obtain ⟨f0, hf0⟩ := hq
  have hf := rnF_fuel (T := n.toNat) (tK_end hn.1 hn.2 (by omega)) f0 701 _ q (show i ≤ n.toNat from hiT) (show n.toNat + 1 ≤ 701 + i by omega) hf0
  unfold t_Formula_read
  simp (config := { proj := false }) only [qlet]
  have f1 : Fr (fun k j => k = k0 ∧ 6 ≤ j ∧ j ≤ 11) M (setI (setI (setI (setI (setI (setI M k0 7 (i : Int)) k0 6 0) k0 8 0) k0 9 0) k0 10 1) k0 11 1) := (((((Fr.rf.setI (by omega)).setI (by omega)).setI (by omega)).setI (by omega)).setI (by omega)).setI (by omega)
  have e7 : (setI (setI (setI (setI (setI (setI M k0 7 (i : Int)) k0 6 0) k0 8 0) k0 9 0) k0 10 1) k0 11 1).1 k0 7 = (i : Int) := by rw [sI_ne (by omega), sI_ne (by omega), sI_ne (by omega), sI_ne (by omega), sI_ne (by omega), sI_self]
  have e6 : (setI (setI (setI (setI (setI (setI M k0 7 (i : Int)) k0 6 0) k0 8 0) k0 9 0) k0 10 1) k0 11 1).1 k0 6 = 0 := by rw [sI_ne (by omega), sI_ne (by omega), sI_ne (by omega), sI_ne (by omega), sI_self]
  have e8 : (setI (setI (setI (setI (setI (setI M k0 7 (i : Int)) k0 6 0) k0 8 0) k0 9 0) k0 10 1) k0 11 1).1 k0 8 = 0 := by rw [sI_ne (by omega), sI_ne (by omega), sI_ne (by omega), sI_self]
  have e9 : (setI (setI (setI (setI (setI (setI M k0 7 (i : Int)) k0 6 0) k0 8 0) k0 9 0) k0 10 1) k0 11 1).1 k0 9 = 0 := by rw [sI_ne (by omega), sI_ne (by omega), sI_self]
  have e10 : (setI (setI (setI (setI (setI (setI M k0 7 (i : Int)) k0 6 0) k0 8 0) k0 9 0) k0 10 1) k0 11 1).1 k0 10 = 1 := by rw [sI_ne (by omega), sI_self]
  have e11 : (setI (setI (setI (setI (setI (setI M k0 7 (i : Int)) k0 6 0) k0 8 0) k0 9 0) k0 10 1) k0 11 1).1 k0 11 = 1 := sI_self _ _ _ _
  generalize setI (setI (setI (setI (setI (setI M k0 7 (i : Int)) k0 6 0) k0 8 0) k0 9 0) k0 10 1) k0 11 1 = M1 at *
  obtain ⟨N, n1, n2, n3, n4, n5⟩ := c_fread_loop (x2 := (i : Int)) hk 701 FU M1 0 _ q hf (fu_big (by omega)) (by omega) (by omega) (hT.fr f1 (fun k j x y z => by omega)) hL ⟨⟨⟨e7, ((f1 k3 16 (by omega)).1).trans h16, e8, e10, e11, e6⟩, ⟨((f1 k0 3 (by omega)).1).trans h3, fun j hj => absurd hj (by show ¬ j < 0; omega)⟩, trivial, fun x x0 x1 => by show tbI (M1.1 k0 9) x = false; rw [e9]; exact tbI_zero x⟩, c0, c1, by show (0 : Int) ≤ 0; omega, by show (0 : Int) ≤ 8; omega, rfl, by show ((0 : Nat) : Int) + 0 ≤ c; omega, trivial⟩
  refine ⟨N, q.1, q.2.1, n1, (f1.mono (fun k j z => by unfold FmW; omega)).trans n2, n3, n4, hqr.1, by rw [hqr.1]; exact hqr.2.1, fun y => ?_⟩
  have := n5 y
  rw [hqr.2.2 y] at this
  exact this
end
section
/-! ===== the class's reader: steps ===== -/
def RgW : Nat → Int → Prop := fun k j => k = 46 ∧ 1 ≤ j ∧ j ≤ 5
def RfW : Nat → Int → Prop := fun k j => k = 46 ∧ ((1 ≤ j ∧ j ≤ 5) ∨ j = 9 ∨ j = 10)
def RD (M : Mem) (B : Int → Int) (n : Int) (i : Nat) : Prop := TBl M B n ∧ Lv B n i ∧ M.1 46 0 = 42 ∧ M.1 46 1 = (i : Int) ∧ M.1 46 2 = tK B n i ∧ (tK B n i ≠ 33 → M.1 46 3 = tW B n i) ∧ M.1 46 4 = tP B n i
def FT (N : Mem) (f p : Int) : Prop := N.1 46 9 = f ∧ N.1 46 10 = p
theorem RD.fr {W : Nat → Int → Prop} {M N : Mem} {B : Int → Int} {n : Int} {i : Nat} (h : RD M B n i) (hF : Fr W M N) (hd : ∀ k j, ((43 ≤ k ∧ k ≤ 45) ∨ (k = 46 ∧ 0 ≤ j ∧ j ≤ 4)) → ¬ W k j) : RD N B n i := by
  obtain ⟨h1, h2, h3, h4, h5, h6, h7⟩ := h
  have e : ∀ j, 0 ≤ j → j ≤ 4 → N.1 46 j = M.1 46 j := fun j a b => (hF 46 j (hd _ _ (Or.inr ⟨rfl, a, b⟩))).1
  refine ⟨h1.fr hF (fun k j a b => hd _ _ (Or.inl ⟨a, b⟩)), h2, ?_, ?_, ?_, fun q => ?_, ?_⟩
  · rw [e 0 (by omega) (by omega)]; exact h3
  · rw [e 1 (by omega) (by omega)]; exact h4
  · rw [e 2 (by omega) (by omega)]; exact h5
  · rw [e 3 (by omega) (by omega)]; exact h6 q
  · rw [e 4 (by omega) (by omega)]; exact h7
section RDR
variable {B : Int → Int} {n : Int} {M : Mem} {i : Nat}
theorem c_goTo (hT : TBl M B n) (hL : Lv B n i) (h0 : M.1 46 0 = 42) : ∃ N, t_Reader_goTo M (i : Int) = some N ∧ Fr RgW M N ∧ RD N B n i ∧ N.1 46 5 = M.1 46 4 := by
  have hn := hT.1
  have hi := hL.le hn
  obtain ⟨k1, k2, k3⟩ := hT.2 i hL
  unfold t_Reader_goTo
  simp (config := { proj := false }) only [qlet]
  have f3 : Fr RgW M (setI (setI M 46 5 (M.1 46 4)) 46 1 (i : Int)) := (Fr.rf.setI (by unfold RgW; omega)).setI (by unfold RgW; omega)
  have a5 : (setI (setI M 46 5 (M.1 46 4)) 46 1 (i : Int)).1 46 5 = M.1 46 4 := (sI_ne (by omega)).trans (sI_self _ _ _ _)
  have a1 : (setI (setI M 46 5 (M.1 46 4)) 46 1 (i : Int)).1 46 1 = (i : Int) := sI_self _ _ _ _
  generalize setI (setI M 46 5 (M.1 46 4)) 46 1 (i : Int) = M3 at *
  have a0 : M3.1 46 0 = 42 := ((f3 46 0 (by unfold RgW; omega)).1).trans h0
  have b3 : M3.1 43 (i : Int) = tK B n i := ((f3 43 _ (by unfold RgW; omega)).1).trans k1
  have b4 : tK B n i ≠ 33 → M3.1 44 (i : Int) = tW B n i := fun q => ((f3 44 _ (by unfold RgW; omega)).1).trans (k3 q)
  have b5 : M3.1 45 (i : Int) = tP B n i := ((f3 45 _ (by unfold RgW; omega)).1).trans k2
  rw [if_neg (by omega), if_neg (by omega), look_in (by omega) (by omega), b3]
  unfold t_Reader_goTo_L37
  simp (config := { proj := false }) only [qlet]
  have f4 : Fr RgW M (setI M3 46 2 (tK B n i)) := f3.setI (by unfold RgW; omega)
  have c5 : (setI M3 46 2 (tK B n i)).1 46 5 = M.1 46 4 := (sI_ne (by omega)).trans a5
  have c1 : (setI M3 46 2 (tK B n i)).1 46 1 = (i : Int) := (sI_ne (by omega)).trans a1
  have c0 : (setI M3 46 2 (tK B n i)).1 46 0 = 42 := (sI_ne (by omega)).trans a0
  have c2 : (setI M3 46 2 (tK B n i)).1 46 2 = tK B n i := sI_self _ _ _ _
  have d4 : tK B n i ≠ 33 → (setI M3 46 2 (tK B n i)).1 44 (i : Int) = tW B n i := fun q => (sI_ne (by omega)).trans (b4 q)
  have d5 : (setI M3 46 2 (tK B n i)).1 45 (i : Int) = tP B n i := (sI_ne (by omega)).trans b5
  generalize setI M3 46 2 (tK B n i) = M4 at *
  rw [if_neg (by omega), if_neg (by omega), look_in (by omega) (by omega)]
  unfold t_Reader_goTo_L63
  simp (config := { proj := false }) only [qlet]
  have f5 : Fr RgW M (setI M4 46 3 (M4.1 44 (i : Int))) := f4.setI (by unfold RgW; omega)
  have e5 : (setI M4 46 3 (M4.1 44 (i : Int))).1 46 5 = M.1 46 4 := (sI_ne (by omega)).trans c5
  have e1 : (setI M4 46 3 (M4.1 44 (i : Int))).1 46 1 = (i : Int) := (sI_ne (by omega)).trans c1
  have e0 : (setI M4 46 3 (M4.1 44 (i : Int))).1 46 0 = 42 := (sI_ne (by omega)).trans c0
  have e2 : (setI M4 46 3 (M4.1 44 (i : Int))).1 46 2 = tK B n i := (sI_ne (by omega)).trans c2
  have e3 : tK B n i ≠ 33 → (setI M4 46 3 (M4.1 44 (i : Int))).1 46 3 = tW B n i := fun q => (sI_self _ _ _ _).trans (d4 q)
  have g5 : (setI M4 46 3 (M4.1 44 (i : Int))).1 45 (i : Int) = tP B n i := (sI_ne (by omega)).trans d5
  generalize setI M4 46 3 (M4.1 44 (i : Int)) = M5 at *
  rw [if_neg (by omega), if_neg (by omega), look_in (by omega) (by omega), g5]
  unfold t_Reader_goTo_L89
  simp (config := { proj := false }) only [qlet]
  have f6 : Fr RgW M (setI M5 46 4 (tP B n i)) := f5.setI (by unfold RgW; omega)
  refine ⟨_, rfl, f6, ⟨hT.fr f6 (fun k j x y z => by unfold RgW at z; omega), hL, ?_, ?_, ?_, fun q => ?_, sI_self _ _ _ _⟩, ?_⟩
  · rw [sI_ne (by omega)]; exact e0
  · rw [sI_ne (by omega)]; exact e1
  · rw [sI_ne (by omega)]; exact e2
  · rw [sI_ne (by omega)]; exact e3 q
  · rw [sI_ne (by omega)]; exact e5
/-- on to the next token -/
theorem c_next1 (h : RD M B n i) (k : tK B n i ≠ 32) : ∃ N, t_Reader_goTo M (w32 (M.1 46 1 + 1)) = some N ∧ Fr RgW M N ∧ RD N B n (i + 1) ∧ N.1 46 5 = tP B n i := by
  obtain ⟨h1, h2, h3, h4, h5, h6, h7⟩ := h
  have hi := h2.le h1.1
  have hn := h1.1
  rw [h4, w32_id (by unfold InR; omega)]
  obtain ⟨N, n1, n2, n3, n4⟩ := c_goTo h1 (h2.succ k) h3
  exact ⟨N, n1, n2, n3, n4.trans h7⟩
theorem rg_rf : ∀ k j, RgW k j → RfW k j := fun k j z => by unfold RgW at z; unfold RfW; omega
theorem c_refuse (a b : Int) : Fr RfW M (t_Reader_refuse M a b).1 ∧ (t_Reader_refuse M a b).2 = 0 ∧ FT (t_Reader_refuse M a b).1 a b :=
  ⟨(Fr.rf.setI (by unfold RfW; omega)).setI (by unfold RfW; omega), rfl, (sI_ne (by omega)).trans (sI_self _ _ _ _), sI_self _ _ _ _⟩
theorem c_take (h : RD M B n i) {due : Int} (hd : due ≠ 32) : ∃ N g, t_Reader_take M due = some (N, g) ∧ Fr RfW M N ∧ ((tK B n i = due ∧ g = 1 ∧ RD N B n (i + 1) ∧ N.1 46 5 = tP B n i) ∨ (tK B n i ≠ due ∧ g = 0 ∧ FT N 1 (tP B n i))) := by
  unfold t_Reader_take
  rw [h.2.2.2.2.1]
  by_cases c : tK B n i = due
  · rw [if_pos c]
    obtain ⟨N, n1, n2, n3, n4⟩ := c_next1 h (by rw [c]; exact hd)
    rw [n1, obind_some]
    exact ⟨N, 1, rfl, n2.mono rg_rf, Or.inl ⟨c, rfl, n3, n4⟩⟩
  · rw [if_neg c, h.2.2.2.2.2.2]
    obtain ⟨a1, a2, a3⟩ := c_refuse (M := M) 1 (tP B n i)
    exact ⟨_, 0, rfl, a1, Or.inr ⟨c, rfl, a3⟩⟩
theorem c_num (h : RD M B n i) (lo hi : Int) : ∃ N r, t_Reader_takeNumber M lo hi = some (N, r) ∧ Fr RfW M N ∧ ((nuS B n i lo hi = 0 ∧ r = tW B n i ∧ lo ≤ r ∧ r ≤ hi ∧ RD N B n (i + 1) ∧ N.1 46 5 = tP B n i) ∨ (nuS B n i lo hi ≠ 0 ∧ r = -1 ∧ FT N (nuS B n i lo hi) (tP B n i))) := by
  unfold t_Reader_takeNumber t_Reader_takeNumber_L24 t_Reader_takeNumber_L36 nuS
  simp only [qlet]
  rw [h.2.2.2.2.1, h.2.2.2.2.2.2]
  by_cases k : tK B n i = 31
  · have hw := h.2.2.2.2.2.1 (by omega)
    rw [if_pos k, if_pos k, hw]
    obtain ⟨a1, a2, a3⟩ := c_refuse (M := M) 2 (tP B n i)
    by_cases l : tW B n i < lo
    · rw [if_pos l, if_pos l]
      exact ⟨_, -1, rfl, a1, Or.inr ⟨by decide, rfl, a3⟩⟩
    · rw [if_neg l, if_neg l]
      by_cases u : tW B n i ≤ hi
      · rw [if_pos u, if_neg (show ¬ hi < tW B n i by omega)]
        obtain ⟨N, g, n1, n2, n3⟩ := c_take h (due := 31) (by decide)
        rw [n1, obind_some]
        rcases n3 with ⟨b1, b2, b3, b4⟩ | ⟨b1, b2, b3⟩
        · subst b2
          rw [if_neg (show ¬ (1 : Int) = 0 by decide)]
          exact ⟨N, _, rfl, n2, Or.inl ⟨rfl, rfl, by omega, u, b3, b4⟩⟩
        · exact absurd k b1
      · rw [if_neg u, if_pos (show hi < tW B n i by omega)]
        exact ⟨_, -1, rfl, a1, Or.inr ⟨by decide, rfl, a3⟩⟩
  · rw [if_neg k, if_neg k]
    obtain ⟨N, g, n1, n2, n3⟩ := c_take h (due := 31) (by decide)
    rw [n1, obind_some]
    rcases n3 with ⟨b1, b2, b3, b4⟩ | ⟨b1, b2, b3⟩
    · exact absurd b1 k
    · subst b2
      rw [if_pos rfl]
      exact ⟨N, -1, rfl, n2, Or.inr ⟨by decide, rfl, b3⟩⟩
/-- a name's number -/
theorem tW_name (hn : 0 ≤ n ∧ n ≤ 700) (k : tK B n i = 30) : 0 ≤ tW B n i := by
  have ha := tA_rng (B := B) hn.1 hn.2 i
  unfold tK at k
  unfold tW
  obtain ⟨g1, g2, g3⟩ := rnE_facts (p := blB) (B := B) ha.1.1 ha.1.2 hn.2
  revert k
  unfold tkS
  generalize rnE blB B n (tkA B n i) = p at *
  by_cases c1 : n ≤ p
  · rw [if_pos c1]; intro k; exact Int.le_refl _
  · rw [if_neg c1]
    by_cases c2 : ltB (B p) = true
    · rw [if_pos c2]
      by_cases c3 : 0 ≤ wordS B p (rnE ltB B n p - p)
      · rw [if_pos c3]; intro k; exact Int.le_refl _
      · rw [if_neg c3]
        by_cases c4 : rnE ltB B n p - p ≤ 6
        · rw [if_pos c4]
          intro k
          obtain ⟨l1, l2, l3⟩ := rnE_facts (p := ltB) (B := B) (n := n) (a := p) (by omega) (by omega) hn.2
          exact (nv_rng l2 6).1
        · rw [if_neg c4]; intro k; exact Int.le_refl _
    · rw [if_neg c2]
      by_cases c3 : dgB (B p) = true
      · rw [if_pos c3]; intro k; exact absurd (show (31 : Int) = 30 from k) (by decide)
      · rw [if_neg c3]; intro k; exact Int.le_refl _
theorem c_name (h : RD M B n i) {V : TV} {rowV r N1 : Nat} {len : Int} (l0 : 0 ≤ len) (l1 : len ≤ (N1 : Int)) (l2 : N1 ≤ 8) (hr : ∀ a, 0 ≤ a → a < len → M.1 r a = V rowV a) (r46 : r < 42) : ∃ N g, t_Reader_takeNewName M r N1 len = some (N, g) ∧ Fr RfW M N ∧ ((nmS B n V rowV len i = 0 ∧ g = tW B n i ∧ 0 ≤ g ∧ RD N B n (i + 1) ∧ N.1 46 5 = tP B n i) ∨ (nmS B n V rowV len i ≠ 0 ∧ g = -1 ∧ FT N (nmS B n V rowV len i) (tP B n i))) := by
  unfold t_Reader_takeNewName nmS
  obtain ⟨N, g, n1, n2, n3⟩ := c_take h (due := 30) (by decide)
  rw [n1, obind_some]
  rcases n3 with ⟨b1, b2, b3, b4⟩ | ⟨b1, b2, b3⟩
  · subst b2
    have hw := h.2.2.2.2.2.1 (by omega)
    have w0 := tW_name (B := B) (i := i) h.1.1 b1
    rw [if_neg (show ¬ (1 : Int) = 0 by decide), hw, if_pos b1]
    have ix := indexOf_eq (M := N) (r := r) (N := N1) (p := fun a => V rowV (a : Int)) (v := tW B n i) (len := len.toNat) (by omega) (by omega) (fun a ha => by rw [(n2 r _ (by unfold RfW; omega)).1]; exact hr _ (by omega) (by omega))
    rw [Int.toNat_of_nonneg l0] at ix
    rw [ix, obind_some]
    cases e : fnd (fun a => V rowV (a : Int)) (tW B n i) len.toNat with
    | none =>
      rw [if_pos (show (-1 : Int) < 0 by decide), if_pos rfl]
      exact ⟨N, _, rfl, n2, Or.inl ⟨rfl, rfl, w0, b3, b4⟩⟩
    | some b =>
      show ∃ N' g', (if ((b : Nat) : Int) < 0 then some (N, tW B n i) else qlet (t_Reader_refuse N 3 (N.1 46 5)) fun q9 => some (q9.1, -1)) = some (N', g') ∧ _
      rw [if_neg (show ¬ ((b : Nat) : Int) < 0 by omega), if_neg (by simp), b4]
      obtain ⟨a1, a2, a3⟩ := c_refuse (M := N) 3 (tP B n i)
      exact ⟨_, -1, rfl, n2.trans a1, Or.inr ⟨by decide, rfl, a3⟩⟩
  · subst b2
    rw [if_pos rfl, if_neg b1]
    exact ⟨N, -1, rfl, n2, Or.inr ⟨by decide, rfl, b3⟩⟩
theorem c_cell (h : RD M B n i) {V : TV} {T : Nat} (hP : VOK V) (e0 : M.1 T 11 = V 0 0) (e1 : M.1 T 12 = V 0 1) (t46 : T < 42) : ∃ N r, t_Reader_takeCell M T = some (N, r) ∧ Fr RfW M N ∧ ((∃ c, c = tW B n (i + 1) * V 0 0 + tW B n i ∧ r = c ∧ 0 ≤ c ∧ c < cellsV V ∧ RD N B n (i + 2) ∧ N.1 46 5 = tP B n (i + 1) ∧ ∀ k, clS B n V i k = k c) ∨ (∃ f p, r = -1 ∧ f ≠ 0 ∧ FT N f p ∧ ∀ k, clS B n V i k = (f, p, 0, V))) := by
  obtain ⟨⟨a1, a2, a3, a4, -⟩, -⟩ := hP
  unfold t_Reader_takeCell
  rw [e0, w32_id (x := V 0 0 - 1) (by unfold InR; omega)]
  obtain ⟨N, r, n1, n2, n3⟩ := c_num h 0 (V 0 0 - 1)
  rw [n1, obind_some]
  rcases n3 with ⟨b1, b2, b3, b4, b5, b6⟩ | ⟨b1, b2, b3⟩
  · rw [if_pos (show 0 ≤ r from b3), (n2 T 12 (by unfold RfW; omega)).1, e1, w32_id (x := V 0 1 - 1) (by unfold InR; omega)]
    obtain ⟨P, s, p1, p2, p3⟩ := c_num b5 0 (V 0 1 - 1)
    rw [p1, obind_some]
    unfold t_Reader_takeCell_L31
    have fP := n2.trans p2
    rcases p3 with ⟨d1, d2, d3, d4, d5, d6⟩ | ⟨d1, d2, d3⟩
    · have hc : 0 ≤ s * V 0 0 ∧ s * V 0 0 + r < cellsV V := by
        have h1 : s * V 0 0 ≤ (V 0 1 - 1) * V 0 0 := Int.mul_le_mul_of_nonneg_right d4 (by omega)
        have h2 : 0 ≤ s * V 0 0 := Int.mul_nonneg d3 (by omega)
        have h3 : (V 0 1 - 1) * V 0 0 = V 0 1 * V 0 0 - V 0 0 := by rw [Int.sub_mul, Int.one_mul]
        unfold cellsV
        rw [Int.mul_comm (V 0 0) (V 0 1)]
        omega
      have hc2 : cellsV V ≤ 48 := by
        unfold cellsV
        have h1 : V 0 0 * V 0 1 ≤ 8 * V 0 1 := Int.mul_le_mul_of_nonneg_right a2 (by omega)
        omega
      rw [if_pos (show 0 ≤ s from d3), (fP T 11 (by unfold RfW; omega)).1, e0, w32_id (x := s * V 0 0) (by unfold InR; omega), w32_id (by unfold InR; omega)]
      refine ⟨P, _, rfl, fP, Or.inl ⟨s * V 0 0 + r, by rw [d2, b2], rfl, by omega, hc.2, d5, d6, fun k => ?_⟩⟩
      unfold clS
      rw [if_neg (fun q => q b1), if_neg (fun q => q d1), d2, b2]
    · rw [if_neg (show ¬ 0 ≤ s by omega)]
      refine ⟨P, _, rfl, fP, Or.inr ⟨_, _, rfl, d1, d3, fun k => ?_⟩⟩
      unfold clS
      rw [if_neg (fun q => q b1), if_pos d1]
  · rw [if_neg (show ¬ 0 ≤ r by omega)]
    unfold t_Reader_takeCell_L31
    rw [if_neg (show ¬ (0 : Int) ≤ -1 by decide)]
    refine ⟨N, _, rfl, n2, Or.inr ⟨_, _, rfl, b1, b3, fun k => ?_⟩⟩
    unfold clS
    rw [if_pos b1]
end RDR
/-! the class's town while it is read -/
def OutR (M : Mem) (k0 : Nat) (K W : Int → Int) (len : Int) : Prop := M.1 k0 3 = len ∧ ∀ j, 0 ≤ j → j < len → M.1 (k0 + 1) j = K j ∧ M.1 (k0 + 2) j = W j
def CFm (M : Mem) (T : Nat) (V : TV) : Prop := (M.1 (T + 10) 4 = V 0 9 ∧ OutR M (T + 10) (V 10) (V 11) (V 0 11)) ∧ (M.1 (T + 15) 4 = V 0 10 ∧ OutR M (T + 15) (V 12) (V 13) (V 0 12))
def CP (M : Mem) (T : Nat) (V : TV) : Prop := CT0 M T V ∧ (M.1 46 6 = V 0 6 ∧ M.1 46 7 = V 0 13 ∧ M.1 46 8 = V 0 14) ∧ ((V 0 13 = 0 ∨ V 0 13 = 1) ∧ (V 0 14 = 0 ∨ V 0 14 = 1)) ∧ (cntT (M.2 T 18) 64 = V 0 7 ∧ cntT (M.2 T 19) 64 = V 0 8) ∧ CFm M T V
def RdW (T : Nat) : Nat → Int → Prop := fun k j => (k = 46 ∧ 1 ≤ j ∧ j ≤ 10) ∨ (T ≤ k ∧ k ≤ T + 19)
def CLn (N : Mem) (T : Nat) (B : Int → Int) (n : Int) (L : LR) (g : Int) : Prop := (L.1 = 0 ∧ g = 1 ∧ RD N B n L.2.2.1 ∧ CP N T L.2.2.2) ∨ (L.1 ≠ 0 ∧ g = 0 ∧ FT N L.1 L.2.1)
theorem rf_rd {T : Nat} : ∀ k j, RfW k j → RdW T k j := fun k j z => by unfold RfW at z; unfold RdW; omega
theorem rg_rd {T : Nat} : ∀ k j, RgW k j → RdW T k j := fun k j z => by unfold RgW at z; unfold RdW; omega
theorem OutR.fr {W : Nat → Int → Prop} {M N : Mem} {k0 : Nat} {K U : Int → Int} {len : Int} (h : OutR M k0 K U len) (hF : Fr W M N) (hd : ∀ k j, ((k = k0 ∧ j = 3) ∨ k = k0 + 1 ∨ k = k0 + 2) → ¬ W k j) : OutR N k0 K U len :=
  ⟨((hF k0 3 (hd _ _ (Or.inl ⟨rfl, rfl⟩))).1).trans h.1, fun j a b => ⟨((hF _ _ (hd (k0 + 1) _ (Or.inr (Or.inl rfl)))).1).trans (h.2 j a b).1, ((hF _ _ (hd (k0 + 2) _ (Or.inr (Or.inr rfl)))).1).trans (h.2 j a b).2⟩⟩
theorem CT0.fr2 {W : Nat → Int → Prop} {M N : Mem} {T : Nat} {V : TV} (h : CT0 M T V) (hF : Fr W M N) (hd : ∀ k j, ((k = T ∧ 11 ≤ j ∧ j ≤ 19) ∨ (T + 1 ≤ k ∧ k ≤ T + 8)) → ¬ W k j) : CT0 N T V := by
  obtain ⟨⟨a1, a2, a3, a4, a5, a6⟩, b, c, d⟩ := h
  have e : ∀ j, 11 ≤ j → j ≤ 19 → N.1 T j = M.1 T j ∧ N.2 T j = M.2 T j := fun j x y => hF T j (hd _ _ (Or.inl ⟨rfl, x, y⟩))
  have r : ∀ k j, T + 1 ≤ k → k ≤ T + 8 → N.1 k j = M.1 k j := fun k j x y => (hF k j (hd _ _ (Or.inr ⟨x, y⟩))).1
  refine ⟨⟨?_, ?_, ?_, ?_, ?_, ?_⟩, fun w x y => ⟨?_, ?_, ?_⟩, fun t x y => ⟨?_, ?_, ?_⟩, fun q x y => ⟨?_, ?_, ?_⟩⟩
  · rw [(e 11 (by omega) (by omega)).1]; exact a1
  · rw [(e 12 (by omega) (by omega)).1]; exact a2
  · rw [(e 14 (by omega) (by omega)).1]; exact a3
  · rw [(e 15 (by omega) (by omega)).1]; exact a4
  · rw [(e 16 (by omega) (by omega)).1]; exact a5
  · rw [(e 17 (by omega) (by omega)).1]; exact a6
  · rw [r _ _ (by omega) (by omega)]; exact (b w x y).1
  · rw [r _ _ (by omega) (by omega)]; exact (b w x y).2.1
  · rw [r _ _ (by omega) (by omega)]; exact (b w x y).2.2
  · rw [r _ _ (by omega) (by omega)]; exact (c t x y).1
  · rw [r _ _ (by omega) (by omega)]; exact (c t x y).2.1
  · rw [r _ _ (by omega) (by omega)]; exact (c t x y).2.2
  · rw [r _ _ (by omega) (by omega)]; exact (d q x y).1
  · rw [(e 18 (by omega) (by omega)).2]; exact (d q x y).2.1
  · rw [(e 19 (by omega) (by omega)).2]; exact (d q x y).2.2
theorem CFm.fr {W : Nat → Int → Prop} {M N : Mem} {T : Nat} {V : TV} (h : CFm M T V) (hF : Fr W M N) (hd : ∀ k j, (((k = T + 10 ∨ k = T + 15) ∧ (j = 3 ∨ j = 4)) ∨ k = T + 11 ∨ k = T + 12 ∨ k = T + 16 ∨ k = T + 17) → ¬ W k j) : CFm N T V := by
  obtain ⟨⟨a1, a2⟩, b1, b2⟩ := h
  refine ⟨⟨?_, a2.fr hF (fun k j z => hd k j (by omega))⟩, ?_, b2.fr hF (fun k j z => hd k j (by omega))⟩
  · rw [(hF (T + 10) 4 (hd _ _ (by omega))).1]; exact a1
  · rw [(hF (T + 15) 4 (hd _ _ (by omega))).1]; exact b1
theorem CP.fr {W : Nat → Int → Prop} {M N : Mem} {T : Nat} {V : TV} (h : CP M T V) (hF : Fr W M N) (hd : ∀ k j, ((T ≤ k ∧ k ≤ T + 19) ∨ (k = 46 ∧ 6 ≤ j ∧ j ≤ 8)) → ¬ W k j) : CP N T V := by
  obtain ⟨h1, ⟨a1, a2, a3⟩, h3, ⟨c1, c2⟩, h5⟩ := h
  have e : ∀ j, 6 ≤ j → j ≤ 8 → N.1 46 j = M.1 46 j := fun j x y => (hF 46 j (hd _ _ (Or.inr ⟨rfl, x, y⟩))).1
  refine ⟨CT0.fr hF (fun k j a b => hd k j (by omega)) h1, ⟨?_, ?_, ?_⟩, h3, ⟨?_, ?_⟩, h5.fr hF (fun k j z => hd k j (by omega))⟩
  · rw [e 6 (by omega) (by omega)]; exact a1
  · rw [e 7 (by omega) (by omega)]; exact a2
  · rw [e 8 (by omega) (by omega)]; exact a3
  · rw [(hF T 18 (hd _ _ (by omega))).2]; exact c1
  · rw [(hF T 19 (hd _ _ (by omega))).2]; exact c2
end
