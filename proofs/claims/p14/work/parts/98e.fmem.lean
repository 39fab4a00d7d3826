/-! ===== the class's formula machine in memory ===== -/
theorem tbI_zero (j : Int) : tbI 0 j = false := by
  unfold tbI
  show (0#32).getLsbD j.toNat = false
  exact BitVec.getLsbD_zero
theorem tbI_clr {x i j : Int} (h0 : 0 ≤ i) (h1 : i < 32) (g0 : 0 ≤ j) (g1 : j < 32) : tbI (q_and x (q_xor (q_shl 1 i) (-1))) j = (tbI x j && !decide (j = i)) := by
  unfold tbI
  have e : (Int32.ofInt (q_and x (q_xor (q_shl 1 i) (-1)))).toBitVec = (Int32.ofInt x).toBitVec &&& (((Int32.ofInt 1).toBitVec <<< i.toNat) ^^^ BitVec.allOnes 32) := by
    unfold q_and q_xor
    rw [q_of_toInt, Int32.toBitVec_and, q_of_toInt, Int32.toBitVec_xor, shl_bv h0 h1]
    rfl
  rw [e, BitVec.getLsbD_and, BitVec.getLsbD_xor, BitVec.getLsbD_shiftLeft, BitVec.getLsbD_allOnes]
  congr 1
  show ((decide (j.toNat < 32) && !decide (j.toNat < i.toNat) && (1#32).getLsbD (j.toNat - i.toNat)) ^^ decide (j.toNat < 32)) = _
  rw [BitVec.getLsbD_one]
  have h32 : j.toNat < 32 := by omega
  by_cases e : j = i
  · subst e
    simp [h32]
  · have h2 : ¬ j.toNat = i.toNat := by omega
    by_cases h3 : j.toNat < i.toNat
    · simp [h3, e, h32]
    · have h4 : ¬ (j.toNat - i.toNat = 0) := by omega
      simp [h4, e, h32]
theorem tb_i2l (x : Int) {i : Int} (h0 : 0 ≤ i) (h1 : i < 32) : tb (q_i2l x) i = tbI x i := by
  unfold tb q_i2l tbI
  rw [Int32.toBitVec_toInt64, BitVec.getLsbD_signExtend, if_pos (by omega), decide_eq_true (by omega), Bool.true_and]
theorem cz_clr {B o : Int} {cm : Int → Bool} (h : ∀ x, 0 ≤ x → x ≤ 8 → tbI B x = cm x) (o0 : 0 ≤ o) (o1 : o ≤ 8) : ∀ x, 0 ≤ x → x ≤ 8 → tbI (q_and B (q_xor (q_shl 1 o) (-1))) x = cz cm o false x := by
  intro x x0 x1
  rw [tbI_clr o0 (by omega) x0 (by omega), h x x0 x1]
  by_cases e : x = o
  · rw [e, cz_self, decide_eq_true rfl]; cases cm o <;> rfl
  · rw [cz_ne _ e, decide_eq_false e]; cases cm x <;> rfl
theorem cz_set {B o : Int} {cm : Int → Bool} (h : ∀ x, 0 ≤ x → x ≤ 8 → tbI B x = cm x) (o0 : 0 ≤ o) (o1 : o ≤ 8) : ∀ x, 0 ≤ x → x ≤ 8 → tbI (q_or B (q_shl 1 o)) x = cz cm o true x := by
  intro x x0 x1
  rw [told_or o0 (by omega) x0 (by omega), h x x0 x1]
  by_cases e : x = o
  · rw [e, cz_self, decide_eq_true rfl]; cases cm o <;> rfl
  · rw [cz_ne _ e, decide_eq_false e]; cases cm x <;> rfl
def OutM (M : Mem) (k0 : Nat) (out : List (Int × Int)) : Prop := M.1 k0 3 = (out.length : Int) ∧ ∀ j : Nat, j < out.length → M.1 (k0 + 1) (j : Int) = (out.getD j (0, 0)).1 ∧ M.1 (k0 + 2) (j : Int) = (out.getD j (0, 0)).2
def WsM (M : Mem) (r : Nat) : List Int → Prop
  | [] => True
  | p :: ws => M.1 r (ws.length : Int) = p ∧ WsM M r ws
def nO : List Int → Int
  | [] => 0
  | p :: ws => nO ws + (if p = 41 then 0 else 1)
def nP : List Int → Int
  | [] => 0
  | p :: ws => nP ws + (if p = 41 then 1 else 0)
def wsOk : List Int → Prop
  | [] => True
  | p :: ws => (p = 41 ∨ 1 ≤ bdF p) ∧ wsOk ws
theorem nOP : ∀ ws : List Int, nO ws + nP ws = (ws.length : Int) ∧ 0 ≤ nO ws ∧ 0 ≤ nP ws := by
  intro ws
  induction ws with
  | nil => exact ⟨rfl, Int.le_refl _, Int.le_refl _⟩
  | cons p ws ih =>
    rw [nO, nP, List.length_cons]
    by_cases e : p = 41
    · rw [if_pos e, if_pos e]; omega
    · rw [if_neg e, if_neg e]; omega
theorem OutM.fr {W : Nat → Int → Prop} {M N : Mem} {k0 : Nat} {out : List (Int × Int)} (h : OutM M k0 out) (hF : Fr W M N) (hd : ∀ k j, ((k = k0 ∧ j = 3) ∨ k = k0 + 1 ∨ k = k0 + 2) → ¬ W k j) : OutM N k0 out :=
  ⟨((hF k0 3 (hd _ _ (Or.inl ⟨rfl, rfl⟩))).1).trans h.1, fun j hj => ⟨((hF _ _ (hd (k0 + 1) _ (Or.inr (Or.inl rfl)))).1).trans (h.2 j hj).1, ((hF _ _ (hd (k0 + 2) _ (Or.inr (Or.inr rfl)))).1).trans (h.2 j hj).2⟩⟩
theorem WsM.fr {W : Nat → Int → Prop} {M N : Mem} {r : Nat} (hF : Fr W M N) : ∀ {ws : List Int}, WsM M r ws → (∀ j, j < (ws.length : Int) → ¬ W r j) → WsM N r ws := by
  intro ws
  induction ws with
  | nil => intro _ _; exact trivial
  | cons p ws ih =>
    intro h hd
    rw [List.length_cons] at hd
    exact ⟨((hF r _ (hd _ (by omega))).1).trans h.1, ih h.2 (fun j hj => hd j (by omega))⟩
theorem rl_facts {s : Int} (hs : 1 ≤ s) : ∀ (ws : List Int) (out : List (Int × Int)), wsOk ws → wsOk (rlF s out ws).2 ∧ nP (rlF s out ws).2 = nP ws ∧ ((rlF s out ws).1.length : Int) + nO (rlF s out ws).2 = (out.length : Int) + nO ws ∧ (s = 1 → (rlF s out ws).2 = [] ∨ ∃ t, (rlF s out ws).2 = 41 :: t) := by
  intro ws
  induction ws with
  | nil => intro out h; exact ⟨trivial, rfl, rfl, fun _ => Or.inl rfl⟩
  | cons p ws ih =>
    intro out h
    rw [rlF]
    by_cases c : bdF p < s
    · rw [if_pos c]
      refine ⟨h, rfl, rfl, fun e => Or.inr ⟨ws, ?_⟩⟩
      rcases h.1 with q | q
      · rw [q]
      · omega
    · rw [if_neg c]
      have n41 : ¬ p = 41 := fun q => by rw [q] at c; exact c (by show (0 : Int) < s; omega)
      obtain ⟨i1, i2, i3, i4⟩ := ih (out ++ [(p, 0)]) h.2
      refine ⟨i1, ?_, ?_, i4⟩
      · rw [i2, nP, if_neg n41]; omega
      · rw [i3, nO, if_neg n41, List.length_append]
        show ((out.length + 1 : Nat) : Int) + _ = _
        omega
theorem rl_ws {s : Int} {M : Mem} {r : Nat} : ∀ (ws : List Int) (out : List (Int × Int)), WsM M r ws → WsM M r (rlF s out ws).2 := by
  intro ws
  induction ws with
  | nil => intro out h; exact h
  | cons p ws ih =>
    intro out h
    rw [rlF]
    by_cases c : bdF p < s
    · rw [if_pos c]; exact h
    · rw [if_neg c]; exact ih _ h.2
theorem rl_len {s : Int} : ∀ (ws : List Int) (out : List (Int × Int)), (rlF s out ws).2.length ≤ ws.length := by
  intro ws
  induction ws with
  | nil => intro out; exact Nat.le_refl _
  | cons p ws ih =>
    intro out
    rw [rlF]
    by_cases c : bdF p < s
    · rw [if_pos c]; exact Nat.le_refl _
    · rw [if_neg c]
      have := ih (out ++ [(p, 0)])
      rw [List.length_cons]
      omega
def FaW (k0 : Nat) : Nat → Int → Prop := fun k j => (k = k0 ∧ j = 3) ∨ k = k0 + 1 ∨ k = k0 + 2
theorem c_fadd {M : Mem} {k0 : Nat} {out : List (Int × Int)} (h : OutM M k0 out) (hl : out.length < 64) (x y : Int) : OutM (t_Formula_add M k0 x y) k0 (out ++ [(x, y)]) ∧ Fr (FaW k0) M (t_Formula_add M k0 x y) := by
  have e : t_Formula_add M k0 x y = setI (setI (setI M (k0 + 1) (out.length : Int) x) (k0 + 2) (out.length : Int) y) k0 3 ((out.length : Int) + 1) := by
    unfold t_Formula_add
    simp (config := { proj := false }) only [qlet]
    rw [h.1, put_in (M := M) (by omega) (by omega), show (setI M (k0 + 1) (out.length : Int) x).1 k0 3 = (out.length : Int) from (sI_ne (by omega)).trans h.1, put_in (by omega) (by omega), show (setI (setI M (k0 + 1) (out.length : Int) x) (k0 + 2) (out.length : Int) y).1 k0 3 = (out.length : Int) from (sI_ne (by omega)).trans ((sI_ne (by omega)).trans h.1), w32_id (by unfold InR; omega)]
  rw [e]
  refine ⟨⟨?_, fun j hj => ?_⟩, ((Fr.rf.setI (by unfold FaW; omega)).setI (by unfold FaW; omega)).setI (by unfold FaW; omega)⟩
  · rw [sI_self, List.length_append]; rfl
  · rw [List.length_append] at hj
    change j < out.length + 1 at hj
    rw [List.getD_eq_getElem?_getD]
    by_cases c : j < out.length
    · rw [List.getElem?_append_left c, ← List.getD_eq_getElem?_getD, sI_ne (by omega), sI_ne (by omega), sI_ne (by omega), sI_ne (by omega), sI_ne (by omega), sI_ne (by omega)]
      exact h.2 j c
    · have ej : j = out.length := by omega
      subst ej
      rw [List.getElem?_append_right (Nat.le_refl _), Nat.sub_self]
      refine ⟨?_, ?_⟩
      · rw [sI_ne (by omega), sI_ne (by omega), sI_self]; rfl
      · rw [sI_ne (by omega), sI_self]; rfl
theorem strF_eq (M : Mem) (k : Int) : t_Formula_strengthOf M k = stF k := by
  unfold t_Formula_strengthOf stF
  repeat (first | omega | split)
def RlW (k0 : Nat) : Nat → Int → Prop := fun k j => (k = k0 ∧ (j = 3 ∨ j = 6)) ∨ k = k0 + 1 ∨ k = k0 + 2
theorem c_release {k0 : Nat} {s : Int} (hs : 1 ≤ s) : ∀ (ws : List Int) (fu : Nat) (M : Mem) (out : List (Int × Int)), wsOk ws → OutM M k0 out → M.1 k0 6 = (ws.length : Int) → WsM M (k0 + 4) ws → (out.length : Int) + nO ws ≤ 64 → ws.length ≤ 72 → ws.length < fu →
    ∃ N, t_Formula_release_L0 k0 s fu M = some N ∧ Fr (RlW k0) M N ∧ OutM N k0 (rlF s out ws).1 ∧ N.1 k0 6 = ((rlF s out ws).2.length : Int) := by
  intro ws
  induction ws with
  | nil =>
    intro fu M out h1 h2 h3 h4 h5 h6 h7
    obtain ⟨g, rfl⟩ : ∃ g, fu = g + 1 := ⟨fu - 1, by omega⟩
    rw [t_Formula_release_L0, if_pos (by rw [h3]; exact Int.le_refl _)]
    exact ⟨M, rfl, Fr.rf, h2, h3⟩
  | cons p ws ih =>
    intro fu M out h1 h2 h3 h4 h5 h6 h7
    obtain ⟨g, rfl⟩ : ∃ g, fu = g + 1 := ⟨fu - 1, by omega⟩
    rw [List.length_cons] at h3 h6 h7
    have lk : t_WF_look M (k0 + 4) 72 (w32 (M.1 k0 6 - 1)) = p := by
      rw [h3, w32_id (by unfold InR; omega), look_in (by omega) (by omega), show ((ws.length + 1 : Nat) : Int) - 1 = (ws.length : Int) by omega]
      exact h4.1
    have on := nOP ws
    rw [t_Formula_release_L0, if_neg (by rw [h3]; omega), lk]
    simp only [qlet]
    have key : ∀ b, b = bdF p → ∃ N, t_Formula_release_L35 k0 s (fun a0_ => t_Formula_release_L0 k0 s g a0_) M p b = some N ∧ Fr (RlW k0) M N ∧ OutM N k0 (rlF s out (p :: ws)).1 ∧ N.1 k0 6 = ((rlF s out (p :: ws)).2.length : Int) := by
      intro b hb
      unfold t_Formula_release_L35
      rw [hb, rlF]
      by_cases c : bdF p < s
      · rw [if_neg (by omega), if_pos c]
        exact ⟨M, rfl, Fr.rf, h2, by rw [List.length_cons]; exact h3⟩
      · rw [if_pos (by omega), if_neg c]
        simp (config := { proj := false }) only [qlet]
        have n41 : ¬ p = 41 := fun q => by rw [q] at c; exact c (by show (0 : Int) < s; omega)
        rw [nO, if_neg n41] at h5
        obtain ⟨a1, a2⟩ := c_fadd h2 (by omega) p 0
        have a3 : (t_Formula_add M k0 p 0).1 k0 6 = (ws.length : Int) + 1 := by
          rw [(a2 k0 6 (by unfold FaW; omega)).1, h3]
          omega
        generalize t_Formula_add M k0 p 0 = M1 at *
        rw [a3, w32_id (by unfold InR; omega), show (ws.length : Int) + 1 - 1 = (ws.length : Int) by omega]
        have f2 : Fr (RlW k0) M (setI M1 k0 6 (ws.length : Int)) := (a2.mono (fun k j z => by unfold FaW at z; unfold RlW; omega)).setI (by unfold RlW; omega)
        obtain ⟨N, n1, n2, n3, n4⟩ := ih g (setI M1 k0 6 (ws.length : Int)) (out ++ [(p, 0)]) h1.2 (a1.fr (W := fun k j => k = k0 ∧ j = 6) (Fr.rf.setI ⟨rfl, rfl⟩) (fun k j z y => by omega)) (sI_self _ _ _ _) (WsM.fr f2 h4.2 (fun j hj z => by unfold RlW at z; omega)) (by rw [List.length_append]; show ((out.length + 1 : Nat) : Int) + _ ≤ _; omega) (by omega) (by omega)
        exact ⟨N, n1, f2.trans n2, n3, n4⟩
    by_cases e : p = 17
    · rw [if_pos e]
      exact key 3 (by rw [e]; rfl)
    · rw [if_neg e, strF_eq]
      exact key (stF p) (by unfold bdF; rw [if_neg e])
theorem c_rel {k0 : Nat} {s : Int} (hs : 1 ≤ s) {ws : List Int} {M : Mem} {out : List (Int × Int)} (h1 : wsOk ws) (h2 : OutM M k0 out) (h3 : M.1 k0 6 = (ws.length : Int)) (h4 : WsM M (k0 + 4) ws) (h5 : (out.length : Int) + nO ws ≤ 64) (h6 : ws.length ≤ 72) : ∃ N, t_Formula_release M k0 s = some N ∧ Fr (RlW k0) M N ∧ OutM N k0 (rlF s out ws).1 ∧ N.1 k0 6 = ((rlF s out ws).2.length : Int) ∧ WsM N (k0 + 4) (rlF s out ws).2 := by
  obtain ⟨N, n1, n2, n3, n4⟩ := c_release hs ws FU M out h1 h2 h3 h4 h5 h6 (fu_big (by omega))
  exact ⟨N, n1, n2, n3, n4, rl_ws _ _ (WsM.fr n2 h4 (fun j hj z => by unfold RlW at z; omega))⟩
theorem c_await {M : Mem} {k0 : Nat} {l : Int} (h : M.1 k0 6 = l) (l0 : 0 ≤ l) (l1 : l < 72) (x : Int) : t_Formula_await M k0 x = setI (setI M (k0 + 4) l x) k0 6 (l + 1) := by
  unfold t_Formula_await
  simp (config := { proj := false }) only [qlet]
  rw [h, put_in l0 (by omega), show (setI M (k0 + 4) l x).1 k0 6 = l from (sI_ne (by omega)).trans h, w32_id (by unfold InR; omega)]
def b01 (b : Bool) : Int := if b = true then 1 else 0
/-- the machine's cells -/
def FMs (M : Mem) (k0 k3 i : Nat) (c : Int) (out : List (Int × Int)) (ws : List Int) (o : Int) (cm : Int → Bool) (wp mn : Bool) : Prop :=
  (M.1 k0 7 = (i : Int) ∧ M.1 k3 16 = c ∧ M.1 k0 8 = o ∧ M.1 k0 10 = b01 wp ∧ M.1 k0 11 = b01 mn ∧ M.1 k0 6 = (ws.length : Int)) ∧ OutM M k0 out ∧ WsM M (k0 + 4) ws ∧ (∀ x, 0 ≤ x → x ≤ 8 → tbI (M.1 k0 9) x = cm x)
def FBd (c : Int) (out : List (Int × Int)) (ws : List Int) (o : Int) : Prop := 0 ≤ c ∧ c ≤ 64 ∧ 0 ≤ o ∧ o ≤ 8 ∧ nP ws = o ∧ (out.length : Int) + nO ws ≤ c ∧ wsOk ws
def FMt (M : Mem) (k0 k3 i : Nat) (t : FSt) : Prop := FMs M k0 k3 i t.2.1 t.2.2.1 t.2.2.2.1 t.2.2.2.2.1 t.2.2.2.2.2.1 t.2.2.2.2.2.2.1 t.2.2.2.2.2.2.2 ∧ FBd t.2.1 t.2.2.1 t.2.2.2.1 t.2.2.2.2.1
def FmW (k0 k3 : Nat) : Nat → Int → Prop := fun k j => (k = k0 ∧ (j = 3 ∨ j = 4 ∨ (6 ≤ j ∧ j ≤ 11))) ∨ k = k0 + 1 ∨ k = k0 + 2 ∨ k = k0 + 4 ∨ (k = k3 ∧ j = 16)
section FME
variable {K W : Nat → Int} {k0 k3 i : Nat} {c : Int} {out : List (Int × Int)} {ws : List Int} {o : Int} {cm : Int → Bool} {mn wp : Bool} {M : Mem}
theorem c_readPart (hk : k3 + 10 ≤ k0 ∧ k0 + 4 < 42) (h : FMs M k0 k3 i c out ws o cm true mn) (hb : FBd c out ws o) {w : Int} (hw : K i ≠ 33 → w = W i) :
    (∀ r, sF K W i c out ws o cm true mn = Sum.inl r → t_Formula_readPart M k0 (K i) w k3 = (M, r.1) ∧ r.1 ≠ 0 ∧ r.2.1 = i) ∧
    (∀ t, sF K W i c out ws o cm true mn = Sum.inr t → ∃ N, t_Formula_readPart M k0 (K i) w k3 = (N, 0) ∧ Fr (FmW k0 k3) M N ∧ FMt N k0 k3 i t) := by
  obtain ⟨⟨h7, h16, h8, h10, h11, h6⟩, hO, hS, hB⟩ := h
  obtain ⟨c0, c1, o0, o1, oP, oL, oW⟩ := hb
  have on := nOP ws
  rw [sF_w]
  unfold t_Formula_readPart
  by_cases k41 : K i = 41
  · rw [if_pos k41, if_pos k41, h8]
    by_cases o8 : o = 8
    · rw [if_pos o8, if_neg (by omega)]
      exact ⟨fun r e => by cases e; exact ⟨rfl, (by show ¬ (2 : Int) = 0; decide), rfl⟩, fun t e => by cases e⟩
    · rw [if_neg o8, if_pos (by omega), w32_id (by unfold InR; omega)]
      simp (config := { proj := false }) only [qlet]
      refine ⟨fun r e => (by cases e), fun t e => ?_⟩
      cases e
      have e1 : (setI M k0 8 (o + 1)).1 k0 9 = M.1 k0 9 := sI_ne (by omega)
      have e2 : (setI M k0 8 (o + 1)).1 k0 8 = o + 1 := sI_self _ _ _ _
      rw [e1, e2]
      have hB2 := cz_clr hB (show 0 ≤ o + 1 by omega) (by omega)
      generalize q_and (M.1 k0 9) (q_xor (q_shl 1 (o + 1)) (-1)) = B2 at *
      rw [c_await (l := (ws.length : Int)) (by rw [sI_ne (by omega), sI_ne (by omega), sI_ne (by omega)]; exact h6) (by omega) (by omega)]
      have fW : Fr (fun k j => (k = k0 ∧ (j = 6 ∨ 8 ≤ j ∧ j ≤ 11)) ∨ (k = k0 + 4 ∧ (ws.length : Int) ≤ j)) M (setI (setI (setI (setI (setI M k0 8 (o + 1)) k0 9 B2) k0 11 1) (k0 + 4) (ws.length : Int) 41) k0 6 ((ws.length : Int) + 1)) := ((((Fr.rf.setI (by omega)).setI (by omega)).setI (by omega)).setI (by omega)).setI (by omega)
      refine ⟨_, rfl, fW.mono (fun k j z => by unfold FmW; omega), ⟨⟨?_, ?_, ?_, ?_, ?_, ?_⟩, hO.fr fW (fun k j z y => by omega), ⟨?_, WsM.fr fW hS (fun j hj z => by omega)⟩, fun x x0 x1 => ?_⟩, ?_⟩
      · rw [(fW k0 7 (by omega)).1]; exact h7
      · rw [(fW k3 16 (by omega)).1]; exact h16
      · rw [sI_ne (by omega), sI_ne (by omega), sI_ne (by omega), sI_ne (by omega), sI_self]
      · rw [sI_ne (by omega), sI_ne (by omega), sI_ne (by omega), sI_ne (by omega), sI_ne (by omega)]; exact h10
      · rw [sI_ne (by omega), sI_ne (by omega), sI_self]; rfl
      · rw [sI_self]; show (ws.length : Int) + 1 = ((ws.length + 1 : Nat) : Int); omega
      · rw [sI_ne (by omega), sI_self]
      · rw [sI_ne (by omega), sI_ne (by omega), sI_ne (by omega), sI_self]; exact hB2 x x0 x1
      · refine ⟨c0, c1, by show 0 ≤ o + 1; omega, by show o + 1 ≤ 8; omega, ?_, ?_, Or.inl rfl, oW⟩
        · show nP (41 :: ws) = o + 1
          rw [nP, if_pos rfl, oP]
        · show (out.length : Int) + nO (41 :: ws) ≤ c
          rw [nO, if_pos rfl]
          omega
  · rw [if_neg k41, if_neg k41]
    by_cases kn : K i = 17 ∧ mn = true
    · rw [if_pos kn, if_pos kn.1, if_neg (show ¬ M.1 k0 11 = 0 by rw [h11, kn.2]; decide)]
      unfold t_Formula_readPart_L75 t_Formula_readPart_L97 t_Formula_readPart_L121
      rw [if_neg (show ¬ (1 : Int) = 0 by decide), h16, if_neg (show ¬ K i = 31 by omega)]
      by_cases c64 : c = 64
      · rw [if_pos c64, if_pos (by omega)]
        exact ⟨fun r e => by cases e; exact ⟨rfl, (by show ¬ (2 : Int) = 0; decide), rfl⟩, fun t e => by cases e⟩
      · rw [if_neg c64, if_neg (by omega), w32_id (by unfold InR; omega)]
        simp (config := { proj := false }) only [qlet]
        rw [if_neg (show ¬ (1 : Int) = 0 by decide), c_await (l := (ws.length : Int)) (by rw [sI_ne (by omega)]; exact h6) (by omega) (by omega)]
        refine ⟨fun r e => (by cases e), fun t e => ?_⟩
        cases e
        have fW : Fr (fun k j => (k = k3 ∧ j = 16) ∨ (k = k0 ∧ j = 6) ∨ (k = k0 + 4 ∧ (ws.length : Int) ≤ j)) M (setI (setI (setI M k3 16 (c + 1)) (k0 + 4) (ws.length : Int) 17) k0 6 ((ws.length : Int) + 1)) := ((Fr.rf.setI (by omega)).setI (by omega)).setI (by omega)
        refine ⟨_, rfl, fW.mono (fun k j z => by unfold FmW; omega), ⟨⟨?_, ?_, ?_, ?_, ?_, ?_⟩, hO.fr fW (fun k j z y => by omega), ⟨?_, WsM.fr fW hS (fun j hj z => by omega)⟩, fun x x0 x1 => ?_⟩, ?_⟩
        · rw [(fW k0 7 (by omega)).1]; exact h7
        · rw [sI_ne (by omega), sI_ne (by omega), sI_self]
        · rw [(fW k0 8 (by omega)).1]; exact h8
        · rw [(fW k0 10 (by omega)).1]; exact h10
        · rw [(fW k0 11 (by omega)).1]; exact h11
        · rw [sI_self]; show (ws.length : Int) + 1 = ((ws.length + 1 : Nat) : Int); omega
        · rw [sI_ne (by omega), sI_self]
        · rw [(fW k0 9 (by omega)).1]; exact hB x x0 x1
        · refine ⟨by show 0 ≤ c + 1; omega, by show c + 1 ≤ 64; omega, o0, o1, ?_, ?_, Or.inr (by decide), oW⟩
          · show nP (17 :: ws) = o
            rw [nP, if_neg (by decide), oP]; omega
          · show (out.length : Int) + nO (17 :: ws) ≤ c + 1
            rw [nO, if_neg (by decide)]
            omega
    · rw [if_neg kn]
      have e74 : (if K i = 17 then (if M.1 k0 11 = 0 then t_Formula_readPart_L74 k0 (K i) w k3 M else t_Formula_readPart_L75 k0 (K i) w k3 M 1) else t_Formula_readPart_L74 k0 (K i) w k3 M) = t_Formula_readPart_L75 k0 (K i) w k3 M 0 := by
        by_cases k17 : K i = 17
        · have : mn = false := by
            cases e : mn with
            | false => rfl
            | true => exact absurd ⟨k17, e⟩ kn
          rw [if_pos k17, if_pos (show M.1 k0 11 = 0 by rw [h11, this]; rfl)]
          rfl
        · rw [if_neg k17]
          rfl
      rw [e74]
      unfold t_Formula_readPart_L75 t_Formula_isName
      rw [if_pos rfl]
      simp only [qlet]
      have fin : (K i = 31 ∨ (18 ≤ K i ∧ K i ≤ 24)) → (∀ r, (if c = 64 ∨ (K i = 31 ∧ 9999 < W i) then Sum.inl (2, i, 0, []) else Sum.inr (i + 1, c + 1, out ++ [(K i, W i)], ws, o, cm, false, mn) : Sum ER FSt) = Sum.inl r → t_Formula_readPart_L97 k0 (K i) w k3 M 0 = (M, r.1) ∧ r.1 ≠ 0 ∧ r.2.1 = i) ∧
    (∀ t, (if c = 64 ∨ (K i = 31 ∧ 9999 < W i) then Sum.inl (2, i, 0, []) else Sum.inr (i + 1, c + 1, out ++ [(K i, W i)], ws, o, cm, false, mn) : Sum ER FSt) = Sum.inr t → ∃ N, t_Formula_readPart_L97 k0 (K i) w k3 M 0 = (N, 0) ∧ Fr (FmW k0 k3) M N ∧ FMt N k0 k3 i t) := by
        intro hn
        have hw' := hw (by omega)
        subst hw'
        unfold t_Formula_readPart_L97
        rw [h16]
        by_cases c64 : c = 64
        · rw [if_pos (Or.inl c64), if_pos (by omega)]
          exact ⟨fun r e => by cases e; exact ⟨rfl, (by show ¬ (2 : Int) = 0; decide), rfl⟩, fun t e => by cases e⟩
        · rw [if_neg (show ¬ 64 ≤ c by omega)]
          by_cases w9 : K i = 31 ∧ 9999 < W i
          · rw [if_pos (Or.inr w9), if_pos w9.1, if_neg (by omega)]
            exact ⟨fun r e => by cases e; exact ⟨rfl, (by show ¬ (2 : Int) = 0; decide), rfl⟩, fun t e => by cases e⟩
          · rw [if_neg (show ¬ (c = 64 ∨ (K i = 31 ∧ 9999 < W i)) from fun q => by rcases q with q | q; exact c64 q; exact w9 q)]
            have e121 : (if K i = 31 then (if W i ≤ 9999 then t_Formula_readPart_L121 k0 (K i) (W i) k3 M 0 else (M, 2)) else t_Formula_readPart_L121 k0 (K i) (W i) k3 M 0) = t_Formula_readPart_L121 k0 (K i) (W i) k3 M 0 := by
              by_cases k31 : K i = 31
              · rw [if_pos k31, if_pos (by omega)]
              · rw [if_neg k31]
            rw [e121]
            refine ⟨fun r e => (by cases e), fun t e => ?_⟩
            cases e
            unfold t_Formula_readPart_L121
            rw [h16, w32_id (by unfold InR; omega)]
            simp (config := { proj := false }) only [qlet]
            rw [if_pos trivial]
            have f0 : Fr (fun k j => k = k3 ∧ j = 16) M (setI M k3 16 (c + 1)) := Fr.rf.setI ⟨rfl, rfl⟩
            obtain ⟨a1, a2⟩ := c_fadd (hO.fr f0 (fun k j z y => by omega)) (by omega) (K i) (W i)
            have e16 : (t_Formula_add (setI M k3 16 (c + 1)) k0 (K i) (W i)).1 k3 16 = c + 1 := ((a2 k3 16 (by unfold FaW; omega)).1).trans (sI_self _ _ _ _)
            have f1 : Fr (fun k j => (k = k3 ∧ j = 16) ∨ (k = k0 ∧ j = 3) ∨ k = k0 + 1 ∨ k = k0 + 2) M (t_Formula_add (setI M k3 16 (c + 1)) k0 (K i) (W i)) := (f0.mono (fun k j z => Or.inl z)).trans (a2.mono (fun k j z => Or.inr z))
            generalize t_Formula_add (setI M k3 16 (c + 1)) k0 (K i) (W i) = M1 at *
            have fW : Fr (fun k j => (k = k3 ∧ j = 16) ∨ (k = k0 ∧ (j = 3 ∨ j = 10)) ∨ k = k0 + 1 ∨ k = k0 + 2) M (setI M1 k0 10 0) := (f1.mono (fun k j z => by omega)).setI (by omega)
            refine ⟨_, rfl, fW.mono (fun k j z => by unfold FmW; omega), ⟨⟨?_, ?_, ?_, ?_, ?_, ?_⟩, a1.fr (W := fun k j => k = k0 ∧ j = 10) (Fr.rf.setI ⟨rfl, rfl⟩) (fun k j z y => by omega), WsM.fr fW hS (fun j hj z => by omega), fun x x0 x1 => ?_⟩, ?_⟩
            · rw [(fW k0 7 (by omega)).1]; exact h7
            · rw [sI_ne (by omega)]; exact e16
            · rw [(fW k0 8 (by omega)).1]; exact h8
            · rw [sI_self]; rfl
            · rw [(fW k0 11 (by omega)).1]; exact h11
            · rw [(fW k0 6 (by omega)).1]; exact h6
            · rw [(fW k0 9 (by omega)).1]; exact hB x x0 x1
            · refine ⟨by show 0 ≤ c + 1; omega, by show c + 1 ≤ 64; omega, o0, o1, oP, ?_, oW⟩
              show ((out ++ [(K i, W i)]).length : Int) + nO ws ≤ c + 1
              rw [List.length_append]
              show ((out.length + 1 : Nat) : Int) + nO ws ≤ c + 1
              omega
      by_cases k31 : K i = 31
      · rw [if_pos k31, if_pos (Or.inl k31)]
        exact fin (Or.inl k31)
      · rw [if_neg k31]
        by_cases k18 : K i < 18
        · rw [if_pos k18, if_pos rfl, if_neg (show ¬ (K i = 31 ∨ (18 ≤ K i ∧ K i ≤ 24)) by omega)]
          exact ⟨fun r e => by cases e; exact ⟨rfl, (by show ¬ (1 : Int) = 0; decide), rfl⟩, fun t e => by cases e⟩
        · rw [if_neg k18]
          by_cases k24 : 24 < K i
          · rw [if_pos k24, if_pos rfl, if_neg (show ¬ (K i = 31 ∨ (18 ≤ K i ∧ K i ≤ 24)) by omega)]
            exact ⟨fun r e => by cases e; exact ⟨rfl, (by show ¬ (1 : Int) = 0; decide), rfl⟩, fun t e => by cases e⟩
          · rw [if_neg k24, if_neg (show ¬ (1 : Int) = 0 by decide), if_pos (show K i = 31 ∨ (18 ≤ K i ∧ K i ≤ 24) by omega)]
            exact fin (Or.inr (by omega))
end FME
