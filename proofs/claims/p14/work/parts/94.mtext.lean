/-! ===== a text: what is to come out, the lines' loop, the halves -/
section TX
variable (B : Int → Int) (n : Int)
/-- fault, place, lines, town -/
noncomputable def txS : Nat → TV → Nat → Int → Int × Int × Int × TV
  | 0, V, _, l => (0, -1, l, V)
  | fu + 1, V, i, l => if tK B n i = 32 then (0, -1, l, V) else if ¬ (leS B n V i).1 = 0 then ((leS B n V i).1, (leS B n V i).2.1, l, V) else txS fu (leS B n V i).2.2.2 (leS B n V i).2.2.1 (l + 1)
def TV0 : TV := fun r j => if r = 0 ∧ (j = 0 ∨ j = 1) then 4 else if r = 7 then -1 else 0
noncomputable def txA : Int × Int × Int × TV := txS B n 1000 TV0 0 0
end TX
theorem pok0 : POK TV0 := by
  have z : ∀ j, ¬ (j = 0 ∨ j = 1) → TV0 0 j = 0 := fun j h => by
    unfold TV0
    rw [if_neg (fun q => h q.2), if_neg (by decide)]
  have a0 : TV0 0 0 = 4 := rfl
  have a1 : TV0 0 1 = 4 := rfl
  have z2 := z 2 (by omega); have z3 := z 3 (by omega); have z4 := z 4 (by omega); have z5 := z 5 (by omega); have z6 := z 6 (by omega); have z7 := z 7 (by omega); have z8 := z 8 (by omega); have z9 := z 9 (by omega); have z10 := z 10 (by omega); have z11 := z 11 (by omega); have z12 := z 12 (by omega)
  have k : ∀ K : Int → Int, KOK K 0 := fun K => ⟨by omega, by omega, fun i h => by omega, fun h => by omega⟩
  refine ⟨⟨by omega, fun w x y => by omega, fun t x y => by omega, fun c x y => ?_⟩, ?_, by omega⟩
  · have c7 : TV0 7 c = -1 := by unfold TV0; rw [if_neg (fun q => absurd q.1 (by decide)), if_pos rfl]
    have c8 : TV0 8 c = 0 := by unfold TV0; rw [if_neg (fun q => absurd q.1 (by decide)), if_neg (by decide)]
    have c9 : TV0 9 c = 0 := by unfold TV0; rw [if_neg (fun q => absurd q.1 (by decide)), if_neg (by decide)]
    omega
  · unfold FOK
    rw [z9, z10, z11, z12]
    exact ⟨k _, k _, Or.inl rfl, Or.inl rfl, by omega, by omega⟩
section TY
variable {B : Int → Int} {n : Int}
theorem m_tx {x1 : Int} (hn : 0 ≤ n ∧ n ≤ 700) : ∀ (m fu fs : Nat) (M : Mem) (V : TV) (i : Nat) (l : Int), n ≤ (i : Int) + (m : Int) → m + 1 < fu → m < fs → TS M B n i → LB M V l → TBd M V → POK V → 0 ≤ l → l ≤ (i : Int) →
    ∃ N, t_MO_text_L173 x1 fu M = t_MO_text_L195 x1 N ∧ Fr StW M N ∧ (((txS B n fs V i l).1 = 0 ∧ N.1 191 24 = 0 ∧ LB N (txS B n fs V i l).2.2.2 (txS B n fs V i l).2.2.1 ∧ POK (txS B n fs V i l).2.2.2) ∨ (¬ (txS B n fs V i l).1 = 0 ∧ N.1 191 24 = (txS B n fs V i l).1 ∧ N.1 191 25 = (txS B n fs V i l).2.1)) := by
  have endd : ∀ (fu fs : Nat) (M : Mem) (V : TV) (i : Nat) (l : Int), 0 < fu → 0 < fs → TS M B n i → LB M V l → POK V → tK B n i = 32 →
    ∃ N, t_MO_text_L173 x1 fu M = t_MO_text_L195 x1 N ∧ Fr StW M N ∧ (((txS B n fs V i l).1 = 0 ∧ N.1 191 24 = 0 ∧ LB N (txS B n fs V i l).2.2.2 (txS B n fs V i l).2.2.1 ∧ POK (txS B n fs V i l).2.2.2) ∨ (¬ (txS B n fs V i l).1 = 0 ∧ N.1 191 24 = (txS B n fs V i l).1 ∧ N.1 191 25 = (txS B n fs V i l).2.1)) := by
    intro fu fs M V i l f0 f1 h hL hP k
    obtain ⟨g, rfl⟩ : ∃ g, fu = g + 1 := ⟨fu - 1, by omega⟩
    obtain ⟨gs, rfl⟩ : ∃ g, fs = g + 1 := ⟨fs - 1, by omega⟩
    have s := (srt_endT h.2.1 h.kok).mpr k
    rw [t_MO_text_L173, if_pos h.2.2, if_pos s, txS, if_pos k]
    exact ⟨M, rfl, Fr.rf, Or.inl ⟨rfl, h.2.2, hL, hP⟩⟩
  intro m
  induction m with
  | zero =>
    intro fu fs M V i l g0 g1 g2 h hL hT hP l0 l1
    exact endd fu fs M V i l (by omega) (by omega) h hL hP (tK_end hn.1 hn.2 (by omega))
  | succ m ih =>
    intro fu fs M V i l g0 g1 g2 h hL hT hP l0 l1
    by_cases k : tK B n i = 32
    · exact endd fu fs M V i l (by omega) (by omega) h hL hP k
    · obtain ⟨g, rfl⟩ : ∃ g, fu = g + 1 := ⟨fu - 1, by omega⟩
      obtain ⟨gs, rfl⟩ : ∃ g, fs = g + 1 := ⟨fs - 1, by omega⟩
      have s := srt_endT h.2.1 h.kok
      have hi : (i : Int) < n := by
        by_cases z : (i : Int) < n
        · exact z
        · exact absurd (tK_end (B := B) hn.1 hn.2 (by omega)) k
      obtain ⟨N, n1, n2, n3⟩ := m_aLine h hL hT hP l0 (by omega)
      rw [t_MO_text_L173, if_pos h.2.2, if_neg (fun z => k (s.mp z)), n1, obind_some, txS, if_neg k]
      rcases n3 with ⟨a, b, c, d⟩ | ⟨a, b, c⟩
      · rw [if_neg (fun q => q a)]
        obtain ⟨p1, p2⟩ := pok_le hn hP a
        obtain ⟨P, q1, q2, q3⟩ := ih g gs N _ _ (l + 1) (by omega) (by omega) (by omega) b c d p1 (by omega) (by omega)
        exact ⟨P, q1, n2.trans q2, q3⟩
      · rw [if_pos a]
        obtain ⟨g', rfl⟩ : ∃ g', g = g' + 1 := ⟨g - 1, by omega⟩
        rw [t_MO_text_L173, if_neg (show ¬ N.1 191 24 = 0 by rw [b]; exact a)]
        exact ⟨N, rfl, n2, Or.inr ⟨a, b, c⟩⟩
end TY
/-! the halves -/
def hw (k : Nat) : Int := if k = 193 then 9 else if k ≤ 196 then 4 else if k ≤ 199 then 48 else if k ≤ 202 then 8 else if k ≤ 204 then 2 else 64
def HC (M N : Mem) (c : Nat) : Prop := Fr (fun k j => 193 ≤ k ∧ k < c ∧ 0 ≤ j ∧ j < hw k) M N ∧ ∀ k j, 193 ≤ k → k < c → 0 ≤ j → j < hw k → N.1 k j = M.1 k (hw k + j)
theorem hw_rng (k : Nat) : 2 ≤ hw k ∧ hw k ≤ 64 := by
  unfold hw
  (repeat' split) <;> omega
theorem m_half_L7 {M : Mem} {r N1 : Nat} (hr : 193 ≤ r) (hN : hw r + hw r ≤ (N1 : Int)) (hN2 : (N1 : Int) ≤ 200) : ∀ (m fu : Nat) (M' : Mem) (v : Int), v + (m : Int) = hw r → 0 ≤ v → m < fu → Fr (fun k j => k = r ∧ 0 ≤ j ∧ j < v) M M' → (∀ j, 0 ≤ j → j < v → M'.1 r j = M.1 r (hw r + j)) →
    ∃ N, t_MO_half_L7 r N1 fu M' (hw r) v = some N ∧ Fr (fun k j => k = r ∧ 0 ≤ j ∧ j < hw r) M N ∧ ∀ j, 0 ≤ j → j < hw r → N.1 r j = M.1 r (hw r + j) := by
  have hh := hw_rng r
  intro m
  induction m with
  | zero =>
    intro fu M' v g0 g1 g2 hF hc
    obtain ⟨g, rfl⟩ : ∃ g, fu = g + 1 := ⟨fu - 1, by omega⟩
    have e : v = hw r := by omega
    rw [t_MO_half_L7, if_pos (by omega)]
    rw [e] at hF hc
    exact ⟨M', rfl, hF, hc⟩
  | succ m ih =>
    intro fu M' v g0 g1 g2 hF hc
    obtain ⟨g, rfl⟩ : ∃ g, fu = g + 1 := ⟨fu - 1, by omega⟩
    rw [t_MO_half_L7, if_neg (by omega), w32_id (x := hw r + v) (by unfold InR; omega), w32_id (x := v + 1) (by unfold InR; omega), qguard_pos ⟨by omega, by omega⟩, qguard_pos ⟨by omega, by omega⟩]
    simp (config := { proj := false }) only [qlet]
    refine ih g _ (v + 1) (by omega) (by omega) (by omega) ((hF.mono (fun k j z => ⟨z.1, z.2.1, by omega⟩)).setI ⟨rfl, g1, by omega⟩) (fun j a b => ?_)
    by_cases q : j = v
    · rw [q, sI_self, (hF r (hw r + v) (by omega)).1]
    · rw [sI_ne (by omega), hc j a (by omega)]
theorem hc_half {M N : Mem} {r N1 : Nat} (hr : 193 ≤ r) (e : q_div (N1 : Int) 2 = hw r) (hN : hw r + hw r ≤ (N1 : Int)) (hN2 : (N1 : Int) ≤ 200) (h : HC M N r) : ∃ N', t_MO_half N r N1 = some N' ∧ HC M N' (r + 1) := by
  have hh := hw_rng r
  unfold t_MO_half
  rw [e]
  obtain ⟨P, p1, p2, p3⟩ := m_half_L7 (M := N) hr hN hN2 (hw r).toNat FU N 0 (by omega) (by omega) (fu_big (by omega)) Fr.rf (fun j a b => by omega)
  refine ⟨P, p1, (h.1.mono (fun k j z => ⟨z.1, by omega, z.2.2⟩)).trans (p2.mono (fun k j z => by rw [z.1]; exact ⟨hr, by omega, z.2⟩)), fun k j a b c d => ?_⟩
  by_cases q : k = r
  · rw [q] at d ⊢
    rw [p3 j c d, (h.1 r _ (by omega)).1]
  · rw [(p2 k j (fun z => q z.1)).1]
    exact h.2 k j a (by omega) c d
