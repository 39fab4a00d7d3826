/-! ===== p1: push and pushed ===== -/
theorem FM.opn {M : Mem} (h : FM M) {a : Int} (ha : 0 ≤ a ∧ a < 16) : t_MO_isOpen M a = some 1 := by
  have e : t_MO_isCell M a = 1 := by
    unfold t_MO_isCell
    simp only [qlet]
    rw [h.cells, if_neg (by omega), if_neg (by omega)]
  unfold t_MO_isOpen
  simp only [qlet]
  rw [e, if_neg (by decide), qguard_pos ⟨ha.1, by omega⟩, (h.2.1 a ha.1 ha.2).2, if_pos rfl]
theorem h_freeI {a : Int} (h : 0 ≤ a ∧ a < 16) : t_WF_isFree m2 a = 1 := rngI (fun a => t_WF_isFree m2 a = 1) 16 (by decide +kernel) h.1 h.2
def eOk (s : PS) (c w : Int) : Bool := if bes c w = -1 then false else if s.2 (bes c w) = w32 (s.2 c - 1) then decide (w32 (s.1 (bes c w) + 1) = s.1 c) else false
def fw : Nat → PS → Int → Int → Option Int
  | 0, _, _, _ => none
  | n + 1, s, c, w => if eOk s c w = true then some (bes c w) else fw n s c (w + 1)
def pth : Nat → PS → Int → Option Int
  | 0, _, c => some c
  | n + 1, s, c => match fw 4 s c 0 with
    | none => none
    | some d => pth n s d
theorem simIs {M : Mem} {s : PS} {c w : Int} (hF : FM M) (hA : arr M s) (hc : 0 ≤ c ∧ c < 16) (hw : 0 ≤ w ∧ w < 4) : ∃ N, t_MO_isPushed M c w = some (N, if eOk s c w = true then 1 else 0) ∧ FM N ∧ arr N s := by
  have hb := bes_r hc hw
  unfold t_MO_isPushed
  rw [hF.bs hc hw, obind_some]
  by_cases e1 : bes c w = -1
  · rw [if_pos e1]
    exact ⟨M, by unfold eOk; rw [if_pos e1]; rfl, hF, hA⟩
  · have hd : 0 ≤ bes c w ∧ bes c w < 16 := ⟨by omega, hb.2.2⟩
    rw [if_neg e1, qguard_pos ⟨hd.1, by omega⟩, (hF.2.1 _ hd.1 hd.2).2, if_pos rfl, qguard_pos ⟨hd.1, by omega⟩, qguard_pos ⟨hc.1, by omega⟩, (hA _ hd.1 hd.2).2, (hA c hc.1 hc.2).2, qguard_pos ⟨hd.1, by omega⟩]
    by_cases e2 : s.2 (bes c w) = w32 (s.2 c - 1)
    · obtain ⟨P, p1, p2⟩ := hF.push hc hw e1
      have pA := hA.kp p2
      rw [if_pos e2, p1, obind_some, qguard_pos ⟨hc.1, by omega⟩]
      simp only []
      rw [(hA _ hd.1 hd.2).1, (pA c hc.1 hc.2).1]
      by_cases e3 : w32 (s.1 (bes c w) + 1) = s.1 c
      · rw [if_pos e3]
        exact ⟨P, by unfold eOk; rw [if_neg e1, if_pos e2, if_pos (decide_eq_true e3)], p2.1, pA⟩
      · rw [if_neg e3]
        exact ⟨P, by unfold eOk; rw [if_neg e1, if_pos e2, if_neg (by simp [e3])], p2.1, pA⟩
    · rw [if_neg e2]
      exact ⟨M, by unfold eOk; rw [if_neg e1, if_neg e2]; rfl, hF, hA⟩
theorem sim72 {f t k : Int} {bk63 : Mem → Int → Int → Option (Mem × Int)} {s : PS} {c d i : Int} (hc : 0 ≤ c ∧ c < 16) : ∀ (n fu : Nat) (M : Mem) (w : Int), 0 ≤ w → w + (n : Int) ≤ 4 → n ≤ fu → FM M → arr M s → fw n s c w = some d → (0 ≤ d ∧ d < 16) ∧ ∃ N, t_MO_pushed_L72 f t k bk63 fu M c i w = bk63 N d (w32 (i + 1)) ∧ FM N ∧ arr N s := by
  intro n
  induction n with
  | zero => intro fu M w h0 h1 h2 hF hA he; cases he
  | succ n ih =>
    intro fu M w h0 h1 h2 hF hA he
    obtain ⟨g, rfl⟩ : ∃ g, fu = g + 1 := ⟨fu - 1, by omega⟩
    have hw : 0 ≤ w ∧ w < 4 := ⟨h0, by omega⟩
    obtain ⟨N, a1, a2, a3⟩ := simIs hF hA hc hw
    rw [t_MO_pushed_L72, a1, obind_some]
    rw [fw] at he
    by_cases e : eOk s c w = true
    · rw [if_pos e] at he
      have hd : bes c w = d := Option.some.inj he
      have hn : ¬ bes c w = -1 := by
        intro q
        unfold eOk at e
        rw [if_pos q] at e
        cases e
      have hb := bes_r hc hw
      refine ⟨by omega, ?_⟩
      simp only [e, if_true]
      rw [if_neg (by decide), a2.bs hc hw, obind_some, hd]
      exact ⟨N, rfl, a2, a3⟩
    · rw [if_neg e] at he
      simp only [e]
      rw [if_pos (by decide), w32_id (x := w + 1) (by unfold InR; omega)]
      exact ih g N (w + 1) (by omega) (by omega) (by omega) a2 a3 he
theorem sim63 {f t k e : Int} {s : PS} (hk : k ≤ 1000) : ∀ (n fu : Nat) (M : Mem) (c i : Int), (0 ≤ c ∧ c < 16) → 0 ≤ i → i + (n : Int) = k → n < fu → FM M → arr M s → pth n s c = some e → ∃ N, t_MO_pushed_L63 f t k fu M c i = some (N, e) := by
  intro n
  induction n with
  | zero =>
    intro fu M c i hc h0 h1 h2 hF hA he
    obtain ⟨g, rfl⟩ : ∃ g, fu = g + 1 := ⟨fu - 1, by omega⟩
    rw [t_MO_pushed_L63, if_pos (by omega)]
    exact ⟨M, by rw [Option.some.inj he]⟩
  | succ n ih =>
    intro fu M c i hc h0 h1 h2 hF hA he
    obtain ⟨g, rfl⟩ : ∃ g, fu = g + 1 := ⟨fu - 1, by omega⟩
    rw [t_MO_pushed_L63, if_neg (by omega)]
    rw [pth] at he
    cases e1 : fw 4 s c 0 with
    | none => simp only [e1] at he; cases he
    | some d =>
      simp only [e1] at he
      obtain ⟨hd, N, a1, a2, a3⟩ := sim72 (f := f) (t := t) (k := k) (bk63 := fun a0_ a1_ a2_ => t_MO_pushed_L63 f t k g a0_ a1_ a2_) (i := i) hc 4 FU M 0 (by decide) (by decide) (Nat.le_of_lt (fu_big (by decide))) hF hA e1
      rw [a1, w32_id (x := i + 1) (by unfold InR; omega)]
      exact ih g N d (i + 1) hd (by omega) (by omega) (by omega) a2 a3 he
/-- one pair of cells -/
def okP (f t : Int) : Bool := match t_WF_findPushed m2 f t with
  | none => false
  | some q => match eAll 30 (s0 t) with
    | none => false
    | some r => FMb (setI q 191 0 0) && (decide (q.1 185 3 = r.2 f + 1) && decide (q.1 185 4 = r.1 f)) && (decide (r.1 f < 1000000) && decide (0 ≤ r.2 f) && decide (r.2 f ≤ 6)) && decide (∀ k : Nat, k < 7 → (k : Int) ≤ r.2 f → pth k r f = some (t_Paths_cellAt q (k : Int)))
theorem okP_some {f t : Int} (h : okP f t = true) : ∃ (q : Mem) (r : PS), t_WF_findPushed m2 f t = some q ∧ eAll 30 (s0 t) = some r ∧ FM (setI q 191 0 0) ∧ (q.1 185 3 = r.2 f + 1 ∧ q.1 185 4 = r.1 f) ∧ (r.1 f < 1000000 ∧ 0 ≤ r.2 f ∧ r.2 f ≤ 6) ∧ ∀ k : Int, 0 ≤ k → k ≤ r.2 f → pth k.toNat r f = some (t_Paths_cellAt q k) := by
  unfold okP at h
  cases e1 : t_WF_findPushed m2 f t with
  | none => simp only [e1] at h; cases h
  | some q =>
    simp only [e1] at h
    cases e2 : eAll 30 (s0 t) with
    | none => simp only [e2] at h; cases h
    | some r =>
      simp only [e2, Bool.and_eq_true, decide_eq_true_eq] at h
      obtain ⟨⟨⟨a, b1, b2⟩, ⟨c1, c2⟩, c3⟩, d⟩ := h
      refine ⟨q, r, rfl, rfl, FM_of a, ⟨b1, b2⟩, ⟨c1, c2, c3⟩, fun k h0 h1 => ?_⟩
      have := d k.toNat (by omega) (by omega)
      rwa [Int.toNat_of_nonneg h0] at this
