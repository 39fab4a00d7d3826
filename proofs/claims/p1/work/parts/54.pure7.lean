/-! ===== p1: push and pushed: the reference's paths on a fresh town, as pure rows of numbers ===== -/
def FM (M : Mem) : Prop := (M.1 193 0 = 4 ∧ M.1 193 1 = 4 ∧ M.1 193 2 = 0 ∧ M.1 193 6 = 0) ∧ (∀ j : Int, 0 ≤ j → j < 16 → M.1 197 j = 0 ∧ M.1 198 j = 0) ∧ M.1 204 0 ≤ M.1 203 0 ∧ M.2 210 0 = 0 ∧ M.1 191 44 = -1
def FMb (M : Mem) : Bool := (decide (M.1 193 0 = 4) && decide (M.1 193 1 = 4) && decide (M.1 193 2 = 0) && decide (M.1 193 6 = 0)) && (decide (∀ k : Nat, k < 16 → M.1 197 (k : Int) = 0 ∧ M.1 198 (k : Int) = 0)) && decide (M.1 204 0 ≤ M.1 203 0) && decide (M.2 210 0 = 0) && decide (M.1 191 44 = -1)
theorem FM_of {M : Mem} (h : FMb M = true) : FM M := by
  unfold FMb at h
  simp only [Bool.and_eq_true, decide_eq_true_eq] at h
  obtain ⟨⟨⟨⟨⟨⟨⟨a1, a2⟩, a3⟩, a4⟩, b⟩, c⟩, d⟩, e⟩ := h
  exact ⟨⟨a1, a2, a3, a4⟩, fun j h0 h1 => rngI (fun j => M.1 197 j = 0 ∧ M.1 198 j = 0) 16 b h0 h1, c, d, e⟩
theorem FM.sI {M : Mem} (h : FM M) {k : Nat} {j v : Int} (hk : k = 222 ∨ k = 223 ∨ (k = 191 ∧ j = 0)) : FM (setI M k j v) := by
  obtain ⟨⟨a1, a2, a3, a4⟩, b, c, d, e⟩ := h
  refine ⟨⟨?_, ?_, ?_, ?_⟩, fun i h0 h1 => ⟨?_, ?_⟩, ?_, d, ?_⟩
  · rw [sI_ne (by omega)]; exact a1
  · rw [sI_ne (by omega)]; exact a2
  · rw [sI_ne (by omega)]; exact a3
  · rw [sI_ne (by omega)]; exact a4
  · rw [sI_ne (by omega)]; exact (b i h0 h1).1
  · rw [sI_ne (by omega)]; exact (b i h0 h1).2
  · rw [sI_ne (by omega), sI_ne (by omega)]; exact c
  · rw [sI_ne (by omega)]; exact e
theorem FM.sL {M : Mem} (h : FM M) {j : Int} {v : Int64} : FM (setL M 220 j v) := ⟨h.1, h.2.1, h.2.2.1, (uL_ne (k := 220) (j := j) (k' := 210) (j' := 0) M.2 v (by omega)).trans h.2.2.2.1, h.2.2.2.2⟩
abbrev PS : Type := (Int → Int) × (Int → Int)
def arr (M : Mem) (s : PS) : Prop := ∀ c : Int, 0 ≤ c → c < 16 → M.1 223 c = s.1 c ∧ M.1 222 c = s.2 c
theorem arr.sL {M : Mem} {s : PS} (h : arr M s) {j : Int} {v : Int64} : arr (setL M 220 j v) s := h
def bes (c w : Int) : Int := match t_MO_beside m3 c w with | some v => v | none => -2
theorem bes_all : ∀ k : Nat, k < 16 → ∀ j : Nat, j < 4 → t_MO_beside m3 (k : Int) (j : Int) = some (bes (k : Int) (j : Int)) ∧ -1 ≤ bes (k : Int) (j : Int) ∧ bes (k : Int) (j : Int) < 16 := by decide +kernel
theorem bes_r {c w : Int} (hc : 0 ≤ c ∧ c < 16) (hw : 0 ≤ w ∧ w < 4) : t_MO_beside m3 c w = some (bes c w) ∧ -1 ≤ bes c w ∧ bes c w < 16 :=
  rngI (fun w => t_MO_beside m3 c w = some (bes c w) ∧ -1 ≤ bes c w ∧ bes c w < 16) 4 (rngI (fun c => ∀ j : Nat, j < 4 → t_MO_beside m3 c (j : Int) = some (bes c (j : Int)) ∧ -1 ≤ bes c (j : Int) ∧ bes c (j : Int) < 16) 16 bes_all hc.1 hc.2) hw.1 hw.2
theorem FM.bs {M : Mem} (h : FM M) {c w : Int} (hc : 0 ≤ c ∧ c < 16) (hw : 0 ≤ w ∧ w < 4) : t_MO_beside M c w = some (bes c w) := by
  rw [← (bes_r hc hw).1]
  unfold t_MO_beside t_MO_beside_L34 t_MO_beside_L62
  rw [h.1.1, h.1.2.1, d_wide, d_high]
theorem FM.cells {M : Mem} (h : FM M) : t_MO_cells M = 16 := by
  unfold t_MO_cells
  rw [h.1.1, h.1.2.1]; rfl
theorem FM.next {M : Mem} (h : FM M) {c : Int} (hc : 0 ≤ c ∧ c < 16) : t_MO_nextOf M 0 c = some (-1) := by
  unfold t_MO_nextOf t_MO_nextOf_L24 t_MO_downOf
  rw [h.2.2.2.2, if_neg (by decide), qguard_pos (by decide), h.2.2.2.1]
  by_cases h1 : (q_lshr 0 c) &&& 1 = 1
  · rw [if_pos h1]
  · rw [if_neg h1, qguard_pos ⟨hc.1, by omega⟩, (h.2.1 c hc.1 hc.2).1, if_pos (by decide), obind_some]
    unfold t_MO_beside
    rw [if_pos rfl]; rfl
theorem FM.law {M : Mem} (h : FM M) : t_MO_hasLaw M 0 = some 0 := by
  unfold t_MO_hasLaw
  rw [qguard_pos (by decide), qguard_pos (by decide), if_pos h.2.2.1]
theorem FM.thing {M : Mem} (h : FM M) (d : Int) : t_MO_thingIn M 0 d = some (-1) := by
  unfold t_MO_thingIn
  rw [fu_s1, t_MO_thingIn_L2, if_pos (by rw [h.1.2.2.2]; decide)]
theorem FM.line {M : Mem} (h : FM M) {c d : Int} (hc : 0 ≤ c ∧ c < 16) (hd : 0 ≤ d ∧ d < 16) : t_MO_isLine M c d = some 0 := by
  unfold t_MO_isLine
  rw [qguard_pos ⟨hc.1, by omega⟩, qguard_pos ⟨hd.1, by omega⟩, (h.2.1 c hc.1 hc.2).1, (h.2.1 d hd.1 hd.2).1, if_pos rfl]
theorem FM.down {M : Mem} (h : FM M) {c : Int} (hc : 0 ≤ c ∧ c < 16) : t_MO_downOf M 0 c = some 4 := by
  unfold t_MO_downOf
  rw [qguard_pos ⟨hc.1, by omega⟩, (h.2.1 c hc.1 hc.2).1, if_pos (by decide)]
/-- what stays -/
def Kp (M N : Mem) : Prop := FM N ∧ ∀ c : Int, N.1 223 c = M.1 223 c ∧ N.1 222 c = M.1 222 c
theorem Kp.sL {M N : Mem} (h : Kp M N) {j : Int} {v : Int64} : Kp M (setL N 220 j v) := ⟨h.1.sL, h.2⟩
theorem FM.calls {M : Mem} (h : FM M) {c w : Int} (hc : 0 ≤ c ∧ c < 16) (hw : 0 ≤ w ∧ w < 4) (hd : ¬ bes c w = -1) : ∃ N, t_MO_callsPush M c w = some N ∧ Kp M N := by
  have hb := bes_r hc hw
  have hd2 : 0 ≤ bes c w ∧ bes c w < 16 := ⟨by omega, hb.2.2⟩
  have k0 : Kp M M := ⟨h, fun _ => ⟨rfl, rfl⟩⟩
  unfold t_MO_callsPush
  rw [h.bs hc hw, obind_some, qguard_pos ⟨hd2.1, by omega⟩, (h.2.1 _ hd2.1 hd2.2).1, if_pos (by decide)]
  unfold t_MO_callsPush_L40
  rw [qguard_pos (by decide)]
  simp only [qlet]
  have k1 := k0.sL (j := 0) (v := 0)
  rw [if_pos (by decide)]
  unfold t_MO_callsPush_L63
  rw [qguard_pos (by decide)]
  simp only [qlet]
  have k2 := k1.sL (j := 1) (v := 0)
  rw [k2.1.thing, obind_some, if_pos rfl]
  unfold t_MO_callsPush_L88
  simp only [qlet]
  rw [qguard_pos (by decide)]
  have k3 := k2.sL (j := 2) (v := t_MO_is (setL (setL M 220 0 0) 220 1 0) 0)
  rw [if_pos trivial]
  unfold t_MO_callsPush_L115
  rw [qguard_pos (by decide)]
  simp only [qlet]
  have k4 := k3.sL (j := 3) (v := 0)
  rw [k4.1.line hc hd2, obind_some]
  have k5 := k4.sL (j := 4) (v := t_MO_is (setL (setL (setL (setL M 220 0 0) 220 1 0) 220 2 (t_MO_is (setL (setL M 220 0 0) 220 1 0) 0)) 220 3 0) 0)
  rw [k5.1.down hc, obind_some, if_pos rfl]
  unfold t_MO_callsPush_L164 t_MO_callsPush_L165
  simp only [qlet]
  rw [qguard_pos (by decide)]
  exact ⟨_, rfl, (k5.sL).sL⟩
theorem FM.push {M : Mem} (h : FM M) {c w : Int} (hc : 0 ≤ c ∧ c < 16) (hw : 0 ≤ w ∧ w < 4) (hd : ¬ bes c w = -1) : ∃ N, t_MO_pushOf M c w = some (N, 1) ∧ Kp M N := by
  obtain ⟨N, e, k⟩ := h.calls hc hw hd
  refine ⟨N, ?_, k⟩
  unfold t_MO_pushOf
  rw [h.next hc, obind_some, h.bs hc hw, obind_some, if_neg (fun q => hd q.symm), e, obind_some]
  unfold t_MO_within
  rw [k.1.law, obind_some, if_pos rfl]; rfl
/-! the loops -/
def fupd (f : Int → Int) (c v : Int) : Int → Int := fun j => if j = c then v else f j
def eUpd (s : PS) (c d : Int) : PS := (fupd s.1 c (w32 (s.1 d + 1)), fupd s.2 c (w32 (s.2 d + 1)))
def eStep (s : PS) (ch c w : Int) : PS × Int := if bes c w = -1 then (s, ch) else if s.1 (bes c w) < 1000000 then (if s.1 c < w32 (s.1 (bes c w) + 1) then (s, ch) else if w32 (s.1 (bes c w) + 1) = s.1 c then (if w32 (s.2 (bes c w) + 1) < s.2 c then (eUpd s c (bes c w), 1) else (s, ch)) else (eUpd s c (bes c w), 1)) else (s, ch)
def eCell : Nat → PS → Int → Int → Int → PS × Int
  | 0, s, ch, _, _ => (s, ch)
  | n + 1, s, ch, c, w => eCell n (eStep s ch c w).1 (eStep s ch c w).2 c (w + 1)
def eRow : Nat → PS → Int → Int → PS × Int
  | 0, s, ch, _ => (s, ch)
  | n + 1, s, ch, c => eRow n (eCell 4 s ch c 0).1 (eCell 4 s ch c 0).2 (c + 1)
def eAll : Nat → PS → Option PS
  | 0, _ => none
  | n + 1, s => if (eRow 16 s 0 0).2 = 0 then some (eRow 16 s 0 0).1 else eAll n (eRow 16 s 0 0).1
theorem arr.kp {M N : Mem} {s : PS} (h : arr M s) (k : Kp M N) : arr N s := fun c h0 h1 => ⟨(k.2 c).1.trans (h c h0 h1).1, (k.2 c).2.trans (h c h0 h1).2⟩
theorem sim187 {t : Int} {bk52 : Mem → Int → Option Mem} {bk60 : Mem → Int → Int → Option Mem} {bk71 : Mem → Int → Int → Int → Option Mem} {M : Mem} {s : PS} {c w d : Int} (hF : FM M) (hA : arr M s) (hc : 0 ≤ c ∧ c < 16) (hd : 0 ≤ d ∧ d < 16) : ∃ N, t_MO_layPush_L187 t bk52 bk60 bk71 M c w d (w32 (s.1 d + 1)) = bk71 N 1 c (w32 (w + 1)) ∧ FM N ∧ arr N (eUpd s c d) := by
  unfold t_MO_layPush_L187
  rw [qguard_pos ⟨hc.1, by omega⟩]
  simp only [qlet]
  rw [qguard_pos ⟨hd.1, by omega⟩, qguard_pos ⟨hc.1, by omega⟩]
  unfold t_MO_layPush_L212
  refine ⟨_, rfl, (hF.sI (by omega)).sI (by omega), fun i h0 h1 => ⟨?_, ?_⟩⟩
  · rw [sI_ne (by omega)]
    show uI M.1 223 c (w32 (s.1 d + 1)) 223 i = fupd s.1 c (w32 (s.1 d + 1)) i
    unfold uI fupd
    rw [if_pos rfl]
    by_cases e : i = c
    · rw [if_pos e, if_pos e]
    · rw [if_neg e, if_neg e]; exact (hA i h0 h1).1
  · show uI (uI M.1 223 c (w32 (s.1 d + 1))) 222 c (w32 (uI M.1 223 c (w32 (s.1 d + 1)) 222 d + 1)) 222 i = fupd s.2 c (w32 (s.2 d + 1)) i
    rw [uI_ne (k' := 222) (j' := d) _ _ (by omega), (hA d hd.1 hd.2).2]
    unfold fupd
    by_cases e : i = c
    · rw [e, uI_self, if_pos rfl]
    · rw [if_neg e, uI_ne _ _ (by omega), uI_ne _ _ (by omega)]; exact (hA i h0 h1).2
theorem sim71 {t : Int} {bk52 : Mem → Int → Option Mem} {bk60 : Mem → Int → Int → Option Mem} {c : Int} (hc : 0 ≤ c ∧ c < 16) : ∀ (n fu : Nat) (M : Mem) (s : PS) (ch w : Int), 0 ≤ w → w + (n : Int) = 4 → n < fu → FM M → arr M s → ∃ N, t_MO_layPush_L71 t bk52 bk60 fu M ch c w = bk60 N (eCell n s ch c w).2 (w32 (c + 1)) ∧ FM N ∧ arr N (eCell n s ch c w).1 := by
  intro n
  induction n with
  | zero =>
    intro fu M s ch w h0 h1 h2 hF hA
    obtain ⟨f, rfl⟩ : ∃ f, fu = f + 1 := ⟨fu - 1, by omega⟩
    rw [t_MO_layPush_L71, if_pos (by omega)]
    unfold t_MO_layPush_L218
    exact ⟨M, rfl, hF, hA⟩
  | succ n ih =>
    intro fu M s ch w h0 h1 h2 hF hA
    obtain ⟨f, rfl⟩ : ∃ f, fu = f + 1 := ⟨fu - 1, by omega⟩
    have hw : 0 ≤ w ∧ w < 4 := ⟨h0, by omega⟩
    have hb := bes_r hc hw
    have nx : ∀ (N : Mem) (s' : PS) (ch' : Int), FM N → arr N s' → eStep s ch c w = (s', ch') → ∃ N', t_MO_layPush_L71 t bk52 bk60 f N ch' c (w32 (w + 1)) = bk60 N' (eCell (n + 1) s ch c w).2 (w32 (c + 1)) ∧ FM N' ∧ arr N' (eCell (n + 1) s ch c w).1 := by
      intro N s' ch' g1 g2 g3
      rw [w32_id (x := w + 1) (by unfold InR; omega), eCell, g3]
      exact ih f N s' ch' (w + 1) (by omega) (by omega) (by omega) g1 g2
    rw [t_MO_layPush_L71, if_neg (by omega), qguard_pos ⟨hc.1, by omega⟩, (hF.2.1 c hc.1 hc.2).2, if_pos rfl, hF.bs hc hw, obind_some]
    unfold t_MO_layPush_L212
    by_cases e1 : bes c w = -1
    · rw [if_pos e1]
      exact nx M s ch hF hA (by unfold eStep; rw [if_pos e1])
    · have hd : 0 ≤ bes c w ∧ bes c w < 16 := ⟨by omega, hb.2.2⟩
      have hD := hA _ hd.1 hd.2
      rw [if_neg e1, qguard_pos ⟨hd.1, by omega⟩, (hF.2.1 _ hd.1 hd.2).2, if_pos rfl, qguard_pos ⟨hd.1, by omega⟩, hD.1]
      by_cases e2 : s.1 (bes c w) < 1000000
      · obtain ⟨P, p1, p2⟩ := hF.push hc hw e1
        have pA := hA.kp p2
        have hC := pA c hc.1 hc.2
        have hD2 := pA _ hd.1 hd.2
        rw [if_pos e2, qguard_pos ⟨hd.1, by omega⟩, p1, obind_some, qguard_pos ⟨hc.1, by omega⟩]
        simp only []
        rw [hC.1]
        by_cases e3 : s.1 c < w32 (s.1 (bes c w) + 1)
        · rw [if_pos e3]
          exact nx P s ch p2.1 pA (by unfold eStep; rw [if_neg e1, if_pos e2, if_pos e3])
        · rw [if_neg e3, qguard_pos ⟨hc.1, by omega⟩]
          have go : eStep s ch c w = (eUpd s c (bes c w), 1) → ∃ N', t_MO_layPush_L187 t bk52 bk60 (fun a0_ a1_ a2_ a3_ => t_MO_layPush_L71 t bk52 bk60 f a0_ a1_ a2_ a3_) P c w (bes c w) (w32 (s.1 (bes c w) + 1)) = bk60 N' (eCell (n + 1) s ch c w).2 (w32 (c + 1)) ∧ FM N' ∧ arr N' (eCell (n + 1) s ch c w).1 := by
            intro g
            obtain ⟨N, a1, a2, a3⟩ := sim187 (t := t) (bk52 := bk52) (bk60 := bk60) (bk71 := fun a0_ a1_ a2_ a3_ => t_MO_layPush_L71 t bk52 bk60 f a0_ a1_ a2_ a3_) (w := w) p2.1 pA hc hd
            rw [a1]
            exact nx N _ 1 a2 a3 g
          by_cases e4 : w32 (s.1 (bes c w) + 1) = s.1 c
          · rw [if_pos e4, qguard_pos ⟨hd.1, by omega⟩, qguard_pos ⟨hc.1, by omega⟩, hD2.2, hC.2]
            by_cases e5 : w32 (s.2 (bes c w) + 1) < s.2 c
            · rw [if_pos e5]
              exact go (by unfold eStep; rw [if_neg e1, if_pos e2, if_neg e3, if_pos e4, if_pos e5])
            · rw [if_neg e5]
              exact nx P s ch p2.1 pA (by unfold eStep; rw [if_neg e1, if_pos e2, if_neg e3, if_pos e4, if_neg e5])
          · rw [if_neg e4]
            exact go (by unfold eStep; rw [if_neg e1, if_pos e2, if_neg e3, if_neg e4])
      · rw [if_neg e2]
        exact nx M s ch hF hA (by unfold eStep; rw [if_neg e1, if_neg e2])
theorem sim60 {t : Int} {bk52 : Mem → Int → Option Mem} : ∀ (n fu : Nat) (M : Mem) (s : PS) (ch c : Int), 0 ≤ c → c + (n : Int) = 16 → n < fu → FM M → arr M s → ∃ N, t_MO_layPush_L60 t bk52 fu M ch c = bk52 N (eRow n s ch c).2 ∧ FM N ∧ arr N (eRow n s ch c).1 := by
  intro n
  induction n with
  | zero =>
    intro fu M s ch c h0 h1 h2 hF hA
    obtain ⟨f, rfl⟩ : ∃ f, fu = f + 1 := ⟨fu - 1, by omega⟩
    rw [t_MO_layPush_L60]
    simp only [qlet]
    rw [hF.cells, if_pos (by omega)]
    exact ⟨M, rfl, hF, hA⟩
  | succ n ih =>
    intro fu M s ch c h0 h1 h2 hF hA
    obtain ⟨f, rfl⟩ : ∃ f, fu = f + 1 := ⟨fu - 1, by omega⟩
    rw [t_MO_layPush_L60]
    simp only [qlet]
    rw [hF.cells, if_neg (by omega)]
    obtain ⟨N, a1, a2, a3⟩ := sim71 (t := t) (bk52 := bk52) (bk60 := fun a0_ a1_ a2_ => t_MO_layPush_L60 t bk52 f a0_ a1_ a2_) (c := c) ⟨h0, by omega⟩ 4 FU M s ch 0 (by decide) (by decide) (fu_big (by decide)) hF hA
    rw [a1, w32_id (x := c + 1) (by unfold InR; omega), eRow]
    exact ih f N _ _ (c + 1) (by omega) (by omega) (by omega) a2 a3
theorem sim52 {t : Int} : ∀ (n fu : Nat) (M : Mem) (s r : PS), n + 1 < fu → FM M → arr M s → eAll n s = some r → ∃ N, t_MO_layPush_L52 t fu M 1 = some N ∧ FM N ∧ arr N r := by
  intro n
  induction n with
  | zero => intro fu M s r h hF hA he; cases he
  | succ n ih =>
    intro fu M s r h hF hA he
    obtain ⟨f, rfl⟩ : ∃ f, fu = f + 1 := ⟨fu - 1, by omega⟩
    rw [t_MO_layPush_L52, if_neg (by decide)]
    obtain ⟨N, a1, a2, a3⟩ := sim60 (t := t) (bk52 := fun a0_ a1_ => t_MO_layPush_L52 t f a0_ a1_) 16 FU M s 0 0 (by decide) (by decide) (fu_big (by decide)) hF hA
    rw [a1]
    rw [eAll] at he
    have hch : (eRow 16 s 0 0).2 = 0 ∨ (eRow 16 s 0 0).2 = 1 := by
      have st : ∀ (s : PS) (ch c w : Int), (ch = 0 ∨ ch = 1) → ((eStep s ch c w).2 = 0 ∨ (eStep s ch c w).2 = 1) := by
        intro s ch c w hh
        unfold eStep
        repeat' split
        all_goals first | exact hh | exact Or.inr rfl
      have ce : ∀ (n : Nat) (s : PS) (ch c w : Int), (ch = 0 ∨ ch = 1) → ((eCell n s ch c w).2 = 0 ∨ (eCell n s ch c w).2 = 1) := by
        intro n
        induction n with
        | zero => intro s ch c w hh; exact hh
        | succ n ih => intro s ch c w hh; exact ih _ _ _ _ (st s ch c w hh)
      have ro : ∀ (n : Nat) (s : PS) (ch c : Int), (ch = 0 ∨ ch = 1) → ((eRow n s ch c).2 = 0 ∨ (eRow n s ch c).2 = 1) := by
        intro n
        induction n with
        | zero => intro s ch c hh; exact hh
        | succ n ih => intro s ch c hh; exact ih _ _ _ (ce 4 s ch c 0 hh)
      exact ro 16 s 0 0 (Or.inl rfl)
    rcases hch with hc | hc
    · rw [if_pos hc] at he
      have hr : (eRow 16 s 0 0).1 = r := Option.some.inj he
      obtain ⟨g, rfl⟩ : ∃ g, f = g + 1 := ⟨f - 1, by omega⟩
      rw [hc]
      show ∃ N_1, t_MO_layPush_L52 t (g + 1) N 0 = _ ∧ _
      rw [t_MO_layPush_L52, if_pos rfl]
      exact ⟨N, rfl, a2, by rw [← hr]; exact a3⟩
    · rw [if_neg (by rw [hc]; decide)] at he
      rw [hc]
      exact ih f N _ r (by omega) a2 a3 he
def s0 (t : Int) : PS := (fun c => if c = t then 0 else 1000000, fun c => if c = t then 0 else 1000000)
theorem sim2 {t : Int} : ∀ (n fu : Nat) (M : Mem) (v : Int), 0 ≤ v → v + (n : Int) = 48 → n < fu → FM M → (∀ c : Int, 0 ≤ c → c < v → M.1 223 c = (s0 t).1 c ∧ M.1 222 c = (s0 t).2 c) → ∃ N, t_MO_layPush_L2 t fu M v = t_MO_layPush_L52 t FU N 1 ∧ FM N ∧ arr N (s0 t) := by
  intro n
  induction n with
  | zero =>
    intro fu M v h0 h1 h2 hF hA
    obtain ⟨f, rfl⟩ : ∃ f, fu = f + 1 := ⟨fu - 1, by omega⟩
    rw [t_MO_layPush_L2, if_pos (by omega)]
    exact ⟨M, rfl, hF, fun c hc0 hc1 => hA c hc0 (by omega)⟩
  | succ n ih =>
    intro fu M v h0 h1 h2 hF hA
    obtain ⟨f, rfl⟩ : ∃ f, fu = f + 1 := ⟨fu - 1, by omega⟩
    have go : ∀ x y : Int, x = (s0 t).1 v → y = (s0 t).2 v → ∃ N, t_MO_layPush_L2 t f (setI (setI M 223 v x) 222 v y) (w32 (v + 1)) = t_MO_layPush_L52 t FU N 1 ∧ FM N ∧ arr N (s0 t) := by
      intro x y hx hy
      rw [w32_id (x := v + 1) (by unfold InR; omega)]
      refine ih f _ (v + 1) (by omega) (by omega) (by omega) ((hF.sI (by omega)).sI (by omega)) (fun c hc0 hc1 => ⟨?_, ?_⟩)
      · rw [sI_ne (by omega)]
        by_cases e : c = v
        · rw [e, sI_self, hx]
        · rw [sI_ne (by omega)]; exact (hA c hc0 (by omega)).1
      · by_cases e : c = v
        · rw [e, sI_self, hy]
        · rw [sI_ne (by omega), sI_ne (by omega)]; exact (hA c hc0 (by omega)).2
    rw [t_MO_layPush_L2, if_neg (by omega)]
    unfold t_MO_layPush_L25 t_MO_layPush_L43
    rw [qguard_pos ⟨h0, by omega⟩, qguard_pos ⟨h0, by omega⟩]
    simp only [qlet]
    by_cases e : v = t
    · rw [if_pos e, if_pos e, qguard_pos ⟨h0, by omega⟩]
      exact go 0 0 (by unfold s0; simp [e]) (by unfold s0; simp [e])
    · rw [if_neg e, if_neg e, qguard_pos ⟨h0, by omega⟩]
      exact go 1000000 1000000 (by unfold s0; simp [e]) (by unfold s0; simp [e])
theorem simLay {t : Int} {M : Mem} {r : PS} (hF : FM M) (he : eAll 30 (s0 t) = some r) : ∃ N, t_MO_layPush M t = some N ∧ FM N ∧ arr N r := by
  obtain ⟨N, a1, a2, a3⟩ := sim2 (t := t) 48 FU M 0 (by decide) (by decide) (fu_big (by decide)) hF (fun c h0 h1 => absurd h1 (by omega))
  unfold t_MO_layPush
  rw [a1]
  exact sim52 30 FU N (s0 t) r (fu_big (by decide)) a2 a3 he
