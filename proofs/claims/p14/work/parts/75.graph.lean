/-! ===== least ways over a few cells: rounds of one row of numbers ===== -/
def BIG : Int := 100000000
def updG (L : Int → Int) (c v : Int) : Int → Int := fun x => if x = c then v else L x
section GRAPH
variable {b wt : Int → Int → Int}
def rlG (b wt : Int → Int → Int) (L : Int → Int) (c w : Int) : Int → Int := if 0 ≤ b c w ∧ L (b c w) + wt c w < L c then updG L c (L (b c w) + wt c w) else L
def rcG (b wt : Int → Int → Int) (L : Int → Int) (c : Int) : Nat → Int → Int
  | 0 => L
  | n + 1 => rlG b wt (rcG b wt L c n) c (n : Int)
def rdG (b wt : Int → Int → Int) (L : Int → Int) : Nat → Int → Int
  | 0 => L
  | n + 1 => rcG b wt (rdG b wt L n) (n : Int) 4
def itG (b wt : Int → Int → Int) (C : Nat) (L : Int → Int) : Nat → Int → Int
  | 0 => L
  | n + 1 => rdG b wt (itG b wt C L n) C
/-- what a net of sides keeps to -/
def GOK (b wt : Int → Int → Int) (C : Nat) : Prop := C ≤ 48 ∧ ∀ c w, 0 ≤ c → c < (C : Int) → 0 ≤ w → w < 4 → b c w < (C : Int) ∧ (0 ≤ b c w → 1 ≤ wt c w ∧ wt c w % 64 = 1 ∧ wt c w ≤ 64000)
def Pth (b wt : Int → Int → Int) (C : Nat) (to : Int) (L : Int → Int) : List Int → Int → Int → Prop
  | [], c, v => c = to ∧ v = 0
  | d :: r, c, v => (0 ≤ d ∧ d < (C : Int)) ∧ ∃ w, (0 ≤ w ∧ w < 4) ∧ b c w = d ∧ L d ≤ v - wt c w ∧ Pth b wt C to L r d (v - wt c w)
def ndL : List Int → Prop
  | [] => True
  | x :: r => (∀ y ∈ r, y ≠ x) ∧ ndL r
def PI (b wt : Int → Int → Int) (C : Nat) (to : Int) (L : Int → Int) (c : Int) : Prop := ∃ l, Pth b wt C to L l c (L c) ∧ ndL (c :: l)
def GI (b wt : Int → Int → Int) (C : Nat) (to : Int) (L : Int → Int) : Prop := (0 ≤ to ∧ to < (C : Int) ∧ L to = 0) ∧ ∀ c, 0 ≤ c → c < (C : Int) → 0 ≤ L c ∧ L c ≤ BIG ∧ (L c < BIG → PI b wt C to L c)
variable {C : Nat} {to : Int}
theorem Pth.mono {L L' : Int → Int} (h : ∀ x, L' x ≤ L x) : ∀ {l : List Int} {c v : Int}, Pth b wt C to L l c v → Pth b wt C to L' l c v := by
  intro l
  induction l with
  | nil => intro c v p; exact p
  | cons d r ih =>
    intro c v p
    obtain ⟨p1, w, p2, p3, p4, p5⟩ := p
    exact ⟨p1, w, p2, p3, Int.le_trans (h d) p4, ih p5⟩
theorem Pth.sub (hG : GOK b wt C) {L : Int → Int} : ∀ {l : List Int} {c v x : Int}, 0 ≤ c → c < (C : Int) → Pth b wt C to L l c v → x ∈ l → L x ≤ v - 1 := by
  intro l
  induction l with
  | nil => intro c v x _ _ _ hx; cases hx
  | cons d r ih =>
    intro c v x c0 c1 p hx
    obtain ⟨p1, w, p2, p3, p4, p5⟩ := p
    have hw := (hG.2 c w c0 c1 p2.1 p2.2).2 (by omega)
    cases hx with
    | head => omega
    | tail _ hx => have := ih p1.1 p1.2 p5 hx; omega
theorem Pth.len (hG : GOK b wt C) {L : Int → Int} : ∀ {l : List Int} {c v : Int}, 0 ≤ c → c < (C : Int) → Pth b wt C to L l c v → (l.length : Int) ≤ v ∧ v % 64 = (l.length : Int) % 64 := by
  intro l
  induction l with
  | nil => intro c v _ _ p; rw [p.2]; exact ⟨by simp, by simp⟩
  | cons d r ih =>
    intro c v c0 c1 p
    obtain ⟨p1, w, p2, p3, p4, p5⟩ := p
    have hw := (hG.2 c w c0 c1 p2.1 p2.2).2 (by omega)
    have := ih p1.1 p1.2 p5
    simp only [List.length_cons]
    omega
theorem Pth.mem {L : Int → Int} : ∀ {l : List Int} {c v x : Int}, Pth b wt C to L l c v → x ∈ l → 0 ≤ x ∧ x < (C : Int) := by
  intro l
  induction l with
  | nil => intro c v x _ hx; cases hx
  | cons d r ih =>
    intro c v x p hx
    obtain ⟨p1, w, p2, p3, p4, p5⟩ := p
    cases hx with
    | head => exact p1
    | tail _ hx => exact ih p5 hx
theorem ndL_len : ∀ {l : List Int} {N : Nat}, ndL l → (∀ x ∈ l, 0 ≤ x ∧ x < (N : Int)) → l.length ≤ N := by
  intro l N h hr
  have mem : ∀ (l : List Int) (a : Nat), a < l.length → l.getD a 0 ∈ l := by
    intro l
    induction l with
    | nil => intro a ha; simp at ha
    | cons x r ih =>
      intro a ha
      cases a with
      | zero => simp
      | succ a =>
        simp only [List.getD_cons_succ]
        exact List.mem_cons_of_mem _ (ih a (by simp at ha; omega))
  have inj : ∀ (l : List Int), ndL l → ∀ a b : Nat, a < l.length → b < l.length → l.getD a 0 = l.getD b 0 → a = b := by
    intro l
    induction l with
    | nil => intro _ a b ha; simp at ha
    | cons x r ih =>
      intro h a b ha hb e
      cases a with
      | zero =>
        cases b with
        | zero => rfl
        | succ b =>
          simp only [List.getD_cons_succ, List.getD_cons_zero] at e
          exact absurd e.symm (h.1 _ (mem r b (by simp at hb; omega)))
      | succ a =>
        cases b with
        | zero =>
          simp only [List.getD_cons_succ, List.getD_cons_zero] at e
          exact absurd e (h.1 _ (mem r a (by simp at ha; omega)))
        | succ b =>
          simp only [List.getD_cons_succ] at e
          have := ih h.2 a b (by simp at ha; omega) (by simp at hb; omega) e
          omega
  exact pigeon N l.length (fun a => (l.getD a 0).toNat) (fun a ha => by have := hr _ (mem l a ha); omega) (fun a b ha hb e => by
    have h1 := hr _ (mem l a ha)
    have h2 := hr _ (mem l b hb)
    exact inj l h a b ha hb (by omega))
/-- few steps -/
theorem GI.far (hG : GOK b wt C) {L : Int → Int} (h : GI b wt C to L) {c : Int} (c0 : 0 ≤ c) (c1 : c < (C : Int)) (hb : L c < BIG) : L c % 64 ≤ 47 ∧ ∃ l, Pth b wt C to L l c (L c) ∧ ndL (c :: l) ∧ L c % 64 = (l.length : Int) := by
  obtain ⟨l, p, n⟩ := (h.2 c c0 c1).2.2 hb
  have hl := p.len hG c0 c1
  have := ndL_len (N := C) n (fun x hx => by
    cases hx with
    | head => exact ⟨c0, c1⟩
    | tail _ hx => exact p.mem hx)
  have hC := hG.1
  simp only [List.length_cons] at this
  exact ⟨by omega, l, p, n, by omega⟩
theorem rlG_le (L : Int → Int) (c w x : Int) : rlG b wt L c w x ≤ L x := by
  unfold rlG
  split
  · unfold updG
    split
    · rename_i h e; rw [e]; omega
    · omega
  · omega
theorem rcG_le (L : Int → Int) (c x : Int) : ∀ n : Nat, rcG b wt L c n x ≤ L x := by
  intro n
  induction n with
  | zero => exact Int.le_refl _
  | succ n ih => rw [rcG]; exact Int.le_trans (rlG_le _ _ _ _) ih
theorem rdG_le (L : Int → Int) (x : Int) : ∀ n : Nat, rdG b wt L n x ≤ L x := by
  intro n
  induction n with
  | zero => exact Int.le_refl _
  | succ n ih => rw [rdG]; exact Int.le_trans (rcG_le _ _ _ _) ih
theorem itG_anti (L : Int → Int) (x : Int) : ∀ {n m : Nat}, n ≤ m → itG b wt C L m x ≤ itG b wt C L n x := by
  intro n m h
  induction m with
  | zero => rw [show n = 0 by omega]; exact Int.le_refl _
  | succ m ih =>
    by_cases e : n = m + 1
    · rw [e]; exact Int.le_refl _
    · rw [itG]; exact Int.le_trans (rdG_le _ _ _) (ih (by omega))
theorem rlG_GI (hG : GOK b wt C) {L : Int → Int} (h : GI b wt C to L) {c w : Int} (c0 : 0 ≤ c) (c1 : c < (C : Int)) (w0 : 0 ≤ w) (w1 : w < 4) : GI b wt C to (rlG b wt L c w) := by
  by_cases q : 0 ≤ b c w ∧ L (b c w) + wt c w < L c
  · have hg := hG.2 c w c0 c1 w0 w1
    have hw := hg.2 q.1
    have hd := h.2 (b c w) q.1 hg.1
    have hc := h.2 c c0 c1
    obtain ⟨l, p, nd⟩ := hd.2.2 (by omega)
    have hdc : b c w ≠ c := by intro e; rw [e] at q; omega
    have hto : c ≠ to := by intro e; have := h.1.2.2; rw [← e] at this; omega
    have hm := rlG_le (b := b) (wt := wt) L c w
    have hcl : c ∉ l := by
      intro e
      have := p.sub hG q.1 hg.1 e
      omega
    have eL : rlG b wt L c w = updG L c (L (b c w) + wt c w) := by unfold rlG; rw [if_pos q]
    have ec : rlG b wt L c w c = L (b c w) + wt c w := by rw [eL]; unfold updG; rw [if_pos rfl]
    have ex : ∀ x, x ≠ c → rlG b wt L c w x = L x := fun x e => by rw [eL]; unfold updG; rw [if_neg e]
    refine ⟨⟨h.1.1, h.1.2.1, by rw [ex to (fun e => hto e.symm)]; exact h.1.2.2⟩, fun x x0 x1 => ?_⟩
    by_cases e : x = c
    · subst e
      rw [ec]
      refine ⟨by omega, by omega, fun _ => ⟨b x w :: l, ?_, ?_⟩⟩
      · rw [ec]
        refine ⟨⟨q.1, hg.1⟩, w, ⟨w0, w1⟩, rfl, ?_, ?_⟩
        · rw [ex _ hdc]; omega
        · rw [show L (b x w) + wt x w - wt x w = L (b x w) by omega]
          exact p.mono hm
      · refine ⟨fun y hy => ?_, nd⟩
        cases hy with
        | head => exact hdc
        | tail _ hy => intro e; rw [e] at hy; exact hcl hy
    · rw [ex x e]
      have hx := h.2 x x0 x1
      refine ⟨hx.1, hx.2.1, fun hb => ?_⟩
      obtain ⟨l2, p2, n2⟩ := hx.2.2 hb
      exact ⟨l2, by rw [ex x e]; exact p2.mono hm, n2⟩
  · unfold rlG
    rw [if_neg q]
    exact h
theorem rcG_GI (hG : GOK b wt C) {L : Int → Int} (h : GI b wt C to L) {c : Int} (c0 : 0 ≤ c) (c1 : c < (C : Int)) : ∀ n : Nat, n ≤ 4 → GI b wt C to (rcG b wt L c n) := by
  intro n
  induction n with
  | zero => intro _; exact h
  | succ n ih => intro hn; rw [rcG]; exact rlG_GI hG (ih (by omega)) c0 c1 (by omega) (by omega)
theorem rdG_GI (hG : GOK b wt C) {L : Int → Int} (h : GI b wt C to L) : ∀ n : Nat, n ≤ C → GI b wt C to (rdG b wt L n) := by
  intro n
  induction n with
  | zero => intro _; exact h
  | succ n ih => intro hn; rw [rdG]; exact rcG_GI hG (ih (by omega)) (by omega) (by omega) 4 (Nat.le_refl _)
theorem itG_GI (hG : GOK b wt C) {L : Int → Int} (h : GI b wt C to L) : ∀ n : Nat, GI b wt C to (itG b wt C L n) := by
  intro n
  induction n with
  | zero => exact h
  | succ n ih => rw [itG]; exact rdG_GI hG ih C (Nat.le_refl _)
theorem rlG_hit (L : Int → Int) (c w : Int) (hb : 0 ≤ b c w) : rlG b wt L c w c ≤ L (b c w) + wt c w := by
  unfold rlG
  split
  · unfold updG; rw [if_pos rfl]; exact Int.le_refl _
  · omega
theorem rcG_hit (L : Int → Int) (c : Int) {w : Nat} (hb : 0 ≤ b c w) : ∀ n : Nat, w < n → rcG b wt L c n c ≤ L (b c w) + wt c w := by
  intro n
  induction n with
  | zero => intro h; omega
  | succ n ih =>
    intro h
    rw [rcG]
    by_cases e : w = n
    · subst e
      have h1 := rlG_hit (wt := wt) (rcG b wt L c w) c (w : Int) hb
      have h2 := rcG_le (b := b) (wt := wt) L c (b c w) w
      omega
    · exact Int.le_trans (rlG_le _ _ _ _) (ih (by omega))
theorem rdG_hit (L : Int → Int) {c w : Nat} (hb : 0 ≤ b c w) (hw : w < 4) : ∀ n : Nat, c < n → rdG b wt L n c ≤ L (b c w) + wt c w := by
  intro n
  induction n with
  | zero => intro h; omega
  | succ n ih =>
    intro h
    rw [rdG]
    by_cases e : c = n
    · subst e
      have h1 := rcG_hit (wt := wt) (rdG b wt L c) (c : Int) hb 4 hw
      have h2 := rdG_le (b := b) (wt := wt) L (b c w) c
      omega
    · exact Int.le_trans (rcG_le _ _ _ _) (ih (by omega))
/-- nothing leads lower -/
def Fix (b wt : Int → Int → Int) (C : Nat) (F : Int → Int) : Prop := ∀ c w, 0 ≤ c → c < (C : Int) → 0 ≤ w → w < 4 → 0 ≤ b c w → F c ≤ F (b c w) + wt c w
theorem fix_of {L : Int → Int} (h : ∀ c, 0 ≤ c → c < (C : Int) → rdG b wt L C c = L c) : Fix b wt C L := by
  intro c w c0 c1 w0 w1 hb
  obtain ⟨c, rfl⟩ : ∃ k : Nat, c = (k : Int) := ⟨c.toNat, by omega⟩
  obtain ⟨w, rfl⟩ : ∃ k : Nat, w = (k : Int) := ⟨w.toNat, by omega⟩
  have := rdG_hit (wt := wt) L hb (by omega) C (by omega)
  rw [h _ c0 c1] at this
  exact this
theorem rlG_low {L F : Int → Int} (hG : GOK b wt C) (hF : Fix b wt C F) (h : ∀ x, 0 ≤ x → x < (C : Int) → F x ≤ L x) {c w : Int} (c0 : 0 ≤ c) (c1 : c < (C : Int)) (w0 : 0 ≤ w) (w1 : w < 4) : ∀ x, 0 ≤ x → x < (C : Int) → F x ≤ rlG b wt L c w x := by
  intro x x0 x1
  unfold rlG
  split
  · rename_i q
    unfold updG
    split
    · rename_i e
      rw [e]
      have h1 := hF c w c0 c1 w0 w1 q.1
      have h2 := h (b c w) q.1 (hG.2 c w c0 c1 w0 w1).1
      omega
    · exact h x x0 x1
  · exact h x x0 x1
theorem rcG_low {L F : Int → Int} (hG : GOK b wt C) (hF : Fix b wt C F) (h : ∀ x, 0 ≤ x → x < (C : Int) → F x ≤ L x) {c : Int} (c0 : 0 ≤ c) (c1 : c < (C : Int)) : ∀ n : Nat, n ≤ 4 → ∀ x, 0 ≤ x → x < (C : Int) → F x ≤ rcG b wt L c n x := by
  intro n
  induction n with
  | zero => intro _; exact h
  | succ n ih => intro hn; rw [rcG]; exact rlG_low hG hF (ih (by omega)) c0 c1 (by omega) (by omega)
theorem rdG_low {L F : Int → Int} (hG : GOK b wt C) (hF : Fix b wt C F) (h : ∀ x, 0 ≤ x → x < (C : Int) → F x ≤ L x) : ∀ n : Nat, n ≤ C → ∀ x, 0 ≤ x → x < (C : Int) → F x ≤ rdG b wt L n x := by
  intro n
  induction n with
  | zero => intro _; exact h
  | succ n ih => intro hn; rw [rdG]; exact rcG_low hG hF (ih (by omega)) (by omega) (by omega) 4 (Nat.le_refl _)
theorem itG_low {L F : Int → Int} (hG : GOK b wt C) (hF : Fix b wt C F) (h : ∀ x, 0 ≤ x → x < (C : Int) → F x ≤ L x) : ∀ n : Nat, ∀ x, 0 ≤ x → x < (C : Int) → F x ≤ itG b wt C L n x := by
  intro n
  induction n with
  | zero => exact h
  | succ n ih => rw [itG]; exact rdG_low hG hF ih C (Nat.le_refl _)
theorem itG_shift (L : Int → Int) : ∀ n : Nat, itG b wt C L (n + 1) = itG b wt C (rdG b wt L C) n := by
  intro n
  induction n with
  | zero => rfl
  | succ n ih => rw [itG, ih]; rfl
def smG (L : Int → Int) : Nat → Int
  | 0 => 0
  | n + 1 => smG L n + L (n : Int)
theorem smG_le {L L' : Int → Int} (h : ∀ x, L' x ≤ L x) : ∀ n : Nat, smG L' n ≤ smG L n := by
  intro n
  induction n with
  | zero => exact Int.le_refl _
  | succ n ih => have := h (n : Int); rw [smG, smG]; omega
theorem smG_lt {L L' : Int → Int} (h : ∀ x, L' x ≤ L x) {c : Nat} (hc : L' c < L c) : ∀ n : Nat, c < n → smG L' n < smG L n := by
  intro n
  induction n with
  | zero => intro h; omega
  | succ n ih =>
    intro hn
    rw [smG, smG]
    by_cases e : c = n
    · subst e
      have := smG_le h c
      omega
    · have := ih (by omega)
      have := h (n : Int)
      omega
theorem smG_nn {L : Int → Int} (h : ∀ x, 0 ≤ x → x < (C : Int) → 0 ≤ L x) : ∀ n : Nat, n ≤ C → 0 ≤ smG L n := by
  intro n
  induction n with
  | zero => intro _; exact Int.le_refl _
  | succ n ih => intro hn; have := ih (by omega); have := h (n : Int) (by omega) (by omega); rw [smG]; omega
theorem it_end (hG : GOK b wt C) : ∀ (S : Nat) (L : Int → Int), GI b wt C to L → smG L C ≤ (S : Int) → ∃ n, ∀ c, 0 ≤ c → c < (C : Int) → rdG b wt (itG b wt C L n) C c = itG b wt C L n c := by
  intro S
  induction S with
  | zero =>
    intro L h hs
    refine ⟨0, fun c c0 c1 => ?_⟩
    by_cases e : rdG b wt L C c = L c
    · exact e
    · exfalso
      have hl := rdG_le (b := b) (wt := wt) L c C
      have h2 := smG_lt (fun x => rdG_le (b := b) (wt := wt) L x C) (c := c.toNat) (by rw [Int.toNat_of_nonneg c0]; omega) C (by omega)
      have h3 := smG_nn (C := C) (L := rdG b wt L C) (fun x x0 x1 => ((rdG_GI hG h C (Nat.le_refl _)).2 x x0 x1).1) C (Nat.le_refl _)
      omega
  | succ S ih =>
    intro L h hs
    by_cases q : ∀ c, 0 ≤ c → c < (C : Int) → rdG b wt L C c = L c
    · exact ⟨0, q⟩
    · have : ∃ c, 0 ≤ c ∧ c < (C : Int) ∧ rdG b wt L C c ≠ L c := by
        apply Classical.byContradiction
        intro hn
        exact q (fun c c0 c1 => Classical.byContradiction fun e => hn ⟨c, c0, c1, e⟩)
      obtain ⟨c, c0, c1, e⟩ := this
      have hl := rdG_le (b := b) (wt := wt) L c C
      have h2 := smG_lt (fun x => rdG_le (b := b) (wt := wt) L x C) (c := c.toNat) (by rw [Int.toNat_of_nonneg c0]; omega) C (by omega)
      obtain ⟨n, hn⟩ := ih (rdG b wt L C) (rdG_GI hG h C (Nat.le_refl _)) (by omega)
      exact ⟨n + 1, by rw [itG_shift]; exact hn⟩
/-- after 47 rounds nothing changes -/
theorem it_conv (hG : GOK b wt C) {L : Int → Int} (h : GI b wt C to L) : Fix b wt C (itG b wt C L 47) ∧ ∀ j, 47 ≤ j → ∀ c, 0 ≤ c → c < (C : Int) → itG b wt C L j c = itG b wt C L 47 c := by
  obtain ⟨n, hn⟩ := it_end hG (smG L C).toNat L h (by have := smG_nn (C := C) (fun x x0 x1 => (h.2 x x0 x1).1) C (Nat.le_refl _); omega)
  have hF := fix_of hn
  have hg := itG_GI hG h n
  have low := itG_low (L := L) hG hF (fun x x0 x1 => itG_anti (b := b) (wt := wt) (C := C) L x (Nat.zero_le n))
  have reach : ∀ (k : Nat) (c : Int), 0 ≤ c → c < (C : Int) → itG b wt C L n c < BIG → itG b wt C L n c % 64 ≤ (k : Int) → itG b wt C L k c ≤ itG b wt C L n c := by
    intro k
    induction k with
    | zero =>
      intro c c0 c1 hb hk
      obtain ⟨f1, l, p, nd, e⟩ := hg.far hG c0 c1 hb
      match l, p, e with
      | [], p, e =>
        rw [p.2, p.1]
        show L to ≤ 0
        rw [h.1.2.2]
        exact Int.le_refl _
      | d :: r, p, e => simp only [List.length_cons] at e; omega
    | succ k ih =>
      intro c c0 c1 hb hk
      by_cases q : itG b wt C L n c % 64 ≤ (k : Int)
      · exact Int.le_trans (itG_anti L c (Nat.le_succ k)) (ih c c0 c1 hb q)
      · obtain ⟨f1, l, p, nd, e⟩ := hg.far hG c0 c1 hb
        match l, p, e with
        | [], p, e => simp only [List.length_nil] at e; omega
        | d :: r, p, e =>
          obtain ⟨p1, w, p2, p3, p4, p5⟩ := p
          have hw := (hG.2 c w c0 c1 p2.1 p2.2)
          have hw2 := hw.2 (by omega)
          have hfx := hF c w c0 c1 p2.1 p2.2 (by omega)
          rw [p3] at hfx
          have hi := ih d p1.1 p1.2 (by omega) (by omega)
          obtain ⟨c, rfl⟩ : ∃ k : Nat, c = (k : Int) := ⟨c.toNat, by omega⟩
          obtain ⟨w, rfl⟩ : ∃ k : Nat, w = (k : Int) := ⟨w.toNat, by omega⟩
          have hh := rdG_hit (b := b) (wt := wt) (itG b wt C L k) (c := c) (w := w) (by omega) (by omega) C (by omega)
          rw [p3] at hh
          rw [itG]
          omega
  have all : ∀ j, 47 ≤ j → ∀ c, 0 ≤ c → c < (C : Int) → itG b wt C L j c = itG b wt C L n c := by
    intro j hj c c0 c1
    have hl := low j c c0 c1
    by_cases hb : itG b wt C L n c < BIG
    · have := reach 47 c c0 c1 hb (hg.far hG c0 c1 hb).1
      have := itG_anti (b := b) (wt := wt) (C := C) L c hj
      omega
    · have := ((itG_GI hG h j).2 c c0 c1).2.1
      have := (hg.2 c c0 c1).2.1
      omega
  refine ⟨fun c w c0 c1 w0 w1 hb => ?_, fun j hj c c0 c1 => (all j hj c c0 c1).trans (all 47 (Nat.le_refl _) c c0 c1).symm⟩
  rw [all 47 (Nat.le_refl _) c c0 c1, all 47 (Nat.le_refl _) _ hb (hG.2 c w c0 c1 w0 w1).1]
  exact hF c w c0 c1 w0 w1 hb
/-! the way back -/
def mtG (b wt : Int → Int → Int) (F : Int → Int) (c w : Int) : Prop := 0 ≤ b c w ∧ F (b c w) + wt c w = F c
/-- the first side that leads nearer -/
def ndG (b wt : Int → Int → Int) (F : Int → Int) (c : Int) : Int := if 0 ≤ b c 0 ∧ F (b c 0) + wt c 0 = F c then 0 else if 0 ≤ b c 1 ∧ F (b c 1) + wt c 1 = F c then 1 else if 0 ≤ b c 2 ∧ F (b c 2) + wt c 2 = F c then 2 else 3
def tkG (b wt : Int → Int → Int) (F : Int → Int) (c : Int) : Nat → Int
  | 0 => c
  | n + 1 => b (tkG b wt F c n) (ndG b wt F (tkG b wt F c n))
theorem nd_some (hG : GOK b wt C) {F : Int → Int} (h : GI b wt C to F) (hF : Fix b wt C F) {c : Int} (c0 : 0 ≤ c) (c1 : c < (C : Int)) (hb : F c < BIG) (hne : F c ≠ 0) : (0 ≤ ndG b wt F c ∧ ndG b wt F c < 4) ∧ mtG b wt F c (ndG b wt F c) ∧ ∀ w, 0 ≤ w → w < ndG b wt F c → ¬ mtG b wt F c w := by
  obtain ⟨f1, l, p, nd, e⟩ := h.far hG c0 c1 hb
  have ex : ∃ w, (0 ≤ w ∧ w < 4) ∧ mtG b wt F c w := by
    match l, p with
    | [], p => exact absurd p.2 hne
    | d :: r, p =>
      obtain ⟨p1, w, p2, p3, p4, p5⟩ := p
      have hfx := hF c w c0 c1 p2.1 p2.2 (by omega)
      refine ⟨w, p2, by rw [p3]; exact p1.1, ?_⟩
      rw [p3] at hfx ⊢
      omega
  obtain ⟨w, hw, hm⟩ := ex
  unfold ndG
  by_cases m0 : 0 ≤ b c 0 ∧ F (b c 0) + wt c 0 = F c
  · rw [if_pos m0]; exact ⟨by omega, m0, fun w a b => by omega⟩
  · rw [if_neg m0]
    have n0 : ∀ w, 0 ≤ w → w < 1 → ¬ mtG b wt F c w := fun w a b => by
      have : w = 0 := by omega
      rw [this]; exact m0
    by_cases m1 : 0 ≤ b c 1 ∧ F (b c 1) + wt c 1 = F c
    · rw [if_pos m1]; exact ⟨by omega, m1, n0⟩
    · rw [if_neg m1]
      have n1 : ∀ w, 0 ≤ w → w < 2 → ¬ mtG b wt F c w := fun w a b => by
        by_cases e : w = 1
        · rw [e]; exact m1
        · exact n0 w a (by omega)
      by_cases m2 : 0 ≤ b c 2 ∧ F (b c 2) + wt c 2 = F c
      · rw [if_pos m2]; exact ⟨by omega, m2, n1⟩
      · rw [if_neg m2]
        have n2 : ∀ w, 0 ≤ w → w < 3 → ¬ mtG b wt F c w := fun w a b => by
          by_cases e : w = 2
          · rw [e]; exact m2
          · exact n1 w a (by omega)
        refine ⟨by omega, ?_, n2⟩
        have : w = 3 := by
          by_cases q : w < 3
          · exact absurd hm (n2 w hw.1 q)
          · omega
        rw [this] at hm
        exact hm
theorem F_zero (hG : GOK b wt C) {F : Int → Int} (h : GI b wt C to F) {c : Int} (c0 : 0 ≤ c) (c1 : c < (C : Int)) : F c = 0 ↔ c = to := by
  constructor
  · intro e
    obtain ⟨f1, l, p, nd, e2⟩ := h.far hG c0 c1 (by rw [e]; decide)
    match l, p, e2 with
    | [], p, _ => exact p.1
    | d :: r, p, e2 => simp only [List.length_cons] at e2; omega
  · intro e; rw [e]; exact h.1.2.2
/-- step by step nearer -/
theorem tk_facts (hG : GOK b wt C) {F : Int → Int} (h : GI b wt C to F) (hF : Fix b wt C F) {c : Int} (c0 : 0 ≤ c) (c1 : c < (C : Int)) (hb : F c < BIG) : ∀ n : Nat, (n : Int) ≤ F c % 64 → (0 ≤ tkG b wt F c n ∧ tkG b wt F c n < (C : Int)) ∧ F (tkG b wt F c n) ≤ F c ∧ F (tkG b wt F c n) % 64 = F c % 64 - (n : Int) := by
  intro n
  induction n with
  | zero => intro _; exact ⟨⟨c0, c1⟩, Int.le_refl _, by show F c % 64 = _; omega⟩
  | succ n ih =>
    intro hn
    obtain ⟨g1, g2, g3⟩ := ih (by omega)
    have f := h.far hG g1.1 g1.2 (by omega)
    have nx := nd_some hG h hF g1.1 g1.2 (by omega) (by intro e; rw [e] at g3; omega)
    have hw := hG.2 _ _ g1.1 g1.2 nx.1.1 nx.1.2
    have hw2 := hw.2 nx.2.1.1
    have hm := nx.2.1.2
    have hnn := (h.2 _ nx.2.1.1 hw.1).1
    rw [tkG]
    exact ⟨⟨nx.2.1.1, hw.1⟩, by omega, by omega⟩
/-- in the end: there -/
theorem tk_end (hG : GOK b wt C) {F : Int → Int} (h : GI b wt C to F) (hF : Fix b wt C F) {c : Int} (c0 : 0 ≤ c) (c1 : c < (C : Int)) (hb : F c < BIG) {n : Nat} (hn : (n : Int) ≤ F c % 64) : F (tkG b wt F c n) = 0 ↔ (n : Int) = F c % 64 := by
  obtain ⟨g1, g2, g3⟩ := tk_facts hG h hF c0 c1 hb n hn
  constructor
  · intro e; rw [e] at g3; omega
  · intro e
    obtain ⟨f1, l, p, nd, e2⟩ := h.far hG g1.1 g1.2 (by omega)
    match l, p, e2 with
    | [], p, _ => exact p.2
    | d :: r, p, e2 => simp only [List.length_cons] at e2; omega
end GRAPH
