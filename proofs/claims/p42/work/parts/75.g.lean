section
/-! ===== least ways over a few cells: rounds of one row of numbers ===== -/
def BIG : Int := 100000000
def updG (L : Int → Int) (c v : Int) : Int → Int := fun x => if x = c then v else L x
section GRAPH
variable {b wt : Int → Int → Int}
def rlG (b wt : Int → Int → Int) (L : Int → Int) (c w : Int) : Int → Int := if 0 ≤ b c w ∧ L (b c w) + wt c w < L c then updG L c (L (b c w) + wt c w) else L
def rcG (b wt : Int → Int → Int) (L : Int → Int) (c : Int) : Nat → Int → Int
  | 0 => L
  | n + 1 => rlG b wt (rcG b wt L c n) c (n : Int)
def rdG (b wt : Int → Int → Int) (L : Int → Int) : Nat → Int → Int
  | 0 => L
  | n + 1 => rcG b wt (rdG b wt L n) (n : Int) 4
def itG (b wt : Int → Int → Int) (C : Nat) (L : Int → Int) : Nat → Int → Int
  | 0 => L
  | n + 1 => rdG b wt (itG b wt C L n) C
/-- what a net of sides keeps to -/
def GOK (b wt : Int → Int → Int) (C : Nat) : Prop := C ≤ 48 ∧ ∀ c w, 0 ≤ c → c < (C : Int) → 0 ≤ w → w < 4 → b c w < (C : Int) ∧ (0 ≤ b c w → 1 ≤ wt c w ∧ wt c w % 64 = 1 ∧ wt c w ≤ 64000)
def Pth (b wt : Int → Int → Int) (C : Nat) (to : Int) (L : Int → Int) : List Int → Int → Int → Prop
  | [], c, v => c = to ∧ v = 0
  | d :: r, c, v => (0 ≤ d ∧ d < (C : Int)) ∧ ∃ w, (0 ≤ w ∧ w < 4) ∧ b c w = d ∧ L d ≤ v - wt c w ∧ Pth b wt C to L r d (v - wt c w)
def ndL : List Int → Prop
  | [] => True
  | x :: r => (∀ y ∈ r, y ≠ x) ∧ ndL r
def PI (b wt : Int → Int → Int) (C : Nat) (to : Int) (L : Int → Int) (c : Int) : Prop := ∃ l, Pth b wt C to L l c (L c) ∧ ndL (c :: l)
def GI (b wt : Int → Int → Int) (C : Nat) (to : Int) (L : Int → Int) : Prop := (0 ≤ to ∧ to < (C : Int) ∧ L to = 0) ∧ ∀ c, 0 ≤ c → c < (C : Int) → 0 ≤ L c ∧ L c ≤ BIG ∧ (L c < BIG → PI b wt C to L c)
variable {C : Nat} {to : Int}
theorem Pth.mono {L L' : Int → Int} (h : ∀ x, L' x ≤ L x) : ∀ {l : List Int} {c v : Int}, Pth b wt C to L l c v → Pth b wt C to L' l c v := by
  intro l
  induction l with
  | nil => intro c v p; exact p
  | cons d r ih =>
    intro c v p
    obtain ⟨p1, w, p2, p3, p4, p5⟩ := p
    exact ⟨p1, w, p2, p3, Int.le_trans (h d) p4, ih p5⟩
theorem Pth.sub (hG : GOK b wt C) {L : Int → Int} : ∀ {l : List Int} {c v x : Int}, 0 ≤ c → c < (C : Int) → Pth b wt C to L l c v → x ∈ l → L x ≤ v - 1 := by
  intro l
  induction l with
  | nil => intro c v x _ _ _ hx; cases hx
  | cons d r ih =>
    intro c v x c0 c1 p hx
    obtain ⟨p1, w, p2, p3, p4, p5⟩ := p
    have hw := (hG.2 c w c0 c1 p2.1 p2.2).2 (by omega)
    cases hx with
    | head => omega
    | tail _ hx => have := ih p1.1 p1.2 p5 hx; omega
theorem Pth.len (hG : GOK b wt C) {L : Int → Int} : ∀ {l : List Int} {c v : Int}, 0 ≤ c → c < (C : Int) → Pth b wt C to L l c v → (l.length : Int) ≤ v ∧ v % 64 = (l.length : Int) % 64 := by
  intro l
  induction l with
  | nil => intro c v _ _ p; rw [p.2]; exact ⟨by simp, by simp⟩
  | cons d r ih =>
    intro c v c0 c1 p
    obtain ⟨p1, w, p2, p3, p4, p5⟩ := p
    have hw := (hG.2 c w c0 c1 p2.1 p2.2).2 (by omega)
    have := ih p1.1 p1.2 p5
    simp only [List.length_cons]
    omega
theorem Pth.mem {L : Int → Int} : ∀ {l : List Int} {c v x : Int}, Pth b wt C to L l c v → x ∈ l → 0 ≤ x ∧ x < (C : Int) := by
  intro l
  induction l with
  | nil => intro c v x _ hx; cases hx
  | cons d r ih =>
    intro c v x p hx
    obtain ⟨p1, w, p2, p3, p4, p5⟩ := p
    cases hx with
    | head => exact p1
    | tail _ hx => exact ih p5 hx
theorem ndL_len : ∀ {l : List Int} {N : Nat}, ndL l → (∀ x ∈ l, 0 ≤ x ∧ x < (N : Int)) → l.length ≤ N := by
  intro l N h hr
  have mem : ∀ (l : List Int) (a : Nat), a < l.length → l.getD a 0 ∈ l := by
    intro l
    induction l with
    | nil => intro a ha; simp at ha
    | cons x r ih =>
      intro a ha
      cases a with
      | zero => simp
      | succ a =>
        simp only [List.getD_cons_succ]
        exact List.mem_cons_of_mem _ (ih a (by simp at ha; omega))
  have inj : ∀ (l : List Int), ndL l → ∀ a b : Nat, a < l.length → b < l.length → l.getD a 0 = l.getD b 0 → a = b := by
    intro l
    induction l with
    | nil => intro _ a b ha; simp at ha
    | cons x r ih =>
      intro h a b ha hb e
      cases a with
      | zero =>
        cases b with
        | zero => rfl
        | succ b =>
          simp only [List.getD_cons_succ, List.getD_cons_zero] at e
          exact absurd e.symm (h.1 _ (mem r b (by simp at hb; omega)))
      | succ a =>
        cases b with
        | zero =>
          simp only [List.getD_cons_succ, List.getD_cons_zero] at e
          exact absurd e (h.1 _ (mem r a (by simp at ha; omega)))
        | succ b =>
          simp only [List.getD_cons_succ] at e
          have := ih h.2 a b (by simp at ha; omega) (by simp at hb; omega) e
          omega
  exact pigeon N l.length (fun a => (l.getD a 0).toNat) (fun a ha => by have := hr _ (mem l a ha); omega) (fun a b ha hb e => by
    have h1 := hr _ (mem l a ha)
    have h2 := hr _ (mem l b hb)
    exact inj l h a b ha hb (by omega))
/-- few steps -/
theorem GI.far (hG : GOK b wt C) {L : Int → Int} (h : GI b wt C to L) {c : Int} (c0 : 0 ≤ c) (c1 : c < (C : Int)) (hb : L c < BIG) : L c % 64 ≤ 47 ∧ ∃ l, Pth b wt C to L l c (L c) ∧ ndL (c :: l) ∧ L c % 64 = (l.length : Int) := by
  obtain ⟨l, p, n⟩ := (h.2 c c0 c1).2.2 hb
  have hl := p.len hG c0 c1
  have := ndL_len (N := C) n (fun x hx => by
    cases hx with
    | head => exact ⟨c0, c1⟩
    | tail _ hx => exact p.mem hx)
  have hC := hG.1
  simp only [List.length_cons] at this
  exact ⟨by omega, l, p, n, by omega⟩
theorem rlG_le (L : Int → Int) (c w x : Int) : rlG b wt L c w x ≤ L x := by
  unfold rlG
  split
  · unfold updG
    split
    · rename_i h e; rw [e]; omega
    · omega
  · omega
theorem rcG_le (L : Int → Int) (c x : Int) : ∀ n : Nat, rcG b wt L c n x ≤ L x := by
  intro n
  induction n with
  | zero => exact Int.le_refl _
  | succ n ih => rw [rcG]; exact Int.le_trans (rlG_le _ _ _ _) ih
theorem rdG_le (L : Int → Int) (x : Int) : ∀ n : Nat, rdG b wt L n x ≤ L x := by
  intro n
  induction n with
  | zero => exact Int.le_refl _
  | succ n ih => rw [rdG]; exact Int.le_trans (rcG_le _ _ _ _) ih
theorem itG_anti (L : Int → Int) (x : Int) : ∀ {n m : Nat}, n ≤ m → itG b wt C L m x ≤ itG b wt C L n x := by
  intro n m h
  induction m with
  | zero => rw [show n = 0 by omega]; exact Int.le_refl _
  | succ m ih =>
    by_cases e : n = m + 1
    · rw [e]; exact Int.le_refl _
    · rw [itG]; exact Int.le_trans (rdG_le _ _ _) (ih (by omega))
theorem rlG_GI (hG : GOK b wt C) {L : Int → Int} (h : GI b wt C to L) {c w : Int} (c0 : 0 ≤ c) (c1 : c < (C : Int)) (w0 : 0 ≤ w) (w1 : w < 4) : GI b wt C to (rlG b wt L c w) := by
  by_cases q : 0 ≤ b c w ∧ L (b c w) + wt c w < L c
  · have hg := hG.2 c w c0 c1 w0 w1
    have hw := hg.2 q.1
    have hd := h.2 (b c w) q.1 hg.1
    have hc := h.2 c c0 c1
    obtain ⟨l, p, nd⟩ := hd.2.2 (by omega)
    have hdc : b c w ≠ c := by intro e; rw [e] at q; omega
    have hto : c ≠ to := by intro e; have := h.1.2.2; rw [← e] at this; omega
    have hm := rlG_le (b := b) (wt := wt) L c w
    have hcl : c ∉ l := by
      intro e
      have := p.sub hG q.1 hg.1 e
      omega
    have eL : rlG b wt L c w = updG L c (L (b c w) + wt c w) := by unfold rlG; rw [if_pos q]
    have ec : rlG b wt L c w c = L (b c w) + wt c w := by rw [eL]; unfold updG; rw [if_pos rfl]
    have ex : ∀ x, x ≠ c → rlG b wt L c w x = L x := fun x e => by rw [eL]; unfold updG; rw [if_neg e]
    refine ⟨⟨h.1.1, h.1.2.1, by rw [ex to (fun e => hto e.symm)]; exact h.1.2.2⟩, fun x x0 x1 => ?_⟩
    by_cases e : x = c
    · subst e
      rw [ec]
      refine ⟨by omega, by omega, fun _ => ⟨b x w :: l, ?_, ?_⟩⟩
      · rw [ec]
        refine ⟨⟨q.1, hg.1⟩, w, ⟨w0, w1⟩, rfl, ?_, ?_⟩
        · rw [ex _ hdc]; omega
        · rw [show L (b x w) + wt x w - wt x w = L (b x w) by omega]
          exact p.mono hm
      · refine ⟨fun y hy => ?_, nd⟩
        cases hy with
        | head => exact hdc
        | tail _ hy => intro e; rw [e] at hy; exact hcl hy
    · rw [ex x e]
      have hx := h.2 x x0 x1
      refine ⟨hx.1, hx.2.1, fun hb => ?_⟩
      obtain ⟨l2, p2, n2⟩ := hx.2.2 hb
      exact ⟨l2, by rw [ex x e]; exact p2.mono hm, n2⟩
  · unfold rlG
    rw [if_neg q]
    exact h
theorem rcG_GI (hG : GOK b wt C) {L : Int → Int} (h : GI b wt C to L) {c : Int} (c0 : 0 ≤ c) (c1 : c < (C : Int)) : ∀ n : Nat, n ≤ 4 → GI b wt C to (rcG b wt L c n) := by
  intro n
  induction n with
  | zero => intro _; exact h
  | succ n ih => intro hn; rw [rcG]; exact rlG_GI hG (ih (by omega)) c0 c1 (by omega) (by omega)
theorem rdG_GI (hG : GOK b wt C) {L : Int → Int} (h : GI b wt C to L) : ∀ n : Nat, n ≤ C → GI b wt C to (rdG b wt L n) := by
  intro n
  induction n with
  | zero => intro _; exact h
  | succ n ih => intro hn; rw [rdG]; exact rcG_GI hG (ih (by omega)) (by omega) (by omega) 4 (Nat.le_refl _)
theorem itG_GI (hG : GOK b wt C) {L : Int → Int} (h : GI b wt C to L) : ∀ n : Nat, GI b wt C to (itG b wt C L n) := by
  intro n
  induction n with
  | zero => exact h
  | succ n ih => rw [itG]; exact rdG_GI hG ih C (Nat.le_refl _)
theorem rlG_hit (L : Int → Int) (c w : Int) (hb : 0 ≤ b c w) : rlG b wt L c w c ≤ L (b c w) + wt c w := by
  unfold rlG
  split
  · unfold updG; rw [if_pos rfl]; exact Int.le_refl _
  · omega
theorem rcG_hit (L : Int → Int) (c : Int) {w : Nat} (hb : 0 ≤ b c w) : ∀ n : Nat, w < n → rcG b wt L c n c ≤ L (b c w) + wt c w := by
  intro n
  induction n with
  | zero => intro h; omega
  | succ n ih =>
    intro h
    rw [rcG]
    by_cases e : w = n
    · subst e
      have h1 := rlG_hit (wt := wt) (rcG b wt L c w) c (w : Int) hb
      have h2 := rcG_le (b := b) (wt := wt) L c (b c w) w
      omega
    · exact Int.le_trans (rlG_le _ _ _ _) (ih (by omega))
theorem rdG_hit (L : Int → Int) {c w : Nat} (hb : 0 ≤ b c w) (hw : w < 4) : ∀ n : Nat, c < n → rdG b wt L n c ≤ L (b c w) + wt c w := by
  intro n
  induction n with
  | zero => intro h; omega
  | succ n ih =>
    intro h
    rw [rdG]
    by_cases e : c = n
    · subst e
      have h1 := rcG_hit (wt := wt) (rdG b wt L c) (c : Int) hb 4 hw
      have h2 := rdG_le (b := b) (wt := wt) L (b c w) c
      omega
    · exact Int.le_trans (rcG_le _ _ _ _) (ih (by omega))
/-- nothing leads lower -/
def Fix (b wt : Int → Int → Int) (C : Nat) (F : Int → Int) : Prop := ∀ c w, 0 ≤ c → c < (C : Int) → 0 ≤ w → w < 4 → 0 ≤ b c w → F c ≤ F (b c w) + wt c w
theorem fix_of {L : Int → Int} (h : ∀ c, 0 ≤ c → c < (C : Int) → rdG b wt L C c = L c) : Fix b wt C L := by
  intro c w c0 c1 w0 w1 hb
  obtain ⟨c, rfl⟩ : ∃ k : Nat, c = (k : Int) := ⟨c.toNat, by omega⟩
  obtain ⟨w, rfl⟩ : ∃ k : Nat, w = (k : Int) := ⟨w.toNat, by omega⟩
  have := rdG_hit (wt := wt) L hb (by omega) C (by omega)
  rw [h _ c0 c1] at this
  exact this
theorem rlG_low {L F : Int → Int} (hG : GOK b wt C) (hF : Fix b wt C F) (h : ∀ x, 0 ≤ x → x < (C : Int) → F x ≤ L x) {c w : Int} (c0 : 0 ≤ c) (c1 : c < (C : Int)) (w0 : 0 ≤ w) (w1 : w < 4) : ∀ x, 0 ≤ x → x < (C : Int) → F x ≤ rlG b wt L c w x := by
  intro x x0 x1
  unfold rlG
  split
  · rename_i q
    unfold updG
    split
    · rename_i e
      rw [e]
      have h1 := hF c w c0 c1 w0 w1 q.1
      have h2 := h (b c w) q.1 (hG.2 c w c0 c1 w0 w1).1
      omega
    · exact h x x0 x1
  · exact h x x0 x1
theorem rcG_low {L F : Int → Int} (hG : GOK b wt C) (hF : Fix b wt C F) (h : ∀ x, 0 ≤ x → x < (C : Int) → F x ≤ L x) {c : Int} (c0 : 0 ≤ c) (c1 : c < (C : Int)) : ∀ n : Nat, n ≤ 4 → ∀ x, 0 ≤ x → x < (C : Int) → F x ≤ rcG b wt L c n x := by
  intro n
  induction n with
  | zero => intro _; exact h
  | succ n ih => intro hn; rw [rcG]; exact rlG_low hG hF (ih (by omega)) c0 c1 (by omega) (by omega)
theorem rdG_low {L F : Int → Int} (hG : GOK b wt C) (hF : Fix b wt C F) (h : ∀ x, 0 ≤ x → x < (C : Int) → F x ≤ L x) : ∀ n : Nat, n ≤ C → ∀ x, 0 ≤ x → x < (C : Int) → F x ≤ rdG b wt L n x := by
  intro n
  induction n with
  | zero => intro _; exact h
  | succ n ih => intro hn; rw [rdG]; exact rcG_low hG hF (ih (by omega)) (by omega) (by omega) 4 (Nat.le_refl _)
theorem itG_low {L F : Int → Int} (hG : GOK b wt C) (hF : Fix b wt C F) (h : ∀ x, 0 ≤ x → x < (C : Int) → F x ≤ L x) : ∀ n : Nat, ∀ x, 0 ≤ x → x < (C : Int) → F x ≤ itG b wt C L n x := by
  intro n
  induction n with
  | zero => exact h
  | succ n ih => rw [itG]; exact rdG_low hG hF ih C (Nat.le_refl _)
theorem itG_shift (L : Int → Int) : ∀ n : Nat, itG b wt C L (n + 1) = itG b wt C (rdG b wt L C) n := by
  intro n
  induction n with
  | zero => rfl
  | succ n ih => rw [itG, ih]; rfl
def smG (L : Int → Int) : Nat → Int
  | 0 => 0
  | n + 1 => smG L n + L (n : Int)
theorem smG_le {L L' : Int → Int} (h : ∀ x, L' x ≤ L x) : ∀ n : Nat, smG L' n ≤ smG L n := by
  intro n
  induction n with
  | zero => exact Int.le_refl _
  | succ n ih => have := h (n : Int); rw [smG, smG]; omega
theorem smG_lt {L L' : Int → Int} (h : ∀ x, L' x ≤ L x) {c : Nat} (hc : L' c < L c) : ∀ n : Nat, c < n → smG L' n < smG L n := by
  intro n
  induction n with
  | zero => intro h; omega
  | succ n ih =>
    intro hn
    rw [smG, smG]
    by_cases e : c = n
    · subst e
      have := smG_le h c
      omega
    · have := ih (by omega)
      have := h (n : Int)
      omega
theorem smG_nn {L : Int → Int} (h : ∀ x, 0 ≤ x → x < (C : Int) → 0 ≤ L x) : ∀ n : Nat, n ≤ C → 0 ≤ smG L n := by
  intro n
  induction n with
  | zero => intro _; exact Int.le_refl _
  | succ n ih => intro hn; have := ih (by omega); have := h (n : Int) (by omega) (by omega); rw [smG]; omega
theorem it_end (hG : GOK b wt C) : ∀ (S : Nat) (L : Int → Int), GI b wt C to L → smG L C ≤ (S : Int) → ∃ n, ∀ c, 0 ≤ c → c < (C : Int) → rdG b wt (itG b wt C L n) C c = itG b wt C L n c := by
  intro S
  induction S with
  | zero =>
    intro L h hs
    refine ⟨0, fun c c0 c1 => ?_⟩
    by_cases e : rdG b wt L C c = L c
    · exact e
    · exfalso
      have hl := rdG_le (b := b) (wt := wt) L c C
      have h2 := smG_lt (fun x => rdG_le (b := b) (wt := wt) L x C) (c := c.toNat) (by rw [Int.toNat_of_nonneg c0]; omega) C (by omega)
      have h3 := smG_nn (C := C) (L := rdG b wt L C) (fun x x0 x1 => ((rdG_GI hG h C (Nat.le_refl _)).2 x x0 x1).1) C (Nat.le_refl _)
      omega
  | succ S ih =>
    intro L h hs
    by_cases q : ∀ c, 0 ≤ c → c < (C : Int) → rdG b wt L C c = L c
    · exact ⟨0, q⟩
    · have : ∃ c, 0 ≤ c ∧ c < (C : Int) ∧ rdG b wt L C c ≠ L c := by
        apply Classical.byContradiction
        intro hn
        exact q (fun c c0 c1 => Classical.byContradiction fun e => hn ⟨c, c0, c1, e⟩)
      obtain ⟨c, c0, c1, e⟩ := this
      have hl := rdG_le (b := b) (wt := wt) L c C
      have h2 := smG_lt (fun x => rdG_le (b := b) (wt := wt) L x C) (c := c.toNat) (by rw [Int.toNat_of_nonneg c0]; omega) C (by omega)
      obtain ⟨n, hn⟩ := ih (rdG b wt L C) (rdG_GI hG h C (Nat.le_refl _)) (by omega)
      exact ⟨n + 1, by rw [itG_shift]; exact hn⟩
/-- after 47 rounds nothing changes -/
theorem it_conv (hG : GOK b wt C) {L : Int → Int} (h : GI b wt C to L) : Fix b wt C (itG b wt C L 47) ∧ ∀ j, 47 ≤ j → ∀ c, 0 ≤ c → c < (C : Int) → itG b wt C L j c = itG b wt C L 47 c := by
  obtain ⟨n, hn⟩ := it_end hG (smG L C).toNat L h (by have := smG_nn (C := C) (fun x x0 x1 => (h.2 x x0 x1).1) C (Nat.le_refl _); omega)
  have hF := fix_of hn
  have hg := itG_GI hG h n
  have low := itG_low (L := L) hG hF (fun x x0 x1 => itG_anti (b := b) (wt := wt) (C := C) L x (Nat.zero_le n))
  have reach : ∀ (k : Nat) (c : Int), 0 ≤ c → c < (C : Int) → itG b wt C L n c < BIG → itG b wt C L n c % 64 ≤ (k : Int) → itG b wt C L k c ≤ itG b wt C L n c := by
    intro k
    induction k with
    | zero =>
      intro c c0 c1 hb hk
      obtain ⟨f1, l, p, nd, e⟩ := hg.far hG c0 c1 hb
      match l, p, e with
      | [], p, e =>
        rw [p.2, p.1]
        show L to ≤ 0
        rw [h.1.2.2]
        exact Int.le_refl _
      | d :: r, p, e => simp only [List.length_cons] at e; omega
    | succ k ih =>
      intro c c0 c1 hb hk
      by_cases q : itG b wt C L n c % 64 ≤ (k : Int)
      · exact Int.le_trans (itG_anti L c (Nat.le_succ k)) (ih c c0 c1 hb q)
      · obtain ⟨f1, l, p, nd, e⟩ := hg.far hG c0 c1 hb
        match l, p, e with
        | [], p, e => simp only [List.length_nil] at e; omega
        | d :: r, p, e =>
          obtain ⟨p1, w, p2, p3, p4, p5⟩ := p
          have hw := (hG.2 c w c0 c1 p2.1 p2.2)
          have hw2 := hw.2 (by omega)
          have hfx := hF c w c0 c1 p2.1 p2.2 (by omega)
          rw [p3] at hfx
          have hi := ih d p1.1 p1.2 (by omega) (by omega)
          obtain ⟨c, rfl⟩ : ∃ k : Nat, c = (k : Int) := ⟨c.toNat, by omega⟩
          obtain ⟨w, rfl⟩ : ∃ k : Nat, w = (k : Int) := ⟨w.toNat, by omega⟩
          have hh := rdG_hit (b := b) (wt := wt) (itG b wt C L k) (c := c) (w := w) (by omega) (by omega) C (by omega)
          rw [p3] at hh
          rw [itG]
          omega
  have all : ∀ j, 47 ≤ j → ∀ c, 0 ≤ c → c < (C : Int) → itG b wt C L j c = itG b wt C L n c := by
    intro j hj c c0 c1
    have hl := low j c c0 c1
    by_cases hb : itG b wt C L n c < BIG
    · have := reach 47 c c0 c1 hb (hg.far hG c0 c1 hb).1
      have := itG_anti (b := b) (wt := wt) (C := C) L c hj
      omega
    · have := ((itG_GI hG h j).2 c c0 c1).2.1
      have := (hg.2 c c0 c1).2.1
      omega
  refine ⟨fun c w c0 c1 w0 w1 hb => ?_, fun j hj c c0 c1 => (all j hj c c0 c1).trans (all 47 (Nat.le_refl _) c c0 c1).symm⟩
  rw [all 47 (Nat.le_refl _) c c0 c1, all 47 (Nat.le_refl _) _ hb (hG.2 c w c0 c1 w0 w1).1]
  exact hF c w c0 c1 w0 w1 hb
/-! the way back -/
def mtG (b wt : Int → Int → Int) (F : Int → Int) (c w : Int) : Prop := 0 ≤ b c w ∧ F (b c w) + wt c w = F c
/-- the first side that leads nearer -/
def ndG (b wt : Int → Int → Int) (F : Int → Int) (c : Int) : Int := if 0 ≤ b c 0 ∧ F (b c 0) + wt c 0 = F c then 0 else if 0 ≤ b c 1 ∧ F (b c 1) + wt c 1 = F c then 1 else if 0 ≤ b c 2 ∧ F (b c 2) + wt c 2 = F c then 2 else 3
def tkG (b wt : Int → Int → Int) (F : Int → Int) (c : Int) : Nat → Int
  | 0 => c
  | n + 1 => b (tkG b wt F c n) (ndG b wt F (tkG b wt F c n))
theorem nd_some (hG : GOK b wt C) {F : Int → Int} (h : GI b wt C to F) (hF : Fix b wt C F) {c : Int} (c0 : 0 ≤ c) (c1 : c < (C : Int)) (hb : F c < BIG) (hne : F c ≠ 0) : (0 ≤ ndG b wt F c ∧ ndG b wt F c < 4) ∧ mtG b wt F c (ndG b wt F c) ∧ ∀ w, 0 ≤ w → w < ndG b wt F c → ¬ mtG b wt F c w := by
  obtain ⟨f1, l, p, nd, e⟩ := h.far hG c0 c1 hb
  have ex : ∃ w, (0 ≤ w ∧ w < 4) ∧ mtG b wt F c w := by
    match l, p with
    | [], p => exact absurd p.2 hne
    | d :: r, p =>
      obtain ⟨p1, w, p2, p3, p4, p5⟩ := p
      have hfx := hF c w c0 c1 p2.1 p2.2 (by omega)
      refine ⟨w, p2, by rw [p3]; exact p1.1, ?_⟩
      rw [p3] at hfx ⊢
      omega
  obtain ⟨w, hw, hm⟩ := ex
  unfold ndG
  by_cases m0 : 0 ≤ b c 0 ∧ F (b c 0) + wt c 0 = F c
  · rw [if_pos m0]; exact ⟨by omega, m0, fun w a b => by omega⟩
  · rw [if_neg m0]
    have n0 : ∀ w, 0 ≤ w → w < 1 → ¬ mtG b wt F c w := fun w a b => by
      have : w = 0 := by omega
      rw [this]; exact m0
    by_cases m1 : 0 ≤ b c 1 ∧ F (b c 1) + wt c 1 = F c
    · rw [if_pos m1]; exact ⟨by omega, m1, n0⟩
    · rw [if_neg m1]
      have n1 : ∀ w, 0 ≤ w → w < 2 → ¬ mtG b wt F c w := fun w a b => by
        by_cases e : w = 1
        · rw [e]; exact m1
        · exact n0 w a (by omega)
      by_cases m2 : 0 ≤ b c 2 ∧ F (b c 2) + wt c 2 = F c
      · rw [if_pos m2]; exact ⟨by omega, m2, n1⟩
      · rw [if_neg m2]
        have n2 : ∀ w, 0 ≤ w → w < 3 → ¬ mtG b wt F c w := fun w a b => by
          by_cases e : w = 2
          · rw [e]; exact m2
          · exact n1 w a (by omega)
        refine ⟨by omega, ?_, n2⟩
        have : w = 3 := by
          by_cases q : w < 3
          · exact absurd hm (n2 w hw.1 q)
          · omega
        rw [this] at hm
        exact hm
theorem F_zero (hG : GOK b wt C) {F : Int → Int} (h : GI b wt C to F) {c : Int} (c0 : 0 ≤ c) (c1 : c < (C : Int)) : F c = 0 ↔ c = to := by
  constructor
  · intro e
    obtain ⟨f1, l, p, nd, e2⟩ := h.far hG c0 c1 (by rw [e]; decide)
    match l, p, e2 with
    | [], p, _ => exact p.1
    | d :: r, p, e2 => simp only [List.length_cons] at e2; omega
  · intro e; rw [e]; exact h.1.2.2
/-- step by step nearer -/
theorem tk_facts (hG : GOK b wt C) {F : Int → Int} (h : GI b wt C to F) (hF : Fix b wt C F) {c : Int} (c0 : 0 ≤ c) (c1 : c < (C : Int)) (hb : F c < BIG) : ∀ n : Nat, (n : Int) ≤ F c % 64 → (0 ≤ tkG b wt F c n ∧ tkG b wt F c n < (C : Int)) ∧ F (tkG b wt F c n) ≤ F c ∧ F (tkG b wt F c n) % 64 = F c % 64 - (n : Int) := by
  intro n
  induction n with
  | zero => intro _; exact ⟨⟨c0, c1⟩, Int.le_refl _, by show F c % 64 = _; omega⟩
  | succ n ih =>
    intro hn
    obtain ⟨g1, g2, g3⟩ := ih (by omega)
    have f := h.far hG g1.1 g1.2 (by omega)
    have nx := nd_some hG h hF g1.1 g1.2 (by omega) (by intro e; rw [e] at g3; omega)
    have hw := hG.2 _ _ g1.1 g1.2 nx.1.1 nx.1.2
    have hw2 := hw.2 nx.2.1.1
    have hm := nx.2.1.2
    have hnn := (h.2 _ nx.2.1.1 hw.1).1
    rw [tkG]
    exact ⟨⟨nx.2.1.1, hw.1⟩, by omega, by omega⟩
/-- in the end: there -/
theorem tk_end (hG : GOK b wt C) {F : Int → Int} (h : GI b wt C to F) (hF : Fix b wt C F) {c : Int} (c0 : 0 ≤ c) (c1 : c < (C : Int)) (hb : F c < BIG) {n : Nat} (hn : (n : Int) ≤ F c % 64) : F (tkG b wt F c n) = 0 ↔ (n : Int) = F c % 64 := by
  obtain ⟨g1, g2, g3⟩ := tk_facts hG h hF c0 c1 hb n hn
  constructor
  · intro e; rw [e] at g3; omega
  · intro e
    obtain ⟨f1, l, p, nd, e2⟩ := h.far hG g1.1 g1.2 (by omega)
    match l, p, e2 with
    | [], p, _ => exact p.2
    | d :: r, p, e2 => simp only [List.length_cons] at e2; omega
end GRAPH
end
section
/-! ===== walks: what is to come out, and the reference's side ===== -/
def L0G (to : Int) : Int → Int := fun x => if x = to then 0 else BIG
theorem L0_GI {b wt : Int → Int → Int} {C : Nat} {to : Int} (h0 : 0 ≤ to) (h1 : to < (C : Int)) : GI b wt C to (L0G to) := by
  refine ⟨⟨h0, h1, if_pos rfl⟩, fun c c0 c1 => ?_⟩
  by_cases e : c = to
  · have : L0G to c = 0 := if_pos e
    rw [this]
    exact ⟨by omega, by decide, fun _ => ⟨[], ⟨e, by rw [this]⟩, ⟨(fun y hy => by cases hy), trivial⟩⟩⟩
  · have : L0G to c = BIG := if_neg e
    rw [this]
    exact ⟨by decide, Int.le_refl _, fun q => absurd q (by omega)⟩
def Flg (C : Nat) (L0 L : Int → Int) (v : Int) : Prop := (v = 0 ∧ L = L0) ∨ (v = 1 ∧ ∃ x, 0 ≤ x ∧ x < (C : Int) ∧ L x < L0 x)
abbrev one2 : Int → Int → Int := fun _ _ => 1
theorem Pth.one {b : Int → Int → Int} {C : Nat} {to : Int} {L : Int → Int} : ∀ {l : List Int} {c v : Int}, Pth b one2 C to L l c v → v = (l.length : Int) := by
  intro l
  induction l with
  | nil => intro c v p; rw [p.2]; simp
  | cons d r ih =>
    intro c v p
    obtain ⟨p1, w, p2, p3, p4, p5⟩ := p
    have : v - 1 = (r.length : Int) := ih p5
    simp only [List.length_cons]
    omega
theorem GI.far1 {b : Int → Int → Int} {C : Nat} {to : Int} {L : Int → Int} (hG : GOK b one2 C) (h : GI b one2 C to L) {c : Int} (c0 : 0 ≤ c) (c1 : c < (C : Int)) (hb : L c < BIG) : L c ≤ 47 := by
  obtain ⟨f1, l, p, nd, e⟩ := h.far hG c0 c1 hb
  have := p.one
  omega
abbrev cnS (V : TV) (D : Int → Int) (c d : Int) : Prop := 0 ≤ d ∧ ¬ stV V D c = 0 ∧ ¬ stV V D d = 0 ∧ (lnV V c d = 0 ∨ ¬ V 9 c = 0 ∨ ¬ V 9 d = 0)
def bwW (V : TV) (D : Int → Int) : Int → Int → Int := fun c w => if cnS V D c (bsV V c w) then bsV V c w else -1
def CN (V : TV) : Nat := (cellsV V).toNat
theorem CN_eq {V : TV} (hV : VOK V) : (CN V : Int) = cellsV V := by have := hV.cells; unfold CN; omega
theorem bw_ok {V : TV} (hV : VOK V) (D : Int → Int) : GOK (bwW V D) one2 (CN V) := by
  have hC := hV.cells
  have e := CN_eq hV
  refine ⟨by omega, fun c w c0 c1 w0 w1 => ?_⟩
  have hb := bs_rng hV c0 (by omega) w
  unfold bwW
  refine ⟨?_, fun _ => ⟨by show (1 : Int) ≤ 1; decide, by show (1 : Int) % 64 = 1; decide, by show (1 : Int) ≤ 64000; decide⟩⟩
  split <;> omega
theorem m_canStep {M : Mem} {V : TV} (h : RI M V) {c d : Int} (c0 : 0 ≤ c) (c1 : c < cellsV V) (d0 : -1 ≤ d) (d1 : d < cellsV V) : t_MO_canStep M c d = some (if cnS V (DN M 0) c d then 1 else 0) := by
  have hC := h.1.1.cells
  unfold t_MO_canStep
  by_cases e : d = -1
  · rw [if_pos e, if_neg (fun q => by omega)]
  · rw [if_neg e, h.stands c0 c1, obind_some]
    by_cases s1 : stV V (DN M 0) c = 0
    · rw [if_pos s1, if_neg (fun q => q.2.1 s1)]
    · rw [if_neg s1, h.stands (by omega) d1, obind_some]
      by_cases s2 : stV V (DN M 0) d = 0
      · rw [if_pos s2, if_neg (fun q => q.2.2.1 s2)]
      · rw [if_neg s2, m_line h.1.2.1 c0 (by omega) (by omega) (by omega), obind_some]
        by_cases s3 : lnV V c d = 0
        · rw [if_pos s3, if_pos ⟨by omega, s1, s2, Or.inl s3⟩]
        · rw [if_neg s3, qguard_pos ⟨by omega, by omega⟩, (h.1.2.1.2.2.2 c c0 (by omega)).2.2]
          by_cases s4 : V 9 c = 0
          · rw [if_pos s4, qguard_pos ⟨by omega, by omega⟩, (h.1.2.1.2.2.2 d (by omega) (by omega)).2.2]
            by_cases s5 : V 9 d = 0
            · rw [if_pos s5, if_neg (fun q => by rcases q.2.2.2 with q | q | q <;> contradiction)]
            · rw [if_neg s5, if_pos ⟨by omega, s1, s2, Or.inr (Or.inr s5)⟩]
          · rw [if_neg s4, if_pos ⟨by omega, s1, s2, Or.inr (Or.inl s4)⟩]
def fwR (x : Int) : Int := if x < BIG then x else 1000000
def W22 : Nat → Int → Prop := fun k j => k = 222 ∨ (k = 191 ∧ j = 0)
theorem W22_RIc : ∀ k j, RIc k j → ¬ W22 k j := by intro k j a q; unfold RIc at a; unfold W22 at q; omega
def PW (M : Mem) (V : TV) (L : Int → Int) : Prop := ∀ x, 0 ≤ x → x < cellsV V → M.1 222 x = fwR (L x)
section WALK
variable {V : TV} {M0 : Mem} {to : Int}
theorem m_lw_L53 (h : RI M0 V) {x1 c : Int} {b34 : Mem → Int → Option Mem} {b42 : Mem → Int → Int → Option Mem} (c0 : 0 ≤ c) (c1 : c < cellsV V) (LS Ls : Int → Int) (hs : ∀ x, Ls x ≤ LS x) (hg : GI (bwW V (DN M0 0)) one2 (CN V) to Ls) : ∀ (n w fu : Nat) (M : Mem) (v : Int), w + n = 4 → n < fu → Fr W22 M0 M → PW M V (rcG (bwW V (DN M0 0)) one2 Ls c w) → Flg (CN V) LS (rcG (bwW V (DN M0 0)) one2 Ls c w) v →
    ∃ N u, t_MO_layWalk_L53 x1 b34 b42 fu M v c (w : Int) = b42 N u (c + 1) ∧ Fr W22 M0 N ∧ PW N V (rcG (bwW V (DN M0 0)) one2 Ls c 4) ∧ Flg (CN V) LS (rcG (bwW V (DN M0 0)) one2 Ls c 4) u := by
  have hC := h.1.1.cells
  have hN := CN_eq h.1.1
  have hG := bw_ok h.1.1 (DN M0 0)
  intro n
  induction n with
  | zero =>
    intro w fu M v g0 g1 hF hP hf
    obtain ⟨g, rfl⟩ : ∃ g, fu = g + 1 := ⟨fu - 1, by omega⟩
    have hw : w = 4 := by omega
    subst hw
    rw [t_MO_layWalk_L53, if_pos (by omega), w32_id (x := c + 1) (by unfold InR; omega)]
    exact ⟨M, v, rfl, hF, hP, hf⟩
  | succ n ih =>
    intro w fu M v g0 g1 hF hP hf
    obtain ⟨g, rfl⟩ : ∃ g, fu = g + 1 := ⟨fu - 1, by omega⟩
    have hM : RI M V := h.fr hF W22_RIc
    have eD : DN M 0 = DN M0 0 := DN_fr hF (fun j q => by unfold W22 at q; omega)
    have hb := bs_rng h.1.1 c0 c1 (w : Int)
    have hcur := rcG_GI hG hg c0 (c := c) (by omega) w (by omega)
    have nx := fun N u q1 q2 q3 => ih (w + 1) g N u (by omega) (by omega) q1 q2 q3
    rw [rcG] at nx
    rw [t_MO_layWalk_L53, if_neg (by omega), m_beside hM.1.2.1 hM.1.1 c0 c1 (by omega) (by omega), obind_some, m_canStep hM c0 c1 hb.1 hb.2, obind_some, eD]
    unfold t_MO_layWalk_L116
    rw [w32_succ (by omega)]
    generalize hL : rcG (bwW V (DN M0 0)) one2 Ls c w = L at *
    by_cases e : cnS V (DN M0 0) c (bsV V c (w : Int))
    · have hbw : bwW V (DN M0 0) c (w : Int) = bsV V c (w : Int) := if_pos e
      have hd0 : 0 ≤ bsV V c (w : Int) := e.1
      have hpc := hP c c0 c1
      have hpd := hP (bsV V c (w : Int)) hd0 hb.2
      have hLc := hcur.2 c c0 (by omega)
      have hLd := hcur.2 (bsV V c (w : Int)) hd0 (by omega)
      have f1 : L c < BIG → L c ≤ 47 := fun q => hcur.far1 hG c0 (by omega) q
      have f2 : L (bsV V c (w : Int)) < BIG → L (bsV V c (w : Int)) ≤ 47 := fun q => hcur.far1 hG hd0 (by omega) q
      have hiff : (fwR (L (bsV V c (w : Int))) + 1 < fwR (L c)) ↔ L (bsV V c (w : Int)) + 1 < L c := by
        have hB : BIG = 100000000 := rfl
        unfold fwR
        split <;> split <;> omega
      have hr : 0 ≤ fwR (L (bsV V c (w : Int))) ∧ fwR (L (bsV V c (w : Int))) ≤ 1000000 := by
        unfold fwR
        split <;> omega
      rw [if_pos e, if_neg (by decide), qguard_pos ⟨by omega, by omega⟩, qguard_pos ⟨by omega, by omega⟩, hpc, hpd, w32_id (by unfold InR; omega)]
      by_cases q : L (bsV V c (w : Int)) + 1 < L c
      · have erl : rlG (bwW V (DN M0 0)) one2 L c (w : Int) = updG L c (L (bsV V c (w : Int)) + 1) := by
          unfold rlG
          rw [hbw, if_pos ⟨hd0, q⟩]
        rw [if_pos (hiff.mpr q), qguard_pos ⟨by omega, by omega⟩, qguard_pos ⟨by omega, by omega⟩]
        simp only [qlet]
        rw [erl] at nx
        have hB : BIG = 100000000 := rfl
        refine nx _ _ (hF.setI (Or.inl rfl)) (fun x x0 x1 => ?_) (Or.inr ⟨rfl, c, c0, by omega, ?_⟩)
        · by_cases ex : x = c
          · subst ex
            rw [sI_self]
            unfold updG fwR
            rw [if_pos rfl, if_pos (by omega), if_pos (by omega)]
          · rw [sI_ne (by omega)]
            unfold updG
            rw [if_neg ex]
            exact hP x x0 x1
        · unfold updG
          rw [if_pos rfl]
          have h1 : L c ≤ Ls c := by rw [← hL]; exact rcG_le _ _ _ _
          have := hs c
          omega
      · have erl : rlG (bwW V (DN M0 0)) one2 L c (w : Int) = L := by
          unfold rlG
          rw [hbw, if_neg (fun z => q z.2)]
        rw [if_neg (fun z => q (hiff.mp z))]
        rw [erl] at nx
        exact nx M v hF hP hf
    · have erl : rlG (bwW V (DN M0 0)) one2 L c (w : Int) = L := by
        have : bwW V (DN M0 0) c (w : Int) = -1 := if_neg e
        unfold rlG
        rw [this, if_neg (fun z => by omega)]
      rw [if_neg e, if_pos rfl]
      rw [erl] at nx
      exact nx M v hF hP hf
theorem m_lw_L42 (h : RI M0 V) {x1 : Int} {b34 : Mem → Int → Option Mem} (LS : Int → Int) (hg : GI (bwW V (DN M0 0)) one2 (CN V) to LS) : ∀ (n c fu : Nat) (M : Mem) (v : Int), c + n = CN V → n < fu → Fr W22 M0 M → PW M V (rdG (bwW V (DN M0 0)) one2 LS c) → Flg (CN V) LS (rdG (bwW V (DN M0 0)) one2 LS c) v →
    ∃ N u, t_MO_layWalk_L42 x1 b34 fu M v (c : Int) = b34 N u ∧ Fr W22 M0 N ∧ PW N V (rdG (bwW V (DN M0 0)) one2 LS (CN V)) ∧ Flg (CN V) LS (rdG (bwW V (DN M0 0)) one2 LS (CN V)) u := by
  have hC := h.1.1.cells
  have hN := CN_eq h.1.1
  have hG := bw_ok h.1.1 (DN M0 0)
  intro n
  induction n with
  | zero =>
    intro c fu M v g0 g1 hF hP hf
    obtain ⟨g, rfl⟩ : ∃ g, fu = g + 1 := ⟨fu - 1, by omega⟩
    have hM : RI M V := h.fr hF W22_RIc
    rw [t_MO_layWalk_L42]
    simp only [qlet]
    rw [m_cells hM.1.2.1 hM.1.1, if_pos (by omega)]
    have hc : c = CN V := by omega
    subst hc
    exact ⟨M, v, rfl, hF, hP, hf⟩
  | succ n ih =>
    intro c fu M v g0 g1 hF hP hf
    obtain ⟨g, rfl⟩ : ∃ g, fu = g + 1 := ⟨fu - 1, by omega⟩
    have hM : RI M V := h.fr hF W22_RIc
    rw [t_MO_layWalk_L42]
    simp only [qlet]
    rw [m_cells hM.1.2.1 hM.1.1, if_neg (by omega)]
    obtain ⟨N, u, n1, n2, n3, n4⟩ := m_lw_L53 h (x1 := x1) (b34 := b34) (b42 := fun a0_ a1_ a2_ => t_MO_layWalk_L42 x1 b34 g a0_ a1_ a2_) (c := (c : Int)) (by omega) (by omega) LS (rdG (bwW V (DN M0 0)) one2 LS c) (fun x => rdG_le _ _ _) (rdG_GI hG hg c (by omega)) 4 0 FU M v (by omega) (fu_big (by omega)) hF hP hf
    rw [show ((0 : Nat) : Int) = 0 from rfl] at n1
    rw [n1, show (c : Int) + 1 = ((c + 1 : Nat) : Int) by omega]
    exact ih (c + 1) g N u (by omega) (by omega) n2 n3 n4
theorem m_lw_L34 (h : RI M0 V) {x1 : Int} (LS : Int → Int) (hg : GI (bwW V (DN M0 0)) one2 (CN V) to LS) : ∀ (n j fu : Nat) (M : Mem), j + n = 47 → n + 1 < fu → Fr W22 M0 M → PW M V (itG (bwW V (DN M0 0)) one2 (CN V) LS j) →
    ∃ N, t_MO_layWalk_L34 x1 fu M 1 = some N ∧ Fr W22 M0 N ∧ PW N V (itG (bwW V (DN M0 0)) one2 (CN V) LS 47) := by
  have hC := h.1.1.cells
  have hN := CN_eq h.1.1
  have hG := bw_ok h.1.1 (DN M0 0)
  have cv := it_conv hG hg
  intro n
  induction n with
  | zero =>
    intro j fu M g0 g1 hF hP
    obtain ⟨g, rfl⟩ : ∃ g, fu = g + 2 := ⟨fu - 2, by omega⟩
    have hj : j = 47 := by omega
    subst hj
    rw [t_MO_layWalk_L34, if_neg (by decide)]
    obtain ⟨N, u, n1, n2, n3, n4⟩ := m_lw_L42 h (x1 := x1) (b34 := fun a0_ a1_ => t_MO_layWalk_L34 x1 (g + 1) a0_ a1_) _ (itG_GI hG hg 47) (CN V) 0 FU M 0 (by omega) (fu_big (by omega)) hF hP (Or.inl ⟨rfl, rfl⟩)
    rw [show ((0 : Nat) : Int) = 0 from rfl] at n1
    rw [n1]
    rcases n4 with ⟨u0, e⟩ | ⟨u1, x, x0, x1', lt⟩
    · rw [u0, t_MO_layWalk_L34, if_pos rfl]
      exact ⟨N, rfl, n2, by rw [e] at n3; exact n3⟩
    · have := cv.2 48 (by omega) x x0 x1'
      have e : itG (bwW V (DN M0 0)) one2 (CN V) LS 48 = rdG (bwW V (DN M0 0)) one2 (itG (bwW V (DN M0 0)) one2 (CN V) LS 47) (CN V) := rfl
      rw [e] at this
      omega
  | succ n ih =>
    intro j fu M g0 g1 hF hP
    obtain ⟨g, rfl⟩ : ∃ g, fu = g + 2 := ⟨fu - 2, by omega⟩
    rw [t_MO_layWalk_L34, if_neg (by decide)]
    obtain ⟨N, u, n1, n2, n3, n4⟩ := m_lw_L42 h (x1 := x1) (b34 := fun a0_ a1_ => t_MO_layWalk_L34 x1 (g + 1) a0_ a1_) _ (itG_GI hG hg j) (CN V) 0 FU M 0 (by omega) (fu_big (by omega)) hF hP (Or.inl ⟨rfl, rfl⟩)
    rw [show ((0 : Nat) : Int) = 0 from rfl] at n1
    rw [n1]
    rcases n4 with ⟨u0, e⟩ | ⟨u1, -⟩
    · rw [u0, t_MO_layWalk_L34, if_pos rfl]
      refine ⟨N, rfl, n2, ?_⟩
      have same : ∀ m, itG (bwW V (DN M0 0)) one2 (CN V) LS (j + m) = itG (bwW V (DN M0 0)) one2 (CN V) LS j := by
        intro m
        induction m with
        | zero => rfl
        | succ m im => rw [show j + (m + 1) = (j + m) + 1 by omega, itG, im]; exact e
      rw [show 47 = j + (n + 1) by omega, same]
      rw [e] at n3
      exact n3
    · rw [u1]
      exact ih (j + 1) (g + 1) N (by omega) (by omega) n2 n3
theorem m_lw_L2 (h : RI M0 V) (t0 : 0 ≤ to) (t1 : to < cellsV V) : ∀ (n : Nat) (fu : Nat) (M : Mem) (v : Int), v + (n : Int) = 48 → 0 ≤ v → n < fu → Fr W22 M0 M → (∀ x, 0 ≤ x → x < v → M.1 222 x = fwR (L0G to x)) →
    ∃ N, t_MO_layWalk_L2 to fu M v = some N ∧ Fr W22 M0 N ∧ PW N V (itG (bwW V (DN M0 0)) one2 (CN V) (L0G to) 47) := by
  have hC := h.1.1.cells
  have hN := CN_eq h.1.1
  intro n
  induction n with
  | zero =>
    intro fu M v g0 g1 g2 hF hx
    obtain ⟨g, rfl⟩ : ∃ g, fu = g + 1 := ⟨fu - 1, by omega⟩
    rw [t_MO_layWalk_L2, if_pos (by omega)]
    exact m_lw_L34 h (L0G to) (L0_GI t0 (by omega)) 47 0 FU M (by omega) (fu_big (by omega)) hF (fun x x0 x1 => hx x x0 (by omega))
  | succ n ih =>
    intro fu M v g0 g1 g2 hF hx
    obtain ⟨g, rfl⟩ : ∃ g, fu = g + 1 := ⟨fu - 1, by omega⟩
    rw [t_MO_layWalk_L2, if_neg (by omega)]
    unfold t_MO_layWalk_L25
    rw [qguard_pos ⟨by omega, by omega⟩, qguard_pos ⟨by omega, by omega⟩, w32_id (x := v + 1) (by unfold InR; omega)]
    simp only [qlet]
    by_cases e : v = to
    · rw [if_pos e]
      refine ih g _ (v + 1) (by omega) (by omega) (by omega) (hF.setI (Or.inl rfl)) (fun x x0 x1 => ?_)
      by_cases ex : x = v
      · rw [ex, sI_self]
        unfold L0G
        rw [if_pos e]
        rfl
      · rw [sI_ne (by omega)]; exact hx x x0 (by omega)
    · rw [if_neg e]
      refine ih g _ (v + 1) (by omega) (by omega) (by omega) (hF.setI (Or.inl rfl)) (fun x x0 x1 => ?_)
      by_cases ex : x = v
      · rw [ex, sI_self]
        unfold L0G
        rw [if_neg e]
        rfl
      · rw [sI_ne (by omega)]; exact hx x x0 (by omega)
end WALK
/-- how far all cells are -/
def FW (V : TV) (D : Int → Int) (to : Int) : Int → Int := itG (bwW V D) one2 (CN V) (L0G to) 47
theorem FW_GI {V : TV} (hV : VOK V) (D : Int → Int) {to : Int} (h0 : 0 ≤ to) (h1 : to < cellsV V) : GI (bwW V D) one2 (CN V) to (FW V D to) := itG_GI (bw_ok hV D) (L0_GI h0 (by have := CN_eq hV; omega)) 47
theorem FW_fix {V : TV} (hV : VOK V) (D : Int → Int) {to : Int} (h0 : 0 ≤ to) (h1 : to < cellsV V) : Fix (bwW V D) one2 (CN V) (FW V D to) := (it_conv (bw_ok hV D) (L0_GI h0 (by have := CN_eq hV; omega))).1
theorem m_layWalk {M : Mem} {V : TV} (h : RI M V) {to : Int} (h0 : 0 ≤ to) (h1 : to < cellsV V) : ∃ N, t_MO_layWalk M to = some N ∧ Fr W22 M N ∧ PW N V (FW V (DN M 0) to) := m_lw_L2 h h0 h1 48 FU M 0 (by omega) (by omega) (fu_big (by omega)) Fr.rf (fun x x0 x1 => by omega)
abbrev wkOK (V : TV) (D : Int → Int) (a b : Int) : Prop := (0 ≤ a ∧ a < cellsV V) ∧ (0 ≤ b ∧ b < cellsV V) ∧ ¬ stV V D a = 0 ∧ ¬ stV V D b = 0
theorem m_isWalk {M : Mem} {V : TV} (h : RI M V) (a b : Int) : t_MO_isWalk M a b = some (if wkOK V (DN M 0) a b then 1 else 0) := by
  unfold t_MO_isWalk
  simp only [qlet]
  rw [m_isCell h.1.2.1 h.1.1, m_isCell h.1.2.1 h.1.1]
  by_cases e1 : 0 ≤ a ∧ a < cellsV V
  · rw [if_pos e1, if_neg (by decide)]
    by_cases e2 : 0 ≤ b ∧ b < cellsV V
    · rw [if_pos e2, if_neg (by decide), h.stands e1.1 e1.2, obind_some]
      by_cases e3 : stV V (DN M 0) a = 0
      · rw [if_pos e3, if_neg (fun q => q.2.2.1 e3)]
      · rw [if_neg e3, h.stands e2.1 e2.2, obind_some]
        by_cases e4 : stV V (DN M 0) b = 0
        · rw [if_pos e4, if_neg (fun q => q.2.2.2 e4)]
        · rw [if_neg e4, if_pos ⟨e1, e2, e3, e4⟩]
    · rw [if_neg e2, if_pos rfl, if_neg (fun q => e2 q.2.1)]
  · rw [if_neg e1, if_pos rfl, if_neg (fun q => e1 q.1)]
def walkS (V : TV) (D : Int → Int) (a b : Int) : Int := if wkOK V D a b then (if FW V D b a < BIG then FW V D b a else -2) else -1
theorem fw_lt {V : TV} (hV : VOK V) (D : Int → Int) {to c : Int} (h0 : 0 ≤ to) (h1 : to < cellsV V) (c0 : 0 ≤ c) (c1 : c < cellsV V) : (fwR (FW V D to c) < 1000000 ↔ FW V D to c < BIG) ∧ (FW V D to c < BIG → FW V D to c ≤ 47) ∧ 0 ≤ FW V D to c := by
  have hN := CN_eq hV
  have hg := FW_GI hV D h0 h1
  have f := fun q => hg.far1 (bw_ok hV D) c0 (c := c) (by omega) q
  have g := (hg.2 c c0 (by omega)).1
  refine ⟨?_, f, g⟩
  unfold fwR
  split
  · rename_i q; have := f q; exact ⟨fun _ => q, fun _ => by omega⟩
  · rename_i q; exact ⟨fun z => by omega, fun z => absurd z q⟩
theorem at22 {M : Mem} {v : Int} : Fr W22 M (setI M 191 0 v) := Fr.rf.setI (Or.inr ⟨rfl, rfl⟩)
theorem m_walk {M : Mem} {V : TV} (h : RI M V) (a b : Int) : ∃ N, t_MO_walk M a b = some (N, walkS V (DN M 0) a b) ∧ Fr W22 M N := by
  have h1 := h.set0 0
  have hC := h.1.1.cells
  unfold t_MO_walk walkS
  simp only [qlet]
  rw [m_isWalk h1, obind_some]
  have eD : DN (setI M 191 0 0) 0 = DN M 0 := rfl
  rw [eD]
  by_cases e : wkOK V (DN M 0) a b
  · rw [if_pos e, if_pos e, if_neg (by decide)]
    obtain ⟨N, n1, n2, n3⟩ := m_layWalk h1 e.2.1.1 e.2.1.2
    rw [eD] at n3
    have hf := fw_lt h.1.1 (DN M 0) e.2.1.1 e.2.1.2 e.1.1 e.1.2
    rw [n1, obind_some, qguard_pos ⟨by omega, by omega⟩, qguard_pos ⟨by omega, by omega⟩, n3 a e.1.1 e.1.2]
    refine ⟨N, ?_, at22.trans n2⟩
    by_cases q : FW V (DN M 0) b a < BIG
    · rw [if_pos (hf.1.mpr q), if_pos q]
      unfold fwR
      rw [if_pos q]
    · rw [if_neg (fun z => q (hf.1.mp z)), if_neg q]
  · rw [if_neg e, if_neg e, if_pos rfl]
    exact ⟨_, rfl, at22⟩
theorem ri_walk {M : Mem} {V : TV} (h : RI M V) (a b : Int) : Ok (fun r => RI r.1 V) (t_MO_walk M a b) := by
  obtain ⟨N, n1, n2⟩ := m_walk h a b
  exact ⟨_, n1, h.fr n2 W22_RIc⟩
def stepS (V : TV) (D : Int → Int) (a b k : Int) : Int := if wkOK V D a b ∧ 0 ≤ k then (if FW V D b a < BIG ∧ k ≤ FW V D b a then tkG (bwW V D) one2 (FW V D b) a k.toNat else -2) else -1
theorem m_step_L65 {M : Mem} {V : TV} (h : RI M V) {x1 x2 x3 c i to : Int} {b56 : Mem → Int → Int → Option (Mem × Int)} (t0 : 0 ≤ to) (t1 : to < cellsV V) (hP : PW M V (FW V (DN M 0) to)) (c0 : 0 ≤ c) (c1 : c < cellsV V) (hb : FW V (DN M 0) to c < BIG) (hne : FW V (DN M 0) to c ≠ 0) (hi : 0 ≤ i ∧ i < 100) : ∀ (n fu : Nat) (w : Int), w + (n : Int) = ndG (bwW V (DN M 0)) one2 (FW V (DN M 0) to) c → 0 ≤ w → n < fu → t_MO_step_L65 x1 x2 x3 b56 fu M c i w = b56 M (bwW V (DN M 0) c (ndG (bwW V (DN M 0)) one2 (FW V (DN M 0) to) c)) (i + 1) := by
  have hC := h.1.1.cells
  have hN := CN_eq h.1.1
  have hG := bw_ok h.1.1 (DN M 0)
  have hg := FW_GI h.1.1 (DN M 0) t0 t1
  have nd := nd_some hG hg (FW_fix h.1.1 (DN M 0) t0 t1) c0 (c := c) (by omega) hb hne
  generalize hnd : ndG (bwW V (DN M 0)) one2 (FW V (DN M 0) to) c = m at *
  have hfc := fw_lt h.1.1 (DN M 0) t0 t1 c0 c1
  have hpc : M.1 222 c = FW V (DN M 0) to c := by rw [hP c c0 c1]; unfold fwR; rw [if_pos hb]
  -- the test of one side
  have tst : ∀ w, 0 ≤ w → w < 4 → cnS V (DN M 0) c (bsV V c w) → (fwR (FW V (DN M 0) to (bsV V c w)) = FW V (DN M 0) to c - 1 ↔ mtG (bwW V (DN M 0)) one2 (FW V (DN M 0) to) c w) := by
    intro w w0 w1 e
    have hbw : bwW V (DN M 0) c w = bsV V c w := if_pos e
    have hbr := bs_rng h.1.1 c0 c1 w
    have hfd := fw_lt h.1.1 (DN M 0) t0 t1 e.1 hbr.2
    have h47 := hfc.2.1 hb
    unfold mtG
    rw [hbw]
    unfold fwR
    have hB : BIG = 100000000 := rfl
    split
    · exact ⟨fun z => ⟨e.1, by show _ + (1 : Int) = _; omega⟩, fun z => by have : _ + (1 : Int) = _ := z.2; omega⟩
    · exact ⟨fun z => by omega, fun z => by have : _ + (1 : Int) = _ := z.2; omega⟩
  have pre : ∀ (w : Int) (g : Nat), 0 ≤ w → w < 4 → t_MO_step_L65 x1 x2 x3 b56 (g + 1) M c i w = if 0 ≤ bwW V (DN M 0) c w ∧ FW V (DN M 0) to (bwW V (DN M 0) c w) + 1 = FW V (DN M 0) to c then b56 M (bwW V (DN M 0) c w) (i + 1) else t_MO_step_L65 x1 x2 x3 b56 g M c i (w + 1) := by
    intro w g w0 w1
    have hbr := bs_rng h.1.1 c0 c1 w
    have h47 := hfc.2.1 hb
    rw [t_MO_step_L65, m_beside h.1.2.1 h.1.1 c0 c1 w0 (by omega), obind_some, m_canStep h c0 c1 hbr.1 hbr.2, obind_some]
    unfold t_MO_step_L107
    rw [w32_id (x := w + 1) (by unfold InR; omega)]
    by_cases e : cnS V (DN M 0) c (bsV V c w)
    · have hbw : bwW V (DN M 0) c w = bsV V c w := if_pos e
      have he1 := e.1
      rw [if_pos e, if_neg (by decide), obind_some, qguard_pos ⟨by omega, by omega⟩, qguard_pos ⟨by omega, by omega⟩, hP _ e.1 hbr.2, hpc, w32_id (x := FW V (DN M 0) to c - 1) (by unfold InR; omega), obind_some, w32_id (x := i + 1) (by unfold InR; omega)]
      have ts := tst w w0 w1 e
      unfold mtG at ts
      rw [hbw] at ts ⊢
      by_cases z : fwR (FW V (DN M 0) to (bsV V c w)) = FW V (DN M 0) to c - 1
      · rw [if_pos z, if_pos (ts.mp z)]
      · rw [if_neg z, if_neg (fun q => z (ts.mpr q))]
    · have hbw : bwW V (DN M 0) c w = -1 := if_neg e
      rw [if_neg e, if_pos rfl, hbw, if_neg (fun z => by omega)]
  intro n
  induction n with
  | zero =>
    intro fu w g0 g1 g2
    obtain ⟨g, rfl⟩ : ∃ g, fu = g + 1 := ⟨fu - 1, by omega⟩
    have hw : w = m := by omega
    subst hw
    rw [pre w g nd.1.1 nd.1.2]
    exact if_pos nd.2.1
  | succ n ih =>
    intro fu w g0 g1 g2
    obtain ⟨g, rfl⟩ : ∃ g, fu = g + 1 := ⟨fu - 1, by omega⟩
    rw [pre w g g1 (by omega)]
    refine (if_neg (nd.2.2 w g1 (by omega))).trans ?_
    exact ih g (w + 1) (by omega) (by omega) (by omega)
theorem m_step_L56 {M : Mem} {V : TV} (h : RI M V) {x1 x2 to : Int} {k : Nat} {a : Int} (t0 : 0 ≤ to) (t1 : to < cellsV V) (hP : PW M V (FW V (DN M 0) to)) (a0 : 0 ≤ a) (a1 : a < cellsV V) (hb : FW V (DN M 0) to a < BIG) (hk : (k : Int) ≤ FW V (DN M 0) to a) : ∀ (n i fu : Nat), i + n = k → n < fu → t_MO_step_L56 x1 x2 (k : Int) fu M (tkG (bwW V (DN M 0)) one2 (FW V (DN M 0) to) a i) (i : Int) = some (M, tkG (bwW V (DN M 0)) one2 (FW V (DN M 0) to) a k) := by
  have hC := h.1.1.cells
  have hN := CN_eq h.1.1
  have hG := bw_ok h.1.1 (DN M 0)
  have hg := FW_GI h.1.1 (DN M 0) t0 t1
  have hfx := FW_fix h.1.1 (DN M 0) t0 t1
  have h47 := (fw_lt h.1.1 (DN M 0) t0 t1 a0 a1).2.1 hb
  have hnn := (fw_lt h.1.1 (DN M 0) t0 t1 a0 a1).2.2
  intro n
  induction n with
  | zero =>
    intro i fu g0 g1
    obtain ⟨g, rfl⟩ : ∃ g, fu = g + 1 := ⟨fu - 1, by omega⟩
    rw [t_MO_step_L56, if_pos (by omega), show i = k by omega]
  | succ n ih =>
    intro i fu g0 g1
    obtain ⟨g, rfl⟩ : ∃ g, fu = g + 1 := ⟨fu - 1, by omega⟩
    obtain ⟨q1, q2, q3⟩ := tk_facts hG hg hfx a0 (c := a) (by omega) hb i (by omega)
    rw [t_MO_step_L56, if_neg (by omega)]
    have hne : FW V (DN M 0) to (tkG (bwW V (DN M 0)) one2 (FW V (DN M 0) to) a i) ≠ 0 := by intro e; rw [e] at q3; omega
    have nd := nd_some hG hg hfx q1.1 q1.2 (by omega) hne
    have := m_step_L65 h (x1 := x1) (x2 := x2) (x3 := (k : Int)) (i := (i : Int)) (b56 := fun a0_ a1_ a2_ => t_MO_step_L56 x1 x2 (k : Int) g a0_ a1_ a2_) t0 t1 hP q1.1 (by omega) (by omega) hne (by omega) (ndG (bwW V (DN M 0)) one2 (FW V (DN M 0) to) (tkG (bwW V (DN M 0)) one2 (FW V (DN M 0) to) a i)).toNat FU 0 (by omega) (by omega) (fu_big (by omega))
    rw [this, show (i : Int) + 1 = ((i + 1 : Nat) : Int) by omega]
    exact ih (i + 1) g (by omega) (by omega)
theorem m_step {M : Mem} {V : TV} (h : RI M V) (a b k : Int) : ∃ N, t_MO_step M a b k = some (N, stepS V (DN M 0) a b k) ∧ Fr W22 M N := by
  have h1 := h.set0 0
  have hC := h.1.1.cells
  unfold t_MO_step stepS
  simp only [qlet]
  rw [m_isWalk h1, obind_some]
  have eD : DN (setI M 191 0 0) 0 = DN M 0 := rfl
  rw [eD]
  by_cases e : wkOK V (DN M 0) a b
  · rw [if_pos e, if_neg (by decide)]
    by_cases k0 : 0 ≤ k
    · rw [if_pos k0, if_pos ⟨e, k0⟩]
      obtain ⟨N, n1, n2, n3⟩ := m_layWalk h1 e.2.1.1 e.2.1.2
      rw [eD] at n3
      have hf := fw_lt h.1.1 (DN M 0) e.2.1.1 e.2.1.2 e.1.1 e.1.2
      have hFN := at22.trans n2
      have hN : RI N V := h.fr hFN W22_RIc
      have eN : DN N 0 = DN M 0 := DN_fr hFN (fun j q => by unfold W22 at q; omega)
      rw [n1, obind_some, qguard_pos ⟨by omega, by omega⟩, qguard_pos ⟨by omega, by omega⟩, n3 a e.1.1 e.1.2]
      by_cases q : FW V (DN M 0) b a < BIG
      · have eq : fwR (FW V (DN M 0) b a) = FW V (DN M 0) b a := by unfold fwR; rw [if_pos q]
        have h47 := hf.2.1 q
        rw [eq, if_neg (by omega)]
        by_cases q2 : k ≤ FW V (DN M 0) b a
        · rw [if_pos q2, if_pos ⟨q, q2⟩]
          obtain ⟨k, rfl⟩ : ∃ m : Nat, k = (m : Int) := ⟨k.toNat, by omega⟩
          have k47 : (k : Int) ≤ 47 := by omega
          rw [← eN] at n3 q q2
          have := m_step_L56 hN (x1 := a) (x2 := b) (k := k) e.2.1.1 e.2.1.2 n3 e.1.1 e.1.2 q q2 k 0 FU (by omega) (fu_big (by omega))
          rw [eN] at this
          exact ⟨N, this, hFN⟩
        · rw [if_neg q2, if_neg (fun z => q2 z.2)]
          exact ⟨N, rfl, hFN⟩
      · rw [if_pos (by have := hf.1; omega), if_neg (fun z => q z.1)]
        exact ⟨N, rfl, hFN⟩
    · rw [if_neg k0, if_neg (fun z => k0 z.2)]
      exact ⟨_, rfl, at22⟩
  · rw [if_neg e, if_pos rfl, if_neg (fun z => e z.1)]
    exact ⟨_, rfl, at22⟩
theorem ri_step {M : Mem} {V : TV} (h : RI M V) (a b k : Int) : Ok (fun r => RI r.1 V) (t_MO_step M a b k) := by
  obtain ⟨N, n1, n2⟩ := m_step h a b k
  exact ⟨_, n1, h.fr n2 W22_RIc⟩
end
section
/-! ===== pushing: what is to come out, and the reference's side ===== -/
theorem Pth.top {b wt : Int → Int → Int} {C : Nat} {to : Int} (hG : GOK b wt C) {L : Int → Int} : ∀ {l : List Int} {c v : Int}, 0 ≤ c → c < (C : Int) → Pth b wt C to L l c v → v ≤ 64000 * (l.length : Int) := by
  intro l
  induction l with
  | nil => intro c v _ _ p; rw [p.2]; simp
  | cons d r ih =>
    intro c v c0 c1 p
    obtain ⟨p1, w, p2, p3, p4, p5⟩ := p
    have hw := (hG.2 c w c0 c1 p2.1 p2.2).2 (by omega)
    have := ih p1.1 p1.2 p5
    simp only [List.length_cons]
    omega
theorem GI.top {b wt : Int → Int → Int} {C : Nat} {to : Int} (hG : GOK b wt C) {L : Int → Int} (h : GI b wt C to L) {c : Int} (c0 : 0 ≤ c) (c1 : c < (C : Int)) (hb : L c < BIG) : L c % 64 ≤ 47 ∧ L c ≤ 3008000 := by
  obtain ⟨f1, l, p, nd, e⟩ := h.far hG c0 c1 hb
  have := p.top hG c0 c1
  exact ⟨f1, by omega⟩
/-- what one step takes -/
def pcS (V : TV) (D A : Int → Int) (nets : Int64) (yr : Int) (c d : Int) : Int := if nxV V D nets (wlV V) c = bsV V c d then 0 else witS (V 10) (V 11) (nmP V D A c d yr) (V 0 11) 999 1
theorem pc_rng {V : TV} (D A : Int → Int) (nets : Int64) (yr c d : Int) : 0 ≤ pcS V D A nets yr c d ∧ pcS V D A nets yr c d ≤ 999 := by
  unfold pcS witS
  split
  · omega
  · split
    · split
      · omega
      · exact put_rng (by omega) (by omega)
    · omega
abbrev pcM (M : Mem) (V : TV) : Int → Int → Int := pcS V (DN M 0) (AT M 0) (M.2 210 0) (M.1 207 0)
def bpW (V : TV) : Int → Int → Int := fun c d => if V 8 c = 0 ∧ 0 ≤ bsV V c d ∧ V 8 (bsV V c d) = 0 then bsV V c d else -1
def wpW (P : Int → Int → Int) : Int → Int → Int := fun c d => P c d * 64 + 1
theorem bp_ok {V : TV} (hV : VOK V) {P : Int → Int → Int} (hP : ∀ c d, 0 ≤ P c d ∧ P c d ≤ 999) : GOK (bpW V) (wpW P) (CN V) := by
  have hC := hV.cells
  have e := CN_eq hV
  refine ⟨by omega, fun c w c0 c1 w0 w1 => ?_⟩
  have hb := bs_rng hV c0 (by omega) w
  have hp := hP c w
  unfold bpW wpW
  refine ⟨?_, fun _ => ⟨by omega, by omega, by omega⟩⟩
  split <;> omega
def PW2 : Nat → Int → Prop := fun k j => k = 220 ∨ GO k j
theorem PW2_RIc : ∀ k j, RIc k j → ¬ PW2 k j := by intro k j a q; unfold RIc at a; unfold PW2 GO at q; omega
theorem m_pushOf {M : Mem} {V : TV} (h : RI M V) {c d : Int} (c0 : 0 ≤ c) (c1 : c < cellsV V) (d0 : 0 ≤ d) (d1 : d < 4) (hb : 0 ≤ bsV V c d) : ∃ N, t_MO_pushOf M c d = some (N, pcM M V c d) ∧ Fr PW2 M N := by
  have hC := h.1.1.cells
  unfold t_MO_pushOf pcM pcS
  rw [h.next (by omega) h.row0 c0 c1, obind_some, m_beside h.1.2.1 h.1.1 c0 c1 d0 (by omega), obind_some]
  have eX : nxR M 0 V c = nxV V (DN M 0) (M.2 210 0) (wlV V) c := rfl
  rw [eX]
  by_cases e : nxV V (DN M 0) (M.2 210 0) (wlV V) c = bsV V c d
  · rw [if_pos e, if_pos e]; exact ⟨M, rfl, Fr.rf⟩
  · rw [if_neg e, if_neg e]
    obtain ⟨N, n1, n2, n3⟩ := m_callsPush h c0 c1 d0 d1 hb
    have hN : RI N V := h.fr n2 W20_RIc
    obtain ⟨O, o1, o2⟩ := m_within (M := N) (s := 0) (most := 999) (wo := 1) (by omega) hN.1.2.2.2.1 hN.1.2.2.1.1
    rw [n1, obind_some, o1, obind_some, witS_congr (nm := nmM N) (nm' := nmP V (DN M 0) (AT M 0) c d (M.1 207 0)) (fun j p q => n3 j p q)]
    exact ⟨O, rfl, (n2.mono (fun k j q => Or.inl q)).trans (o2.mono (fun k j q => Or.inr q))⟩
def W23 : Nat → Int → Prop := fun k j => k = 222 ∨ k = 223 ∨ (k = 191 ∧ j = 0) ∨ PW2 k j
theorem W23_RIc : ∀ k j, RIc k j → ¬ W23 k j := by intro k j a q; unfold RIc at a; unfold W23 PW2 GO at q; omega
/-- the pair of rows as one number -/
def PP (M : Mem) (V : TV) (L : Int → Int) : Prop := ∀ x, 0 ≤ x → x < cellsV V → (L x < BIG → M.1 223 x = L x / 64 ∧ M.1 222 x = L x % 64) ∧ (¬ L x < BIG → M.1 223 x = 1000000 ∧ M.1 222 x = 1000000)
theorem pcM_fr {M0 M : Mem} {V : TV} (hF : Fr W23 M0 M) : pcM M V = pcM M0 V := by
  unfold pcM
  rw [DN_fr hF (fun j q => by unfold W23 PW2 GO at q; omega), AT_fr hF (fun j q => by unfold W23 PW2 GO at q; omega), (hF 210 0 (by unfold W23 PW2 GO; omega)).2, (hF 207 0 (by unfold W23 PW2 GO; omega)).1]
abbrev gpb (V : TV) : Int → Int → Int := bpW V
abbrev gpw (M : Mem) (V : TV) : Int → Int → Int := wpW (pcM M V)
section PUSH
variable {V : TV} {M0 : Mem} {to : Int}
theorem gp_ok (h : RI M0 V) : GOK (gpb V) (gpw M0 V) (CN V) := bp_ok h.1.1 (fun c d => pc_rng _ _ _ _ _ _)
theorem m_lp_L71 (h : RI M0 V) {x1 c : Int} {b52 : Mem → Int → Option Mem} {b60 : Mem → Int → Int → Option Mem} (c0 : 0 ≤ c) (c1 : c < cellsV V) (LS Ls : Int → Int) (hs : ∀ x, Ls x ≤ LS x) (hg : GI (gpb V) (gpw M0 V) (CN V) to Ls) : ∀ (n w fu : Nat) (M : Mem) (v : Int), w + n = 4 → n < fu → Fr W23 M0 M → PP M V (rcG (gpb V) (gpw M0 V) Ls c w) → Flg (CN V) LS (rcG (gpb V) (gpw M0 V) Ls c w) v →
    ∃ N u, t_MO_layPush_L71 x1 b52 b60 fu M v c (w : Int) = b60 N u (c + 1) ∧ Fr W23 M0 N ∧ PP N V (rcG (gpb V) (gpw M0 V) Ls c 4) ∧ Flg (CN V) LS (rcG (gpb V) (gpw M0 V) Ls c 4) u := by
  have hC := h.1.1.cells
  have hN := CN_eq h.1.1
  have hG := gp_ok h
  intro n
  induction n with
  | zero =>
    intro w fu M v g0 g1 hF hP hf
    obtain ⟨g, rfl⟩ : ∃ g, fu = g + 1 := ⟨fu - 1, by omega⟩
    have hw : w = 4 := by omega
    subst hw
    rw [t_MO_layPush_L71, if_pos (by omega)]
    unfold t_MO_layPush_L218
    rw [w32_id (x := c + 1) (by unfold InR; omega)]
    exact ⟨M, v, rfl, hF, hP, hf⟩
  | succ n ih =>
    intro w fu M v g0 g1 hF hP hf
    obtain ⟨g, rfl⟩ : ∃ g, fu = g + 1 := ⟨fu - 1, by omega⟩
    have hM : RI M V := h.fr hF W23_RIc
    have hb := bs_rng h.1.1 c0 c1 (w : Int)
    have hcur := rcG_GI hG hg c0 (c := c) (by omega) w (by omega)
    have hw8 := (hM.1.1.2.2.2 c c0 (by omega)).2.2.1
    have nx := fun N u q1 q2 q3 => ih (w + 1) g N u (by omega) (by omega) q1 q2 q3
    rw [rcG] at nx
    have hB : BIG = 100000000 := rfl
    rw [t_MO_layPush_L71, if_neg (by omega), qguard_pos ⟨by omega, by omega⟩, (hM.1.2.1.2.2.2 c c0 (by omega)).2.1]
    have hmono : rcG (gpb V) (gpw M0 V) Ls c w c ≤ LS c := Int.le_trans (rcG_le _ _ _ _) (hs c)
    by_cases e8 : V 8 c = 0
    · rw [if_pos e8, m_beside hM.1.2.1 hM.1.1 c0 c1 (by omega) (by omega), obind_some]
      unfold t_MO_layPush_L212
      rw [w32_succ (by omega)]
      -- no way there
      have skip : gpb V c (w : Int) = -1 → ∃ N u, (fun a0_ a1_ a2_ a3_ => t_MO_layPush_L71 x1 b52 b60 g a0_ a1_ a2_ a3_) M v c ((w + 1 : Nat) : Int) = b60 N u (c + 1) ∧ Fr W23 M0 N ∧ PP N V (rcG (gpb V) (gpw M0 V) Ls c 4) ∧ Flg (CN V) LS (rcG (gpb V) (gpw M0 V) Ls c 4) u := by
        intro e
        have erl : rlG (gpb V) (gpw M0 V) (rcG (gpb V) (gpw M0 V) Ls c w) c (w : Int) = rcG (gpb V) (gpw M0 V) Ls c w := by
          unfold rlG
          rw [e, if_neg (fun z => by omega)]
        rw [erl] at nx
        exact nx M v hF hP hf
      by_cases e1 : bsV V c (w : Int) = -1
      · rw [if_pos e1]
        exact skip (if_neg (fun q => by omega))
      · have hd8 := (hM.1.1.2.2.2 (bsV V c (w : Int)) (by omega) (by omega)).2.2.1
        rw [if_neg e1, qguard_pos ⟨by omega, by omega⟩, (hM.1.2.1.2.2.2 _ (by omega) (by omega)).2.1]
        by_cases e9 : V 8 (bsV V c (w : Int)) = 0
        · have hbw : gpb V c (w : Int) = bsV V c (w : Int) := if_pos ⟨e8, by omega, e9⟩
          have hpc := hP c c0 c1
          have hpd := hP (bsV V c (w : Int)) (by omega) hb.2
          have hLc := hcur.2 c c0 (by omega)
          have hLd := hcur.2 (bsV V c (w : Int)) (by omega) (by omega)
          have f1 := fun q => hcur.top hG c0 (c := c) (by omega) q
          have f2 := fun q => hcur.top hG (c := bsV V c (w : Int)) (by omega) (by omega) q
          generalize hL : rcG (gpb V) (gpw M0 V) Ls c w = L at *
          have hcs := pc_rng (V := V) (DN M0 0) (AT M0 0) (M0.2 210 0) (M0.1 207 0) c (w : Int)
          have hwt : gpw M0 V c (w : Int) = pcM M0 V c (w : Int) * 64 + 1 := rfl
          change 0 ≤ pcM M0 V c (w : Int) ∧ pcM M0 V c (w : Int) ≤ 999 at hcs
          rw [if_pos e9, qguard_pos ⟨by omega, by omega⟩]
          by_cases eb : L (bsV V c (w : Int)) < BIG
          · have hpd1 := hpd.1 eb
            have f2b := f2 eb
            rw [hpd1.1, if_pos (by omega), qguard_pos ⟨by omega, by omega⟩]
            obtain ⟨N, n1, n2⟩ := m_pushOf hM c0 c1 (d := (w : Int)) (by omega) (by omega) (by omega)
            have hFN : Fr W23 M0 N := hF.trans (n2.mono (fun k j q => Or.inr (Or.inr (Or.inr q))))
            have hPN : PP N V L := by
              intro x x0 x1
              rw [(n2 223 x (by unfold PW2 GO; omega)).1, (n2 222 x (by unfold PW2 GO; omega)).1]
              exact hP x x0 x1
            rw [n1, obind_some, pcM_fr hF, qguard_pos ⟨by omega, by omega⟩, qguard_pos ⟨by omega, by omega⟩]
            have hc2 := hPN c c0 c1
            have hd2 := hPN (bsV V c (w : Int)) (by omega) hb.2
            have hd3 := hd2.1 eb
            generalize hcst : pcM M0 V c (w : Int) = cst at *
            have hd0 := hLd.1
            rw [w32_id (x := L (bsV V c (w : Int)) / 64 + cst) (by unfold InR; omega), qguard_pos ⟨by omega, by omega⟩, qguard_pos ⟨by omega, by omega⟩, hd3.2, w32_id (x := L (bsV V c (w : Int)) % 64 + 1) (by unfold InR; omega)]
            have keep : ¬ L (bsV V c (w : Int)) + gpw M0 V c (w : Int) < L c → ∃ O u, (fun a0_ a1_ a2_ a3_ => t_MO_layPush_L71 x1 b52 b60 g a0_ a1_ a2_ a3_) N v c ((w + 1 : Nat) : Int) = b60 O u (c + 1) ∧ Fr W23 M0 O ∧ PP O V (rcG (gpb V) (gpw M0 V) Ls c 4) ∧ Flg (CN V) LS (rcG (gpb V) (gpw M0 V) Ls c 4) u := by
              intro q
              have erl : rlG (gpb V) (gpw M0 V) L c (w : Int) = L := by
                unfold rlG
                rw [hbw, if_neg (fun z => q z.2)]
              rw [erl] at nx
              exact nx N v hFN hPN hf
            have upd : L (bsV V c (w : Int)) + gpw M0 V c (w : Int) < L c → ∃ O u, t_MO_layPush_L187 x1 b52 b60 (fun a0_ a1_ a2_ a3_ => t_MO_layPush_L71 x1 b52 b60 g a0_ a1_ a2_ a3_) N c (w : Int) (bsV V c (w : Int)) (L (bsV V c (w : Int)) / 64 + cst) = b60 O u (c + 1) ∧ Fr W23 M0 O ∧ PP O V (rcG (gpb V) (gpw M0 V) Ls c 4) ∧ Flg (CN V) LS (rcG (gpb V) (gpw M0 V) Ls c 4) u := by
              intro q
              have erl : rlG (gpb V) (gpw M0 V) L c (w : Int) = updG L c (L (bsV V c (w : Int)) + gpw M0 V c (w : Int)) := by
                unfold rlG
                rw [hbw, if_pos ⟨by omega, q⟩]
              have hdc : bsV V c (w : Int) ≠ c := by intro z; rw [z] at q; omega
              unfold t_MO_layPush_L187 t_MO_layPush_L212
              rw [qguard_pos ⟨by omega, by omega⟩]
              simp only [qlet]
              rw [qguard_pos ⟨by omega, by omega⟩, qguard_pos ⟨by omega, by omega⟩, uI_ne _ _ (by omega), hd3.2, w32_id (x := L (bsV V c (w : Int)) % 64 + 1) (by unfold InR; omega), w32_succ (by omega)]
              rw [erl] at nx
              refine nx _ _ ((hFN.setI (Or.inr (Or.inl rfl))).setI (Or.inl rfl)) (fun x x0 x1 => ?_) (Or.inr ⟨rfl, c, c0, by omega, ?_⟩)
              · by_cases ex : x = c
                · subst ex
                  unfold updG
                  rw [if_pos rfl, sI_ne (by omega), sI_self, sI_self]
                  exact ⟨fun _ => by omega, fun z => by omega⟩
                · rw [sI_ne (by omega), sI_ne (by omega), sI_ne (by omega), sI_ne (by omega)]
                  unfold updG
                  rw [if_neg ex]
                  exact hPN x x0 x1
              · unfold updG
                rw [if_pos rfl]
                omega
            by_cases ec : L c < BIG
            · have hc3 := hc2.1 ec
              have f1c := f1 ec
              rw [hc3.1, hc3.2]
              by_cases q1 : L c / 64 < L (bsV V c (w : Int)) / 64 + cst
              · rw [if_pos q1]; exact keep (by omega)
              · rw [if_neg q1]
                by_cases q2 : L (bsV V c (w : Int)) / 64 + cst = L c / 64
                · rw [if_pos q2]
                  by_cases q3 : L (bsV V c (w : Int)) % 64 + 1 < L c % 64
                  · rw [if_pos q3]; exact upd (by omega)
                  · rw [if_neg q3]; exact keep (by omega)
                · rw [if_neg q2]; exact upd (by omega)
            · have hc3 := hc2.2 ec
              rw [hc3.1, hc3.2, if_neg (by omega), if_neg (by omega)]
              exact upd (by omega)
          · have hpd1 := hpd.2 eb
            rw [hpd1.1, if_neg (by omega)]
            have erl : rlG (gpb V) (gpw M0 V) L c (w : Int) = L := by
              unfold rlG
              rw [hbw, if_neg (fun z => by omega)]
            rw [erl] at nx
            exact nx M v hF hP hf
        · rw [if_neg e9]
          exact skip (if_neg (fun q => e9 q.2.2))
    · rw [if_neg e8]
      unfold t_MO_layPush_L218
      rw [w32_id (x := c + 1) (by unfold InR; omega)]
      have same : ∀ m, m ≤ 4 → rcG (gpb V) (gpw M0 V) Ls c m = Ls := by
        intro m
        induction m with
        | zero => intro _; rfl
        | succ m im =>
          intro hm
          rw [rcG, im (by omega)]
          unfold rlG
          have : gpb V c (m : Int) = -1 := if_neg (fun q => e8 q.1)
          rw [this, if_neg (fun z => by omega)]
      rw [same w (by omega)] at hP hf
      rw [same 4 (by omega)]
      exact ⟨M, v, rfl, hF, hP, hf⟩
theorem m_lp_L60 (h : RI M0 V) {x1 : Int} {b52 : Mem → Int → Option Mem} (LS : Int → Int) (hg : GI (gpb V) (gpw M0 V) (CN V) to LS) : ∀ (n c fu : Nat) (M : Mem) (v : Int), c + n = CN V → n < fu → Fr W23 M0 M → PP M V (rdG (gpb V) (gpw M0 V) LS c) → Flg (CN V) LS (rdG (gpb V) (gpw M0 V) LS c) v →
    ∃ N u, t_MO_layPush_L60 x1 b52 fu M v (c : Int) = b52 N u ∧ Fr W23 M0 N ∧ PP N V (rdG (gpb V) (gpw M0 V) LS (CN V)) ∧ Flg (CN V) LS (rdG (gpb V) (gpw M0 V) LS (CN V)) u := by
  have hC := h.1.1.cells
  have hN := CN_eq h.1.1
  have hG := gp_ok h
  intro n
  induction n with
  | zero =>
    intro c fu M v g0 g1 hF hP hf
    obtain ⟨g, rfl⟩ : ∃ g, fu = g + 1 := ⟨fu - 1, by omega⟩
    have hM : RI M V := h.fr hF W23_RIc
    rw [t_MO_layPush_L60]
    simp only [qlet]
    rw [m_cells hM.1.2.1 hM.1.1, if_pos (by omega)]
    have hc : c = CN V := by omega
    subst hc
    exact ⟨M, v, rfl, hF, hP, hf⟩
  | succ n ih =>
    intro c fu M v g0 g1 hF hP hf
    obtain ⟨g, rfl⟩ : ∃ g, fu = g + 1 := ⟨fu - 1, by omega⟩
    have hM : RI M V := h.fr hF W23_RIc
    rw [t_MO_layPush_L60]
    simp only [qlet]
    rw [m_cells hM.1.2.1 hM.1.1, if_neg (by omega)]
    obtain ⟨N, u, n1, n2, n3, n4⟩ := m_lp_L71 h (x1 := x1) (b52 := b52) (b60 := fun a0_ a1_ a2_ => t_MO_layPush_L60 x1 b52 g a0_ a1_ a2_) (c := (c : Int)) (by omega) (by omega) LS (rdG (gpb V) (gpw M0 V) LS c) (fun x => rdG_le _ _ _) (rdG_GI hG hg c (by omega)) 4 0 FU M v (by omega) (fu_big (by omega)) hF hP hf
    rw [show ((0 : Nat) : Int) = 0 from rfl] at n1
    rw [n1, show (c : Int) + 1 = ((c + 1 : Nat) : Int) by omega]
    exact ih (c + 1) g N u (by omega) (by omega) n2 n3 n4
theorem m_lp_L52 (h : RI M0 V) {x1 : Int} (LS : Int → Int) (hg : GI (gpb V) (gpw M0 V) (CN V) to LS) : ∀ (n j fu : Nat) (M : Mem), j + n = 47 → n + 1 < fu → Fr W23 M0 M → PP M V (itG (gpb V) (gpw M0 V) (CN V) LS j) →
    ∃ N, t_MO_layPush_L52 x1 fu M 1 = some N ∧ Fr W23 M0 N ∧ PP N V (itG (gpb V) (gpw M0 V) (CN V) LS 47) := by
  have hC := h.1.1.cells
  have hN := CN_eq h.1.1
  have hG := gp_ok h
  have cv := it_conv hG hg
  intro n
  induction n with
  | zero =>
    intro j fu M g0 g1 hF hP
    obtain ⟨g, rfl⟩ : ∃ g, fu = g + 2 := ⟨fu - 2, by omega⟩
    have hj : j = 47 := by omega
    subst hj
    rw [t_MO_layPush_L52, if_neg (by decide)]
    obtain ⟨N, u, n1, n2, n3, n4⟩ := m_lp_L60 h (x1 := x1) (b52 := fun a0_ a1_ => t_MO_layPush_L52 x1 (g + 1) a0_ a1_) _ (itG_GI hG hg 47) (CN V) 0 FU M 0 (by omega) (fu_big (by omega)) hF hP (Or.inl ⟨rfl, rfl⟩)
    rw [show ((0 : Nat) : Int) = 0 from rfl] at n1
    rw [n1]
    rcases n4 with ⟨u0, e⟩ | ⟨u1, x, x0, x1', lt⟩
    · rw [u0, t_MO_layPush_L52, if_pos rfl]
      exact ⟨N, rfl, n2, by rw [e] at n3; exact n3⟩
    · have := cv.2 48 (by omega) x x0 x1'
      have e : itG (gpb V) (gpw M0 V) (CN V) LS 48 = rdG (gpb V) (gpw M0 V) (itG (gpb V) (gpw M0 V) (CN V) LS 47) (CN V) := rfl
      rw [e] at this
      omega
  | succ n ih =>
    intro j fu M g0 g1 hF hP
    obtain ⟨g, rfl⟩ : ∃ g, fu = g + 2 := ⟨fu - 2, by omega⟩
    rw [t_MO_layPush_L52, if_neg (by decide)]
    obtain ⟨N, u, n1, n2, n3, n4⟩ := m_lp_L60 h (x1 := x1) (b52 := fun a0_ a1_ => t_MO_layPush_L52 x1 (g + 1) a0_ a1_) _ (itG_GI hG hg j) (CN V) 0 FU M 0 (by omega) (fu_big (by omega)) hF hP (Or.inl ⟨rfl, rfl⟩)
    rw [show ((0 : Nat) : Int) = 0 from rfl] at n1
    rw [n1]
    rcases n4 with ⟨u0, e⟩ | ⟨u1, -⟩
    · rw [u0, t_MO_layPush_L52, if_pos rfl]
      refine ⟨N, rfl, n2, ?_⟩
      have same : ∀ m, itG (gpb V) (gpw M0 V) (CN V) LS (j + m) = itG (gpb V) (gpw M0 V) (CN V) LS j := by
        intro m
        induction m with
        | zero => rfl
        | succ m im => rw [show j + (m + 1) = (j + m) + 1 by omega, itG, im]; exact e
      rw [show 47 = j + (n + 1) by omega, same]
      rw [e] at n3
      exact n3
    · rw [u1]
      exact ih (j + 1) (g + 1) N (by omega) (by omega) n2 n3
theorem m_lp_L2 (h : RI M0 V) (t0 : 0 ≤ to) (t1 : to < cellsV V) : ∀ (n : Nat) (fu : Nat) (M : Mem) (v : Int), v + (n : Int) = 48 → 0 ≤ v → n < fu → Fr W23 M0 M → (∀ x, 0 ≤ x → x < v → M.1 223 x = (if x = to then 0 else 1000000) ∧ M.1 222 x = (if x = to then 0 else 1000000)) →
    ∃ N, t_MO_layPush_L2 to fu M v = some N ∧ Fr W23 M0 N ∧ PP N V (itG (gpb V) (gpw M0 V) (CN V) (L0G to) 47) := by
  have hC := h.1.1.cells
  have hN := CN_eq h.1.1
  intro n
  induction n with
  | zero =>
    intro fu M v g0 g1 g2 hF hx
    obtain ⟨g, rfl⟩ : ∃ g, fu = g + 1 := ⟨fu - 1, by omega⟩
    rw [t_MO_layPush_L2, if_pos (by omega)]
    refine m_lp_L52 h (L0G to) (L0_GI t0 (by omega)) 47 0 FU M (by omega) (fu_big (by omega)) hF (fun x x0 x1 => ?_)
    have := hx x x0 (by omega)
    by_cases e : x = to
    · rw [if_pos e] at this
      have e0 : itG (gpb V) (gpw M0 V) (CN V) (L0G to) 0 x = 0 := if_pos e
      rw [e0]
      exact ⟨fun _ => this, fun z => absurd (show (0 : Int) < BIG by decide) z⟩
    · rw [if_neg e] at this
      have e0 : itG (gpb V) (gpw M0 V) (CN V) (L0G to) 0 x = BIG := if_neg e
      rw [e0]
      exact ⟨fun z => absurd z (by omega), fun _ => this⟩
  | succ n ih =>
    intro fu M v g0 g1 g2 hF hx
    obtain ⟨g, rfl⟩ : ∃ g, fu = g + 1 := ⟨fu - 1, by omega⟩
    rw [t_MO_layPush_L2, if_neg (by omega)]
    unfold t_MO_layPush_L25 t_MO_layPush_L43
    have gd : 0 ≤ v ∧ v < 48 := by omega
    simp only [qguard_pos gd, qlet]
    rw [w32_id (x := v + 1) (by unfold InR; omega)]
    by_cases e : v = to
    · rw [if_pos e, if_pos e]
      refine ih g _ (v + 1) (by omega) (by omega) (by omega) ((hF.setI (Or.inr (Or.inl rfl))).setI (Or.inl rfl)) (fun x x0 x1 => ?_)
      by_cases ex : x = v
      · rw [ex, sI_ne (by omega), sI_self, sI_self, if_pos e]
        exact ⟨rfl, rfl⟩
      · rw [sI_ne (by omega), sI_ne (by omega), sI_ne (by omega), sI_ne (by omega)]; exact hx x x0 (by omega)
    · rw [if_neg e, if_neg e]
      refine ih g _ (v + 1) (by omega) (by omega) (by omega) ((hF.setI (Or.inr (Or.inl rfl))).setI (Or.inl rfl)) (fun x x0 x1 => ?_)
      by_cases ex : x = v
      · rw [ex, sI_ne (by omega), sI_self, sI_self, if_neg e]
        exact ⟨rfl, rfl⟩
      · rw [sI_ne (by omega), sI_ne (by omega), sI_ne (by omega), sI_ne (by omega)]; exact hx x x0 (by omega)
end PUSH
/-- what is left from all cells -/
def FP (V : TV) (P : Int → Int → Int) (to : Int) : Int → Int := itG (bpW V) (wpW P) (CN V) (L0G to) 47
theorem FP_GI {V : TV} (hV : VOK V) {P : Int → Int → Int} (hP : ∀ c d, 0 ≤ P c d ∧ P c d ≤ 999) {to : Int} (h0 : 0 ≤ to) (h1 : to < cellsV V) : GI (bpW V) (wpW P) (CN V) to (FP V P to) := itG_GI (bp_ok hV hP) (L0_GI h0 (by have := CN_eq hV; omega)) 47
theorem FP_fix {V : TV} (hV : VOK V) {P : Int → Int → Int} (hP : ∀ c d, 0 ≤ P c d ∧ P c d ≤ 999) {to : Int} (h0 : 0 ≤ to) (h1 : to < cellsV V) : Fix (bpW V) (wpW P) (CN V) (FP V P to) := (it_conv (bp_ok hV hP) (L0_GI h0 (by have := CN_eq hV; omega))).1
theorem m_layPush {M : Mem} {V : TV} (h : RI M V) {to : Int} (h0 : 0 ≤ to) (h1 : to < cellsV V) : ∃ N, t_MO_layPush M to = some N ∧ Fr W23 M N ∧ PP N V (FP V (pcM M V) to) := m_lp_L2 h h0 h1 48 FU M 0 (by omega) (by omega) (fu_big (by omega)) Fr.rf (fun x x0 x1 => by omega)
def pushS (V : TV) (P : Int → Int → Int) (a b what : Int) : Int := if opV V a ∧ opV V b ∧ 0 ≤ what ∧ what ≤ 1 then (if FP V P b a < BIG then (if what = 0 then FP V P b a / 64 else FP V P b a % 64) else -2) else -1
def pushedS (V : TV) (P : Int → Int → Int) (a b k : Int) : Int := if opV V a ∧ opV V b ∧ 0 ≤ k then (if FP V P b a < BIG ∧ k ≤ FP V P b a % 64 then tkG (bpW V) (wpW P) (FP V P b) a k.toNat else -2) else -1
theorem at23 {M : Mem} {v : Int} : Fr W23 M (setI M 191 0 v) := Fr.rf.setI (Or.inr (Or.inr (Or.inl ⟨rfl, rfl⟩)))
theorem fp_lt {V : TV} (hV : VOK V) {P : Int → Int → Int} (hP : ∀ c d, 0 ≤ P c d ∧ P c d ≤ 999) {to c : Int} (h0 : 0 ≤ to) (h1 : to < cellsV V) (c0 : 0 ≤ c) (c1 : c < cellsV V) : 0 ≤ FP V P to c ∧ FP V P to c ≤ BIG ∧ (FP V P to c < BIG → FP V P to c % 64 ≤ 47 ∧ FP V P to c ≤ 3008000) := by
  have hN := CN_eq hV
  have hg := FP_GI hV hP h0 h1
  have hG := bp_ok hV hP
  have g := hg.2 c c0 (by omega)
  refine ⟨g.1, g.2.1, fun q => ?_⟩
  exact hg.top hG c0 (c := c) (by omega) q
theorem m_push {M : Mem} {V : TV} (h : RI M V) (a b what : Int) : ∃ N, t_MO_push M a b what = some (N, pushS V (pcM M V) a b what) ∧ Fr W23 M N := by
  have h1 := h.set0 0
  have hC := h.1.1.cells
  have hPc : ∀ c d, 0 ≤ pcM M V c d ∧ pcM M V c d ≤ 999 := fun c d => pc_rng _ _ _ _ _ _
  unfold t_MO_push pushS
  simp only [qlet]
  rcases m_isOpen h1.1.2.1 h1.1.1 a with ⟨oa, ea⟩ | ⟨oa, ea⟩
  · rw [ea, obind_some, if_neg (by decide)]
    rcases m_isOpen h1.1.2.1 h1.1.1 b with ⟨ob, eb⟩ | ⟨ob, eb⟩
    · rw [eb, obind_some, if_neg (by decide)]
      by_cases w0 : what < 0
      · rw [if_pos w0, if_neg (fun q => by omega)]; exact ⟨_, rfl, at23⟩
      · rw [if_neg w0]
        by_cases w1 : what ≤ 1
        · rw [if_pos w1, if_pos ⟨oa, ob, by omega, w1⟩]
          obtain ⟨N, n1, n2, n3⟩ := m_layPush h1 ob.1 ob.2.1
          have eP : pcM (setI M 191 0 0) V = pcM M V := pcM_fr at23
          rw [eP] at n3
          have hf := fp_lt h.1.1 hPc ob.1 ob.2.1 oa.1 oa.2.1
          have hp := n3 a oa.1 oa.2.1
          have oa0 := oa.1
          have oa1 := oa.2.1
          rw [n1, obind_some, qguard_pos ⟨by omega, by omega⟩, qguard_pos ⟨by omega, by omega⟩, qguard_pos ⟨by omega, by omega⟩]
          refine ⟨N, ?_, at23.trans n2⟩
          by_cases q : FP V (pcM M V) b a < BIG
          · have hp1 := hp.1 q
            have hf1 := hf.2.2 q
            rw [hp1.1, hp1.2, if_pos (by omega), if_pos q]
            split <;> rfl
          · rw [(hp.2 q).1, if_neg (by omega), if_neg q]
        · rw [if_neg w1, if_neg (fun q => by omega)]; exact ⟨_, rfl, at23⟩
    · rw [eb, obind_some, if_pos rfl, if_neg (fun q => ob q.2.1)]; exact ⟨_, rfl, at23⟩
  · rw [ea, obind_some, if_pos rfl, if_neg (fun q => oa q.1)]; exact ⟨_, rfl, at23⟩
theorem ri_push {M : Mem} {V : TV} (h : RI M V) (a b k : Int) : Ok (fun r => RI r.1 V) (t_MO_push M a b k) := by
  obtain ⟨N, n1, n2⟩ := m_push h a b k
  exact ⟨_, n1, h.fr n2 W23_RIc⟩
theorem m_isPushed {M : Mem} {V : TV} (h : RI M V) {P : Int → Int → Int} (hPe : pcM M V = P) {c w to : Int} (t0 : 0 ≤ to) (t1 : to < cellsV V) (hP : PP M V (FP V P to)) (c0 : 0 ≤ c) (c1 : c < cellsV V) (c8 : V 8 c = 0) (hb : FP V P to c < BIG) (w0 : 0 ≤ w) (w1 : w < 4) :
    ∃ N, t_MO_isPushed M c w = some (N, if 0 ≤ bpW V c w ∧ FP V P to (bpW V c w) + wpW P c w = FP V P to c then 1 else 0) ∧ Fr PW2 M N := by
  have hC := h.1.1.cells
  have hPc : ∀ c d, 0 ≤ P c d ∧ P c d ≤ 999 := fun c d => by rw [← hPe]; exact pc_rng _ _ _ _ _ _
  have hbr := bs_rng h.1.1 c0 c1 w
  have hB : BIG = 100000000 := rfl
  unfold t_MO_isPushed
  rw [m_beside h.1.2.1 h.1.1 c0 c1 w0 (by omega), obind_some]
  by_cases e1 : bsV V c w = -1
  · have : bpW V c w = -1 := if_neg (fun q => by omega)
    rw [if_pos e1, this, if_neg (fun q => by omega)]
    exact ⟨M, rfl, Fr.rf⟩
  · rw [if_neg e1, qguard_pos ⟨by omega, by omega⟩, (h.1.2.1.2.2.2 _ (by omega) (by omega)).2.1]
    by_cases e8 : V 8 (bsV V c w) = 0
    · have hbw : bpW V c w = bsV V c w := if_pos ⟨c8, by omega, e8⟩
      have hc := hP c c0 c1
      have hd := hP (bsV V c w) (by omega) hbr.2
      have fc := fp_lt h.1.1 hPc t0 t1 c0 c1
      have fd := fp_lt h.1.1 hPc t0 t1 (c := bsV V c w) (by omega) hbr.2
      have hcs := hPc c w
      have hc1 := hc.1 hb
      have fc1 := fc.2.2 hb
      rw [if_pos e8, qguard_pos ⟨by omega, by omega⟩, qguard_pos ⟨by omega, by omega⟩, hbw, hc1.2, w32_id (x := FP V P to c % 64 - 1) (by unfold InR; omega)]
      have hwt : wpW P c w = P c w * 64 + 1 := rfl
      rw [hwt]
      by_cases q : M.1 222 (bsV V c w) = FP V P to c % 64 - 1
      · have hdb : FP V P to (bsV V c w) < BIG := by
          apply Classical.byContradiction
          intro z
          have := (hd.2 z).2
          omega
        have hd1 := hd.1 hdb
        have fd1 := fd.2.2 hdb
        obtain ⟨N, n1, n2⟩ := m_pushOf h c0 c1 w0 w1 (d := w) (by omega)
        rw [if_pos q, qguard_pos ⟨by omega, by omega⟩, n1, obind_some, qguard_pos ⟨by omega, by omega⟩, hd1.1, (n2 223 c (by unfold PW2 GO; omega)).1, hc1.1, hPe, w32_id (x := FP V P to (bsV V c w) / 64 + P c w) (by unfold InR; omega)]
        rw [hd1.2] at q
        by_cases z : FP V P to (bsV V c w) / 64 + P c w = FP V P to c / 64
        · rw [if_pos z, if_pos ⟨by omega, by omega⟩]; exact ⟨N, rfl, n2⟩
        · rw [if_neg z, if_neg (fun y => z (by omega))]; exact ⟨N, rfl, n2⟩
      · rw [if_neg q, if_neg (fun y => ?_)]
        · exact ⟨M, rfl, Fr.rf⟩
        · have hdb : FP V P to (bsV V c w) < BIG := by omega
          have hd1 := hd.1 hdb
          have fd1 := fd.2.2 hdb
          rw [hd1.2] at q
          omega
    · have : bpW V c w = -1 := if_neg (fun q => e8 q.2.2)
      rw [if_neg e8, this, if_neg (fun q => by omega)]
      exact ⟨M, rfl, Fr.rf⟩
theorem PP.fr {M N : Mem} {V : TV} {L : Int → Int} (h : PP M V L) (hF : Fr PW2 M N) : PP N V L := by
  intro x x0 x1
  rw [(hF 223 x (by unfold PW2 GO; omega)).1, (hF 222 x (by unfold PW2 GO; omega)).1]
  exact h x x0 x1
theorem pcM_fr2 {M0 M : Mem} {V : TV} (hF : Fr PW2 M0 M) : pcM M V = pcM M0 V := pcM_fr (hF.mono (fun k j q => Or.inr (Or.inr (Or.inr q))))
theorem m_pushed_L72 {V : TV} {P : Int → Int → Int} {x1 x2 x3 c i to : Int} {b63 : Mem → Int → Int → Option (Mem × Int)} (hV : VOK V) (hPc : ∀ c d, 0 ≤ P c d ∧ P c d ≤ 999) (t0 : 0 ≤ to) (t1 : to < cellsV V) (c0 : 0 ≤ c) (c1 : c < cellsV V) (c8 : V 8 c = 0) (hb : FP V P to c < BIG) (hne : FP V P to c ≠ 0) (hi : 0 ≤ i ∧ i < 100) : ∀ (n fu : Nat) (M : Mem) (w : Int), w + (n : Int) = ndG (bpW V) (wpW P) (FP V P to) c → 0 ≤ w → n < fu → RI M V → pcM M V = P → PP M V (FP V P to) →
    ∃ N, t_MO_pushed_L72 x1 x2 x3 b63 fu M c i w = b63 N (bpW V c (ndG (bpW V) (wpW P) (FP V P to) c)) (i + 1) ∧ Fr PW2 M N := by
  have hC := hV.cells
  have hN := CN_eq hV
  have hG := bp_ok hV hPc
  have hg := FP_GI hV hPc t0 t1
  have nd := nd_some hG hg (FP_fix hV hPc t0 t1) c0 (c := c) (by omega) hb hne
  intro n
  induction n with
  | zero =>
    intro fu M w g0 g1 g2 h hPe hP
    obtain ⟨g, rfl⟩ : ∃ g, fu = g + 1 := ⟨fu - 1, by omega⟩
    have hw : w = ndG (bpW V) (wpW P) (FP V P to) c := by omega
    obtain ⟨N, n1, n2⟩ := m_isPushed h hPe t0 t1 hP c0 c1 c8 hb (w := w) g1 (by omega)
    have hm := nd.2.1
    rw [← hw] at hm ⊢
    unfold mtG at hm
    have hm2 := hm.1
    have ebp : bpW V c w = bsV V c w := by
      unfold bpW at hm2 ⊢
      split at hm2
      · rename_i q; rw [if_pos q]
      · omega
    have hN2 : RI N V := h.fr n2 PW2_RIc
    rw [t_MO_pushed_L72, n1, obind_some, if_pos hm, if_neg (show ¬ (1 : Int) = 0 by decide), m_beside hN2.1.2.1 hV c0 c1 g1 (by omega), obind_some, w32_id (x := i + 1) (by unfold InR; omega), ebp]
    exact ⟨N, rfl, n2⟩
  | succ n ih =>
    intro fu M w g0 g1 g2 h hPe hP
    obtain ⟨g, rfl⟩ : ∃ g, fu = g + 1 := ⟨fu - 1, by omega⟩
    obtain ⟨N, n1, n2⟩ := m_isPushed h hPe t0 t1 hP c0 c1 c8 hb (w := w) g1 (by omega)
    have hm := nd.2.2 w g1 (by omega)
    unfold mtG at hm
    rw [t_MO_pushed_L72, n1, obind_some, if_neg hm, if_pos (show (0 : Int) = 0 from rfl), w32_id (x := w + 1) (by unfold InR; omega)]
    obtain ⟨O, o1, o2⟩ := ih g N (w + 1) (by omega) (by omega) (by omega) (h.fr n2 PW2_RIc) ((pcM_fr2 n2).trans hPe) (hP.fr n2)
    exact ⟨O, o1, n2.trans o2⟩
theorem m_pushed_L63 {V : TV} {P : Int → Int → Int} {x1 x2 to : Int} {k : Nat} {a : Int} (hV : VOK V) (hPc : ∀ c d, 0 ≤ P c d ∧ P c d ≤ 999) (t0 : 0 ≤ to) (t1 : to < cellsV V) (a0 : 0 ≤ a) (a1 : a < cellsV V) (a8 : V 8 a = 0) (hb : FP V P to a < BIG) (hk : (k : Int) ≤ FP V P to a % 64) : ∀ (n i fu : Nat) (M : Mem), i + n = k → n < fu → RI M V → pcM M V = P → PP M V (FP V P to) → V 8 (tkG (bpW V) (wpW P) (FP V P to) a i) = 0 →
    ∃ N, t_MO_pushed_L63 x1 x2 (k : Int) fu M (tkG (bpW V) (wpW P) (FP V P to) a i) (i : Int) = some (N, tkG (bpW V) (wpW P) (FP V P to) a k) ∧ Fr PW2 M N := by
  have hC := hV.cells
  have hN := CN_eq hV
  have hG := bp_ok hV hPc
  have hg := FP_GI hV hPc t0 t1
  have hfx := FP_fix hV hPc t0 t1
  have h47 := ((fp_lt hV hPc t0 t1 a0 a1).2.2 hb).1
  intro n
  induction n with
  | zero =>
    intro i fu M g0 g1 h hPe hP h8
    obtain ⟨g, rfl⟩ : ∃ g, fu = g + 1 := ⟨fu - 1, by omega⟩
    rw [t_MO_pushed_L63, if_pos (by omega), show i = k by omega]
    exact ⟨M, rfl, Fr.rf⟩
  | succ n ih =>
    intro i fu M g0 g1 h hPe hP h8
    obtain ⟨g, rfl⟩ : ∃ g, fu = g + 1 := ⟨fu - 1, by omega⟩
    obtain ⟨q1, q2, q3⟩ := tk_facts hG hg hfx a0 (c := a) (by omega) hb i (by omega)
    rw [t_MO_pushed_L63, if_neg (by omega)]
    have hne : FP V P to (tkG (bpW V) (wpW P) (FP V P to) a i) ≠ 0 := by intro e; rw [e] at q3; omega
    have nd := nd_some hG hg hfx q1.1 q1.2 (by omega) hne
    obtain ⟨N, n1, n2⟩ := m_pushed_L72 (x1 := x1) (x2 := x2) (x3 := (k : Int)) (i := (i : Int)) (b63 := fun a0_ a1_ a2_ => t_MO_pushed_L63 x1 x2 (k : Int) g a0_ a1_ a2_) hV hPc t0 t1 q1.1 (by omega) h8 (by omega) hne (by omega) (ndG (bpW V) (wpW P) (FP V P to) (tkG (bpW V) (wpW P) (FP V P to) a i)).toNat FU M 0 (by omega) (by omega) (fu_big (by omega)) h hPe hP
    have h8n : V 8 (tkG (bpW V) (wpW P) (FP V P to) a (i + 1)) = 0 := by
      rw [tkG]
      have hm := nd.2.1.1
      generalize tkG (bpW V) (wpW P) (FP V P to) a i = c at *
      generalize ndG (bpW V) (wpW P) (FP V P to) c = w at *
      unfold bpW at hm ⊢
      split at hm
      · rename_i z; rw [if_pos z]; exact z.2.2
      · omega
    rw [n1, show (i : Int) + 1 = ((i + 1 : Nat) : Int) by omega]
    obtain ⟨O, o1, o2⟩ := ih (i + 1) g N (by omega) (by omega) (h.fr n2 PW2_RIc) ((pcM_fr2 n2).trans hPe) (hP.fr n2) h8n
    exact ⟨O, o1, n2.trans o2⟩
theorem m_pushed {M : Mem} {V : TV} (h : RI M V) (a b k : Int) : ∃ N, t_MO_pushed M a b k = some (N, pushedS V (pcM M V) a b k) ∧ Fr W23 M N := by
  have h1 := h.set0 0
  have hC := h.1.1.cells
  have hPc : ∀ c d, 0 ≤ pcM M V c d ∧ pcM M V c d ≤ 999 := fun c d => pc_rng _ _ _ _ _ _
  unfold t_MO_pushed pushedS
  simp only [qlet]
  rcases m_isOpen h1.1.2.1 h1.1.1 a with ⟨oa, ea⟩ | ⟨oa, ea⟩
  · rw [ea, obind_some, if_neg (by decide)]
    rcases m_isOpen h1.1.2.1 h1.1.1 b with ⟨ob, eb⟩ | ⟨ob, eb⟩
    · rw [eb, obind_some, if_neg (by decide)]
      by_cases k0 : 0 ≤ k
      · rw [if_pos k0, if_pos ⟨oa, ob, k0⟩]
        obtain ⟨N, n1, n2, n3⟩ := m_layPush h1 ob.1 ob.2.1
        have eP : pcM (setI M 191 0 0) V = pcM M V := pcM_fr at23
        rw [eP] at n3
        have hf := fp_lt h.1.1 hPc ob.1 ob.2.1 oa.1 oa.2.1
        have hp := n3 a oa.1 oa.2.1
        have oa0 := oa.1
        have oa1 := oa.2.1
        have hFN := at23.trans n2
        have hN : RI N V := h.fr hFN W23_RIc
        rw [n1, obind_some, qguard_pos ⟨by omega, by omega⟩, qguard_pos ⟨by omega, by omega⟩]
        by_cases q : FP V (pcM M V) b a < BIG
        · have hp1 := hp.1 q
          have hf1 := hf.2.2 q
          rw [hp1.1, hp1.2, if_neg (by omega)]
          by_cases q2 : k ≤ FP V (pcM M V) b a % 64
          · rw [if_pos q2, if_pos ⟨q, q2⟩]
            obtain ⟨k, rfl⟩ : ∃ m : Nat, k = (m : Int) := ⟨k.toNat, by omega⟩
            obtain ⟨O, o1, o2⟩ := m_pushed_L63 (x1 := a) (x2 := b) (k := k) h.1.1 hPc ob.1 ob.2.1 oa.1 oa.2.1 oa.2.2 q q2 k 0 FU N (by omega) (fu_big (by omega)) hN ((pcM_fr hFN).trans rfl) n3 oa.2.2
            exact ⟨O, o1, hFN.trans (o2.mono (fun k j q => Or.inr (Or.inr (Or.inr q))))⟩
          · rw [if_neg q2, if_neg (fun z => q2 z.2)]
            exact ⟨N, rfl, hFN⟩
        · rw [(hp.2 q).1, if_pos (by omega), if_neg (fun z => q z.1)]
          exact ⟨N, rfl, hFN⟩
      · rw [if_neg k0, if_neg (fun z => k0 z.2.2)]; exact ⟨_, rfl, at23⟩
    · rw [eb, obind_some, if_pos rfl, if_neg (fun q => ob q.2.1)]; exact ⟨_, rfl, at23⟩
  · rw [ea, obind_some, if_pos rfl, if_neg (fun q => oa q.1)]; exact ⟨_, rfl, at23⟩
theorem ri_pushed {M : Mem} {V : TV} (h : RI M V) (a b k : Int) : Ok (fun r => RI r.1 V) (t_MO_pushed M a b k) := by
  obtain ⟨N, n1, n2⟩ := m_pushed h a b k
  exact ⟨_, n1, h.fr n2 W23_RIc⟩
end
