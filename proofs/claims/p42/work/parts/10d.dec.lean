/-- a byte of a code, 256 behind its end -/
def bA (c : ByteArray) (p : Nat) : Nat := if h : p < c.size then c[p].toNat else 256
theorem u1_run {c : ByteArray} {p v : Nat} (h : bA c p = v) (hv : v < 256) : (ClassFile.Reader.u1 : ClassFile.Decoder Nat) c p = .ok (v, p + 1) := by
  unfold bA at h
  by_cases q : p < c.size
  · rw [dif_pos q] at h
    show (dite (p < c.size) (fun h => ((do set (p + 1); pure c[p].toNat) : ClassFile.Decoder Nat)) (fun _ => throw (ClassFile.HasTruncated.truncated p))) c p = _
    rw [dif_pos q, ← h]; rfl
  · rw [dif_neg q] at h; omega
theorem u2_run {c : ByteArray} {p a b : Nat} (h : bA c p = a) (ha : a < 256) (h' : bA c (p + 1) = b) (hb : b < 256) : (ClassFile.Reader.u2 : ClassFile.Decoder Nat) c p = .ok (a * 256 + b, p + 2) := by
  change Except.bind ((ClassFile.Reader.u1 : ClassFile.Decoder Nat) c p) _ = _
  rw [u1_run h ha]
  change Except.bind ((ClassFile.Reader.u1 : ClassFile.Decoder Nat) c (p + 1)) _ = _
  rw [u1_run h' hb]; rfl
theorem s1_run {c : ByteArray} {p a : Nat} (h : bA c p = a) (ha : a < 256) : (ClassFile.Reader.s1 : ClassFile.Decoder Int) c p = .ok (ClassFile.Reader.signed 8 a, p + 1) := by
  change Except.bind ((ClassFile.Reader.u1 : ClassFile.Decoder Nat) c p) _ = _
  rw [u1_run h ha]; rfl
theorem s2_run {c : ByteArray} {p a b : Nat} (h : bA c p = a) (ha : a < 256) (h' : bA c (p + 1) = b) (hb : b < 256) : (ClassFile.Reader.s2 : ClassFile.Decoder Int) c p = .ok (ClassFile.Reader.signed 16 (a * 256 + b), p + 2) := by
  change Except.bind ((ClassFile.Reader.u2 : ClassFile.Decoder Nat) c p) _ = _
  rw [u2_run h ha h' hb]; rfl
/-- what stands at a place, by a function of bytes -/
def q0 (f : Nat → Nat) (p op : Nat) : Bool := f p == op
def qU1 (f : Nat → Nat) (p op v : Nat) : Bool := f p == op && (f (p + 1) == v && decide (f (p + 1) < 256))
def qS1 (f : Nat → Nat) (p op : Nat) (v : Int) : Bool := f p == op && (decide (ClassFile.Reader.signed 8 (f (p + 1)) = v) && decide (f (p + 1) < 256))
def qU2 (f : Nat → Nat) (p op v : Nat) : Bool := f p == op && (f (p + 1) * 256 + f (p + 2) == v && (decide (f (p + 1) < 256) && decide (f (p + 2) < 256)))
def qS2 (f : Nat → Nat) (p op : Nat) (v : Int) : Bool := f p == op && (decide (ClassFile.Reader.signed 16 (f (p + 1) * 256 + f (p + 2)) = v) && (decide (f (p + 1) < 256) && decide (f (p + 2) < 256)))
def qI (f : Nat → Nat) (p op v : Nat) (w : Int) : Bool := f p == op && (f (p + 1) == v && (decide (ClassFile.Reader.signed 8 (f (p + 2)) = w) && (decide (f (p + 1) < 256) && decide (f (p + 2) < 256))))
theorem q0_of {f : Nat → Nat} {p op : Nat} (h : q0 f p op = true) : f p = op := by
  unfold q0 at h; exact beq_iff_eq.mp h
theorem qU1_of {f : Nat → Nat} {p op v : Nat} (h : qU1 f p op v = true) : f p = op ∧ f (p + 1) = v ∧ f (p + 1) < 256 := by
  unfold qU1 at h; rw [Bool.and_eq_true, Bool.and_eq_true, beq_iff_eq, beq_iff_eq, decide_eq_true_eq] at h; exact h
theorem qS1_of {f : Nat → Nat} {p op : Nat} {v : Int} (h : qS1 f p op v = true) : f p = op ∧ ClassFile.Reader.signed 8 (f (p + 1)) = v ∧ f (p + 1) < 256 := by
  unfold qS1 at h; rw [Bool.and_eq_true, Bool.and_eq_true, beq_iff_eq, decide_eq_true_eq, decide_eq_true_eq] at h; exact h
theorem qU2_of {f : Nat → Nat} {p op v : Nat} (h : qU2 f p op v = true) : f p = op ∧ f (p + 1) * 256 + f (p + 2) = v ∧ f (p + 1) < 256 ∧ f (p + 2) < 256 := by
  unfold qU2 at h; rw [Bool.and_eq_true, Bool.and_eq_true, Bool.and_eq_true, beq_iff_eq, beq_iff_eq, decide_eq_true_eq, decide_eq_true_eq] at h; exact h
theorem qS2_of {f : Nat → Nat} {p op : Nat} {v : Int} (h : qS2 f p op v = true) : f p = op ∧ ClassFile.Reader.signed 16 (f (p + 1) * 256 + f (p + 2)) = v ∧ f (p + 1) < 256 ∧ f (p + 2) < 256 := by
  unfold qS2 at h; rw [Bool.and_eq_true, Bool.and_eq_true, Bool.and_eq_true, beq_iff_eq, decide_eq_true_eq, decide_eq_true_eq, decide_eq_true_eq] at h; exact h
theorem qI_of {f : Nat → Nat} {p op v : Nat} {w : Int} (h : qI f p op v w = true) : f p = op ∧ f (p + 1) = v ∧ ClassFile.Reader.signed 8 (f (p + 2)) = w ∧ f (p + 1) < 256 ∧ f (p + 2) < 256 := by
  unfold qI at h; rw [Bool.and_eq_true, Bool.and_eq_true, Bool.and_eq_true, Bool.and_eq_true, beq_iff_eq, beq_iff_eq, decide_eq_true_eq, decide_eq_true_eq, decide_eq_true_eq] at h; exact h
/-- a window of a code -/
def wB (w : List Nat) (i : Nat) : Nat := (w[i]?).getD 256
theorem bA_list (c : ByteArray) (p : Nat) : bA c p = ((c.data.toList[p]?).map UInt8.toNat).getD 256 := by
  unfold bA
  by_cases q : p < c.size
  · have q' : p < c.data.toList.length := q
    rw [dif_pos q, List.getElem?_eq_getElem q']; rfl
  · have q' : ¬ p < c.data.toList.length := q
    rw [dif_neg q, List.getElem?_eq_none (by omega)]; rfl
theorem wB_of {c : ByteArray} {n k : Nat} {w : List Nat} (h : ((c.data.toList.drop n).take k).map UInt8.toNat = w) (i : Nat) (hi : i < k) : bA c (n + i) = wB w i := by
  rw [bA_list]; unfold wB; subst h
  rw [List.getElem?_map, List.getElem?_take, if_pos hi, List.getElem?_drop]
theorem q_inr_l2i (x : Int64) : InR (q_l2i x) := q_inr_toInt _
theorem q0_win {f g : Nat → Nat} {n k r op : Nat} (hf : ∀ i, i < k → f (n + i) = g i) (h : (decide (r + 1 ≤ k) && q0 g r op) = true) : q0 f (n + r) op = true := by
  rw [Bool.and_eq_true, decide_eq_true_eq] at h
  obtain ⟨hk, h⟩ := h
  have e0 : f (n + r) = g (r) := hf (r) (by omega)
  unfold q0 at h ⊢
  rw [e0]; exact h
theorem qU1_win {f g : Nat → Nat} {n k r op : Nat} {v : Nat} (hf : ∀ i, i < k → f (n + i) = g i) (h : (decide (r + 2 ≤ k) && qU1 g r op v) = true) : qU1 f (n + r) op v = true := by
  rw [Bool.and_eq_true, decide_eq_true_eq] at h
  obtain ⟨hk, h⟩ := h
  have e0 : f (n + r) = g (r) := hf (r) (by omega)
  have e1 : f (n + r + 1) = g (r + 1) := hf (r + 1) (by omega)
  unfold qU1 at h ⊢
  rw [e0, e1]; exact h
theorem qS1_win {f g : Nat → Nat} {n k r op : Nat} {v : Int} (hf : ∀ i, i < k → f (n + i) = g i) (h : (decide (r + 2 ≤ k) && qS1 g r op v) = true) : qS1 f (n + r) op v = true := by
  rw [Bool.and_eq_true, decide_eq_true_eq] at h
  obtain ⟨hk, h⟩ := h
  have e0 : f (n + r) = g (r) := hf (r) (by omega)
  have e1 : f (n + r + 1) = g (r + 1) := hf (r + 1) (by omega)
  unfold qS1 at h ⊢
  rw [e0, e1]; exact h
theorem qU2_win {f g : Nat → Nat} {n k r op : Nat} {v : Nat} (hf : ∀ i, i < k → f (n + i) = g i) (h : (decide (r + 3 ≤ k) && qU2 g r op v) = true) : qU2 f (n + r) op v = true := by
  rw [Bool.and_eq_true, decide_eq_true_eq] at h
  obtain ⟨hk, h⟩ := h
  have e0 : f (n + r) = g (r) := hf (r) (by omega)
  have e1 : f (n + r + 1) = g (r + 1) := hf (r + 1) (by omega)
  have e2 : f (n + r + 2) = g (r + 2) := hf (r + 2) (by omega)
  unfold qU2 at h ⊢
  rw [e0, e1, e2]; exact h
theorem qS2_win {f g : Nat → Nat} {n k r op : Nat} {v : Int} (hf : ∀ i, i < k → f (n + i) = g i) (h : (decide (r + 3 ≤ k) && qS2 g r op v) = true) : qS2 f (n + r) op v = true := by
  rw [Bool.and_eq_true, decide_eq_true_eq] at h
  obtain ⟨hk, h⟩ := h
  have e0 : f (n + r) = g (r) := hf (r) (by omega)
  have e1 : f (n + r + 1) = g (r + 1) := hf (r + 1) (by omega)
  have e2 : f (n + r + 2) = g (r + 2) := hf (r + 2) (by omega)
  unfold qS2 at h ⊢
  rw [e0, e1, e2]; exact h
theorem qI_win {f g : Nat → Nat} {n k r op : Nat} {v : Nat} {w : Int} (hf : ∀ i, i < k → f (n + i) = g i) (h : (decide (r + 3 ≤ k) && qI g r op v w) = true) : qI f (n + r) op v w = true := by
  rw [Bool.and_eq_true, decide_eq_true_eq] at h
  obtain ⟨hk, h⟩ := h
  have e0 : f (n + r) = g (r) := hf (r) (by omega)
  have e1 : f (n + r + 1) = g (r + 1) := hf (r + 1) (by omega)
  have e2 : f (n + r + 2) = g (r + 2) := hf (r + 2) (by omega)
  unfold qI at h ⊢
  rw [e0, e1, e2]; exact h
theorem dc_2 {c : ByteArray} {p : Nat} (h : q0 (bA c) p 2 = true) : decode c p = .ok (.iconst (-1), 1) := by
  have h0 := u1_run (q0_of h) (by decide)
  change Except.bind (Except.bind ((ClassFile.Reader.u1 : ClassFile.Decoder Nat) c p) _) _ = _
  rw [h0]
  change Except.ok (_, p + 1 - p) = _
  rw [Nat.add_sub_cancel_left]
theorem dc_3 {c : ByteArray} {p : Nat} (h : q0 (bA c) p 3 = true) : decode c p = .ok (.iconst 0, 1) := by
  have h0 := u1_run (q0_of h) (by decide)
  change Except.bind (Except.bind ((ClassFile.Reader.u1 : ClassFile.Decoder Nat) c p) _) _ = _
  rw [h0]
  change Except.ok (_, p + 1 - p) = _
  rw [Nat.add_sub_cancel_left]
theorem dc_4 {c : ByteArray} {p : Nat} (h : q0 (bA c) p 4 = true) : decode c p = .ok (.iconst 1, 1) := by
  have h0 := u1_run (q0_of h) (by decide)
  change Except.bind (Except.bind ((ClassFile.Reader.u1 : ClassFile.Decoder Nat) c p) _) _ = _
  rw [h0]
  change Except.ok (_, p + 1 - p) = _
  rw [Nat.add_sub_cancel_left]
theorem dc_5 {c : ByteArray} {p : Nat} (h : q0 (bA c) p 5 = true) : decode c p = .ok (.iconst 2, 1) := by
  have h0 := u1_run (q0_of h) (by decide)
  change Except.bind (Except.bind ((ClassFile.Reader.u1 : ClassFile.Decoder Nat) c p) _) _ = _
  rw [h0]
  change Except.ok (_, p + 1 - p) = _
  rw [Nat.add_sub_cancel_left]
theorem dc_6 {c : ByteArray} {p : Nat} (h : q0 (bA c) p 6 = true) : decode c p = .ok (.iconst 3, 1) := by
  have h0 := u1_run (q0_of h) (by decide)
  change Except.bind (Except.bind ((ClassFile.Reader.u1 : ClassFile.Decoder Nat) c p) _) _ = _
  rw [h0]
  change Except.ok (_, p + 1 - p) = _
  rw [Nat.add_sub_cancel_left]
theorem dc_7 {c : ByteArray} {p : Nat} (h : q0 (bA c) p 7 = true) : decode c p = .ok (.iconst 4, 1) := by
  have h0 := u1_run (q0_of h) (by decide)
  change Except.bind (Except.bind ((ClassFile.Reader.u1 : ClassFile.Decoder Nat) c p) _) _ = _
  rw [h0]
  change Except.ok (_, p + 1 - p) = _
  rw [Nat.add_sub_cancel_left]
theorem dc_8 {c : ByteArray} {p : Nat} (h : q0 (bA c) p 8 = true) : decode c p = .ok (.iconst 5, 1) := by
  have h0 := u1_run (q0_of h) (by decide)
  change Except.bind (Except.bind ((ClassFile.Reader.u1 : ClassFile.Decoder Nat) c p) _) _ = _
  rw [h0]
  change Except.ok (_, p + 1 - p) = _
  rw [Nat.add_sub_cancel_left]
theorem dc_9 {c : ByteArray} {p : Nat} (h : q0 (bA c) p 9 = true) : decode c p = .ok (.lconst 0, 1) := by
  have h0 := u1_run (q0_of h) (by decide)
  change Except.bind (Except.bind ((ClassFile.Reader.u1 : ClassFile.Decoder Nat) c p) _) _ = _
  rw [h0]
  change Except.ok (_, p + 1 - p) = _
  rw [Nat.add_sub_cancel_left]
theorem dc_10 {c : ByteArray} {p : Nat} (h : q0 (bA c) p 10 = true) : decode c p = .ok (.lconst 1, 1) := by
  have h0 := u1_run (q0_of h) (by decide)
  change Except.bind (Except.bind ((ClassFile.Reader.u1 : ClassFile.Decoder Nat) c p) _) _ = _
  rw [h0]
  change Except.ok (_, p + 1 - p) = _
  rw [Nat.add_sub_cancel_left]
theorem dc_16 {c : ByteArray} {p : Nat} {v : Int} (h : qS1 (bA c) p 16 v = true) : decode c p = .ok (.bipush v, 2) := by
  have g := qS1_of h
  have h0 := u1_run g.1 (by decide)
  change Except.bind (Except.bind ((ClassFile.Reader.u1 : ClassFile.Decoder Nat) c p) _) _ = _
  rw [h0]
  have h1 := s1_run rfl g.2.2
  rw [g.2.1] at h1
  change Except.bind (Except.bind ((ClassFile.Reader.s1 : ClassFile.Decoder Int) c (p + 1)) _) _ = _
  rw [h1]
  change Except.ok (_, p + 2 - p) = _
  rw [Nat.add_sub_cancel_left]
theorem dc_17 {c : ByteArray} {p : Nat} {v : Int} (h : qS2 (bA c) p 17 v = true) : decode c p = .ok (.sipush v, 3) := by
  have g := qS2_of h
  have h0 := u1_run g.1 (by decide)
  change Except.bind (Except.bind ((ClassFile.Reader.u1 : ClassFile.Decoder Nat) c p) _) _ = _
  rw [h0]
  have h1 := s2_run rfl g.2.2.1 rfl g.2.2.2
  rw [g.2.1] at h1
  change Except.bind (Except.bind ((ClassFile.Reader.s2 : ClassFile.Decoder Int) c (p + 1)) _) _ = _
  rw [h1]
  change Except.ok (_, p + 3 - p) = _
  rw [Nat.add_sub_cancel_left]
theorem dc_18 {c : ByteArray} {p : Nat} {v : Nat} (h : qU1 (bA c) p 18 v = true) : decode c p = .ok (.ldc v, 2) := by
  have g := qU1_of h
  have h0 := u1_run g.1 (by decide)
  change Except.bind (Except.bind ((ClassFile.Reader.u1 : ClassFile.Decoder Nat) c p) _) _ = _
  rw [h0]
  have h1 := u1_run g.2.1 (g.2.1 ▸ g.2.2)
  change Except.bind (Except.bind ((ClassFile.Reader.u1 : ClassFile.Decoder Nat) c (p + 1)) _) _ = _
  rw [h1]
  change Except.ok (_, p + 2 - p) = _
  rw [Nat.add_sub_cancel_left]
theorem dc_19 {c : ByteArray} {p : Nat} {v : Nat} (h : qU2 (bA c) p 19 v = true) : decode c p = .ok (.ldc_w v, 3) := by
  have g := qU2_of h
  have h0 := u1_run g.1 (by decide)
  change Except.bind (Except.bind ((ClassFile.Reader.u1 : ClassFile.Decoder Nat) c p) _) _ = _
  rw [h0]
  have h1 := u2_run rfl g.2.2.1 rfl g.2.2.2
  rw [g.2.1] at h1
  change Except.bind (Except.bind ((ClassFile.Reader.u2 : ClassFile.Decoder Nat) c (p + 1)) _) _ = _
  rw [h1]
  change Except.ok (_, p + 3 - p) = _
  rw [Nat.add_sub_cancel_left]
theorem dc_20 {c : ByteArray} {p : Nat} {v : Nat} (h : qU2 (bA c) p 20 v = true) : decode c p = .ok (.ldc2_w v, 3) := by
  have g := qU2_of h
  have h0 := u1_run g.1 (by decide)
  change Except.bind (Except.bind ((ClassFile.Reader.u1 : ClassFile.Decoder Nat) c p) _) _ = _
  rw [h0]
  have h1 := u2_run rfl g.2.2.1 rfl g.2.2.2
  rw [g.2.1] at h1
  change Except.bind (Except.bind ((ClassFile.Reader.u2 : ClassFile.Decoder Nat) c (p + 1)) _) _ = _
  rw [h1]
  change Except.ok (_, p + 3 - p) = _
  rw [Nat.add_sub_cancel_left]
theorem dc_21 {c : ByteArray} {p : Nat} {v : Nat} (h : qU1 (bA c) p 21 v = true) : decode c p = .ok (.iload v, 2) := by
  have g := qU1_of h
  have h0 := u1_run g.1 (by decide)
  change Except.bind (Except.bind ((ClassFile.Reader.u1 : ClassFile.Decoder Nat) c p) _) _ = _
  rw [h0]
  have h1 := u1_run g.2.1 (g.2.1 ▸ g.2.2)
  change Except.bind (Except.bind ((ClassFile.Reader.u1 : ClassFile.Decoder Nat) c (p + 1)) _) _ = _
  rw [h1]
  change Except.ok (_, p + 2 - p) = _
  rw [Nat.add_sub_cancel_left]
theorem dc_22 {c : ByteArray} {p : Nat} {v : Nat} (h : qU1 (bA c) p 22 v = true) : decode c p = .ok (.lload v, 2) := by
  have g := qU1_of h
  have h0 := u1_run g.1 (by decide)
  change Except.bind (Except.bind ((ClassFile.Reader.u1 : ClassFile.Decoder Nat) c p) _) _ = _
  rw [h0]
  have h1 := u1_run g.2.1 (g.2.1 ▸ g.2.2)
  change Except.bind (Except.bind ((ClassFile.Reader.u1 : ClassFile.Decoder Nat) c (p + 1)) _) _ = _
  rw [h1]
  change Except.ok (_, p + 2 - p) = _
  rw [Nat.add_sub_cancel_left]
theorem dc_25 {c : ByteArray} {p : Nat} {v : Nat} (h : qU1 (bA c) p 25 v = true) : decode c p = .ok (.aload v, 2) := by
  have g := qU1_of h
  have h0 := u1_run g.1 (by decide)
  change Except.bind (Except.bind ((ClassFile.Reader.u1 : ClassFile.Decoder Nat) c p) _) _ = _
  rw [h0]
  have h1 := u1_run g.2.1 (g.2.1 ▸ g.2.2)
  change Except.bind (Except.bind ((ClassFile.Reader.u1 : ClassFile.Decoder Nat) c (p + 1)) _) _ = _
  rw [h1]
  change Except.ok (_, p + 2 - p) = _
  rw [Nat.add_sub_cancel_left]
theorem dc_26 {c : ByteArray} {p : Nat} (h : q0 (bA c) p 26 = true) : decode c p = .ok (.iload_n 0, 1) := by
  have h0 := u1_run (q0_of h) (by decide)
  change Except.bind (Except.bind ((ClassFile.Reader.u1 : ClassFile.Decoder Nat) c p) _) _ = _
  rw [h0]
  change Except.ok (_, p + 1 - p) = _
  rw [Nat.add_sub_cancel_left]
theorem dc_27 {c : ByteArray} {p : Nat} (h : q0 (bA c) p 27 = true) : decode c p = .ok (.iload_n 1, 1) := by
  have h0 := u1_run (q0_of h) (by decide)
  change Except.bind (Except.bind ((ClassFile.Reader.u1 : ClassFile.Decoder Nat) c p) _) _ = _
  rw [h0]
  change Except.ok (_, p + 1 - p) = _
  rw [Nat.add_sub_cancel_left]
theorem dc_28 {c : ByteArray} {p : Nat} (h : q0 (bA c) p 28 = true) : decode c p = .ok (.iload_n 2, 1) := by
  have h0 := u1_run (q0_of h) (by decide)
  change Except.bind (Except.bind ((ClassFile.Reader.u1 : ClassFile.Decoder Nat) c p) _) _ = _
  rw [h0]
  change Except.ok (_, p + 1 - p) = _
  rw [Nat.add_sub_cancel_left]
theorem dc_29 {c : ByteArray} {p : Nat} (h : q0 (bA c) p 29 = true) : decode c p = .ok (.iload_n 3, 1) := by
  have h0 := u1_run (q0_of h) (by decide)
  change Except.bind (Except.bind ((ClassFile.Reader.u1 : ClassFile.Decoder Nat) c p) _) _ = _
  rw [h0]
  change Except.ok (_, p + 1 - p) = _
  rw [Nat.add_sub_cancel_left]
theorem dc_30 {c : ByteArray} {p : Nat} (h : q0 (bA c) p 30 = true) : decode c p = .ok (.lload_n 0, 1) := by
  have h0 := u1_run (q0_of h) (by decide)
  change Except.bind (Except.bind ((ClassFile.Reader.u1 : ClassFile.Decoder Nat) c p) _) _ = _
  rw [h0]
  change Except.ok (_, p + 1 - p) = _
  rw [Nat.add_sub_cancel_left]
theorem dc_31 {c : ByteArray} {p : Nat} (h : q0 (bA c) p 31 = true) : decode c p = .ok (.lload_n 1, 1) := by
  have h0 := u1_run (q0_of h) (by decide)
  change Except.bind (Except.bind ((ClassFile.Reader.u1 : ClassFile.Decoder Nat) c p) _) _ = _
  rw [h0]
  change Except.ok (_, p + 1 - p) = _
  rw [Nat.add_sub_cancel_left]
theorem dc_32 {c : ByteArray} {p : Nat} (h : q0 (bA c) p 32 = true) : decode c p = .ok (.lload_n 2, 1) := by
  have h0 := u1_run (q0_of h) (by decide)
  change Except.bind (Except.bind ((ClassFile.Reader.u1 : ClassFile.Decoder Nat) c p) _) _ = _
  rw [h0]
  change Except.ok (_, p + 1 - p) = _
  rw [Nat.add_sub_cancel_left]
theorem dc_33 {c : ByteArray} {p : Nat} (h : q0 (bA c) p 33 = true) : decode c p = .ok (.lload_n 3, 1) := by
  have h0 := u1_run (q0_of h) (by decide)
  change Except.bind (Except.bind ((ClassFile.Reader.u1 : ClassFile.Decoder Nat) c p) _) _ = _
  rw [h0]
  change Except.ok (_, p + 1 - p) = _
  rw [Nat.add_sub_cancel_left]
theorem dc_42 {c : ByteArray} {p : Nat} (h : q0 (bA c) p 42 = true) : decode c p = .ok (.aload_n 0, 1) := by
  have h0 := u1_run (q0_of h) (by decide)
  change Except.bind (Except.bind ((ClassFile.Reader.u1 : ClassFile.Decoder Nat) c p) _) _ = _
  rw [h0]
  change Except.ok (_, p + 1 - p) = _
  rw [Nat.add_sub_cancel_left]
theorem dc_43 {c : ByteArray} {p : Nat} (h : q0 (bA c) p 43 = true) : decode c p = .ok (.aload_n 1, 1) := by
  have h0 := u1_run (q0_of h) (by decide)
  change Except.bind (Except.bind ((ClassFile.Reader.u1 : ClassFile.Decoder Nat) c p) _) _ = _
  rw [h0]
  change Except.ok (_, p + 1 - p) = _
  rw [Nat.add_sub_cancel_left]
theorem dc_44 {c : ByteArray} {p : Nat} (h : q0 (bA c) p 44 = true) : decode c p = .ok (.aload_n 2, 1) := by
  have h0 := u1_run (q0_of h) (by decide)
  change Except.bind (Except.bind ((ClassFile.Reader.u1 : ClassFile.Decoder Nat) c p) _) _ = _
  rw [h0]
  change Except.ok (_, p + 1 - p) = _
  rw [Nat.add_sub_cancel_left]
theorem dc_45 {c : ByteArray} {p : Nat} (h : q0 (bA c) p 45 = true) : decode c p = .ok (.aload_n 3, 1) := by
  have h0 := u1_run (q0_of h) (by decide)
  change Except.bind (Except.bind ((ClassFile.Reader.u1 : ClassFile.Decoder Nat) c p) _) _ = _
  rw [h0]
  change Except.ok (_, p + 1 - p) = _
  rw [Nat.add_sub_cancel_left]
theorem dc_46 {c : ByteArray} {p : Nat} (h : q0 (bA c) p 46 = true) : decode c p = .ok (.iaload, 1) := by
  have h0 := u1_run (q0_of h) (by decide)
  change Except.bind (Except.bind ((ClassFile.Reader.u1 : ClassFile.Decoder Nat) c p) _) _ = _
  rw [h0]
  change Except.ok (_, p + 1 - p) = _
  rw [Nat.add_sub_cancel_left]
theorem dc_47 {c : ByteArray} {p : Nat} (h : q0 (bA c) p 47 = true) : decode c p = .ok (.laload, 1) := by
  have h0 := u1_run (q0_of h) (by decide)
  change Except.bind (Except.bind ((ClassFile.Reader.u1 : ClassFile.Decoder Nat) c p) _) _ = _
  rw [h0]
  change Except.ok (_, p + 1 - p) = _
  rw [Nat.add_sub_cancel_left]
theorem dc_50 {c : ByteArray} {p : Nat} (h : q0 (bA c) p 50 = true) : decode c p = .ok (.aaload, 1) := by
  have h0 := u1_run (q0_of h) (by decide)
  change Except.bind (Except.bind ((ClassFile.Reader.u1 : ClassFile.Decoder Nat) c p) _) _ = _
  rw [h0]
  change Except.ok (_, p + 1 - p) = _
  rw [Nat.add_sub_cancel_left]
theorem dc_51 {c : ByteArray} {p : Nat} (h : q0 (bA c) p 51 = true) : decode c p = .ok (.baload, 1) := by
  have h0 := u1_run (q0_of h) (by decide)
  change Except.bind (Except.bind ((ClassFile.Reader.u1 : ClassFile.Decoder Nat) c p) _) _ = _
  rw [h0]
  change Except.ok (_, p + 1 - p) = _
  rw [Nat.add_sub_cancel_left]
theorem dc_54 {c : ByteArray} {p : Nat} {v : Nat} (h : qU1 (bA c) p 54 v = true) : decode c p = .ok (.istore v, 2) := by
  have g := qU1_of h
  have h0 := u1_run g.1 (by decide)
  change Except.bind (Except.bind ((ClassFile.Reader.u1 : ClassFile.Decoder Nat) c p) _) _ = _
  rw [h0]
  have h1 := u1_run g.2.1 (g.2.1 ▸ g.2.2)
  change Except.bind (Except.bind ((ClassFile.Reader.u1 : ClassFile.Decoder Nat) c (p + 1)) _) _ = _
  rw [h1]
  change Except.ok (_, p + 2 - p) = _
  rw [Nat.add_sub_cancel_left]
theorem dc_55 {c : ByteArray} {p : Nat} {v : Nat} (h : qU1 (bA c) p 55 v = true) : decode c p = .ok (.lstore v, 2) := by
  have g := qU1_of h
  have h0 := u1_run g.1 (by decide)
  change Except.bind (Except.bind ((ClassFile.Reader.u1 : ClassFile.Decoder Nat) c p) _) _ = _
  rw [h0]
  have h1 := u1_run g.2.1 (g.2.1 ▸ g.2.2)
  change Except.bind (Except.bind ((ClassFile.Reader.u1 : ClassFile.Decoder Nat) c (p + 1)) _) _ = _
  rw [h1]
  change Except.ok (_, p + 2 - p) = _
  rw [Nat.add_sub_cancel_left]
theorem dc_58 {c : ByteArray} {p : Nat} {v : Nat} (h : qU1 (bA c) p 58 v = true) : decode c p = .ok (.astore v, 2) := by
  have g := qU1_of h
  have h0 := u1_run g.1 (by decide)
  change Except.bind (Except.bind ((ClassFile.Reader.u1 : ClassFile.Decoder Nat) c p) _) _ = _
  rw [h0]
  have h1 := u1_run g.2.1 (g.2.1 ▸ g.2.2)
  change Except.bind (Except.bind ((ClassFile.Reader.u1 : ClassFile.Decoder Nat) c (p + 1)) _) _ = _
  rw [h1]
  change Except.ok (_, p + 2 - p) = _
  rw [Nat.add_sub_cancel_left]
theorem dc_60 {c : ByteArray} {p : Nat} (h : q0 (bA c) p 60 = true) : decode c p = .ok (.istore_n 1, 1) := by
  have h0 := u1_run (q0_of h) (by decide)
  change Except.bind (Except.bind ((ClassFile.Reader.u1 : ClassFile.Decoder Nat) c p) _) _ = _
  rw [h0]
  change Except.ok (_, p + 1 - p) = _
  rw [Nat.add_sub_cancel_left]
theorem dc_61 {c : ByteArray} {p : Nat} (h : q0 (bA c) p 61 = true) : decode c p = .ok (.istore_n 2, 1) := by
  have h0 := u1_run (q0_of h) (by decide)
  change Except.bind (Except.bind ((ClassFile.Reader.u1 : ClassFile.Decoder Nat) c p) _) _ = _
  rw [h0]
  change Except.ok (_, p + 1 - p) = _
  rw [Nat.add_sub_cancel_left]
theorem dc_62 {c : ByteArray} {p : Nat} (h : q0 (bA c) p 62 = true) : decode c p = .ok (.istore_n 3, 1) := by
  have h0 := u1_run (q0_of h) (by decide)
  change Except.bind (Except.bind ((ClassFile.Reader.u1 : ClassFile.Decoder Nat) c p) _) _ = _
  rw [h0]
  change Except.ok (_, p + 1 - p) = _
  rw [Nat.add_sub_cancel_left]
theorem dc_63 {c : ByteArray} {p : Nat} (h : q0 (bA c) p 63 = true) : decode c p = .ok (.lstore_n 0, 1) := by
  have h0 := u1_run (q0_of h) (by decide)
  change Except.bind (Except.bind ((ClassFile.Reader.u1 : ClassFile.Decoder Nat) c p) _) _ = _
  rw [h0]
  change Except.ok (_, p + 1 - p) = _
  rw [Nat.add_sub_cancel_left]
theorem dc_64 {c : ByteArray} {p : Nat} (h : q0 (bA c) p 64 = true) : decode c p = .ok (.lstore_n 1, 1) := by
  have h0 := u1_run (q0_of h) (by decide)
  change Except.bind (Except.bind ((ClassFile.Reader.u1 : ClassFile.Decoder Nat) c p) _) _ = _
  rw [h0]
  change Except.ok (_, p + 1 - p) = _
  rw [Nat.add_sub_cancel_left]
theorem dc_65 {c : ByteArray} {p : Nat} (h : q0 (bA c) p 65 = true) : decode c p = .ok (.lstore_n 2, 1) := by
  have h0 := u1_run (q0_of h) (by decide)
  change Except.bind (Except.bind ((ClassFile.Reader.u1 : ClassFile.Decoder Nat) c p) _) _ = _
  rw [h0]
  change Except.ok (_, p + 1 - p) = _
  rw [Nat.add_sub_cancel_left]
theorem dc_76 {c : ByteArray} {p : Nat} (h : q0 (bA c) p 76 = true) : decode c p = .ok (.astore_n 1, 1) := by
  have h0 := u1_run (q0_of h) (by decide)
  change Except.bind (Except.bind ((ClassFile.Reader.u1 : ClassFile.Decoder Nat) c p) _) _ = _
  rw [h0]
  change Except.ok (_, p + 1 - p) = _
  rw [Nat.add_sub_cancel_left]
theorem dc_77 {c : ByteArray} {p : Nat} (h : q0 (bA c) p 77 = true) : decode c p = .ok (.astore_n 2, 1) := by
  have h0 := u1_run (q0_of h) (by decide)
  change Except.bind (Except.bind ((ClassFile.Reader.u1 : ClassFile.Decoder Nat) c p) _) _ = _
  rw [h0]
  change Except.ok (_, p + 1 - p) = _
  rw [Nat.add_sub_cancel_left]
theorem dc_78 {c : ByteArray} {p : Nat} (h : q0 (bA c) p 78 = true) : decode c p = .ok (.astore_n 3, 1) := by
  have h0 := u1_run (q0_of h) (by decide)
  change Except.bind (Except.bind ((ClassFile.Reader.u1 : ClassFile.Decoder Nat) c p) _) _ = _
  rw [h0]
  change Except.ok (_, p + 1 - p) = _
  rw [Nat.add_sub_cancel_left]
theorem dc_79 {c : ByteArray} {p : Nat} (h : q0 (bA c) p 79 = true) : decode c p = .ok (.iastore, 1) := by
  have h0 := u1_run (q0_of h) (by decide)
  change Except.bind (Except.bind ((ClassFile.Reader.u1 : ClassFile.Decoder Nat) c p) _) _ = _
  rw [h0]
  change Except.ok (_, p + 1 - p) = _
  rw [Nat.add_sub_cancel_left]
theorem dc_80 {c : ByteArray} {p : Nat} (h : q0 (bA c) p 80 = true) : decode c p = .ok (.lastore, 1) := by
  have h0 := u1_run (q0_of h) (by decide)
  change Except.bind (Except.bind ((ClassFile.Reader.u1 : ClassFile.Decoder Nat) c p) _) _ = _
  rw [h0]
  change Except.ok (_, p + 1 - p) = _
  rw [Nat.add_sub_cancel_left]
theorem dc_83 {c : ByteArray} {p : Nat} (h : q0 (bA c) p 83 = true) : decode c p = .ok (.aastore, 1) := by
  have h0 := u1_run (q0_of h) (by decide)
  change Except.bind (Except.bind ((ClassFile.Reader.u1 : ClassFile.Decoder Nat) c p) _) _ = _
  rw [h0]
  change Except.ok (_, p + 1 - p) = _
  rw [Nat.add_sub_cancel_left]
theorem dc_84 {c : ByteArray} {p : Nat} (h : q0 (bA c) p 84 = true) : decode c p = .ok (.bastore, 1) := by
  have h0 := u1_run (q0_of h) (by decide)
  change Except.bind (Except.bind ((ClassFile.Reader.u1 : ClassFile.Decoder Nat) c p) _) _ = _
  rw [h0]
  change Except.ok (_, p + 1 - p) = _
  rw [Nat.add_sub_cancel_left]
theorem dc_87 {c : ByteArray} {p : Nat} (h : q0 (bA c) p 87 = true) : decode c p = .ok (.pop, 1) := by
  have h0 := u1_run (q0_of h) (by decide)
  change Except.bind (Except.bind ((ClassFile.Reader.u1 : ClassFile.Decoder Nat) c p) _) _ = _
  rw [h0]
  change Except.ok (_, p + 1 - p) = _
  rw [Nat.add_sub_cancel_left]
theorem dc_88 {c : ByteArray} {p : Nat} (h : q0 (bA c) p 88 = true) : decode c p = .ok (.pop2, 1) := by
  have h0 := u1_run (q0_of h) (by decide)
  change Except.bind (Except.bind ((ClassFile.Reader.u1 : ClassFile.Decoder Nat) c p) _) _ = _
  rw [h0]
  change Except.ok (_, p + 1 - p) = _
  rw [Nat.add_sub_cancel_left]
theorem dc_89 {c : ByteArray} {p : Nat} (h : q0 (bA c) p 89 = true) : decode c p = .ok (.dup, 1) := by
  have h0 := u1_run (q0_of h) (by decide)
  change Except.bind (Except.bind ((ClassFile.Reader.u1 : ClassFile.Decoder Nat) c p) _) _ = _
  rw [h0]
  change Except.ok (_, p + 1 - p) = _
  rw [Nat.add_sub_cancel_left]
theorem dc_92 {c : ByteArray} {p : Nat} (h : q0 (bA c) p 92 = true) : decode c p = .ok (.dup2, 1) := by
  have h0 := u1_run (q0_of h) (by decide)
  change Except.bind (Except.bind ((ClassFile.Reader.u1 : ClassFile.Decoder Nat) c p) _) _ = _
  rw [h0]
  change Except.ok (_, p + 1 - p) = _
  rw [Nat.add_sub_cancel_left]
theorem dc_96 {c : ByteArray} {p : Nat} (h : q0 (bA c) p 96 = true) : decode c p = .ok (.iadd, 1) := by
  have h0 := u1_run (q0_of h) (by decide)
  change Except.bind (Except.bind ((ClassFile.Reader.u1 : ClassFile.Decoder Nat) c p) _) _ = _
  rw [h0]
  change Except.ok (_, p + 1 - p) = _
  rw [Nat.add_sub_cancel_left]
theorem dc_97 {c : ByteArray} {p : Nat} (h : q0 (bA c) p 97 = true) : decode c p = .ok (.ladd, 1) := by
  have h0 := u1_run (q0_of h) (by decide)
  change Except.bind (Except.bind ((ClassFile.Reader.u1 : ClassFile.Decoder Nat) c p) _) _ = _
  rw [h0]
  change Except.ok (_, p + 1 - p) = _
  rw [Nat.add_sub_cancel_left]
theorem dc_100 {c : ByteArray} {p : Nat} (h : q0 (bA c) p 100 = true) : decode c p = .ok (.isub, 1) := by
  have h0 := u1_run (q0_of h) (by decide)
  change Except.bind (Except.bind ((ClassFile.Reader.u1 : ClassFile.Decoder Nat) c p) _) _ = _
  rw [h0]
  change Except.ok (_, p + 1 - p) = _
  rw [Nat.add_sub_cancel_left]
theorem dc_101 {c : ByteArray} {p : Nat} (h : q0 (bA c) p 101 = true) : decode c p = .ok (.lsub, 1) := by
  have h0 := u1_run (q0_of h) (by decide)
  change Except.bind (Except.bind ((ClassFile.Reader.u1 : ClassFile.Decoder Nat) c p) _) _ = _
  rw [h0]
  change Except.ok (_, p + 1 - p) = _
  rw [Nat.add_sub_cancel_left]
theorem dc_104 {c : ByteArray} {p : Nat} (h : q0 (bA c) p 104 = true) : decode c p = .ok (.imul, 1) := by
  have h0 := u1_run (q0_of h) (by decide)
  change Except.bind (Except.bind ((ClassFile.Reader.u1 : ClassFile.Decoder Nat) c p) _) _ = _
  rw [h0]
  change Except.ok (_, p + 1 - p) = _
  rw [Nat.add_sub_cancel_left]
theorem dc_105 {c : ByteArray} {p : Nat} (h : q0 (bA c) p 105 = true) : decode c p = .ok (.lmul, 1) := by
  have h0 := u1_run (q0_of h) (by decide)
  change Except.bind (Except.bind ((ClassFile.Reader.u1 : ClassFile.Decoder Nat) c p) _) _ = _
  rw [h0]
  change Except.ok (_, p + 1 - p) = _
  rw [Nat.add_sub_cancel_left]
theorem dc_108 {c : ByteArray} {p : Nat} (h : q0 (bA c) p 108 = true) : decode c p = .ok (.idiv, 1) := by
  have h0 := u1_run (q0_of h) (by decide)
  change Except.bind (Except.bind ((ClassFile.Reader.u1 : ClassFile.Decoder Nat) c p) _) _ = _
  rw [h0]
  change Except.ok (_, p + 1 - p) = _
  rw [Nat.add_sub_cancel_left]
theorem dc_109 {c : ByteArray} {p : Nat} (h : q0 (bA c) p 109 = true) : decode c p = .ok (.ldiv, 1) := by
  have h0 := u1_run (q0_of h) (by decide)
  change Except.bind (Except.bind ((ClassFile.Reader.u1 : ClassFile.Decoder Nat) c p) _) _ = _
  rw [h0]
  change Except.ok (_, p + 1 - p) = _
  rw [Nat.add_sub_cancel_left]
theorem dc_112 {c : ByteArray} {p : Nat} (h : q0 (bA c) p 112 = true) : decode c p = .ok (.irem, 1) := by
  have h0 := u1_run (q0_of h) (by decide)
  change Except.bind (Except.bind ((ClassFile.Reader.u1 : ClassFile.Decoder Nat) c p) _) _ = _
  rw [h0]
  change Except.ok (_, p + 1 - p) = _
  rw [Nat.add_sub_cancel_left]
theorem dc_120 {c : ByteArray} {p : Nat} (h : q0 (bA c) p 120 = true) : decode c p = .ok (.ishl, 1) := by
  have h0 := u1_run (q0_of h) (by decide)
  change Except.bind (Except.bind ((ClassFile.Reader.u1 : ClassFile.Decoder Nat) c p) _) _ = _
  rw [h0]
  change Except.ok (_, p + 1 - p) = _
  rw [Nat.add_sub_cancel_left]
theorem dc_121 {c : ByteArray} {p : Nat} (h : q0 (bA c) p 121 = true) : decode c p = .ok (.lshl, 1) := by
  have h0 := u1_run (q0_of h) (by decide)
  change Except.bind (Except.bind ((ClassFile.Reader.u1 : ClassFile.Decoder Nat) c p) _) _ = _
  rw [h0]
  change Except.ok (_, p + 1 - p) = _
  rw [Nat.add_sub_cancel_left]
theorem dc_122 {c : ByteArray} {p : Nat} (h : q0 (bA c) p 122 = true) : decode c p = .ok (.ishr, 1) := by
  have h0 := u1_run (q0_of h) (by decide)
  change Except.bind (Except.bind ((ClassFile.Reader.u1 : ClassFile.Decoder Nat) c p) _) _ = _
  rw [h0]
  change Except.ok (_, p + 1 - p) = _
  rw [Nat.add_sub_cancel_left]
theorem dc_123 {c : ByteArray} {p : Nat} (h : q0 (bA c) p 123 = true) : decode c p = .ok (.lshr, 1) := by
  have h0 := u1_run (q0_of h) (by decide)
  change Except.bind (Except.bind ((ClassFile.Reader.u1 : ClassFile.Decoder Nat) c p) _) _ = _
  rw [h0]
  change Except.ok (_, p + 1 - p) = _
  rw [Nat.add_sub_cancel_left]
theorem dc_124 {c : ByteArray} {p : Nat} (h : q0 (bA c) p 124 = true) : decode c p = .ok (.iushr, 1) := by
  have h0 := u1_run (q0_of h) (by decide)
  change Except.bind (Except.bind ((ClassFile.Reader.u1 : ClassFile.Decoder Nat) c p) _) _ = _
  rw [h0]
  change Except.ok (_, p + 1 - p) = _
  rw [Nat.add_sub_cancel_left]
theorem dc_125 {c : ByteArray} {p : Nat} (h : q0 (bA c) p 125 = true) : decode c p = .ok (.lushr, 1) := by
  have h0 := u1_run (q0_of h) (by decide)
  change Except.bind (Except.bind ((ClassFile.Reader.u1 : ClassFile.Decoder Nat) c p) _) _ = _
  rw [h0]
  change Except.ok (_, p + 1 - p) = _
  rw [Nat.add_sub_cancel_left]
theorem dc_126 {c : ByteArray} {p : Nat} (h : q0 (bA c) p 126 = true) : decode c p = .ok (.iand, 1) := by
  have h0 := u1_run (q0_of h) (by decide)
  change Except.bind (Except.bind ((ClassFile.Reader.u1 : ClassFile.Decoder Nat) c p) _) _ = _
  rw [h0]
  change Except.ok (_, p + 1 - p) = _
  rw [Nat.add_sub_cancel_left]
theorem dc_127 {c : ByteArray} {p : Nat} (h : q0 (bA c) p 127 = true) : decode c p = .ok (.land, 1) := by
  have h0 := u1_run (q0_of h) (by decide)
  change Except.bind (Except.bind ((ClassFile.Reader.u1 : ClassFile.Decoder Nat) c p) _) _ = _
  rw [h0]
  change Except.ok (_, p + 1 - p) = _
  rw [Nat.add_sub_cancel_left]
theorem dc_128 {c : ByteArray} {p : Nat} (h : q0 (bA c) p 128 = true) : decode c p = .ok (.ior, 1) := by
  have h0 := u1_run (q0_of h) (by decide)
  change Except.bind (Except.bind ((ClassFile.Reader.u1 : ClassFile.Decoder Nat) c p) _) _ = _
  rw [h0]
  change Except.ok (_, p + 1 - p) = _
  rw [Nat.add_sub_cancel_left]
theorem dc_129 {c : ByteArray} {p : Nat} (h : q0 (bA c) p 129 = true) : decode c p = .ok (.lor, 1) := by
  have h0 := u1_run (q0_of h) (by decide)
  change Except.bind (Except.bind ((ClassFile.Reader.u1 : ClassFile.Decoder Nat) c p) _) _ = _
  rw [h0]
  change Except.ok (_, p + 1 - p) = _
  rw [Nat.add_sub_cancel_left]
theorem dc_130 {c : ByteArray} {p : Nat} (h : q0 (bA c) p 130 = true) : decode c p = .ok (.ixor, 1) := by
  have h0 := u1_run (q0_of h) (by decide)
  change Except.bind (Except.bind ((ClassFile.Reader.u1 : ClassFile.Decoder Nat) c p) _) _ = _
  rw [h0]
  change Except.ok (_, p + 1 - p) = _
  rw [Nat.add_sub_cancel_left]
theorem dc_131 {c : ByteArray} {p : Nat} (h : q0 (bA c) p 131 = true) : decode c p = .ok (.lxor, 1) := by
  have h0 := u1_run (q0_of h) (by decide)
  change Except.bind (Except.bind ((ClassFile.Reader.u1 : ClassFile.Decoder Nat) c p) _) _ = _
  rw [h0]
  change Except.ok (_, p + 1 - p) = _
  rw [Nat.add_sub_cancel_left]
theorem dc_132 {c : ByteArray} {p : Nat} {v : Nat} {w : Int} (h : qI (bA c) p 132 v w = true) : decode c p = .ok (.iinc v w, 3) := by
  have g := qI_of h
  have h0 := u1_run g.1 (by decide)
  change Except.bind (Except.bind ((ClassFile.Reader.u1 : ClassFile.Decoder Nat) c p) _) _ = _
  rw [h0]
  have h1 := u1_run g.2.1 (g.2.1 ▸ g.2.2.2.1)
  have h2 := s1_run rfl g.2.2.2.2
  rw [g.2.2.1] at h2
  change Except.bind (Except.bind ((ClassFile.Reader.u1 : ClassFile.Decoder Nat) c (p + 1)) _) _ = _
  rw [h1]
  change Except.bind (Except.bind ((ClassFile.Reader.s1 : ClassFile.Decoder Int) c (p + 2)) _) _ = _
  rw [h2]
  change Except.ok (_, p + 3 - p) = _
  rw [Nat.add_sub_cancel_left]
theorem dc_133 {c : ByteArray} {p : Nat} (h : q0 (bA c) p 133 = true) : decode c p = .ok (.i2l, 1) := by
  have h0 := u1_run (q0_of h) (by decide)
  change Except.bind (Except.bind ((ClassFile.Reader.u1 : ClassFile.Decoder Nat) c p) _) _ = _
  rw [h0]
  change Except.ok (_, p + 1 - p) = _
  rw [Nat.add_sub_cancel_left]
theorem dc_136 {c : ByteArray} {p : Nat} (h : q0 (bA c) p 136 = true) : decode c p = .ok (.l2i, 1) := by
  have h0 := u1_run (q0_of h) (by decide)
  change Except.bind (Except.bind ((ClassFile.Reader.u1 : ClassFile.Decoder Nat) c p) _) _ = _
  rw [h0]
  change Except.ok (_, p + 1 - p) = _
  rw [Nat.add_sub_cancel_left]
theorem dc_148 {c : ByteArray} {p : Nat} (h : q0 (bA c) p 148 = true) : decode c p = .ok (.lcmp, 1) := by
  have h0 := u1_run (q0_of h) (by decide)
  change Except.bind (Except.bind ((ClassFile.Reader.u1 : ClassFile.Decoder Nat) c p) _) _ = _
  rw [h0]
  change Except.ok (_, p + 1 - p) = _
  rw [Nat.add_sub_cancel_left]
theorem dc_153 {c : ByteArray} {p : Nat} {v : Int} (h : qS2 (bA c) p 153 v = true) : decode c p = .ok (.ifCond .eq v, 3) := by
  have g := qS2_of h
  have h0 := u1_run g.1 (by decide)
  change Except.bind (Except.bind ((ClassFile.Reader.u1 : ClassFile.Decoder Nat) c p) _) _ = _
  rw [h0]
  have h1 := s2_run rfl g.2.2.1 rfl g.2.2.2
  rw [g.2.1] at h1
  change Except.bind (Except.bind ((ClassFile.Reader.s2 : ClassFile.Decoder Int) c (p + 1)) _) _ = _
  rw [h1]
  change Except.ok (_, p + 3 - p) = _
  rw [Nat.add_sub_cancel_left]
theorem dc_154 {c : ByteArray} {p : Nat} {v : Int} (h : qS2 (bA c) p 154 v = true) : decode c p = .ok (.ifCond .ne v, 3) := by
  have g := qS2_of h
  have h0 := u1_run g.1 (by decide)
  change Except.bind (Except.bind ((ClassFile.Reader.u1 : ClassFile.Decoder Nat) c p) _) _ = _
  rw [h0]
  have h1 := s2_run rfl g.2.2.1 rfl g.2.2.2
  rw [g.2.1] at h1
  change Except.bind (Except.bind ((ClassFile.Reader.s2 : ClassFile.Decoder Int) c (p + 1)) _) _ = _
  rw [h1]
  change Except.ok (_, p + 3 - p) = _
  rw [Nat.add_sub_cancel_left]
theorem dc_155 {c : ByteArray} {p : Nat} {v : Int} (h : qS2 (bA c) p 155 v = true) : decode c p = .ok (.ifCond .lt v, 3) := by
  have g := qS2_of h
  have h0 := u1_run g.1 (by decide)
  change Except.bind (Except.bind ((ClassFile.Reader.u1 : ClassFile.Decoder Nat) c p) _) _ = _
  rw [h0]
  have h1 := s2_run rfl g.2.2.1 rfl g.2.2.2
  rw [g.2.1] at h1
  change Except.bind (Except.bind ((ClassFile.Reader.s2 : ClassFile.Decoder Int) c (p + 1)) _) _ = _
  rw [h1]
  change Except.ok (_, p + 3 - p) = _
  rw [Nat.add_sub_cancel_left]
theorem dc_156 {c : ByteArray} {p : Nat} {v : Int} (h : qS2 (bA c) p 156 v = true) : decode c p = .ok (.ifCond .ge v, 3) := by
  have g := qS2_of h
  have h0 := u1_run g.1 (by decide)
  change Except.bind (Except.bind ((ClassFile.Reader.u1 : ClassFile.Decoder Nat) c p) _) _ = _
  rw [h0]
  have h1 := s2_run rfl g.2.2.1 rfl g.2.2.2
  rw [g.2.1] at h1
  change Except.bind (Except.bind ((ClassFile.Reader.s2 : ClassFile.Decoder Int) c (p + 1)) _) _ = _
  rw [h1]
  change Except.ok (_, p + 3 - p) = _
  rw [Nat.add_sub_cancel_left]
theorem dc_157 {c : ByteArray} {p : Nat} {v : Int} (h : qS2 (bA c) p 157 v = true) : decode c p = .ok (.ifCond .gt v, 3) := by
  have g := qS2_of h
  have h0 := u1_run g.1 (by decide)
  change Except.bind (Except.bind ((ClassFile.Reader.u1 : ClassFile.Decoder Nat) c p) _) _ = _
  rw [h0]
  have h1 := s2_run rfl g.2.2.1 rfl g.2.2.2
  rw [g.2.1] at h1
  change Except.bind (Except.bind ((ClassFile.Reader.s2 : ClassFile.Decoder Int) c (p + 1)) _) _ = _
  rw [h1]
  change Except.ok (_, p + 3 - p) = _
  rw [Nat.add_sub_cancel_left]
theorem dc_158 {c : ByteArray} {p : Nat} {v : Int} (h : qS2 (bA c) p 158 v = true) : decode c p = .ok (.ifCond .le v, 3) := by
  have g := qS2_of h
  have h0 := u1_run g.1 (by decide)
  change Except.bind (Except.bind ((ClassFile.Reader.u1 : ClassFile.Decoder Nat) c p) _) _ = _
  rw [h0]
  have h1 := s2_run rfl g.2.2.1 rfl g.2.2.2
  rw [g.2.1] at h1
  change Except.bind (Except.bind ((ClassFile.Reader.s2 : ClassFile.Decoder Int) c (p + 1)) _) _ = _
  rw [h1]
  change Except.ok (_, p + 3 - p) = _
  rw [Nat.add_sub_cancel_left]
theorem dc_159 {c : ByteArray} {p : Nat} {v : Int} (h : qS2 (bA c) p 159 v = true) : decode c p = .ok (.if_icmp .eq v, 3) := by
  have g := qS2_of h
  have h0 := u1_run g.1 (by decide)
  change Except.bind (Except.bind ((ClassFile.Reader.u1 : ClassFile.Decoder Nat) c p) _) _ = _
  rw [h0]
  have h1 := s2_run rfl g.2.2.1 rfl g.2.2.2
  rw [g.2.1] at h1
  change Except.bind (Except.bind ((ClassFile.Reader.s2 : ClassFile.Decoder Int) c (p + 1)) _) _ = _
  rw [h1]
  change Except.ok (_, p + 3 - p) = _
  rw [Nat.add_sub_cancel_left]
theorem dc_160 {c : ByteArray} {p : Nat} {v : Int} (h : qS2 (bA c) p 160 v = true) : decode c p = .ok (.if_icmp .ne v, 3) := by
  have g := qS2_of h
  have h0 := u1_run g.1 (by decide)
  change Except.bind (Except.bind ((ClassFile.Reader.u1 : ClassFile.Decoder Nat) c p) _) _ = _
  rw [h0]
  have h1 := s2_run rfl g.2.2.1 rfl g.2.2.2
  rw [g.2.1] at h1
  change Except.bind (Except.bind ((ClassFile.Reader.s2 : ClassFile.Decoder Int) c (p + 1)) _) _ = _
  rw [h1]
  change Except.ok (_, p + 3 - p) = _
  rw [Nat.add_sub_cancel_left]
theorem dc_161 {c : ByteArray} {p : Nat} {v : Int} (h : qS2 (bA c) p 161 v = true) : decode c p = .ok (.if_icmp .lt v, 3) := by
  have g := qS2_of h
  have h0 := u1_run g.1 (by decide)
  change Except.bind (Except.bind ((ClassFile.Reader.u1 : ClassFile.Decoder Nat) c p) _) _ = _
  rw [h0]
  have h1 := s2_run rfl g.2.2.1 rfl g.2.2.2
  rw [g.2.1] at h1
  change Except.bind (Except.bind ((ClassFile.Reader.s2 : ClassFile.Decoder Int) c (p + 1)) _) _ = _
  rw [h1]
  change Except.ok (_, p + 3 - p) = _
  rw [Nat.add_sub_cancel_left]
theorem dc_162 {c : ByteArray} {p : Nat} {v : Int} (h : qS2 (bA c) p 162 v = true) : decode c p = .ok (.if_icmp .ge v, 3) := by
  have g := qS2_of h
  have h0 := u1_run g.1 (by decide)
  change Except.bind (Except.bind ((ClassFile.Reader.u1 : ClassFile.Decoder Nat) c p) _) _ = _
  rw [h0]
  have h1 := s2_run rfl g.2.2.1 rfl g.2.2.2
  rw [g.2.1] at h1
  change Except.bind (Except.bind ((ClassFile.Reader.s2 : ClassFile.Decoder Int) c (p + 1)) _) _ = _
  rw [h1]
  change Except.ok (_, p + 3 - p) = _
  rw [Nat.add_sub_cancel_left]
theorem dc_163 {c : ByteArray} {p : Nat} {v : Int} (h : qS2 (bA c) p 163 v = true) : decode c p = .ok (.if_icmp .gt v, 3) := by
  have g := qS2_of h
  have h0 := u1_run g.1 (by decide)
  change Except.bind (Except.bind ((ClassFile.Reader.u1 : ClassFile.Decoder Nat) c p) _) _ = _
  rw [h0]
  have h1 := s2_run rfl g.2.2.1 rfl g.2.2.2
  rw [g.2.1] at h1
  change Except.bind (Except.bind ((ClassFile.Reader.s2 : ClassFile.Decoder Int) c (p + 1)) _) _ = _
  rw [h1]
  change Except.ok (_, p + 3 - p) = _
  rw [Nat.add_sub_cancel_left]
theorem dc_164 {c : ByteArray} {p : Nat} {v : Int} (h : qS2 (bA c) p 164 v = true) : decode c p = .ok (.if_icmp .le v, 3) := by
  have g := qS2_of h
  have h0 := u1_run g.1 (by decide)
  change Except.bind (Except.bind ((ClassFile.Reader.u1 : ClassFile.Decoder Nat) c p) _) _ = _
  rw [h0]
  have h1 := s2_run rfl g.2.2.1 rfl g.2.2.2
  rw [g.2.1] at h1
  change Except.bind (Except.bind ((ClassFile.Reader.s2 : ClassFile.Decoder Int) c (p + 1)) _) _ = _
  rw [h1]
  change Except.ok (_, p + 3 - p) = _
  rw [Nat.add_sub_cancel_left]
theorem dc_167 {c : ByteArray} {p : Nat} {v : Int} (h : qS2 (bA c) p 167 v = true) : decode c p = .ok (.goto v, 3) := by
  have g := qS2_of h
  have h0 := u1_run g.1 (by decide)
  change Except.bind (Except.bind ((ClassFile.Reader.u1 : ClassFile.Decoder Nat) c p) _) _ = _
  rw [h0]
  have h1 := s2_run rfl g.2.2.1 rfl g.2.2.2
  rw [g.2.1] at h1
  change Except.bind (Except.bind ((ClassFile.Reader.s2 : ClassFile.Decoder Int) c (p + 1)) _) _ = _
  rw [h1]
  change Except.ok (_, p + 3 - p) = _
  rw [Nat.add_sub_cancel_left]
theorem dc_172 {c : ByteArray} {p : Nat} (h : q0 (bA c) p 172 = true) : decode c p = .ok (.ireturn, 1) := by
  have h0 := u1_run (q0_of h) (by decide)
  change Except.bind (Except.bind ((ClassFile.Reader.u1 : ClassFile.Decoder Nat) c p) _) _ = _
  rw [h0]
  change Except.ok (_, p + 1 - p) = _
  rw [Nat.add_sub_cancel_left]
theorem dc_173 {c : ByteArray} {p : Nat} (h : q0 (bA c) p 173 = true) : decode c p = .ok (.lreturn, 1) := by
  have h0 := u1_run (q0_of h) (by decide)
  change Except.bind (Except.bind ((ClassFile.Reader.u1 : ClassFile.Decoder Nat) c p) _) _ = _
  rw [h0]
  change Except.ok (_, p + 1 - p) = _
  rw [Nat.add_sub_cancel_left]
theorem dc_177 {c : ByteArray} {p : Nat} (h : q0 (bA c) p 177 = true) : decode c p = .ok (.return_, 1) := by
  have h0 := u1_run (q0_of h) (by decide)
  change Except.bind (Except.bind ((ClassFile.Reader.u1 : ClassFile.Decoder Nat) c p) _) _ = _
  rw [h0]
  change Except.ok (_, p + 1 - p) = _
  rw [Nat.add_sub_cancel_left]
theorem dc_180 {c : ByteArray} {p : Nat} {v : Nat} (h : qU2 (bA c) p 180 v = true) : decode c p = .ok (.getfield v, 3) := by
  have g := qU2_of h
  have h0 := u1_run g.1 (by decide)
  change Except.bind (Except.bind ((ClassFile.Reader.u1 : ClassFile.Decoder Nat) c p) _) _ = _
  rw [h0]
  have h1 := u2_run rfl g.2.2.1 rfl g.2.2.2
  rw [g.2.1] at h1
  change Except.bind (Except.bind ((ClassFile.Reader.u2 : ClassFile.Decoder Nat) c (p + 1)) _) _ = _
  rw [h1]
  change Except.ok (_, p + 3 - p) = _
  rw [Nat.add_sub_cancel_left]
theorem dc_181 {c : ByteArray} {p : Nat} {v : Nat} (h : qU2 (bA c) p 181 v = true) : decode c p = .ok (.putfield v, 3) := by
  have g := qU2_of h
  have h0 := u1_run g.1 (by decide)
  change Except.bind (Except.bind ((ClassFile.Reader.u1 : ClassFile.Decoder Nat) c p) _) _ = _
  rw [h0]
  have h1 := u2_run rfl g.2.2.1 rfl g.2.2.2
  rw [g.2.1] at h1
  change Except.bind (Except.bind ((ClassFile.Reader.u2 : ClassFile.Decoder Nat) c (p + 1)) _) _ = _
  rw [h1]
  change Except.ok (_, p + 3 - p) = _
  rw [Nat.add_sub_cancel_left]
theorem dc_182 {c : ByteArray} {p : Nat} {v : Nat} (h : qU2 (bA c) p 182 v = true) : decode c p = .ok (.invokevirtual v, 3) := by
  have g := qU2_of h
  have h0 := u1_run g.1 (by decide)
  change Except.bind (Except.bind ((ClassFile.Reader.u1 : ClassFile.Decoder Nat) c p) _) _ = _
  rw [h0]
  have h1 := u2_run rfl g.2.2.1 rfl g.2.2.2
  rw [g.2.1] at h1
  change Except.bind (Except.bind ((ClassFile.Reader.u2 : ClassFile.Decoder Nat) c (p + 1)) _) _ = _
  rw [h1]
  change Except.ok (_, p + 3 - p) = _
  rw [Nat.add_sub_cancel_left]
theorem dc_183 {c : ByteArray} {p : Nat} {v : Nat} (h : qU2 (bA c) p 183 v = true) : decode c p = .ok (.invokespecial v, 3) := by
  have g := qU2_of h
  have h0 := u1_run g.1 (by decide)
  change Except.bind (Except.bind ((ClassFile.Reader.u1 : ClassFile.Decoder Nat) c p) _) _ = _
  rw [h0]
  have h1 := u2_run rfl g.2.2.1 rfl g.2.2.2
  rw [g.2.1] at h1
  change Except.bind (Except.bind ((ClassFile.Reader.u2 : ClassFile.Decoder Nat) c (p + 1)) _) _ = _
  rw [h1]
  change Except.ok (_, p + 3 - p) = _
  rw [Nat.add_sub_cancel_left]
theorem dc_184 {c : ByteArray} {p : Nat} {v : Nat} (h : qU2 (bA c) p 184 v = true) : decode c p = .ok (.invokestatic v, 3) := by
  have g := qU2_of h
  have h0 := u1_run g.1 (by decide)
  change Except.bind (Except.bind ((ClassFile.Reader.u1 : ClassFile.Decoder Nat) c p) _) _ = _
  rw [h0]
  have h1 := u2_run rfl g.2.2.1 rfl g.2.2.2
  rw [g.2.1] at h1
  change Except.bind (Except.bind ((ClassFile.Reader.u2 : ClassFile.Decoder Nat) c (p + 1)) _) _ = _
  rw [h1]
  change Except.ok (_, p + 3 - p) = _
  rw [Nat.add_sub_cancel_left]
theorem dc_187 {c : ByteArray} {p : Nat} {v : Nat} (h : qU2 (bA c) p 187 v = true) : decode c p = .ok (.new v, 3) := by
  have g := qU2_of h
  have h0 := u1_run g.1 (by decide)
  change Except.bind (Except.bind ((ClassFile.Reader.u1 : ClassFile.Decoder Nat) c p) _) _ = _
  rw [h0]
  have h1 := u2_run rfl g.2.2.1 rfl g.2.2.2
  rw [g.2.1] at h1
  change Except.bind (Except.bind ((ClassFile.Reader.u2 : ClassFile.Decoder Nat) c (p + 1)) _) _ = _
  rw [h1]
  change Except.ok (_, p + 3 - p) = _
  rw [Nat.add_sub_cancel_left]
theorem dc_189 {c : ByteArray} {p : Nat} {v : Nat} (h : qU2 (bA c) p 189 v = true) : decode c p = .ok (.anewarray v, 3) := by
  have g := qU2_of h
  have h0 := u1_run g.1 (by decide)
  change Except.bind (Except.bind ((ClassFile.Reader.u1 : ClassFile.Decoder Nat) c p) _) _ = _
  rw [h0]
  have h1 := u2_run rfl g.2.2.1 rfl g.2.2.2
  rw [g.2.1] at h1
  change Except.bind (Except.bind ((ClassFile.Reader.u2 : ClassFile.Decoder Nat) c (p + 1)) _) _ = _
  rw [h1]
  change Except.ok (_, p + 3 - p) = _
  rw [Nat.add_sub_cancel_left]
theorem dc_190 {c : ByteArray} {p : Nat} (h : q0 (bA c) p 190 = true) : decode c p = .ok (.arraylength, 1) := by
  have h0 := u1_run (q0_of h) (by decide)
  change Except.bind (Except.bind ((ClassFile.Reader.u1 : ClassFile.Decoder Nat) c p) _) _ = _
  rw [h0]
  change Except.ok (_, p + 1 - p) = _
  rw [Nat.add_sub_cancel_left]
theorem dc_191 {c : ByteArray} {p : Nat} (h : q0 (bA c) p 191 = true) : decode c p = .ok (.athrow, 1) := by
  have h0 := u1_run (q0_of h) (by decide)
  change Except.bind (Except.bind ((ClassFile.Reader.u1 : ClassFile.Decoder Nat) c p) _) _ = _
  rw [h0]
  change Except.ok (_, p + 1 - p) = _
  rw [Nat.add_sub_cancel_left]
theorem dc_198 {c : ByteArray} {p : Nat} {v : Int} (h : qS2 (bA c) p 198 v = true) : decode c p = .ok (.ifnull v, 3) := by
  have g := qS2_of h
  have h0 := u1_run g.1 (by decide)
  change Except.bind (Except.bind ((ClassFile.Reader.u1 : ClassFile.Decoder Nat) c p) _) _ = _
  rw [h0]
  have h1 := s2_run rfl g.2.2.1 rfl g.2.2.2
  rw [g.2.1] at h1
  change Except.bind (Except.bind ((ClassFile.Reader.s2 : ClassFile.Decoder Int) c (p + 1)) _) _ = _
  rw [h1]
  change Except.ok (_, p + 3 - p) = _
  rw [Nat.add_sub_cancel_left]
theorem dc_199 {c : ByteArray} {p : Nat} {v : Int} (h : qS2 (bA c) p 199 v = true) : decode c p = .ok (.ifnonnull v, 3) := by
  have g := qS2_of h
  have h0 := u1_run g.1 (by decide)
  change Except.bind (Except.bind ((ClassFile.Reader.u1 : ClassFile.Decoder Nat) c p) _) _ = _
  rw [h0]
  have h1 := s2_run rfl g.2.2.1 rfl g.2.2.2
  rw [g.2.1] at h1
  change Except.bind (Except.bind ((ClassFile.Reader.s2 : ClassFile.Decoder Int) c (p + 1)) _) _ = _
  rw [h1]
  change Except.ok (_, p + 3 - p) = _
  rw [Nat.add_sub_cancel_left]
