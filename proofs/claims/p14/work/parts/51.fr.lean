/-! ===== frame rows, printed by wip/gen/frames2.py ===== -/
def Post {α : Type} (P : α → Prop) (x : Option α) : Prop := ∀ r, x = some r → P r
def Pl {α : Type} (P : α → Prop) (x : α) : Prop := P x
def Fr (W : Nat → Int → Prop) (M N : Mem) : Prop := ∀ (k : Nat) (j : Int), ¬ W k j → N.1 k j = M.1 k j ∧ N.2 k j = M.2 k j
theorem Fr.rf {W : Nat → Int → Prop} {M : Mem} : Fr W M M := fun _ _ _ => ⟨rfl, rfl⟩
theorem Fr.setI {W : Nat → Int → Prop} {M N : Mem} {k : Nat} {j v : Int} (h : Fr W M N) (hk : W k j) : Fr W M (setI N k j v) := fun k' j' h' => ⟨(uI_ne _ _ (fun q => h' (by rw [q.1, q.2]; exact hk))).trans (h k' j' h').1, (h k' j' h').2⟩
theorem Fr.setL {W : Nat → Int → Prop} {M N : Mem} {k : Nat} {j : Int} {v : Int64} (h : Fr W M N) (hk : W k j) : Fr W M (setL N k j v) := fun k' j' h' => ⟨(h k' j' h').1, (uL_ne _ _ (fun q => h' (by rw [q.1, q.2]; exact hk))).trans (h k' j' h').2⟩
theorem Fr.mono {W V : Nat → Int → Prop} {M N : Mem} (h : Fr W M N) (hV : ∀ k j, W k j → V k j) : Fr V M N := fun k j hk => h k j (fun q => hk (hV k j q))
theorem Fr.trans {W : Nat → Int → Prop} {M N O : Mem} (h : Fr W M N) (g : Fr W N O) : Fr W M O := fun k j hk => ⟨(g k j hk).1.trans (h k j hk).1, (g k j hk).2.trans (h k j hk).2⟩
theorem post_none {α : Type} {P : α → Prop} : Post P (none : Option α) := fun _ h => by cases h
theorem post_some {α : Type} {P : α → Prop} {v : α} (h : P v) : Post P (some v) := fun r e => by cases e; exact h
theorem post_bind {α β : Type} {P : β → Prop} {Q : α → Prop} {x : Option α} {f : α → Option β} (h : Post Q x) (k : ∀ v, Q v → Post P (f v)) : Post P (obind x f) := by
  cases x with
  | none => exact fun _ h => by cases h
  | some v => exact k v (h v rfl)
theorem post_bindv {α β : Type} {P : β → Prop} {x : Option α} {f : α → Option β} (k : ∀ v, Post P (f v)) : Post P (obind x f) := by
  cases x with
  | none => exact fun _ h => by cases h
  | some v => exact k v
theorem post_ite {α : Type} {P : α → Prop} {c : Prop} [Decidable c] {x y : Option α} (a : c → Post P x) (b : ¬ c → Post P y) : Post P (if c then x else y) := by
  by_cases h : c
  · rw [if_pos h]; exact a h
  · rw [if_neg h]; exact b h
theorem post_guard {α : Type} {P : α → Prop} {c : Prop} [Decidable c] {x : Option α} (a : c → Post P x) : Post P (qguard c x) := by
  unfold qguard
  by_cases h : c
  · rw [if_pos h]; exact a h
  · rw [if_neg h]; exact post_none
theorem post_let {α β : Type} {P : β → Prop} {x : α} {f : α → Option β} (h : ∀ v, v = x → Post P (f v)) : Post P (qlet x f) := h x rfl
theorem pl_let {α β : Type} {P : β → Prop} {x : α} {f : α → β} (h : ∀ v, v = x → Pl P (f v)) : Pl P (qlet x f) := h x rfl
theorem pl_ite {α : Type} {P : α → Prop} {c : Prop} [Decidable c] {x y : α} (a : c → Pl P x) (b : ¬ c → Pl P y) : Pl P (if c then x else y) := by
  by_cases h : c
  · rw [if_pos h]; exact a h
  · rw [if_neg h]; exact b h
theorem Fr.cpy {W : Nat → Int → Prop} {M N : Mem} {r1 r2 : Nat} {n : Int} (h : Fr W M N) (hk : ∀ j, W r2 j) : Fr W M (cpyM N r1 r2 n) := by
  intro k j hkj
  refine ⟨?_, (h k j hkj).2⟩
  refine Eq.trans ?_ (h k j hkj).1
  unfold cpyM
  by_cases e : k = r2
  · subst e; exact absurd (hk j) hkj
  · simp [e]

