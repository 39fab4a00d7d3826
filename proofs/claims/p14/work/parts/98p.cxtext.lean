/-! ===== a text, the class's side, by value ===== -/
def CxW (T : Nat) : Nat → Int → Prop := fun k j => (T ≤ k ∧ k ≤ T + 9) ∨ ((k = T + 10 ∨ k = T + 15) ∧ (j = 3 ∨ j = 4)) ∨ k = T + 11 ∨ k = T + 12 ∨ k = T + 16 ∨ k = T + 17
theorem CTx.fr {W : Nat → Int → Prop} {M N : Mem} {T : Nat} {V : TV} (h : CTx M T V) (hF : Fr W M N) (hd : ∀ k j, CxW T k j → ¬ W k j) : CTx N T V := by
  obtain ⟨h1, ⟨h2, h3, h4⟩, h5⟩ := h
  refine ⟨CT0.fr hF (fun k j a b => hd k j (by unfold CxW; omega)) h1, ⟨?_, fun w a b => ?_, fun c a b d e f => ?_⟩, h5.fr hF (fun k j a => hd k j (by unfold CxW; omega))⟩
  · rw [(hF T 13 (hd _ _ (by unfold CxW; omega))).1]; exact h2
  · rw [(hF (T + 4) w (hd _ _ (by unfold CxW; omega))).1]; exact h3 w a b
  · rw [(hF (T + 9) _ (hd _ _ (by unfold CxW; omega))).1]; exact h4 c a b d e f
def TfC (T : Nat) : Nat → Int → Prop := fun k j => (k = 0 ∧ 1 ≤ j ∧ j ≤ 3) ∨ (T ≤ k ∧ k ≤ T + 19) ∨ (42 ≤ k ∧ k ≤ 46)
theorem cx_text {x1 : Int} {M : Mem} {B : Int → Int} {T T' : Nat} (h4 : M.1 0 4 = (T : Int)) (h5 : M.1 0 5 = (T' : Int)) (hT : (T = 2 ∧ T' = 22) ∨ (T = 22 ∧ T' = 2)) (hB : TpC M B x1) (hx : 0 ≤ x1 ∧ x1 ≤ M.1 0 1) : ∃ N r, t_WF_text M x1 = some (N, r) ∧ N.1 0 1 = 0 ∧ Fr (fun k j => k < 191 ∧ ¬ (k = 70 ∧ j = 1)) M N ∧
    (((txA B x1).1 = 0 ∧ r = (txA B x1).2.2.1 ∧ N.1 0 4 = (T' : Int) ∧ N.1 0 5 = (T : Int) ∧ CTx N T' (txA B x1).2.2.2 ∧ N.1 0 2 = 0 ∧ N.1 0 3 = -1 ∧ BgC N T') ∨
     ((txA B x1).1 ≠ 0 ∧ r = -1 ∧ N.1 0 2 = (txA B x1).1 ∧ N.1 0 3 = (txA B x1).2.1 ∧ Fr (TfC T') M N)) := by
  unfold t_WF_text
  rw [if_neg (by omega), if_pos hx.2]
  obtain ⟨N1, a1, a2, a3⟩ := c_scan hB
  rw [a1, obind_some]
  simp (config := { proj := false }) only [qlet]
  have f1 : Fr (fun k j => (k = 0 ∧ j = 1) ∨ (42 ≤ k ∧ k ≤ 45)) M (setI N1 0 1 0) := (a2.mono (fun k j z => by unfold ScW at z; omega)).setI (by omega)
  have g1 : Fr (fun k j => k = 0 ∧ j = 1) N1 (setI N1 0 1 0) := Fr.rf.setI ⟨rfl, rfl⟩
  have v1 : (setI N1 0 1 0).1 0 1 = 0 := sI_self _ _ _ _
  generalize setI N1 0 1 0 = M6 at *
  have e5 : M6.1 0 5 = (T' : Int) := ((f1 0 5 (by omega)).1).trans h5
  rw [e5, Int.toNat_natCast]
  obtain ⟨N2, b1, b2, b3, b4, b5⟩ := c_clear (M := M6) (T := T') (by omega)
  rw [b1, obind_some]
  have e52 : N2.1 0 5 = (T' : Int) := ((b2 0 5 (by unfold W_Town_clear; omega)).1).trans e5
  rw [e52, Int.toNat_natCast]
  have tb2 : TBl N2 B x1 := (a3.fr g1 (fun k j x y z => by omega)).fr b2 (fun k j x y z => by unfold W_Town_clear at z; omega)
  obtain ⟨N3, r, c1, c2, c3⟩ := c_read (T := T') (by omega) tb2 ⟨b3, b4, b5⟩
  have hkp := kp_read (M := N2) (T := T') (by omega) _ c1
  rw [c1, obind_some]
  have f3 : Fr (TfC T') M N3 := ((f1.mono (fun k j z => by unfold TfC; omega)).trans (b2.mono (fun k j z => by unfold W_Town_clear at z; unfold TfC; omega))).trans (c2.mono (fun k j z => by unfold TfC; omega))
  have v3 : N3.1 0 1 = 0 := ((c2 0 1 (by omega)).1).trans (((b2 0 1 (by unfold W_Town_clear; omega)).1).trans v1)
  have f16 : Fr (fun k j => k = 0 ∧ (j = 2 ∨ j = 3)) N3 (setI (setI N3 0 2 (N3.1 46 9)) 0 3 ((setI N3 0 2 (N3.1 46 9)).1 46 10)) := (Fr.rf.setI (by omega)).setI (by omega)
  have w2 : (setI (setI N3 0 2 (N3.1 46 9)) 0 3 ((setI N3 0 2 (N3.1 46 9)).1 46 10)).1 0 2 = N3.1 46 9 := by rw [sI_ne (by omega), sI_self]
  have w3 : (setI (setI N3 0 2 (N3.1 46 9)) 0 3 ((setI N3 0 2 (N3.1 46 9)).1 46 10)).1 0 3 = N3.1 46 10 := by rw [sI_self, sI_ne (by omega)]
  show ∃ N r', (if 0 ≤ r then obind (t_WF_startAnew (setI (setI (setI (setI N3 0 2 (N3.1 46 9)) 0 3 ((setI N3 0 2 (N3.1 46 9)).1 46 10)) 0 5 (((setI (setI N3 0 2 (N3.1 46 9)) 0 3 ((setI N3 0 2 (N3.1 46 9)).1 46 10)).1 0 4).toNat : Nat)) 0 4 (((setI (setI N3 0 2 (N3.1 46 9)) 0 3 ((setI N3 0 2 (N3.1 46 9)).1 46 10)).1 0 5).toNat : Nat))) (fun q22 => some (q22, r)) else some (setI (setI N3 0 2 (N3.1 46 9)) 0 3 ((setI N3 0 2 (N3.1 46 9)).1 46 10), -1)) = some (N, r') ∧ _
  generalize setI (setI N3 0 2 (N3.1 46 9)) 0 3 ((setI N3 0 2 (N3.1 46 9)).1 46 10) = M16 at *
  have fA : Fr (TfC T') M M16 := f3.trans (f16.mono (fun k j z => by unfold TfC; omega))
  have u1 : M16.1 0 1 = 0 := ((f16 0 1 (by omega)).1).trans v3
  have u4 : M16.1 0 4 = (T : Int) := ((fA 0 4 (by unfold TfC; omega)).1).trans h4
  have u5 : M16.1 0 5 = (T' : Int) := ((fA 0 5 (by unfold TfC; omega)).1).trans h5
  rw [u4, u5, Int.toNat_natCast, Int.toNat_natCast]
  rcases c3 with ⟨d1, d2, d3, d4⟩ | ⟨d1, d2, d3⟩
  · rw [if_pos d3]
    have f21 : Fr (fun k j => k = 0 ∧ (j = 4 ∨ j = 5)) M16 (setI (setI M16 0 5 (T : Int)) 0 4 (T' : Int)) := (Fr.rf.setI (by omega)).setI (by omega)
    have x4 : (setI (setI M16 0 5 (T : Int)) 0 4 (T' : Int)).1 0 4 = (T' : Int) := sI_self _ _ _ _
    have x5 : (setI (setI M16 0 5 (T : Int)) 0 4 (T' : Int)).1 0 5 = (T : Int) := by rw [sI_ne (by omega), sI_self]
    generalize setI (setI M16 0 5 (T : Int)) 0 4 (T' : Int) = M21 at *
    obtain ⟨N, n1, n2, n3⟩ := c_anew (M := M21) (T := T') (by omega) (by omega) x4
    rw [n1, obind_some]
    have y : ∀ j, 1 ≤ j → j ≤ 5 → N.1 0 j = M21.1 0 j := fun j p q => (n2 0 j (by unfold W_WF_startAnew; omega)).1
    obtain ⟨k1, k2⟩ := hkp d3
    refine ⟨N, r, rfl, ?_, ?_, Or.inl ⟨d1, d2, ?_, ?_, ?_, ?_, ?_, n3⟩⟩
    · rw [y 1 (by omega) (by omega), (f21 0 1 (by omega)).1]; exact u1
    · exact ((fA.mono (fun k j z => by unfold TfC at z; omega)).trans (f21.mono (fun k j z => by omega))).trans (n2.mono (fun k j z => by unfold W_WF_startAnew at z; omega))
    · rw [y 4 (by omega) (by omega)]; exact x4
    · rw [y 5 (by omega) (by omega)]; exact x5
    · exact ((d4.fr f16 (fun k j x z => by unfold CxW at x; omega)).fr f21 (fun k j x z => by unfold CxW at x; omega)).fr n2 (fun k j x z => by unfold CxW at x; unfold W_WF_startAnew at z; omega)
    · rw [y 2 (by omega) (by omega), (f21 0 2 (by omega)).1, w2]; exact k1
    · rw [y 3 (by omega) (by omega), (f21 0 3 (by omega)).1, w3]; exact k2
  · rw [if_neg (show ¬ 0 ≤ r by omega)]
    exact ⟨M16, -1, rfl, u1, fA.mono (fun k j z => by unfold TfC at z; omega), Or.inr ⟨d1, rfl, by rw [w2]; exact d3.1, by rw [w3]; exact d3.2, fA⟩⟩
