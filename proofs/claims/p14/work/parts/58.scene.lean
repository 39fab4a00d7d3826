/-! ===== water and beats: what is to come out, and the reference's side ===== -/
theorem or_same (w : Int64) {c : Int} (c0 : 0 ≤ c) (c1 : c < 64) (h : tb w c = true) : w ||| q_lshl 1 c = w := by
  apply Int64.toBitVec_inj.mp
  apply BitVec.eq_of_getLsbD_eq
  intro i hi
  have h2 := tb_or w c0 c1 (j := (i : Int)) (by omega) (by omega)
  unfold tb at h2
  rw [Int.toNat_natCast] at h2
  rw [h2]
  by_cases e : (i : Int) = c
  · subst e
    unfold tb at h
    rw [Int.toNat_natCast] at h
    rw [h]; simp
  · simp [e]
def prS (f : Int → Int) : Nat → Int64 → Int → Int64 × Int
  | 0, w, _ => (w, 0)
  | n + 1, w, c => if f c < 0 ∨ tb w (f c) = true then (if tb w c = true then (w, 0) else (w ||| q_lshl 1 c, 1)) else prS f n w (f c)
def flS (f : Int → Int) (was : Int64) : Nat → Int64
  | 0 => 0
  | n + 1 => if tb was (n : Int) = true then (prS f 49 (flS f was n) (n : Int)).1 else flS f was n
abbrev BT : Type := (Int → Int) × (Int → Int) × (Int → Int) × Int
def upA (A : Int → Int) (t v : Int) : Int → Int := fun x => if x = t then v else A x
theorem upA_self (A : Int → Int) (t v : Int) : upA A t v t = v := if_pos rfl
theorem upA_ne (A : Int → Int) {t v x : Int} (h : x ≠ t) : upA A t v x = A x := if_neg h
def btS (V : TV) (f : Int → Int) (way : Bool) (A S L : Int → Int) : Nat → BT
  | 0 => (A, S, L, 0)
  | t + 1 => if (btS V f way A S L t).1 (t : Int) < 0 then btS V f way A S L t
    else if f ((btS V f way A S L t).1 (t : Int)) < 0 then btS V f way A S L t
    else if way = true ∧ fnd (fun a => (btS V f way A S L t).1 (a : Int)) (f ((btS V f way A S L t).1 (t : Int))) (V 0 3).toNat ≠ none then btS V f way A S L t
    else (upA (btS V f way A S L t).1 (t : Int) (f ((btS V f way A S L t).1 (t : Int))), upA (btS V f way A S L t).2.1 (t : Int) (w32 ((btS V f way A S L t).2.1 (t : Int) + 1)), upA (btS V f way A S L t).2.2.1 (t : Int) (w32 ((btS V f way A S L t).2.2.1 (t : Int) + lnV V ((btS V f way A S L t).1 (t : Int)) (f ((btS V f way A S L t).1 (t : Int))))), (btS V f way A S L t).2.2.2 + 1)
/-- tries: what is tried, of which -/
def trN (w : Int) (nets : Int64) : Int64 := if w = 0 then 0 else nets
def trW (w : Int) (wl : Int → Bool) : Int → Bool := if w = 2 then fun _ => false else wl
def trD (w i : Int) (D : Int → Int) : Int → Int := fun x => if w = 3 ∧ x = i then 4 else D x
section MT
variable {M : Mem} {V : TV} {at_ : Int} {D A : Int → Int} {nets : Int64}
theorem m_downT (h : MT0 M V) (hV : VOK V) (hm : MSc M at_ V D A nets) (ha : 0 ≤ at_ ∧ at_ < 23) {c : Int} (h0 : 0 ≤ c) (h1 : c < 48) : t_MO_downOf M at_ c = some (dnV V (trD (M.1 191 44) (M.1 191 45) D) c) := by
  have ho := hV.2.2.2 c h0 h1
  have hw := hV.1
  unfold t_MO_downOf t_MO_downOf_L34 dnV trD
  rw [qguard_pos ⟨h0, by omega⟩, (h.2.2.2 c h0 h1).1, w32_id (x := V 7 c + 1 - 1) (by unfold InR; omega), show V 7 c + 1 - 1 = V 7 c by omega]
  by_cases h2 : V 7 c < 0
  · rw [if_pos (by omega), if_pos h2]
  · rw [if_neg (by omega), if_neg h2]
    have e : (qguard (0 ≤ (w32 ((w32 (4 * at_)) + (V 7 c))) ∧ (w32 ((w32 (4 * at_)) + (V 7 c))) < 92) (some (M.1 212 (w32 ((w32 (4 * at_)) + (V 7 c)))))) = some (D (V 7 c)) := by
      rw [w32_id (x := 4 * at_) (by unfold InR; omega), w32_id (x := 4 * at_ + V 7 c) (by unfold InR; omega), qguard_pos ⟨by omega, by omega⟩, hm.1 _ (by omega) (by omega)]
    by_cases h3 : M.1 191 44 = 3
    · by_cases h4 : M.1 191 45 = V 7 c
      · rw [if_pos h3, if_pos h4, if_pos ⟨h3, h4.symm⟩]
      · rw [if_pos h3, if_neg h4, if_neg (fun q => h4 q.2.symm), e]
    · rw [if_neg h3, if_neg (fun q => h3 q.1), e]
theorem trD_rng {w i : Int} (hD : ∀ w, 0 ≤ w → w < V 0 2 → 0 ≤ D w ∧ D w ≤ 4) : ∀ x, 0 ≤ x → x < V 0 2 → 0 ≤ trD w i D x ∧ trD w i D x ≤ 4 := by
  intro x a b
  unfold trD
  split
  · omega
  · exact hD x a b
theorem m_nextT (h : MT0 M V) (hV : VOK V) (hm : MSc M at_ V D A nets) (hD : ∀ w, 0 ≤ w → w < V 0 2 → 0 ≤ D w ∧ D w ≤ 4) (ha : 0 ≤ at_ ∧ at_ < 23) {c : Int} (h0 : 0 ≤ c) (h1 : c < cellsV V) : t_MO_nextOf M at_ c = some (nxV V (trD (M.1 191 44) (M.1 191 45) D) (trN (M.1 191 44) nets) (trW (M.1 191 44) (wlV V)) c) := by
  have hC := hV.cells
  generalize hD' : trD (M.1 191 44) (M.1 191 45) D = D'
  have hDr : ∀ w, 0 ≤ w → w < V 0 2 → 0 ≤ D' w ∧ D' w ≤ 4 := by rw [← hD']; exact trD_rng hD
  have hb := bs_rng hV h0 h1 (dnV V D' c)
  have hd := dn_rng hV hDr h0 (c := c) (by omega)
  have e24 : t_MO_nextOf_L24 at_ c M = some (if bsV V c (dnV V D' c) < 0 then -1 else if trW (M.1 191 44) (wlV V) (bsV V c (dnV V D' c)) = true then -1 else bsV V c (dnV V D' c)) := by
    unfold t_MO_nextOf_L24
    rw [m_downT h hV hm ha h0 (by omega), hD', obind_some, m_beside h hV h0 h1 hd.1 hd.2, obind_some]
    by_cases h2 : bsV V c (dnV V D' c) < 0
    · rw [if_pos (by omega), if_pos h2]
    · have hw := (hV.2.2.2 (bsV V c (dnV V D' c)) (by omega) (by omega)).2.2.1
      rw [if_neg (by omega), if_neg h2]
      unfold trW
      by_cases h4 : M.1 191 44 = 2
      · rw [if_pos h4, if_pos h4]; rfl
      · rw [if_neg h4, if_neg h4, qguard_pos ⟨by omega, by omega⟩, (h.2.2.2 _ (by omega) (by omega)).2.1]
        unfold wlV
        rcases hw with hw | hw
        · rw [hw]; simp
        · rw [hw]; simp
  unfold t_MO_nextOf nxV trN
  by_cases ht : M.1 191 44 = 0
  · rw [if_pos ht, if_pos ht, tb_zero, if_neg Bool.false_ne_true, e24]
  · rw [if_neg ht, if_neg ht, qguard_pos ha, hm.2.2]
    cases e : tb nets c with
    | true => rw [if_pos ((lshr_1 nets h0 (by omega)).mpr e), if_pos rfl]
    | false => rw [if_neg (fun q => by rw [(lshr_1 nets h0 (by omega)).mp q] at e; cases e), if_neg (by simp), e24]
end MT
/-- the reference's pours, over any next -/
theorem m_pours_loop {M : Mem} {at_ x2 C : Int} {f : Int → Int} (ha : 0 ≤ at_ ∧ at_ < 23) (hC : C ≤ 48) (hf : stepOK f C) (hN : ∀ c, 0 ≤ c → c < C → t_MO_nextOf M at_ c = some (f c)) : ∀ (n fu : Nat) (c v : Int), v + (n : Int) = 49 → 0 ≤ v → n < fu → 0 ≤ c → c < C →
    ∃ N, t_MO_pours_L5 at_ x2 fu M c v = some (N, (prS f n (M.2 211 at_) c).2) ∧ N.2 211 at_ = (prS f n (M.2 211 at_) c).1 ∧ Fr (fun k j => k = 211 ∧ j = at_) M N := by
  intro n
  induction n with
  | zero =>
    intro fu c v g0 g1 g2 c0 c1
    obtain ⟨g, rfl⟩ : ∃ g, fu = g + 1 := ⟨fu - 1, by omega⟩
    rw [t_MO_pours_L5, if_pos (by omega)]
    exact ⟨M, rfl, rfl, Fr.rf⟩
  | succ n ih =>
    intro fu c v g0 g1 g2 c0 c1
    obtain ⟨g, rfl⟩ : ∃ g, fu = g + 1 := ⟨fu - 1, by omega⟩
    have hs := hf c c0 c1
    have e42 : ∃ N, t_MO_pours_L42 at_ x2 M c = some (N, (if tb (M.2 211 at_) c = true then (M.2 211 at_, (0 : Int)) else (M.2 211 at_ ||| q_lshl 1 c, 1)).2) ∧ N.2 211 at_ = (if tb (M.2 211 at_) c = true then (M.2 211 at_, (0 : Int)) else (M.2 211 at_ ||| q_lshl 1 c, 1)).1 ∧ Fr (fun k j => k = 211 ∧ j = at_) M N := by
      unfold t_MO_pours_L42
      rw [qguard_pos ha]
      by_cases e : tb (M.2 211 at_) c = true
      · rw [if_pos ((lshr_1 _ c0 (by omega)).mpr e), if_pos e]
        exact ⟨M, rfl, rfl, Fr.rf⟩
      · rw [if_neg (fun q => e ((lshr_1 _ c0 (by omega)).mp q)), if_neg e, qguard_pos ha, qguard_pos ha]
        simp only [qlet]
        exact ⟨_, rfl, by rw [sL_self], Fr.rf.setL ⟨rfl, rfl⟩⟩
    rw [t_MO_pours_L5, if_neg (by omega), hN c c0 c1, obind_some, prS]
    by_cases e1 : f c < 0
    · rw [if_pos (by omega), if_pos (Or.inl e1)]
      exact e42
    · rw [if_neg (by omega), qguard_pos ha]
      by_cases e2 : tb (M.2 211 at_) (f c) = true
      · rw [if_pos ((lshr_1 _ (by omega) (by omega)).mpr e2), if_pos (Or.inr e2)]
        exact e42
      · rw [if_neg (fun q => e2 ((lshr_1 _ (by omega) (by omega)).mp q)), if_neg (fun q => q.elim (fun q => e1 q) (fun q => e2 q)), w32_id (x := v + 1) (by unfold InR; omega)]
        exact ih g (f c) (v + 1) (by omega) (by omega) (by omega) (by omega) (by omega)
theorem m_pours {M : Mem} {at_ x2 C : Int} {f : Int → Int} (ha : 0 ≤ at_ ∧ at_ < 23) (hC : C ≤ 48) (hf : stepOK f C) (hN : ∀ c, 0 ≤ c → c < C → t_MO_nextOf M at_ c = some (f c)) (c0 : 0 ≤ x2) (c1 : x2 < C) :
    ∃ N, t_MO_pours M at_ x2 = some (N, (prS f 49 (M.2 211 at_) x2).2) ∧ N.2 211 at_ = (prS f 49 (M.2 211 at_) x2).1 ∧ Fr (fun k j => k = 211 ∧ j = at_) M N := m_pours_loop ha hC hf hN 49 FU x2 0 (by omega) (by omega) (fu_big (by omega)) c0 c1
theorem m_floods_loop {M0 : Mem} {at_ C : Int} {f : Int → Int} {was : Int64} (ha : 0 ≤ at_ ∧ at_ < 23) (hC : C ≤ 48) (hf : stepOK f C) (hN : ∀ M, Fr (fun k j => k = 211 ∧ j = at_) M0 M → t_MO_cells M = C ∧ ∀ c, 0 ≤ c → c < C → t_MO_nextOf M at_ c = some (f c)) : ∀ (n i fu : Nat) (M : Mem), (i : Int) + (n : Int) = C → n < fu → Fr (fun k j => k = 211 ∧ j = at_) M0 M → M.2 211 at_ = flS f was i →
    ∃ N, t_MO_floods_L17 at_ fu M was (i : Int) = some N ∧ N.2 211 at_ = flS f was C.toNat ∧ Fr (fun k j => k = 211 ∧ j = at_) M0 N := by
  intro n
  induction n with
  | zero =>
    intro i fu M g0 g2 hF hw
    obtain ⟨g, rfl⟩ : ∃ g, fu = g + 1 := ⟨fu - 1, by omega⟩
    rw [t_MO_floods_L17]
    simp only [qlet]
    rw [(hN M hF).1, if_pos (by omega)]
    exact ⟨M, rfl, by rw [hw]; congr 1; omega, hF⟩
  | succ n ih =>
    intro i fu M g0 g2 hF hw
    obtain ⟨g, rfl⟩ : ∃ g, fu = g + 1 := ⟨fu - 1, by omega⟩
    rw [t_MO_floods_L17]
    simp only [qlet]
    rw [(hN M hF).1, if_neg (by omega)]
    have ei : w32 ((i : Int) + 1) = ((i + 1 : Nat) : Int) := by rw [w32_id (by unfold InR; omega)]; omega
    by_cases e : tb was (i : Int) = true
    · rw [if_pos ((lshr_1 _ (by omega) (by omega)).mpr e)]
      obtain ⟨N, e1, e2, e3⟩ := m_pours (M := M) ha hC hf (hN M hF).2 (x2 := (i : Int)) (by omega) (by omega)
      rw [e1, obind_some]
      unfold t_MO_floods_L45
      rw [ei]
      exact ih (i + 1) g N (by omega) (by omega) (hF.trans e3) (by rw [e2, flS, if_pos e, hw])
    · rw [if_neg (fun q => e ((lshr_1 _ (by omega) (by omega)).mp q))]
      unfold t_MO_floods_L45
      rw [ei]
      exact ih (i + 1) g M (by omega) (by omega) hF (by rw [flS, if_neg e, hw])
theorem m_floods {M : Mem} {at_ C : Int} {f : Int → Int} (ha : 0 ≤ at_ ∧ at_ < 23) (hC : 0 ≤ C ∧ C ≤ 48) (hf : stepOK f C) (hN : ∀ N, Fr (fun k j => k = 211 ∧ j = at_) M N → t_MO_cells N = C ∧ ∀ c, 0 ≤ c → c < C → t_MO_nextOf N at_ c = some (f c)) :
    ∃ N, t_MO_floods M at_ = some N ∧ N.2 211 at_ = flS f (M.2 211 at_) C.toNat ∧ Fr (fun k j => k = 211 ∧ j = at_) M N := by
  unfold t_MO_floods
  rw [qguard_pos ha, qguard_pos ha]
  simp only [qlet]
  exact m_floods_loop ha hC.2 hf hN C.toNat 0 FU _ (by omega) (fu_big (by omega)) (Fr.rf.setL ⟨rfl, rfl⟩) (by rw [sL_self]; rfl)
