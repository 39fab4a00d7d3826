/-! ===== a text: before, behind, and all -/
theorem m_text_L47 {x1 : Int} : ∀ (m fu : Nat) (N : Mem) (v : Int), v + (m : Int) = 9 → 0 ≤ v → m < fu →
    ∃ P, t_MO_text_L47 x1 fu N v = t_MO_text_L80 x1 FU P 0 ∧ Fr (fun k j => k = 193 ∧ 9 + v ≤ j) N P ∧ ∀ j, v ≤ j → j < 9 → P.1 193 (9 + j) = if j = 0 ∨ j = 1 then 4 else 0 := by
  intro m
  induction m with
  | zero =>
    intro fu N v g0 g1 g2
    obtain ⟨g, rfl⟩ : ∃ g, fu = g + 1 := ⟨fu - 1, by omega⟩
    rw [t_MO_text_L47, if_pos (by omega)]
    exact ⟨N, rfl, Fr.rf, fun j a b => by omega⟩
  | succ m ih =>
    intro fu N v g0 g1 g2
    obtain ⟨g, rfl⟩ : ∃ g, fu = g + 1 := ⟨fu - 1, by omega⟩
    have step : ∀ c, c = (if v = 0 ∨ v = 1 then 4 else 0) → ∃ P, t_MO_text_L69 x1 (fun a0_ a1_ => t_MO_text_L47 x1 g a0_ a1_) N v v c = t_MO_text_L80 x1 FU P 0 ∧ Fr (fun k j => k = 193 ∧ 9 + v ≤ j) N P ∧ ∀ j, v ≤ j → j < 9 → P.1 193 (9 + j) = if j = 0 ∨ j = 1 then 4 else 0 := by
      intro c hc
      unfold t_MO_text_L69
      rw [m_reads (by omega) (by omega), obind_some, w32_id (x := v + 1) (by unfold InR; omega)]
      obtain ⟨P, p1, p2, p3⟩ := ih g (setI N 193 (9 + v) c) (v + 1) (by omega) (by omega) (by omega)
      have hF : Fr (fun k j => k = 193 ∧ 9 + v ≤ j) N (setI N 193 (9 + v) c) := Fr.rf.setI ⟨rfl, Int.le_refl _⟩
      refine ⟨P, p1, hF.trans (p2.mono (fun k j z => ⟨z.1, by omega⟩)), fun j a b => ?_⟩
      by_cases q : j = v
      · rw [q, (p2 193 (9 + v) (by omega)).1, sI_self]; exact hc
      · exact p3 j (by omega) b
    rw [t_MO_text_L47, if_neg (by omega)]
    unfold t_MO_text_L64
    by_cases a : v = 0
    · rw [if_pos a]; exact step 4 (by rw [if_pos (Or.inl a)])
    · rw [if_neg a]
      by_cases b : v = 1
      · rw [if_pos b]; exact step 4 (by rw [if_pos (Or.inr b)])
      · rw [if_neg b]; exact step 0 (by rw [if_neg (by omega)])
theorem m_text_L80 {x1 : Int} : ∀ (m fu : Nat) (N : Mem) (v : Int), v + (m : Int) = 48 → 0 ≤ v → m < fu →
    ∃ P, t_MO_text_L80 x1 fu N v = t_MO_text_L124 x1 FU P 2 ∧ Fr (fun k j => (197 ≤ k ∧ k ≤ 199) ∧ 48 + v ≤ j) N P ∧ ∀ j, v ≤ j → j < 48 → P.1 197 (48 + j) = 0 ∧ P.1 198 (48 + j) = 0 ∧ P.1 199 (48 + j) = 0 := by
  intro m
  induction m with
  | zero =>
    intro fu N v g0 g1 g2
    obtain ⟨g, rfl⟩ : ∃ g, fu = g + 1 := ⟨fu - 1, by omega⟩
    rw [t_MO_text_L80, if_pos (by omega)]
    exact ⟨N, rfl, Fr.rf, fun j a b => by omega⟩
  | succ m ih =>
    intro fu N v g0 g1 g2
    obtain ⟨g, rfl⟩ : ∃ g, fu = g + 1 := ⟨fu - 1, by omega⟩
    have gd : 0 ≤ 48 + v ∧ 48 + v < 96 := by omega
    rw [t_MO_text_L80, if_neg (by omega), w32_id (x := 48 + v) (by unfold InR; omega), w32_id (x := v + 1) (by unfold InR; omega)]
    simp (config := { proj := false }) only [qlet, qguard_pos gd]
    obtain ⟨P, p1, p2, p3⟩ := ih g (setI (setI (setI N 197 (48 + v) 0) 198 (48 + v) 0) 199 (48 + v) 0) (v + 1) (by omega) (by omega) (by omega)
    refine ⟨P, p1, (((Fr.rf.setI ⟨by omega, by omega⟩).setI ⟨by omega, by omega⟩).setI ⟨by omega, by omega⟩ : Fr (fun k j => (197 ≤ k ∧ k ≤ 199) ∧ 48 + v ≤ j) N _).trans (p2.mono (fun k j z => ⟨z.1, by omega⟩)), fun j a b => ?_⟩
    by_cases q : j = v
    · rw [q, (p2 197 (48 + v) (by omega)).1, (p2 198 (48 + v) (by omega)).1, (p2 199 (48 + v) (by omega)).1]
      exact ⟨by rw [sI_ne (by omega), sI_ne (by omega), sI_self], by rw [sI_ne (by omega), sI_self], sI_self _ _ _ _⟩
    · exact p3 j (by omega) b
theorem m_text_L124 {x1 : Int} : ∀ (m fu : Nat) (N : Mem) (v : Int), v + (m : Int) = 4 → 0 ≤ v → m < fu →
    ∃ P, t_MO_text_L124 x1 fu N v = (obind (t_MO_token (setI (setI (setI (setI P 191 17 0) 191 18 0) 191 28 0) 191 29 0)) fun q27 => (t_MO_text_L173 x1 FU q27)) ∧ Fr (fun k j => (k = 203 ∨ k = 204) ∧ v ≤ j) N P ∧ ∀ j, v ≤ j → j < 4 → P.1 203 j = 0 ∧ P.1 204 j = 0 := by
  intro m
  induction m with
  | zero =>
    intro fu N v g0 g1 g2
    obtain ⟨g, rfl⟩ : ∃ g, fu = g + 1 := ⟨fu - 1, by omega⟩
    rw [t_MO_text_L124, if_pos (by omega)]
    exact ⟨N, rfl, Fr.rf, fun j a b => by omega⟩
  | succ m ih =>
    intro fu N v g0 g1 g2
    obtain ⟨g, rfl⟩ : ∃ g, fu = g + 1 := ⟨fu - 1, by omega⟩
    have gd : 0 ≤ v ∧ v < 4 := by omega
    rw [t_MO_text_L124, if_neg (by omega), w32_id (x := v + 1) (by unfold InR; omega)]
    simp (config := { proj := false }) only [qlet, qguard_pos gd]
    obtain ⟨P, p1, p2, p3⟩ := ih g (setI (setI N 203 v 0) 204 v 0) (v + 1) (by omega) (by omega) (by omega)
    refine ⟨P, p1, ((Fr.rf.setI ⟨by omega, by omega⟩).setI ⟨by omega, by omega⟩ : Fr (fun k j => (k = 203 ∨ k = 204) ∧ v ≤ j) N _).trans (p2.mono (fun k j z => ⟨z.1, by omega⟩)), fun j a b => ?_⟩
    by_cases q : j = v
    · rw [q, (p2 203 v (by omega)).1, (p2 204 v (by omega)).1]
      exact ⟨by rw [sI_ne (by omega), sI_self], sI_self _ _ _ _⟩
    · exact p3 j (by omega) b
theorem m_text_L257 {x1 : Int} {M0 M : Mem} (h : HC M0 M 198) : ∀ (m fu : Nat) (N : Mem) (v : Int), v + (m : Int) = 48 → 0 ≤ v → m < fu → Fr (fun k j => (k = 198 ∨ k = 199) ∧ 0 ≤ j ∧ j < v) M N → (∀ k j, (k = 198 ∨ k = 199) → 0 ≤ j → j < v → N.1 k j = M.1 k (48 + j)) →
    ∃ g P, t_MO_text_L257 x1 fu N v = t_MO_text_L257 x1 (g + 1) P 48 ∧ HC M0 P 200 := by
  intro m
  induction m with
  | zero =>
    intro fu N v g0 g1 g2 hF hc
    obtain ⟨g, rfl⟩ : ∃ g, fu = g + 1 := ⟨fu - 1, by omega⟩
    have e : v = 48 := by omega
    rw [e] at hF hc ⊢
    refine ⟨g, N, rfl, (h.1.mono (fun k j z => ⟨z.1, by omega, z.2.2⟩)).trans (hF.mono (fun k j z => ⟨by omega, by omega, z.2.1, by rcases z.1 with q | q <;> rw [q] <;> exact z.2.2⟩)), fun k j a b c d => ?_⟩
    by_cases q : k = 198 ∨ k = 199
    · have ek : hw k = 48 := by rcases q with q | q <;> rw [q] <;> rfl
      rw [ek] at d ⊢
      rw [hc k j q c d, (h.1 k _ (by omega)).1]
    · rw [(hF k j (fun z => q z.1)).1]
      exact h.2 k j a (by omega) c d
  | succ m ih =>
    intro fu N v g0 g1 g2 hF hc
    obtain ⟨g, rfl⟩ : ∃ g, fu = g + 1 := ⟨fu - 1, by omega⟩
    have gd : 0 ≤ 48 + v ∧ 48 + v < 96 := by omega
    have gd2 : 0 ≤ v ∧ v < 96 := by omega
    rw [t_MO_text_L257, if_neg (by omega), w32_id (x := 48 + v) (by unfold InR; omega), w32_id (x := v + 1) (by unfold InR; omega)]
    simp (config := { proj := false }) only [qlet, qguard_pos gd, qguard_pos gd2]
    refine ih g _ (v + 1) (by omega) (by omega) (by omega) (((hF.mono (fun k j z => ⟨z.1, z.2.1, by omega⟩)).setI ⟨Or.inl rfl, g1, by omega⟩).setI ⟨Or.inr rfl, g1, by omega⟩) (fun k j a b c => ?_)
    by_cases q : j = v
    · rcases a with a | a
      · rw [a, q, sI_ne (by omega), sI_self, (hF 198 (48 + v) (by omega)).1]
      · rw [a, q, sI_self, sI_ne (by omega), (hF 199 (48 + v) (by omega)).1]
    · rw [sI_ne (by omega), sI_ne (by omega), hc k j a b (by omega)]
theorem m_beg_L82 {M : Mem} {V : TV} (hT : MT0 M V) (hV : VOK V) : ∀ (m fu : Nat) (N : Mem) (v : Int), v + (m : Int) = 8 → 0 ≤ v → m < fu → Fr (fun k j => (213 ≤ k ∧ k ≤ 215) ∧ 0 ≤ j ∧ j < v) M N → (∀ t, 0 ≤ t → t < v → N.1 213 t = (if V 0 3 ≤ t then -1 else V 6 t) ∧ N.1 214 t = 0 ∧ N.1 215 t = 0) →
    ∃ P, t_MO_begins_L82 fu N v = some P ∧ Fr (fun k j => (213 ≤ k ∧ k ≤ 215) ∧ 0 ≤ j ∧ j < 8) M P ∧ ∀ t, 0 ≤ t → t < 8 → P.1 213 t = (if V 0 3 ≤ t then -1 else V 6 t) ∧ P.1 214 t = 0 ∧ P.1 215 t = 0 := by
  intro m
  induction m with
  | zero =>
    intro fu N v g0 g1 g2 hF hc
    obtain ⟨g, rfl⟩ : ∃ g, fu = g + 1 := ⟨fu - 1, by omega⟩
    have e : v = 8 := by omega
    rw [e] at hF hc ⊢
    rw [t_MO_begins_L82, if_pos (by omega)]
    exact ⟨N, rfl, hF, hc⟩
  | succ m ih =>
    intro fu N v g0 g1 g2 hF hc
    obtain ⟨g, rfl⟩ : ∃ g, fu = g + 1 := ⟨fu - 1, by omega⟩
    have step : ∀ c, c = (if V 0 3 ≤ v then -1 else V 6 v) → ∃ P, t_MO_begins_L114 (fun a0_ a1_ => t_MO_begins_L82 g a0_ a1_) N v v c = some P ∧ Fr (fun k j => (213 ≤ k ∧ k ≤ 215) ∧ 0 ≤ j ∧ j < 8) M P ∧ ∀ t, 0 ≤ t → t < 8 → P.1 213 t = (if V 0 3 ≤ t then -1 else V 6 t) ∧ P.1 214 t = 0 ∧ P.1 215 t = 0 := by
      intro c ec
      have gd : 0 ≤ v ∧ v < 184 := by omega
      unfold t_MO_begins_L114
      simp (config := { proj := false }) only [qlet, qguard_pos gd]
      rw [w32_id (x := v + 1) (by unfold InR; omega)]
      refine ih g _ (v + 1) (by omega) (by omega) (by omega) ((((hF.mono (fun k j z => ⟨z.1, z.2.1, by omega⟩)).setI ⟨by omega, by omega, by omega⟩).setI ⟨by omega, by omega, by omega⟩).setI ⟨by omega, by omega, by omega⟩) (fun t a b => ?_)
      by_cases q : t = v
      · rw [q]
        exact ⟨by rw [sI_ne (by omega), sI_ne (by omega), sI_self]; exact ec, by rw [sI_ne (by omega), sI_self], sI_self _ _ _ _⟩
      · rw [sI_ne (by omega), sI_ne (by omega), sI_ne (by omega), sI_ne (by omega), sI_ne (by omega), sI_ne (by omega), sI_ne (by omega), sI_ne (by omega), sI_ne (by omega)]
        exact hc t a (by omega)
    have e6 : N.1 193 6 = V 0 3 := ((hF 193 6 (by omega)).1).trans hT.1.2.2.2.1
    rw [t_MO_begins_L82, if_neg (by omega), e6]
    by_cases a : V 0 3 ≤ v
    · rw [if_pos a]; exact step (-1) (by rw [if_pos a])
    · have h3 := hV.1
      rw [if_neg a, qguard_pos ⟨by omega, by omega⟩, (hF 202 v (by omega)).1, (hT.2.2.1 v g1 (by omega)).2.2]
      exact step _ (by rw [if_neg a])
theorem m_beg_L43 {M : Mem} {V : TV} (hT : MT0 M V) (hV : VOK V) : ∀ (m fu : Nat) (N : Mem) (v : Int), v + (m : Int) = 4 → 0 ≤ v → m < fu → Fr (fun k j => k = 212 ∧ 0 ≤ j ∧ j < v) M N → (∀ w, 0 ≤ w → w < v → N.1 212 w = (if V 0 2 ≤ w then 4 else V 2 w)) →
    ∃ P, t_MO_begins_L43 fu N v = t_MO_begins_L82 FU P 0 ∧ Fr (fun k j => k = 212 ∧ 0 ≤ j ∧ j < 4) M P ∧ ∀ w, 0 ≤ w → w < 4 → P.1 212 w = (if V 0 2 ≤ w then 4 else V 2 w) := by
  intro m
  induction m with
  | zero =>
    intro fu N v g0 g1 g2 hF hc
    obtain ⟨g, rfl⟩ : ∃ g, fu = g + 1 := ⟨fu - 1, by omega⟩
    have e : v = 4 := by omega
    rw [e] at hF hc ⊢
    rw [t_MO_begins_L43, if_pos (by omega)]
    exact ⟨N, rfl, hF, hc⟩
  | succ m ih =>
    intro fu N v g0 g1 g2 hF hc
    obtain ⟨g, rfl⟩ : ∃ g, fu = g + 1 := ⟨fu - 1, by omega⟩
    have step : ∀ c, c = (if V 0 2 ≤ v then 4 else V 2 v) → ∃ P, t_MO_begins_L73 (fun a0_ a1_ => t_MO_begins_L43 g a0_ a1_) N v v c = t_MO_begins_L82 FU P 0 ∧ Fr (fun k j => k = 212 ∧ 0 ≤ j ∧ j < 4) M P ∧ ∀ w, 0 ≤ w → w < 4 → P.1 212 w = (if V 0 2 ≤ w then 4 else V 2 w) := by
      intro c ec
      have gd : 0 ≤ v ∧ v < 92 := by omega
      unfold t_MO_begins_L73
      simp (config := { proj := false }) only [qlet, qguard_pos gd]
      rw [w32_id (x := v + 1) (by unfold InR; omega)]
      refine ih g _ (v + 1) (by omega) (by omega) (by omega) ((hF.mono (fun k j z => ⟨z.1, z.2.1, by omega⟩)).setI ⟨rfl, by omega, by omega⟩) (fun t a b => ?_)
      by_cases q : t = v
      · rw [q, sI_self]; exact ec
      · rw [sI_ne (by omega)]; exact hc t a (by omega)
    have e2 : N.1 193 2 = V 0 2 := ((hF 193 2 (by omega)).1).trans hT.1.2.2.1
    rw [t_MO_begins_L43, if_neg (by omega), e2]
    by_cases a : V 0 2 ≤ v
    · rw [if_pos a]; exact step 4 (by rw [if_pos a])
    · have h3 := hV.1
      rw [if_neg a, qguard_pos ⟨by omega, by omega⟩, (hF 195 v (by omega)).1, (hT.2.1 v g1 (by omega)).2.1]
      exact step _ (by rw [if_neg a])
def BgW : Nat → Int → Prop := fun k j => (207 ≤ k ∧ k ≤ 211 ∧ j = 0) ∨ (k = 212 ∧ 0 ≤ j ∧ j < 4) ∨ (213 ≤ k ∧ k ≤ 215 ∧ 0 ≤ j ∧ j < 8)
def BgO (N : Mem) (V : TV) : Prop := (N.1 207 0 = 0 ∧ N.1 208 0 = 0 ∧ N.1 209 0 = V 0 5 ∧ N.2 210 0 = 0 ∧ N.2 211 0 = 0) ∧ (∀ w, 0 ≤ w → w < 4 → N.1 212 w = (if V 0 2 ≤ w then 4 else V 2 w)) ∧ ∀ t, 0 ≤ t → t < 8 → N.1 213 t = (if V 0 3 ≤ t then -1 else V 6 t) ∧ N.1 214 t = 0 ∧ N.1 215 t = 0
theorem m_begins {M : Mem} {V : TV} (hT : MT0 M V) (hV : VOK V) : ∃ N, t_MO_begins M = some N ∧ Fr BgW M N ∧ BgO N V := by
  unfold t_MO_begins
  simp (config := { proj := false }) only [qlet]
  rw [sI_ne (by omega), sI_ne (by omega), hT.1.2.2.2.2.2]
  have f1 : Fr BgW M (setL (setL (setI (setI (setI M 207 0 0) 208 0 0) 209 0 (V 0 5)) 210 0 0) 211 0 0) := ((((Fr.rf.setI (by unfold BgW; omega)).setI (by unfold BgW; omega)).setI (by unfold BgW; omega)).setL (by unfold BgW; omega)).setL (by unfold BgW; omega)
  have v7 : (setL (setL (setI (setI (setI M 207 0 0) 208 0 0) 209 0 (V 0 5)) 210 0 0) 211 0 0).1 207 0 = 0 := by rw [sL_fst, sL_fst, sI_ne (by omega), sI_ne (by omega), sI_self]
  have v8 : (setL (setL (setI (setI (setI M 207 0 0) 208 0 0) 209 0 (V 0 5)) 210 0 0) 211 0 0).1 208 0 = 0 := by rw [sL_fst, sL_fst, sI_ne (by omega), sI_self]
  have v9 : (setL (setL (setI (setI (setI M 207 0 0) 208 0 0) 209 0 (V 0 5)) 210 0 0) 211 0 0).1 209 0 = V 0 5 := by rw [sL_fst, sL_fst, sI_self]
  have v10 : (setL (setL (setI (setI (setI M 207 0 0) 208 0 0) 209 0 (V 0 5)) 210 0 0) 211 0 0).2 210 0 = 0 := by rw [sL_ne (by omega), sL_self]
  have v11 : (setL (setL (setI (setI (setI M 207 0 0) 208 0 0) 209 0 (V 0 5)) 210 0 0) 211 0 0).2 211 0 = 0 := sL_self _ _ _ _
  generalize setL (setL (setI (setI (setI M 207 0 0) 208 0 0) 209 0 (V 0 5)) 210 0 0) 211 0 0 = M1 at *
  have hT1 : MT0 M1 V := hT.fr f1 (fun k j a b z => by unfold BgW at z; omega)
  obtain ⟨P, p1, p2, p3⟩ := m_beg_L43 hT1 hV 4 FU M1 0 (by omega) (by omega) (fu_big (by omega)) Fr.rf (fun w a b => by omega)
  have hT2 : MT0 P V := hT1.fr p2 (fun k j a b z => by omega)
  obtain ⟨N, q1, q2, q3⟩ := m_beg_L82 hT2 hV 8 FU P 0 (by omega) (by omega) (fu_big (by omega)) Fr.rf (fun w a b => by omega)
  rw [p1]
  have g : ∀ k j, ¬ (k = 212 ∨ (213 ≤ k ∧ k ≤ 215)) → N.1 k j = M1.1 k j ∧ N.2 k j = M1.2 k j := fun k j a => ⟨((q2 k j (by omega)).1).trans (p2 k j (by omega)).1, ((q2 k j (by omega)).2).trans (p2 k j (by omega)).2⟩
  refine ⟨N, q1, (f1.trans (p2.mono (fun k j z => by unfold BgW; omega))).trans (q2.mono (fun k j z => by unfold BgW; omega)), ⟨?_, ?_, ?_, ?_, ?_⟩, fun w a b => ?_, q3⟩
  · rw [(g 207 0 (by omega)).1]; exact v7
  · rw [(g 208 0 (by omega)).1]; exact v8
  · rw [(g 209 0 (by omega)).1]; exact v9
  · rw [(g 210 0 (by omega)).2]; exact v10
  · rw [(g 211 0 (by omega)).2]; exact v11
  · rw [(q2 212 w (by omega)).1]; exact p3 w a b
