/-! ===== notes ===== -/
theorem RL.notes {W : Nat → Int → Prop} {M N : Mem} {V : TV} (hV : VOK V) (hy : M.1 207 0 ≤ 99 ∧ (M.1 191 42 = 1 → M.1 207 2 ≤ 99)) (h : RL M V) (hF : Fr W M N) (hd : ∀ q j, W q j → q = 172 ∨ (173 ≤ q ∧ q ≤ 175) ∨ (q = 191 ∧ (j = 0 ∨ j = 60 ∨ j = 61)) ∨ (226 ≤ q ∧ q ≤ 228)) (hn : NoR N) : RL N V := by
  obtain ⟨r1, r2, r3, r4, r5, r6⟩ := h
  refine ⟨r1.fr hV hF (fun q j z y => ?_), r2.fr hy.1 hF (fun q j z y => ?_), r3.fr hV hF (fun q j z y => ?_), r4.fr hV hy.2 hF (fun q j z y => ?_), hn, r6.fr hV hF (fun q j z y => ?_)⟩
  · have := hd q j y; unfold CsW RwW at z; omega
  · have := hd q j y; unfold ChW RgR at z; omega
  · have := hd q j y; omega
  · have := hd q j y; unfold CsW RwW ChW RgR at z; omega
  · have := hd q j y; unfold RwW at z; omega
def NaW (k : Int) : Nat → Int → Prop := fun q j => ((q = 173 ∨ q = 174 ∨ q = 175) ∧ j = k) ∨ (q = 172 ∧ j = 5)
def NbW (k : Int) : Nat → Int → Prop := fun q j => ((q = 226 ∨ q = 227 ∨ q = 228) ∧ j = k) ∨ (q = 191 ∧ (j = 0 ∨ j = 60))
theorem c_add {M : Mem} {k : Int} (hk : M.1 172 5 = k) (h0 : 0 ≤ k) (h1 : k < 24) (a b c : Int) : ∃ N, t_Notes_add M a b c = (N, k) ∧ Fr (NaW k) M N ∧ N.1 172 5 = k + 1 ∧ N.1 173 k = a ∧ N.1 174 k = b ∧ N.1 175 k = c := by
  have p1 : t_WF_put M 173 24 (M.1 172 5) a = setI M 173 k a := by rw [hk]; exact put_in h0 (by omega)
  have g1 : (setI M 173 k a).1 172 5 = k := by rw [sI_ne (by omega)]; exact hk
  have p2 : t_WF_put (setI M 173 k a) 174 24 ((setI M 173 k a).1 172 5) b = setI (setI M 173 k a) 174 k b := by rw [g1]; exact put_in h0 (by omega)
  have g2 : (setI (setI M 173 k a) 174 k b).1 172 5 = k := by rw [sI_ne (by omega)]; exact g1
  have p3 : t_WF_put (setI (setI M 173 k a) 174 k b) 175 24 ((setI (setI M 173 k a) 174 k b).1 172 5) c = setI (setI (setI M 173 k a) 174 k b) 175 k c := by rw [g2]; exact put_in h0 (by omega)
  have g3 : (setI (setI (setI M 173 k a) 174 k b) 175 k c).1 172 5 = k := by rw [sI_ne (by omega)]; exact g2
  refine ⟨setI (setI (setI (setI M 173 k a) 174 k b) 175 k c) 172 5 (k + 1), ?_, (((Fr.rf.setI (by unfold NaW; omega)).setI (by unfold NaW; omega)).setI (by unfold NaW; omega)).setI (by unfold NaW; omega), sI_self _ _ _ _, ?_, ?_, ?_⟩
  · unfold t_Notes_add
    simp (config := { proj := false }) only [qlet]
    rw [p1, p2, p3, g3, w32_id (x := k + 1) (by unfold InR; omega), sI_self, w32_id (x := k + 1 - 1) (by unfold InR; omega), hk, if_pos h1, show k + 1 - 1 = k by omega]
  · rw [sI_ne (by omega), sI_ne (by omega), sI_ne (by omega), sI_self]
  · rw [sI_ne (by omega), sI_ne (by omega), sI_self]
  · rw [sI_ne (by omega), sI_self]
theorem c_add_full {M : Mem} (hk : M.1 172 5 = 24) (a b c : Int) : t_Notes_add M a b c = (M, -1) := by
  unfold t_Notes_add
  rw [hk, if_neg (by decide)]
theorem no_add {M Q : Mem} {k : Int} {W : Nat → Int → Prop} (h : NoR M) (hk : M.1 191 60 = k) (fA : Fr W M Q) (hd : ∀ q j, W q j → NaW k q j ∨ NbW k q j) (e1 : Q.1 172 5 = k + 1) (e2 : Q.1 191 60 = k + 1) (e3 : (Q.1 228 k = 0 ∧ Q.1 173 k = Q.1 226 k ∧ Q.1 174 k = Q.1 227 k ∧ Q.1 175 k = -1) ∨ (Q.1 228 k = 1 ∧ Q.1 175 k = Q.1 226 k ∧ Q.1 174 k = -1 ∧ Q.1 173 k = -1)) : NoR Q := by
  have e : ∀ q j, ¬ (NaW k q j ∨ NbW k q j) → Q.1 q j = M.1 q j := fun q j z => (fA q j (fun y => z (hd q j y))).1
  refine ⟨by omega, ?_, fun i a b => ?_⟩
  · rw [e 172 6 (by unfold NaW NbW; omega), e 191 61 (by unfold NaW NbW; omega)]; exact h.2.1
  · by_cases z : i = k
    · rw [z]; exact e3
    · rw [e2] at b
      rw [e 173 i (by unfold NaW NbW; omega), e 174 i (by unfold NaW NbW; omega), e 175 i (by unfold NaW NbW; omega), e 226 i (by unfold NaW NbW; omega), e 227 i (by unfold NaW NbW; omega), e 228 i (by unfold NaW NbW; omega)]
      exact h.2.2 i a (by omega)
theorem bs_note {M : Mem} (h : LI M) {x1 x2 : Int} (h1 : InR x1) (h2 : InR x2) : Ok (fun r => (t_WF_note M x1 x2).2 = r.2 ∧ LI r.1) (t_MO_note (t_WF_note M x1 x2).1 x1 x2) := by
  have h' := h
  obtain ⟨hI, ⟨V, hR, hX, hRL⟩, -⟩ := h
  have hV := hR.1.1
  have hv := hV.1
  have hS : CScF M 47 V (DN M 0) (AT M 0) (ST M 0) (LN M 0) (M.2 210 0) (M.2 211 0) (wlV V) := hRL.1
  have hNo := hRL.2.2.2.2.1
  have hOK := hR.2.2.2.2.2
  have hIC := (sf_WF_note hI h1 h2).1
  have same : t_WF_note M x1 x2 = (M, -1) → t_MO_note M x1 x2 = some (setI M 191 0 0, -1) → Ok (fun r => (t_WF_note M x1 x2).2 = r.2 ∧ LI r.1) (t_MO_note (t_WF_note M x1 x2).1 x1 x2) := fun e1 e2 => by
    rw [e1]; exact ⟨_, e2, rfl, h'.at0⟩
  have hw : opV V x1 → (x2 = -1 ∨ opV V x2) → t_WF_note M x1 x2 = t_Notes_add M x1 x2 (-1) := fun o1 o2 => by
    unfold t_WF_note t_WF_note_L23
    simp (config := { proj := false }) only [qlet]
    rw [c_isFree hV hX hS, if_pos o1, if_neg (show ¬ (1 : Int) = 0 by decide)]
    by_cases z : x2 = -1
    · rw [if_pos z]
    · rw [if_neg z, c_isFree hV hX hS, if_pos (o2.resolve_left z), if_neg (show ¬ (1 : Int) = 0 by decide)]
  have hm : ∀ N : Mem, RI N V → opV V x1 → (x2 = -1 ∨ opV V x2) → t_MO_note N x1 x2 = t_MO_note_L26 x1 x2 (setI N 191 0 0) := fun N hN o1 o2 => by
    unfold t_MO_note
    simp (config := { proj := false }) only [qlet]
    rw [m_open01 (hN.set0 0).1.2.1 hV, if_pos o1, obind_some, if_neg (show ¬ (1 : Int) = 0 by decide)]
    by_cases z : x2 = -1
    · rw [if_pos z]
    · rw [if_neg z, m_open01 (hN.set0 0).1.2.1 hV, if_pos (o2.resolve_left z), obind_some, if_neg (show ¬ (1 : Int) = 0 by decide)]
  by_cases c1 : opV V x1
  rotate_left
  · refine same ?_ ?_
    · unfold t_WF_note
      simp (config := { proj := false }) only [qlet]
      rw [c_isFree hV hX hS, if_neg c1, if_pos rfl]
    · unfold t_MO_note
      simp (config := { proj := false }) only [qlet]
      rw [m_open01 (hR.set0 0).1.2.1 hV, if_neg c1, obind_some, if_pos rfl]
  by_cases c2 : x2 = -1 ∨ opV V x2
  rotate_left
  · have z : ¬ x2 = -1 := fun z => c2 (Or.inl z)
    have o : ¬ opV V x2 := fun z => c2 (Or.inr z)
    refine same ?_ ?_
    · unfold t_WF_note
      simp (config := { proj := false }) only [qlet]
      rw [c_isFree hV hX hS, if_pos c1, if_neg (show ¬ (1 : Int) = 0 by decide), if_neg z, c_isFree hV hX hS, if_neg o, if_pos rfl]
    · unfold t_MO_note
      simp (config := { proj := false }) only [qlet]
      rw [m_open01 (hR.set0 0).1.2.1 hV, if_pos c1, obind_some, if_neg (show ¬ (1 : Int) = 0 by decide), if_neg z, m_open01 (hR.set0 0).1.2.1 hV, if_neg o, obind_some, if_pos rfl]
  obtain ⟨k, hk⟩ : ∃ k, M.1 191 60 = k := ⟨_, rfl⟩
  have hk5 : M.1 172 5 = k := hNo.1.trans hk
  have hkr : 0 ≤ k ∧ k ≤ 24 := by rw [← hk]; exact ⟨hOK.1, hOK.2.1⟩
  by_cases c3 : k = 24
  · refine same ?_ ?_
    · rw [hw c1 c2]; exact c_add_full (by omega) _ _ _
    · rw [hm M hR c1 c2]
      unfold t_MO_note_L26
      have : (setI M 191 0 0).1 191 60 = 24 := by rw [sI_ne (by omega)]; omega
      rw [if_pos this]
  obtain ⟨N, n1, n2, n3, n4, n5, n6⟩ := c_add hk5 hkr.1 (by omega) x1 x2 (-1)
  rw [hw c1 c2, n1] at hIC ⊢
  have hRN : RI N V := hR.fr n2 (fun q j a z => by unfold RIc at a; unfold NaW at z; omega)
  obtain ⟨P, p0, p1⟩ := ri_note hRN x1 x2
  have hIP := im_MO_note hIC h1 h2 P p0
  have e60 : (setI N 191 0 0).1 191 60 = k := by rw [sI_ne (by omega), (n2 191 60 (by unfold NaW; omega)).1]; exact hk
  have hmo : ∃ Q, t_MO_note N x1 x2 = some (Q, k) ∧ Fr (NbW k) N Q ∧ Q.1 191 60 = k + 1 ∧ Q.1 226 k = x1 ∧ Q.1 227 k = x2 ∧ Q.1 228 k = 0 := by
    have f0 : Fr (NbW k) N (setI N 191 0 0) := Fr.rf.setI (by unfold NbW; omega)
    rw [hm N hRN c1 c2]
    generalize setI N 191 0 0 = N0 at *
    have g1 : (setI N0 226 k x1).1 191 60 = k := by rw [sI_ne (by omega)]; exact e60
    have g2 : (setI (setI N0 226 k x1) 227 k x2).1 191 60 = k := by rw [sI_ne (by omega)]; exact g1
    have g3 : (setI (setI (setI N0 226 k x1) 227 k x2) 228 k 0).1 191 60 = k := by rw [sI_ne (by omega)]; exact g2
    refine ⟨setI (setI (setI (setI N0 226 k x1) 227 k x2) 228 k 0) 191 60 (k + 1), ?_, (((f0.setI (by unfold NbW; omega)).setI (by unfold NbW; omega)).setI (by unfold NbW; omega)).setI (by unfold NbW; omega), sI_self _ _ _ _, ?_, ?_, ?_⟩
    · unfold t_MO_note_L26
      simp (config := { proj := false }) only [qlet]
      rw [e60, if_neg c3, qguard_pos ⟨hkr.1, by omega⟩, g1, qguard_pos ⟨hkr.1, by omega⟩, g2, qguard_pos ⟨hkr.1, by omega⟩, g3, w32_id (x := k + 1) (by unfold InR; omega), sI_self, w32_id (x := k + 1 - 1) (by unfold InR; omega), show k + 1 - 1 = k by omega]
    · rw [sI_ne (by omega), sI_ne (by omega), sI_ne (by omega), sI_self]
    · rw [sI_ne (by omega), sI_ne (by omega), sI_self]
    · rw [sI_ne (by omega), sI_self]
  obtain ⟨Q, q1, q2, q3, q4, q5, q6⟩ := hmo
  have ePQ : P = (Q, k) := Option.some.inj (p0.symm.trans q1)
  subst ePQ
  refine ⟨(Q, k), p0, rfl, ?_⟩
  have fA : Fr (fun q j => NaW k q j ∨ NbW k q j) M Q := (n2.mono (fun q j z => Or.inl z)).trans (q2.mono (fun q j z => Or.inr z))
  have eQ : ∀ q j, q ≤ 175 → Q.1 q j = N.1 q j := fun q j x => (q2 q j (by unfold NbW; omega)).1
  refine h'.two hX hIP.1 p1 (hRL.notes hV hR.yr fA (fun q j z => by unfold NaW NbW at z; omega) (no_add hNo hk fA (fun q j z => z) ?_ q3 (Or.inl ⟨q6, ?_, ?_, ?_⟩))) (fA.mono (fun q j z => by unfold NaW NbW at z; unfold KpA; omega))
  · rw [eQ 172 5 (by omega)]; exact n3
  · rw [eQ 173 k (by omega), n4, q4]
  · rw [eQ 174 k (by omega), n5, q5]
  · rw [eQ 175 k (by omega)]; exact n6
theorem bs_strike {M : Mem} (h : LI M) {x1 : Int} (h1 : InR x1) : Ok (fun r => (t_WF_strike M x1).2 = r.2 ∧ LI r.1) (t_MO_strike (t_WF_strike M x1).1 x1) := by
  have h' := h
  obtain ⟨hI, ⟨V, hR, hX, hRL⟩, -⟩ := h
  have hV := hR.1.1
  have hv := hV.1
  have hNo := hRL.2.2.2.2.1
  have hOK := hR.2.2.2.2.2
  have hIC := (sf_WF_strike hI h1).1
  have same : t_WF_strike M x1 = (M, -1) → t_MO_strike M x1 = some (setI M 191 0 0, -1) → Ok (fun r => (t_WF_strike M x1).2 = r.2 ∧ LI r.1) (t_MO_strike (t_WF_strike M x1).1 x1) := fun e1 e2 => by
    rw [e1]; exact ⟨_, e2, rfl, h'.at0⟩
  obtain ⟨k, hk⟩ : ∃ k, M.1 191 60 = k := ⟨_, rfl⟩
  have hk5 : M.1 172 5 = k := hNo.1.trans hk
  have hkr : 0 ≤ k ∧ k ≤ 24 := by rw [← hk]; exact ⟨hOK.1, hOK.2.1⟩
  have e60M : (setI M 191 0 0).1 191 60 = k := by rw [sI_ne (by omega)]; exact hk
  by_cases c1 : x1 < 0
  · refine same ?_ ?_
    · unfold t_WF_strike; rw [if_pos c1]
    · unfold t_MO_strike; simp (config := { proj := false }) only [qlet]; rw [if_pos c1]
  by_cases c2 : x1 < k
  rotate_left
  · refine same ?_ ?_
    · unfold t_WF_strike; rw [hk5, if_neg c1, if_neg c2]
    · unfold t_MO_strike; simp (config := { proj := false }) only [qlet]; rw [e60M, if_neg c1, if_pos (show k ≤ x1 by omega)]
  have hw : t_WF_strike M x1 = t_Notes_add M (-1) (-1) x1 := by
    unfold t_WF_strike
    simp (config := { proj := false }) only [qlet]
    rw [hk5, if_neg c1, if_pos c2]
  by_cases c3 : k = 24
  · refine same ?_ ?_
    · rw [hw]; exact c_add_full (by omega) _ _ _
    · unfold t_MO_strike; simp (config := { proj := false }) only [qlet]; rw [e60M, if_neg c1, if_neg (show ¬ k ≤ x1 by omega), if_pos c3]
  obtain ⟨N, n1, n2, n3, n4, n5, n6⟩ := c_add hk5 hkr.1 (by omega) (-1) (-1) x1
  rw [hw, n1] at hIC ⊢
  have hRN : RI N V := hR.fr n2 (fun q j a z => by unfold RIc at a; unfold NaW at z; omega)
  obtain ⟨P, p0, p1⟩ := ri_strike hRN x1
  have hIP := im_MO_strike hIC h1 P p0
  have e60 : (setI N 191 0 0).1 191 60 = k := by rw [sI_ne (by omega), (n2 191 60 (by unfold NaW; omega)).1]; exact hk
  have hmo : ∃ Q, t_MO_strike N x1 = some (Q, k) ∧ Fr (NbW k) N Q ∧ Q.1 191 60 = k + 1 ∧ Q.1 226 k = x1 ∧ Q.1 228 k = 1 := by
    have f0 : Fr (NbW k) N (setI N 191 0 0) := Fr.rf.setI (by unfold NbW; omega)
    unfold t_MO_strike
    simp (config := { proj := false }) only [qlet]
    generalize setI N 191 0 0 = N0 at *
    have g1 : (setI N0 226 k x1).1 191 60 = k := by rw [sI_ne (by omega)]; exact e60
    have g2 : (setI (setI N0 226 k x1) 228 k 1).1 191 60 = k := by rw [sI_ne (by omega)]; exact g1
    refine ⟨setI (setI (setI N0 226 k x1) 228 k 1) 191 60 (k + 1), ?_, ((f0.setI (by unfold NbW; omega)).setI (by unfold NbW; omega)).setI (by unfold NbW; omega), sI_self _ _ _ _, ?_, ?_⟩
    · rw [e60, if_neg c1, if_neg (show ¬ k ≤ x1 by omega), if_neg c3, qguard_pos ⟨hkr.1, by omega⟩, g1, qguard_pos ⟨hkr.1, by omega⟩, g2, w32_id (x := k + 1) (by unfold InR; omega), sI_self, w32_id (x := k + 1 - 1) (by unfold InR; omega), show k + 1 - 1 = k by omega]
    · rw [sI_ne (by omega), sI_ne (by omega), sI_self]
    · rw [sI_ne (by omega), sI_self]
  obtain ⟨Q, q1, q2, q3, q4, q6⟩ := hmo
  have ePQ : P = (Q, k) := Option.some.inj (p0.symm.trans q1)
  subst ePQ
  refine ⟨(Q, k), p0, rfl, ?_⟩
  have fA : Fr (fun q j => NaW k q j ∨ NbW k q j) M Q := (n2.mono (fun q j z => Or.inl z)).trans (q2.mono (fun q j z => Or.inr z))
  have eQ : ∀ q j, q ≤ 175 → Q.1 q j = N.1 q j := fun q j x => (q2 q j (by unfold NbW; omega)).1
  refine h'.two hX hIP.1 p1 (hRL.notes hV hR.yr fA (fun q j z => by unfold NaW NbW at z; omega) (no_add hNo hk fA (fun q j z => z) ?_ q3 (Or.inr ⟨q6, ?_, ?_, ?_⟩))) (fA.mono (fun q j z => by unfold NaW NbW at z; unfold KpA; omega))
  · rw [eQ 172 5 (by omega)]; exact n3
  · rw [eQ 175 k (by omega), n6, q4]
  · rw [eQ 174 k (by omega)]; exact n5
  · rw [eQ 173 k (by omega)]; exact n4
theorem bs_known {M : Mem} (h : LI M) {x1 : Int} (h1 : InR x1) : (t_WF_known M x1).2 = (t_MO_known (t_WF_known M x1).1 x1).2 ∧ LI (t_MO_known (t_WF_known M x1).1 x1).1 := by
  have h' := h
  obtain ⟨hI, ⟨V, hR, hX, hRL⟩, -⟩ := h
  have hV := hR.1.1
  have hNo := hRL.2.2.2.2.1
  have hIC := (sf_WF_known hI h1).1
  have e60 : (setI M 191 0 0).1 191 60 = M.1 191 60 := sI_ne (by omega)
  have same : t_WF_known M x1 = (M, 0) → t_MO_known M x1 = (setI M 191 0 0, 0) → (t_WF_known M x1).2 = (t_MO_known (t_WF_known M x1).1 x1).2 ∧ LI (t_MO_known (t_WF_known M x1).1 x1).1 := fun e1 e2 => by
    rw [e1]
    show (0 : Int) = (t_MO_known M x1).2 ∧ LI (t_MO_known M x1).1
    rw [e2]
    exact ⟨rfl, h'.at0⟩
  by_cases c1 : x1 < -1
  · refine same ?_ ?_
    · unfold t_WF_known; rw [if_pos c1]
    · unfold t_MO_known; simp (config := { proj := false }) only [qlet]; rw [if_pos c1]
  by_cases c2 : x1 ≤ M.1 191 60
  rotate_left
  · refine same ?_ ?_
    · unfold t_WF_known; rw [hNo.1, if_neg c1, if_neg c2]
    · unfold t_MO_known; simp (config := { proj := false }) only [qlet]; rw [e60, if_neg c1, if_neg c2]
  have hw : t_WF_known M x1 = (setI M 172 6 x1, 1) := by
    unfold t_WF_known
    simp (config := { proj := false }) only [qlet]
    rw [hNo.1, if_neg c1, if_pos c2]
  have f1 : Fr (fun q j => q = 172 ∧ j = 6) M (setI M 172 6 x1) := Fr.rf.setI ⟨rfl, rfl⟩
  have e60' : (setI (setI M 172 6 x1) 191 0 0).1 191 60 = M.1 191 60 := by rw [sI_ne (by omega), sI_ne (by omega)]
  have hm : t_MO_known (setI M 172 6 x1) x1 = (setI (setI (setI M 172 6 x1) 191 0 0) 191 61 x1, 1) := by
    unfold t_MO_known
    simp (config := { proj := false }) only [qlet]
    rw [e60', if_neg c1, if_pos c2]
  rw [hw] at hIC ⊢
  show (1 : Int) = (t_MO_known (setI M 172 6 x1) x1).2 ∧ LI (t_MO_known (setI M 172 6 x1) x1).1
  have hRN : RI (setI M 172 6 x1) V := hR.fr f1 (fun q j a z => by unfold RIc at a; omega)
  have p1 := ri_known hRN x1
  have hIP := (im_MO_known hIC h1).1
  rw [hm] at p1 hIP ⊢
  have fA : Fr (fun q j => (q = 172 ∧ j = 6) ∨ (q = 191 ∧ (j = 0 ∨ j = 61))) M (setI (setI (setI M 172 6 x1) 191 0 0) 191 61 x1) := ((f1.mono (fun q j z => Or.inl z)).setI (by omega)).setI (by omega)
  refine ⟨rfl, h'.two hX hIP p1 (hRL.notes hV hR.yr fA (fun q j z => by omega) ⟨?_, ?_, fun i a b => ?_⟩) (fA.mono (fun q j z => by unfold KpA; omega))⟩
  · rw [(fA 172 5 (by omega)).1, (fA 191 60 (by omega)).1]; exact hNo.1
  · show (setI (setI (setI M 172 6 x1) 191 0 0) 191 61 x1).1 172 6 = (setI (setI (setI M 172 6 x1) 191 0 0) 191 61 x1).1 191 61
    rw [sI_self, sI_ne (by omega), sI_ne (by omega), sI_self]
  · rw [(fA 191 60 (by omega)).1] at b
    rw [(fA 173 i (by omega)).1, (fA 174 i (by omega)).1, (fA 175 i (by omega)).1, (fA 226 i (by omega)).1, (fA 227 i (by omega)).1, (fA 228 i (by omega)).1]
    exact hNo.2.2 i a b
