theorem w32_1 (F : Int) (h0 : 0 ≤ F) (h1 : F ≤ 6) : w32 (F + 1 - 1) = F := by
  rw [w32_id (by unfold InR; omega)]
  omega
theorem op_push (f t w : Int) : okA (t_WF_push m2 f t w) (fun M => t_MO_push M f t w) = true := by
  by_cases h : ((0 ≤ f ∧ f < 16) ∧ (0 ≤ t ∧ t < 16)) ∧ (0 ≤ w ∧ w ≤ 1)
  · obtain ⟨⟨hf, ht⟩, hw⟩ := h
    obtain ⟨q, r, a1, a2, a3, ⟨b1, b2⟩, ⟨c1, c2, c3⟩, -⟩ := okP_some (okP_all hf ht)
    obtain ⟨N, l1, l2, l3⟩ := simLay a3 a2
    have hN := l3 f hf.1 hf.2
    refine okA_of (q := (q, if w = 0 then r.1 f else r.2 f)) (r := (N, if w = 0 then r.1 f else r.2 f)) ?_ ?_ rfl
    · unfold t_WF_push
      simp only [qlet]
      rw [h_freeI hf, if_neg (by decide), h_freeI ht, if_neg (by decide), if_neg (by omega), if_pos hw.2, a1, obind_some, b1, b2, if_neg (by omega), w32_1 _ c2 c3]
      by_cases h0 : w = 0
      · rw [if_pos h0, if_pos h0]
      · rw [if_neg h0, if_neg h0]
    · show t_MO_push q f t w = _
      unfold t_MO_push
      simp only [qlet]
      rw [a3.opn hf, obind_some, if_neg (by decide), a3.opn ht, obind_some, if_neg (by decide), if_neg (by omega), if_pos hw.2, l1, obind_some, qguard_pos ⟨hf.1, by omega⟩, hN.1, hN.2, if_pos c1, qguard_pos ⟨hf.1, by omega⟩, qguard_pos ⟨hf.1, by omega⟩]
      by_cases h0 : w = 0
      · rw [if_pos h0, if_pos h0]
      · rw [if_neg h0, if_neg h0]
  · refine okA_of (q := (m2, -1)) (r := (m3, -1)) ?_ ?_ rfl
    · unfold t_WF_push
      simp only [qlet]
      by_cases hf : 0 ≤ f ∧ f < 16
      · rw [h_freeI hf, if_neg (by decide)]
        by_cases ht : 0 ≤ t ∧ t < 16
        · rw [h_freeI ht, if_neg (by decide)]
          by_cases h1 : w < 0
          · rw [if_pos h1]
          · rw [if_neg h1, if_neg (by omega)]
        · rw [h_free ht, if_pos rfl]
      · rw [h_free hf, if_pos rfl]
    · show t_MO_push m2 f t w = _
      unfold t_MO_push
      rw [m3_e]
      simp only [qlet]
      by_cases hf : 0 ≤ f ∧ f < 16
      · rw [g_openI hf, obind_some, if_neg (by decide)]
        by_cases ht : 0 ≤ t ∧ t < 16
        · rw [g_openI ht, obind_some, if_neg (by decide)]
          by_cases h1 : w < 0
          · rw [if_pos h1]
          · rw [if_neg h1, if_neg (by omega)]
        · rw [g_open ht, obind_some, if_pos rfl]
      · rw [g_open hf, obind_some, if_pos rfl]
theorem op_pushed (f t k : Int) : okA (t_WF_pushed m2 f t k) (fun M => t_MO_pushed M f t k) = true := by
  by_cases h : ((0 ≤ f ∧ f < 16) ∧ (0 ≤ t ∧ t < 16)) ∧ 0 ≤ k
  · obtain ⟨⟨hf, ht⟩, hk⟩ := h
    obtain ⟨q, r, a1, a2, a3, ⟨b1, b2⟩, ⟨c1, c2, c3⟩, d⟩ := okP_some (okP_all hf ht)
    obtain ⟨N, l1, l2, l3⟩ := simLay a3 a2
    have hN := l3 f hf.1 hf.2
    have ec : t_WF_pushed m2 f t k = some (q, t_Paths_cellAt q k) := by
      unfold t_WF_pushed
      simp only [qlet]
      rw [h_freeI hf, if_neg (by decide), h_freeI ht, if_neg (by decide), if_pos hk, a1, obind_some]
    by_cases h1 : k ≤ r.2 f
    · obtain ⟨N', e'⟩ := sim63 (f := f) (t := t) (k := k) (by omega) k.toNat FU N f 0 hf (by decide) (by omega) (fu_big (by omega)) l2 l3 (d k hk h1)
      refine okA_of (q := (q, t_Paths_cellAt q k)) (r := (N', t_Paths_cellAt q k)) ec ?_ rfl
      show t_MO_pushed q f t k = _
      unfold t_MO_pushed
      simp only [qlet]
      rw [a3.opn hf, obind_some, if_neg (by decide), a3.opn ht, obind_some, if_neg (by decide), if_pos hk, l1, obind_some, qguard_pos ⟨hf.1, by omega⟩, hN.1, hN.2, if_neg (by omega), qguard_pos ⟨hf.1, by omega⟩, if_pos h1]
      exact e'
    · refine okA_of (q := (q, t_Paths_cellAt q k)) (r := (N, -2)) ec ?_ ?_
      · show t_MO_pushed q f t k = _
        unfold t_MO_pushed
        simp only [qlet]
        rw [a3.opn hf, obind_some, if_neg (by decide), a3.opn ht, obind_some, if_neg (by decide), if_pos hk, l1, obind_some, qguard_pos ⟨hf.1, by omega⟩, hN.1, hN.2, if_neg (by omega), qguard_pos ⟨hf.1, by omega⟩, if_neg h1]
      · show t_Paths_cellAt q k = -2
        unfold t_Paths_cellAt
        rw [b1, if_pos (by omega)]
  · refine okA_of (q := (m2, -1)) (r := (m3, -1)) ?_ ?_ rfl
    · unfold t_WF_pushed
      simp only [qlet]
      by_cases hf : 0 ≤ f ∧ f < 16
      · rw [h_freeI hf, if_neg (by decide)]
        by_cases ht : 0 ≤ t ∧ t < 16
        · rw [h_freeI ht, if_neg (by decide), if_neg (fun q => h ⟨⟨hf, ht⟩, q⟩)]
        · rw [h_free ht, if_pos rfl]
      · rw [h_free hf, if_pos rfl]
    · show t_MO_pushed m2 f t k = _
      unfold t_MO_pushed
      rw [m3_e]
      simp only [qlet]
      by_cases hf : 0 ≤ f ∧ f < 16
      · rw [g_openI hf, obind_some, if_neg (by decide)]
        by_cases ht : 0 ≤ t ∧ t < 16
        · rw [g_openI ht, obind_some, if_neg (by decide), if_neg (fun q => h ⟨⟨hf, ht⟩, q⟩)]
        · rw [g_open ht, obind_some, if_pos rfl]
      · rw [g_open hf, obind_some, if_pos rfl]
