/-! ===== p1: the law on the fresh object, call by call ===== -/
section
variable (xs : Nat → Int32)
abbrev bkE (xs : Nat → Int32) : Mem → Int → Option Int := fun a0_ a1_ => t_Law_law_L23 xs 6 fu1 a0_ a1_
theorem br_oo {x : Option (Mem × Int)} {g : Mem → Option (Mem × Int)} (h : okA x g = true) : (obind x fun q => obind (g q.1) fun r => if q.2 = r.2 then t_Law_law_L1571 xs 6 (bkE xs) r.1 0 else some 0) = some 1 := br_o (k := fun M => t_Law_law_L1571 xs 6 (bkE xs) M 0) h (law_end xs)
theorem br_ll {x : Option (Mem × Int64)} {g : Mem → Option (Mem × Int64)} (h : okL x g = true) : (obind x fun q => obind (g q.1) fun r => if q.2 = r.2 then t_Law_law_L1571 xs 6 (bkE xs) r.1 0 else some 0) = some 1 := br_l (k := fun M => t_Law_law_L1571 xs 6 (bkE xs) M 0) h (law_end xs)
theorem br_qq {c : Mem × Int} {g : Mem → Option (Mem × Int)} (h : okA (some c) g = true) : (qlet c fun q => obind (g q.1) fun r => if q.2 = r.2 then t_Law_law_L1571 xs 6 (bkE xs) r.1 0 else some 0) = some 1 := br_oo xs h
theorem br_vv {c : Int} {M : Mem} {g : Mem → Option (Mem × Int)} (h : okA (some (M, c)) g = true) : (qlet c fun q => obind (g M) fun r => if q = r.2 then t_Law_law_L1571 xs 6 (bkE xs) r.1 0 else some 0) = some 1 := br_oo xs h
theorem br_mm {x : Option Int} {M : Mem} {g : Mem → Option (Mem × Int)} (h : okA (x.map (fun v => (M, v))) g = true) : (obind x fun q => obind (g M) fun r => if q = r.2 then t_Law_law_L1571 xs 6 (bkE xs) r.1 0 else some 0) = some 1 := by
  cases x with
  | none => cases h
  | some v => exact br_oo xs (x := some (M, v)) h
theorem br_ml {x : Option Int64} {M : Mem} {g : Mem → Option (Mem × Int64)} (h : okL (x.map (fun v => (M, v))) g = true) : (obind x fun q => obind (g M) fun r => if q = r.2 then t_Law_law_L1571 xs 6 (bkE xs) r.1 0 else some 0) = some 1 := by
  cases x with
  | none => cases h
  | some v => exact br_ll xs (x := some (M, v)) h
theorem br_qp {c : Mem × Int} {g : Mem → Mem × Int} (h : okA (some c) (fun M => some (g M)) = true) : (qlet c fun q => qlet (g q.1) fun r => if q.2 = r.2 then t_Law_law_L1571 xs 6 (bkE xs) r.1 0 else some 0) = some 1 := br_oo xs h
theorem br_vp {c : Int} {M : Mem} {g : Mem → Mem × Int} (h : okA (some (M, c)) (fun M => some (g M)) = true) : (qlet c fun q => qlet (g M) fun r => if q = r.2 then t_Law_law_L1571 xs 6 (bkE xs) r.1 0 else some 0) = some 1 := br_oo xs h
theorem kb_feed : t_Law_law_L220 xs 6 (bkE xs) m2 0 = some 1 := by
  unfold t_Law_law_L220
  have go : ∀ a b c d e : Int, (obind (t_WF_feed m2 a b c d e) fun q => obind (t_MO_feed q.1 a b c d e) fun r => if q.2 = r.2 then t_Law_law_L1571 xs 6 (bkE xs) r.1 0 else some 0) = some 1 := by
    intro a b c d e
    obtain ⟨q, r, h1, h2, h3⟩ := okA_some (op_feed a b c d e)
    rw [h1, obind_some, h2, obind_some, if_pos h3]
    exact law_end xs r.1
  exact go _ _ _ _ _
theorem kb_text : t_Law_law_L293 xs 6 (bkE xs) m2 0 = some 1 := by
  unfold t_Law_law_L293
  exact br_oo xs (op_text _)
theorem kb_fault : t_Law_law_L318 xs 6 (bkE xs) m2 0 = some 1 := by
  unfold t_Law_law_L318
  exact br_vp xs (op_fault _)
theorem kb_named : t_Law_law_L343 xs 6 (bkE xs) m2 0 = some 1 := by
  unfold t_Law_law_L343
  exact br_mm xs (op_named _ _)
theorem kb_cell : t_Law_law_L380 xs 6 (bkE xs) m2 0 = some 1 := by
  unfold t_Law_law_L380
  have h := op_cell (xs ((w32 (0 + 1))).toNat).toInt (xs ((w32 (0 + 2))).toNat).toInt
  unfold okC at h
  cases e : t_Law_cell m2 (xs ((w32 (0 + 1))).toNat).toInt (xs ((w32 (0 + 2))).toNat).toInt with
  | none => rw [e] at h; cases h
  | some q =>
    rw [e] at h
    rw [obind_some]
    cases e2 : t_MO_cell q.1 (xs ((w32 (0 + 1))).toNat).toInt (xs ((w32 (0 + 2))).toNat).toInt with
    | none => simp only [e2] at h; cases h
    | some r =>
      simp only [e2, Bool.and_eq_true, Bool.or_eq_true, decide_eq_true_eq] at h
      rw [obind_some]
      simp only [qlet]
      unfold t_Law_law_L445
      rw [if_pos h.1]
      by_cases h0 : q.2 = 0
      · rw [if_pos h0]
        rcases h.2 with h2 | h2
        · exact absurd h0 h2
        · rw [if_pos h2]; exact law_end xs r.1
      · rw [if_neg h0]; exact law_end xs r.1
theorem kb_ward : t_Law_law_L448 xs 6 (bkE xs) m2 0 = some 1 := by
  unfold t_Law_law_L448
  exact br_oo xs (op_ward _ _)
theorem kb_thing : t_Law_law_L485 xs 6 (bkE xs) m2 0 = some 1 := by
  unfold t_Law_law_L485
  exact br_vv xs (op_thing _ _)
theorem kb_law : t_Law_law_L522 xs 6 (bkE xs) m2 0 = some 1 := by
  unfold t_Law_law_L522
  exact br_ll xs (op_law _ _ _)
theorem kb_rest : t_Law_law_L572 xs 6 (bkE xs) m2 0 = some 1 := by
  unfold t_Law_law_L572
  exact br_oo xs (op_rest _)
theorem kb_way : t_Law_law_L597 xs 6 (bkE xs) m2 0 = some 1 := by
  unfold t_Law_law_L597
  exact br_oo xs (op_way _ _)
theorem kb_falls : t_Law_law_L634 xs 6 (bkE xs) m2 0 = some 1 := by
  unfold t_Law_law_L634
  exact br_oo xs (op_falls _ _)
theorem kb_beats : t_Law_law_L671 xs 6 (bkE xs) m2 0 = some 1 := by
  unfold t_Law_law_L671
  exact br_oo xs (op_beats _)
theorem kb_vote : t_Law_law_L696 xs 6 (bkE xs) m2 0 = some 1 := by
  unfold t_Law_law_L696
  exact br_oo xs (op_vote _ _)
theorem kb_net : t_Law_law_L733 xs 6 (bkE xs) m2 0 = some 1 := by
  unfold t_Law_law_L733
  have go : ∀ (a b : Int), (b = 0 ∨ b = 1) → obind (t_MO_net (t_WF_net m2 a b).1 a b) (fun q251 => if (t_WF_net m2 a b).2 = q251.2 then t_Law_law_L1571 xs 6 (bkE xs) q251.1 0 else some 0) = some 1 := fun a b hb => br_oo xs (op_net a b hb)
  by_cases h : (xs ((w32 (0 + 2))).toNat).toInt = 0
  · rw [if_pos h]
    unfold t_Law_law_L754
    simp only [qlet]
    rw [if_pos h]
    unfold t_Law_law_L778
    exact go _ 0 (Or.inl rfl)
  · rw [if_neg h]
    unfold t_Law_law_L754
    simp only [qlet]
    rw [if_neg h]
    unfold t_Law_law_L778
    exact go _ 1 (Or.inr rfl)
theorem kb_lay : t_Law_law_L786 xs 6 (bkE xs) m2 0 = some 1 := by
  unfold t_Law_law_L786
  exact br_oo xs (op_lay _ _)
theorem kb_pour : t_Law_law_L823 xs 6 (bkE xs) m2 0 = some 1 := by
  unfold t_Law_law_L823
  exact br_oo xs (op_pour _ _)
theorem kb_drain : t_Law_law_L860 xs 6 (bkE xs) m2 0 = some 1 := by
  unfold t_Law_law_L860
  exact br_qq xs (op_drain)
theorem kb_flood : t_Law_law_L873 xs 6 (bkE xs) m2 0 = some 1 := by
  unfold t_Law_law_L873
  exact br_ll xs (op_flood _ _)
theorem kb_walk : t_Law_law_L911 xs 6 (bkE xs) m2 0 = some 1 := by
  unfold t_Law_law_L911
  exact br_oo xs (op_walk _ _)
theorem kb_step : t_Law_law_L948 xs 6 (bkE xs) m2 0 = some 1 := by
  unfold t_Law_law_L948
  exact br_oo xs (op_step _ _ _)
theorem kb_push : t_Law_law_L997 xs 6 (bkE xs) m2 0 = some 1 := by
  unfold t_Law_law_L997
  exact br_oo xs (op_push _ _ _)
theorem kb_pushed : t_Law_law_L1046 xs 6 (bkE xs) m2 0 = some 1 := by
  unfold t_Law_law_L1046
  exact br_oo xs (op_pushed _ _ _)
theorem kb_war : t_Law_law_L1095 xs 6 (bkE xs) m2 0 = some 1 := by
  unfold t_Law_law_L1095
  exact br_oo xs (op_war _ _)
theorem kb_nets : t_Law_law_L1132 xs 6 (bkE xs) m2 0 = some 1 := by
  unfold t_Law_law_L1132
  exact br_ml xs (op_nets)
theorem kb_clock : t_Law_law_L1146 xs 6 (bkE xs) m2 0 = some 1 := by
  unfold t_Law_law_L1146
  exact br_oo xs (op_clock _)
theorem kb_stays : t_Law_law_L1171 xs 6 (bkE xs) m2 0 = some 1 := by
  unfold t_Law_law_L1171
  exact br_oo xs (op_stays)
theorem kb_stay : t_Law_law_L1184 xs 6 (bkE xs) m2 0 = some 1 := by
  unfold t_Law_law_L1184
  exact br_oo xs (op_stay _)
theorem kb_treaty : t_Law_law_L1209 xs 6 (bkE xs) m2 0 = some 1 := by
  unfold t_Law_law_L1209
  exact br_oo xs (op_treaty _)
theorem kb_moves : t_Law_law_L1234 xs 6 (bkE xs) m2 0 = some 1 := by
  unfold t_Law_law_L1234
  exact br_oo xs (op_moves _ _)
theorem kb_note : t_Law_law_L1271 xs 6 (bkE xs) m2 0 = some 1 := by
  unfold t_Law_law_L1271
  exact br_qq xs (op_note _ _)
theorem kb_strike : t_Law_law_L1308 xs 6 (bkE xs) m2 0 = some 1 := by
  unfold t_Law_law_L1308
  exact br_qq xs (op_strike _)
theorem kb_known : t_Law_law_L1333 xs 6 (bkE xs) m2 0 = some 1 := by
  unfold t_Law_law_L1333
  exact br_qp xs (op_known _)
theorem kb_fits : t_Law_law_L1358 xs 6 (bkE xs) m2 0 = some 1 := by
  unfold t_Law_law_L1358
  exact br_oo xs (op_fits)
theorem kb_may : t_Law_law_L1371 xs 6 (bkE xs) m2 0 = some 1 := by
  unfold t_Law_law_L1371
  exact br_oo xs (op_may _)
theorem kb_years : t_Law_law_L1396 xs 6 (bkE xs) m2 0 = some 1 := by
  unfold t_Law_law_L1396
  exact br_oo xs (op_years _)
theorem kb_voted : t_Law_law_L1421 xs 6 (bkE xs) m2 0 = some 1 := by
  unfold t_Law_law_L1421
  exact br_vv xs (op_voted _ _)
theorem kb_tried : t_Law_law_L1458 xs 6 (bkE xs) m2 0 = some 1 := by
  unfold t_Law_law_L1458
  exact br_oo xs (op_tried _ _ _)
theorem kb_undo : t_Law_law_L1507 xs 6 (bkE xs) m2 0 = some 1 := by
  unfold t_Law_law_L1507
  exact br_qq xs (op_undo)
theorem kb_keep : t_Law_law_L1520 xs 6 (bkE xs) m2 0 = some 1 := by
  unfold t_Law_law_L1520
  exact br_qq xs (op_keep)
theorem kb_back : t_Law_law_L1533 xs 6 (bkE xs) m2 0 = some 1 := by
  unfold t_Law_law_L1533
  exact br_qq xs (op_back)
theorem kb_count : t_Law_law_L1546 xs 6 (bkE xs) m2 0 = some 1 := by
  unfold t_Law_law_L1546
  exact br_mm xs (op_count _)
theorem pure_six : t_Law_law_L23 xs 6 FU m2 0 = some 1 := by
  rw [fu_s1, t_Law_law_L23, if_neg (show ¬ w32 (((6 : Nat) : Int) - 6) < 0 by decide)]
  generalize q_and (xs ((0 : Int)).toNat).toInt 63 = K
  by_cases h0 : K = 0
  · rw [if_pos h0]; exact kb_feed xs
  rw [if_neg h0]
  by_cases h1 : K = 1
  · rw [if_pos h1]; exact kb_text xs
  rw [if_neg h1]
  by_cases h2 : K = 2
  · rw [if_pos h2]; exact kb_fault xs
  rw [if_neg h2]
  by_cases h3 : K = 3
  · rw [if_pos h3]; exact kb_named xs
  rw [if_neg h3]
  by_cases h4 : K = 4
  · rw [if_pos h4]; exact kb_cell xs
  rw [if_neg h4]
  by_cases h5 : K = 5
  · rw [if_pos h5]; exact kb_ward xs
  rw [if_neg h5]
  by_cases h6 : K = 6
  · rw [if_pos h6]; exact kb_thing xs
  rw [if_neg h6]
  by_cases h7 : K = 7
  · rw [if_pos h7]; exact kb_law xs
  rw [if_neg h7]
  by_cases h8 : K = 8
  · rw [if_pos h8]; exact kb_rest xs
  rw [if_neg h8]
  by_cases h9 : K = 9
  · rw [if_pos h9]; exact kb_way xs
  rw [if_neg h9]
  by_cases h10 : K = 10
  · rw [if_pos h10]; exact kb_falls xs
  rw [if_neg h10]
  by_cases h11 : K = 11
  · rw [if_pos h11]; exact kb_beats xs
  rw [if_neg h11]
  by_cases h12 : K = 12
  · rw [if_pos h12]; exact kb_vote xs
  rw [if_neg h12]
  by_cases h13 : K = 13
  · rw [if_pos h13]; exact kb_net xs
  rw [if_neg h13]
  by_cases h14 : K = 14
  · rw [if_pos h14]; exact kb_lay xs
  rw [if_neg h14]
  by_cases h15 : K = 15
  · rw [if_pos h15]; exact kb_pour xs
  rw [if_neg h15]
  by_cases h16 : K = 16
  · rw [if_pos h16]; exact kb_drain xs
  rw [if_neg h16]
  by_cases h17 : K = 17
  · rw [if_pos h17]; exact kb_flood xs
  rw [if_neg h17]
  by_cases h18 : K = 18
  · rw [if_pos h18]; exact kb_walk xs
  rw [if_neg h18]
  by_cases h19 : K = 19
  · rw [if_pos h19]; exact kb_step xs
  rw [if_neg h19]
  by_cases h20 : K = 20
  · rw [if_pos h20]; exact kb_push xs
  rw [if_neg h20]
  by_cases h21 : K = 21
  · rw [if_pos h21]; exact kb_pushed xs
  rw [if_neg h21]
  by_cases h22 : K = 22
  · rw [if_pos h22]; exact kb_war xs
  rw [if_neg h22]
  by_cases h23 : K = 23
  · rw [if_pos h23]; exact kb_nets xs
  rw [if_neg h23]
  by_cases h24 : K = 24
  · rw [if_pos h24]; exact kb_clock xs
  rw [if_neg h24]
  by_cases h25 : K = 25
  · rw [if_pos h25]; exact kb_stays xs
  rw [if_neg h25]
  by_cases h26 : K = 26
  · rw [if_pos h26]; exact kb_stay xs
  rw [if_neg h26]
  by_cases h27 : K = 27
  · rw [if_pos h27]; exact kb_treaty xs
  rw [if_neg h27]
  by_cases h28 : K = 28
  · rw [if_pos h28]; exact kb_moves xs
  rw [if_neg h28]
  by_cases h29 : K = 29
  · rw [if_pos h29]; exact kb_note xs
  rw [if_neg h29]
  by_cases h30 : K = 30
  · rw [if_pos h30]; exact kb_strike xs
  rw [if_neg h30]
  by_cases h31 : K = 31
  · rw [if_pos h31]; exact kb_known xs
  rw [if_neg h31]
  by_cases h32 : K = 32
  · rw [if_pos h32]; exact kb_fits xs
  rw [if_neg h32]
  by_cases h33 : K = 33
  · rw [if_pos h33]; exact kb_may xs
  rw [if_neg h33]
  by_cases h34 : K = 34
  · rw [if_pos h34]; exact kb_years xs
  rw [if_neg h34]
  by_cases h35 : K = 35
  · rw [if_pos h35]; exact kb_voted xs
  rw [if_neg h35]
  by_cases h36 : K = 36
  · rw [if_pos h36]; exact kb_tried xs
  rw [if_neg h36]
  by_cases h37 : K = 37
  · rw [if_pos h37]; exact kb_undo xs
  rw [if_neg h37]
  by_cases h38 : K = 38
  · rw [if_pos h38]; exact kb_keep xs
  rw [if_neg h38]
  by_cases h39 : K = 39
  · rw [if_pos h39]; exact kb_back xs
  rw [if_neg h39]
  by_cases h40 : K = 40
  · rw [if_pos h40]; exact kb_count xs
  rw [if_neg h40]
  exact law_end xs m2
end
theorem pure_law (xs : Nat → Int32) (L : Nat) (hL : L ≤ 6) : t_Law_law_L23 xs L FU m2 0 = some 1 := by
  by_cases h : L < 6
  · exact pure_short xs L h m2
  · have h6 : L = 6 := by omega
    subst h6
    exact pure_six xs
