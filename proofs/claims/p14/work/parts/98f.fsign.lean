section FSG
variable {K W : Nat → Int} {k0 k3 i : Nat} {c : Int} {out : List (Int × Int)} {ws : List Int} {o : Int} {cm : Int → Bool} {mn wp : Bool} {M : Mem}
theorem c_readSign (hk : k3 + 10 ≤ k0 ∧ k0 + 4 < 42) (h : FMs M k0 k3 i c out ws o cm false mn) (hb : FBd c out ws o) (h40 : ¬ (K i = 40 ∧ o = 0)) :
    (∀ r, sF K W i c out ws o cm false mn = Sum.inl r → t_Formula_readSign M k0 (K i) k3 = some (M, r.1) ∧ r.1 ≠ 0 ∧ r.2.1 = i) ∧
    (∀ t, sF K W i c out ws o cm false mn = Sum.inr t → ∃ N, t_Formula_readSign M k0 (K i) k3 = some (N, 0) ∧ Fr (FmW k0 k3) M N ∧ FMt N k0 k3 i t) := by
  obtain ⟨⟨h7, h16, h8, h10, h11, h6⟩, hO, hS, hB⟩ := h
  obtain ⟨c0, c1, o0, o1, oP, oL, oW⟩ := hb
  have on := nOP ws
  rw [sF_s, if_neg h40]
  unfold t_Formula_readSign
  by_cases k42 : K i = 42
  · rw [if_pos k42, if_pos k42, h8]
    by_cases oz : o = 0
    · rw [if_pos oz, if_pos oz]
      exact ⟨fun r e => by cases e; exact ⟨rfl, (by show ¬ (1 : Int) = 0; decide), rfl⟩, fun t e => by cases e⟩
    · rw [if_neg oz, if_neg oz]
      refine ⟨fun r e => (by cases e), fun t e => ?_⟩
      cases e
      obtain ⟨N, n1, n2, n3, n4, n5⟩ := c_rel (s := 1) (Int.le_refl _) oW hO h6 hS (by omega) (by omega)
      obtain ⟨r1, r2, r3, r4⟩ := rl_facts (s := 1) (Int.le_refl _) ws out oW
      rw [n1, obind_some]
      simp (config := { proj := false }) only [qlet]
      have hd : ∃ t, (rlF 1 out ws).2 = 41 :: t := by
        rcases r4 rfl with q | q
        · rw [q] at r2
          rw [nP] at r2
          omega
        · exact q
      obtain ⟨t, ht⟩ := hd
      rw [ht] at n4 n5 r1 r2 r3 ⊢
      rw [List.length_cons] at n4
      rw [nP, if_pos rfl] at r2
      rw [nO, if_pos rfl] at r3
      have ln := rl_len (s := 1) ws out
      rw [ht, List.length_cons] at ln
      have e8 : (setI N k0 6 (w32 (N.1 k0 6 - 1))).1 k0 8 = o := by rw [sI_ne (by omega), (n2 k0 8 (by unfold RlW; omega)).1]; exact h8
      rw [e8, n4, w32_id (x := ((t.length + 1 : Nat) : Int) - 1) (by unfold InR; omega), w32_id (x := o - 1) (by unfold InR; omega), show ((t.length + 1 : Nat) : Int) - 1 = (t.length : Int) by omega]
      have fN : Fr (fun k j => (k = k0 ∧ (j = 6 ∨ j = 8))) N (setI (setI N k0 6 (t.length : Int)) k0 8 (o - 1)) := (Fr.rf.setI (by omega)).setI (by omega)
      have fW : Fr (fun k j => (k = k0 ∧ (j = 3 ∨ j = 6 ∨ j = 8)) ∨ k = k0 + 1 ∨ k = k0 + 2) M (setI (setI N k0 6 (t.length : Int)) k0 8 (o - 1)) := (n2.mono (fun k j z => by unfold RlW at z; omega)).trans (fN.mono (fun k j z => by omega))
      refine ⟨_, rfl, fW.mono (fun k j z => by unfold FmW; omega), ⟨⟨?_, ?_, ?_, ?_, ?_, ?_⟩, n3.fr fN (fun k j z y => by omega), WsM.fr fN n5.2 (fun j hj z => by omega), fun x x0 x1 => ?_⟩, ?_⟩
      · rw [(fW k0 7 (by omega)).1]; exact h7
      · rw [(fW k3 16 (by omega)).1]; exact h16
      · rw [sI_self]
      · rw [(fW k0 10 (by omega)).1]; exact h10
      · rw [(fW k0 11 (by omega)).1]; exact h11
      · rw [sI_ne (by omega), sI_self]; rfl
      · rw [(fW k0 9 (by omega)).1]; exact hB x x0 x1
      · exact ⟨c0, c1, by show 0 ≤ o - 1; omega, by show o - 1 ≤ 8; omega, by show nP t = o - 1; omega, by show ((rlF 1 out ws).1.length : Int) + nO t ≤ c; omega, r1.2⟩
  · rw [if_neg k42, if_neg k42, strF_eq]
    simp only [qlet]
    have e57 : (if stF (K i) = 4 then t_Formula_readSign_L57 k0 (K i) k3 M (stF (K i)) 1 else t_Formula_readSign_L57 k0 (K i) k3 M (stF (K i)) 0) = t_Formula_readSign_L57 k0 (K i) k3 M (stF (K i)) (if stF (K i) = 4 then 1 else 0) := by
      by_cases q : stF (K i) = 4
      · rw [if_pos q, if_pos q]
      · rw [if_neg q, if_neg q]
    rw [e57]
    unfold t_Formula_readSign_L57
    have sr := stF_rng (K i)
    by_cases s0 : stF (K i) = 0
    · rw [if_pos s0, if_pos (Or.inl s0)]
      exact ⟨fun r e => by cases e; exact ⟨rfl, (by show ¬ (1 : Int) = 0; decide), rfl⟩, fun t e => by cases e⟩
    · rw [if_neg s0, h8, bitOf_tb M _ (by omega) (by omega), tb_i2l _ (by omega) (by omega), hB o o0 o1]
      simp only [qlet]
      have e86 : (if (if stF (K i) = 4 then (1 : Int) else 0) = 0 then t_Formula_readSign_L86 k0 (K i) k3 M (stF (K i)) (if stF (K i) = 4 then 1 else 0) else if (if cm o = true then (1 : Int) else 0) = 1 then some (M, 1) else t_Formula_readSign_L86 k0 (K i) k3 M (stF (K i)) (if stF (K i) = 4 then 1 else 0)) = if stF (K i) = 4 ∧ cm o = true then some (M, 1) else t_Formula_readSign_L86 k0 (K i) k3 M (stF (K i)) (if stF (K i) = 4 then 1 else 0) := by
        by_cases q : stF (K i) = 4
        · rw [if_pos q, if_neg (show ¬ (1 : Int) = 0 by decide)]
          cases cm o with
          | true => rw [if_pos rfl, if_pos rfl, if_pos ⟨q, rfl⟩]
          | false => rw [if_neg (show ¬ (if false = true then (1 : Int) else 0) = 1 by decide), if_neg (fun z => absurd z.2 (by decide))]
        · rw [if_neg q, if_pos rfl, if_neg (fun z => q z.1)]
      rw [e86]
      by_cases s4 : stF (K i) = 4 ∧ cm o = true
      · rw [if_pos s4, if_pos (Or.inr s4)]
        exact ⟨fun r e => by cases e; exact ⟨rfl, (by show ¬ (1 : Int) = 0; decide), rfl⟩, fun t e => by cases e⟩
      · rw [if_neg s4, if_neg (show ¬ (stF (K i) = 0 ∨ (stF (K i) = 4 ∧ cm o = true)) from fun q => by rcases q with q | q; exact s0 q; exact s4 q)]
        unfold t_Formula_readSign_L86
        rw [h16]
        by_cases c64 : c = 64
        · rw [if_pos c64, if_neg (by omega)]
          exact ⟨fun r e => by cases e; exact ⟨rfl, (by show ¬ (2 : Int) = 0; decide), rfl⟩, fun t e => by cases e⟩
        · rw [if_neg c64, if_pos (show c < 64 by omega), w32_id (x := c + 1) (by unfold InR; omega)]
          refine ⟨fun r e => (by cases e), fun t e => ?_⟩
          cases e
          simp (config := { proj := false }) only [qlet]
          have f0 : Fr (fun k j => k = k3 ∧ j = 16) M (setI M k3 16 (c + 1)) := Fr.rf.setI ⟨rfl, rfl⟩
          obtain ⟨N, n1, n2, n3, n4, n5⟩ := c_rel (M := setI M k3 16 (c + 1)) (s := stF (K i)) (by omega) oW (hO.fr f0 (fun k j z y => by omega)) (by rw [(f0 k0 6 (by omega)).1]; exact h6) (WsM.fr f0 hS (fun j hj z => by omega)) (by omega) (by omega)
          obtain ⟨r1, r2, r3, r4⟩ := rl_facts (s := stF (K i)) (by omega) ws out oW
          have ln := rl_len (s := stF (K i)) ws out
          have n16 : N.1 k3 16 = c + 1 := ((n2 k3 16 (by unfold RlW; omega)).1).trans (sI_self _ _ _ _)
          have fN : Fr (fun k j => (k = k3 ∧ j = 16) ∨ (k = k0 ∧ (j = 3 ∨ j = 6)) ∨ k = k0 + 1 ∨ k = k0 + 2) M N := (f0.mono (fun k j z => Or.inl z)).trans (n2.mono (fun k j z => Or.inr z))
          rw [n1, obind_some, c_await n4 (by omega) (by omega)]
          have bd : bdF (K i) = stF (K i) := by
            unfold bdF
            rw [if_neg (fun q => s0 (by rw [q]; rfl))]
          have n41 : ¬ K i = 41 := fun q => s0 (by rw [q]; rfl)
          -- the two last settings
          have key : ∀ (m1 : Int) (b1 : Bool) (cm' : Int → Bool) (O : Mem), b01 b1 = m1 → Fr (fun k j => k = k0 ∧ j = 9) (setI (setI (setI (setI N (k0 + 4) ((rlF (stF (K i)) out ws).2.length : Int) (K i)) k0 6 (((rlF (stF (K i)) out ws).2.length : Int) + 1)) k0 10 1) k0 11 m1) O → (∀ x, 0 ≤ x → x ≤ 8 → tbI (O.1 k0 9) x = cm' x) → Fr (FmW k0 k3) M O ∧ FMt O k0 k3 i (i + 1, c + 1, (rlF (stF (K i)) out ws).1, K i :: (rlF (stF (K i)) out ws).2, o, cm', true, b1) := by
            intro m1 b1 cm' O hm hF hc
            have fP : Fr (fun k j => (k = k0 ∧ (j = 6 ∨ 9 ≤ j ∧ j ≤ 11)) ∨ (k = k0 + 4 ∧ ((rlF (stF (K i)) out ws).2.length : Int) ≤ j)) N O := ((((Fr.rf.setI (by omega)).setI (by omega)).setI (by omega)).setI (by omega)).trans (hF.mono (fun k j z => by omega))
            have fW : Fr (fun k j => (k = k3 ∧ j = 16) ∨ (k = k0 ∧ (j = 3 ∨ j = 6 ∨ 9 ≤ j ∧ j ≤ 11)) ∨ k = k0 + 1 ∨ k = k0 + 2 ∨ k = k0 + 4) M O := (fN.mono (fun k j z => by omega)).trans (fP.mono (fun k j z => by omega))
            refine ⟨fW.mono (fun k j z => by unfold FmW; omega), ⟨⟨?_, ?_, ?_, ?_, ?_, ?_⟩, n3.fr fP (fun k j z y => by omega), ⟨?_, WsM.fr fP n5 (fun j hj z => by omega)⟩, hc⟩, ?_⟩
            · rw [(fW k0 7 (by omega)).1]; exact h7
            · rw [(fP k3 16 (by omega)).1]; exact n16
            · rw [(fW k0 8 (by omega)).1]; exact h8
            · rw [(hF k0 10 (by omega)).1, sI_ne (by omega), sI_self]; rfl
            · rw [(hF k0 11 (by omega)).1, sI_self]; exact hm.symm
            · rw [(hF k0 6 (by omega)).1, sI_ne (by omega), sI_ne (by omega), sI_self]
              show ((rlF (stF (K i)) out ws).2.length : Int) + 1 = (((rlF (stF (K i)) out ws).2.length + 1 : Nat) : Int)
              omega
            · rw [(hF (k0 + 4) _ (by omega)).1, sI_ne (by omega), sI_ne (by omega), sI_ne (by omega), sI_self]
            · refine ⟨by show 0 ≤ c + 1; omega, by show c + 1 ≤ 64; omega, o0, o1, ?_, ?_, Or.inr (by omega), r1⟩
              · show nP (K i :: (rlF (stF (K i)) out ws).2) = o
                rw [nP, if_neg n41]; omega
              · show ((rlF (stF (K i)) out ws).1.length : Int) + nO (K i :: (rlF (stF (K i)) out ws).2) ≤ c + 1
                rw [nO, if_neg n41]; omega
          have q9 : ∀ m1, (setI (setI (setI (setI N (k0 + 4) ((rlF (stF (K i)) out ws).2.length : Int) (K i)) k0 6 (((rlF (stF (K i)) out ws).2.length : Int) + 1)) k0 10 1) k0 11 m1).1 k0 9 = M.1 k0 9 := fun m1 => by rw [sI_ne (by omega), sI_ne (by omega), sI_ne (by omega), sI_ne (by omega), (fN k0 9 (by omega)).1]
          have q8 : ∀ m1, (setI (setI (setI (setI N (k0 + 4) ((rlF (stF (K i)) out ws).2.length : Int) (K i)) k0 6 (((rlF (stF (K i)) out ws).2.length : Int) + 1)) k0 10 1) k0 11 m1).1 k0 8 = o := fun m1 => by rw [sI_ne (by omega), sI_ne (by omega), sI_ne (by omega), sI_ne (by omega), (fN k0 8 (by omega)).1]; exact h8
          have q11 : ∀ m1, (setI (setI (setI (setI N (k0 + 4) ((rlF (stF (K i)) out ws).2.length : Int) (K i)) k0 6 (((rlF (stF (K i)) out ws).2.length : Int) + 1)) k0 10 1) k0 11 m1).1 k0 11 = m1 := fun m1 => sI_self _ _ _ _
          unfold t_Formula_readSign_L133
          simp (config := { proj := false }) only [qlet]
          by_cases s4' : stF (K i) = 4
          · rw [if_pos (show 4 ≤ stF (K i) by omega), if_pos s4', if_pos s4', decide_eq_false (show ¬ stF (K i) < 4 by omega), if_neg (show ¬ (1 : Int) = 0 by decide), q9, q8]
            obtain ⟨u1, u2⟩ := key 0 false (cz cm o true) _ rfl (Fr.rf.setI ⟨rfl, rfl⟩) (fun x x0 x1 => by rw [sI_self]; exact cz_set hB o0 o1 x x0 x1)
            exact ⟨_, rfl, u1, u2⟩
          · rw [if_neg s4', if_neg s4']
            by_cases s3 : 4 ≤ stF (K i)
            · rw [if_pos s3, if_pos rfl, decide_eq_false (show ¬ stF (K i) < 4 by omega), if_neg (show ¬ stF (K i) < 4 by omega), q11, if_pos rfl]
              obtain ⟨u1, u2⟩ := key 0 false cm _ rfl Fr.rf (fun x x0 x1 => by rw [q9]; exact hB x x0 x1)
              exact ⟨_, rfl, u1, u2⟩
            · rw [if_neg s3, if_pos rfl, decide_eq_true (show stF (K i) < 4 by omega), if_pos (show stF (K i) < 4 by omega), q11, if_neg (show ¬ (1 : Int) = 0 by decide), q9, q8]
              obtain ⟨u1, u2⟩ := key 1 true (cz cm o false) _ rfl (Fr.rf.setI ⟨rfl, rfl⟩) (fun x x0 x1 => by rw [sI_self]; exact cz_clr hB o0 o1 x x0 x1)
              exact ⟨_, rfl, u1, u2⟩
end FSG
theorem c_fread_loop {B : Int → Int} {n : Int} {k0 k3 : Nat} {x2 : Int} (hk : k3 + 10 ≤ k0 ∧ k0 + 4 < 42) : ∀ (f fu : Nat) (M : Mem) (v : Int) (s : FSt) (r : ER), rnF (tK B n) (tW B n) f s = some r → f < fu → 0 ≤ v → v + (f : Int) ≤ 701 → TBl M B n → Lv B n s.1 → FMt M k0 k3 s.1 s →
    ∃ N, t_Formula_read_L33 k0 x2 k3 fu M v = some (N, r.1) ∧ Fr (FmW k0 k3) M N ∧ N.1 k0 7 = (r.2.1 : Int) ∧ Lv B n r.2.1 ∧ (r.1 = 0 → OutM N k0 r.2.2.2 ∧ N.1 k3 16 = r.2.2.1 ∧ N.1 k0 4 = 1) := by
  intro f
  induction f with
  | zero => intro fu M v s r h; rw [rnF] at h; cases h
  | succ f ih =>
    intro fu M v s r h g1 g2 g3 hT hL hM
    obtain ⟨g, rfl⟩ : ∃ g, fu = g + 1 := ⟨fu - 1, by omega⟩
    obtain ⟨i, c, out, ws, o, cm, wp, mn⟩ := s
    have hi : (i : Int) ≤ n := hL.le hT.1
    have hn := hT.1
    obtain ⟨tk1, tk2, tk3⟩ := hT.2 i hL
    obtain ⟨hs, hb⟩ := hM
    change FMs M k0 k3 i c out ws o cm wp mn at hs
    change FBd c out ws o at hb
    have h7 : M.1 k0 7 = (i : Int) := hs.1.1
    have h8 : M.1 k0 8 = o := hs.1.2.2.1
    have h10 : M.1 k0 10 = b01 wp := hs.1.2.2.2.1
    have on := nOP ws
    have lk : t_WF_look M 43 701 (M.1 k0 7) = tK B n i := by rw [h7, look_in (by omega) (by omega)]; exact tk1
    have lk2 : tK B n i ≠ 33 → t_WF_look M 44 701 (M.1 k0 7) = tW B n i := fun q => by rw [h7, look_in (by omega) (by omega)]; exact tk3 q
    rw [rnF_s] at h
    rw [t_Formula_read_L33, if_neg (by omega), lk]
    simp only [qlet]
    -- going on
    have on1 : ∀ (t : FSt) (N : Mem), sF (tK B n) (tW B n) i c out ws o cm wp mn = Sum.inr t → Fr (FmW k0 k3) M N → FMt N k0 k3 i t → rnF (tK B n) (tW B n) f t = some r →
        ∃ N', t_Formula_read_L122 k0 x2 k3 (fun a0_ a1_ => t_Formula_read_L33 k0 x2 k3 g a0_ a1_) N v 0 = some (N', r.1) ∧ Fr (FmW k0 k3) M N' ∧ N'.1 k0 7 = (r.2.1 : Int) ∧ Lv B n r.2.1 ∧ (r.1 = 0 → OutM N' k0 r.2.2.2 ∧ N'.1 k3 16 = r.2.2.1 ∧ N'.1 k0 4 = 1) := by
      intro t N e hF hN hr
      obtain ⟨e1, e2⟩ := sF_next e
      unfold t_Formula_read_L122
      rw [if_pos rfl]
      simp (config := { proj := false }) only [qlet]
      have n7 : N.1 k0 7 = (i : Int) := hN.1.1.1
      rw [n7, w32_id (x := (i : Int) + 1) (by unfold InR; omega), w32_id (x := v + 1) (by unfold InR; omega)]
      have f1 : Fr (fun k j => k = k0 ∧ j = 7) N (setI N k0 7 ((i : Int) + 1)) := Fr.rf.setI ⟨rfl, rfl⟩
      have f2 : Fr (FmW k0 k3) M (setI N k0 7 ((i : Int) + 1)) := hF.setI (by unfold FmW; omega)
      have hN2 : FMt (setI N k0 7 ((i : Int) + 1)) k0 k3 t.1 t := by
        obtain ⟨⟨⟨a7, a16, a8, a10, a11, a6⟩, aO, aS, aB⟩, ab⟩ := hN
        refine ⟨⟨⟨?_, ?_, ?_, ?_, ?_, ?_⟩, aO.fr f1 (fun k j z y => by omega), WsM.fr f1 aS (fun j hj z => by omega), fun x x0 x1 => ?_⟩, ab⟩
        · rw [sI_self, e1]; rfl
        · rw [(f1 k3 16 (by omega)).1]; exact a16
        · rw [(f1 k0 8 (by omega)).1]; exact a8
        · rw [(f1 k0 10 (by omega)).1]; exact a10
        · rw [(f1 k0 11 (by omega)).1]; exact a11
        · rw [(f1 k0 6 (by omega)).1]; exact a6
        · rw [(f1 k0 9 (by omega)).1]; exact aB x x0 x1
      obtain ⟨P, p1, p2, p3, p4, p5⟩ := ih g (setI N k0 7 ((i : Int) + 1)) (v + 1) t r hr (by omega) (by omega) (by omega) (hT.fr f2 (fun k j x y z => by unfold FmW at z; omega)) (by rw [e1]; exact hL.succ e2) hN2
      exact ⟨P, p1, f2.trans p2, p3, p4, p5⟩
    cases wp with
    | true =>
      have l87 : t_Formula_read_L87 k0 x2 k3 (fun a0_ a1_ => t_Formula_read_L33 k0 x2 k3 g a0_ a1_) M v (tK B n i) = qlet (t_Formula_readPart M k0 (tK B n i) (t_WF_look M 44 701 (M.1 k0 7)) k3) fun q26 => t_Formula_read_L122 k0 x2 k3 (fun a0_ a1_ => t_Formula_read_L33 k0 x2 k3 g a0_ a1_) q26.1 v q26.2 := by
        unfold t_Formula_read_L87
        rw [if_neg (show ¬ M.1 k0 10 = 0 by rw [h10]; decide)]
      have eT : (if tK B n i = 40 then (if M.1 k0 10 = 0 then (if M.1 k0 8 = 0 then obind (t_Formula_release M k0 1) fun q16 => some (setI q16 k0 4 1, (0 : Int)) else t_Formula_read_L87 k0 x2 k3 (fun a0_ a1_ => t_Formula_read_L33 k0 x2 k3 g a0_ a1_) M v (tK B n i)) else t_Formula_read_L87 k0 x2 k3 (fun a0_ a1_ => t_Formula_read_L33 k0 x2 k3 g a0_ a1_) M v (tK B n i)) else t_Formula_read_L87 k0 x2 k3 (fun a0_ a1_ => t_Formula_read_L33 k0 x2 k3 g a0_ a1_) M v (tK B n i)) = t_Formula_read_L87 k0 x2 k3 (fun a0_ a1_ => t_Formula_read_L33 k0 x2 k3 g a0_ a1_) M v (tK B n i) := by
        by_cases q : tK B n i = 40
        · rw [if_pos q, if_neg (show ¬ M.1 k0 10 = 0 by rw [h10]; decide)]
        · rw [if_neg q]
      refine cast (congrArg (fun z => ∃ N, z = some (N, r.1) ∧ Fr (FmW k0 k3) M N ∧ N.1 k0 7 = (r.2.1 : Int) ∧ Lv B n r.2.1 ∧ (r.1 = 0 → OutM N k0 r.2.2.2 ∧ N.1 k3 16 = r.2.2.1 ∧ N.1 k0 4 = 1)) eT).symm ?_
      rw [l87]
      obtain ⟨s1, s2⟩ := c_readPart hk hs hb lk2
      cases e : sF (tK B n) (tW B n) i c out ws o cm true mn with
      | inl r1 =>
        rw [e] at h
        have e2 := Option.some.inj h
        subst e2
        obtain ⟨a1, a2, a3⟩ := s1 r1 e
        rw [a1]
        refine ⟨M, ?_, Fr.rf, by rw [a3]; exact h7, by rw [a3]; exact hL, fun q => absurd q a2⟩
        show t_Formula_read_L122 k0 x2 k3 _ M v r1.1 = _
        unfold t_Formula_read_L122
        rw [if_neg a2]
      | inr t =>
        rw [e] at h
        obtain ⟨N, a1, a2, a3⟩ := s2 t e
        rw [a1]
        exact on1 t N e a2 a3 h
    | false =>
      have l87 : t_Formula_read_L87 k0 x2 k3 (fun a0_ a1_ => t_Formula_read_L33 k0 x2 k3 g a0_ a1_) M v (tK B n i) = obind (t_Formula_readSign M k0 (tK B n i) k3) fun q21 => t_Formula_read_L122 k0 x2 k3 (fun a0_ a1_ => t_Formula_read_L33 k0 x2 k3 g a0_ a1_) q21.1 v q21.2 := by
        unfold t_Formula_read_L87
        rw [if_pos (show M.1 k0 10 = 0 by rw [h10]; rfl)]
      by_cases k40 : tK B n i = 40 ∧ o = 0
      · rw [if_pos k40.1, if_pos (show M.1 k0 10 = 0 by rw [h10]; rfl), if_pos (show M.1 k0 8 = 0 by rw [h8]; exact k40.2)]
        rw [sF_s, if_pos k40] at h
        have e2 := Option.some.inj h
        subst e2
        obtain ⟨c0, c1, o0, o1, oP, oL, oW⟩ := hb
        obtain ⟨N, n1, n2, n3, n4, n5⟩ := c_rel (s := 1) (Int.le_refl _) oW hs.2.1 hs.1.2.2.2.2.2 hs.2.2.1 (by omega) (by omega)
        rw [n1, obind_some]
        have f1 : Fr (fun k j => k = k0 ∧ j = 4) N (setI N k0 4 1) := Fr.rf.setI ⟨rfl, rfl⟩
        refine ⟨setI N k0 4 1, rfl, (n2.mono (fun k j z => by unfold RlW at z; unfold FmW; omega)).setI (by unfold FmW; omega), ?_, hL, fun _ => ⟨n3.fr f1 (fun k j z y => by omega), ?_, sI_self _ _ _ _⟩⟩
        · rw [(f1 k0 7 (by omega)).1, (n2 k0 7 (by unfold RlW; omega)).1]; exact h7
        · rw [(f1 k3 16 (by omega)).1, (n2 k3 16 (by unfold RlW; omega)).1]; exact hs.1.2.1
      · have eT : (if tK B n i = 40 then (if M.1 k0 10 = 0 then (if M.1 k0 8 = 0 then obind (t_Formula_release M k0 1) fun q16 => some (setI q16 k0 4 1, (0 : Int)) else t_Formula_read_L87 k0 x2 k3 (fun a0_ a1_ => t_Formula_read_L33 k0 x2 k3 g a0_ a1_) M v (tK B n i)) else t_Formula_read_L87 k0 x2 k3 (fun a0_ a1_ => t_Formula_read_L33 k0 x2 k3 g a0_ a1_) M v (tK B n i)) else t_Formula_read_L87 k0 x2 k3 (fun a0_ a1_ => t_Formula_read_L33 k0 x2 k3 g a0_ a1_) M v (tK B n i)) = t_Formula_read_L87 k0 x2 k3 (fun a0_ a1_ => t_Formula_read_L33 k0 x2 k3 g a0_ a1_) M v (tK B n i) := by
          by_cases q : tK B n i = 40
          · rw [if_pos q, if_pos (show M.1 k0 10 = 0 by rw [h10]; rfl), if_neg (show ¬ M.1 k0 8 = 0 by rw [h8]; exact fun y => k40 ⟨q, y⟩)]
          · rw [if_neg q]
        refine cast (congrArg (fun z => ∃ N, z = some (N, r.1) ∧ Fr (FmW k0 k3) M N ∧ N.1 k0 7 = (r.2.1 : Int) ∧ Lv B n r.2.1 ∧ (r.1 = 0 → OutM N k0 r.2.2.2 ∧ N.1 k3 16 = r.2.2.1 ∧ N.1 k0 4 = 1)) eT).symm ?_
        rw [l87]
        obtain ⟨s1, s2⟩ := c_readSign (W := tW B n) hk hs hb k40
        cases e : sF (tK B n) (tW B n) i c out ws o cm false mn with
        | inl r1 =>
          rw [e] at h
          have e2 := Option.some.inj h
          subst e2
          obtain ⟨a1, a2, a3⟩ := s1 r1 e
          rw [a1, obind_some]
          refine ⟨M, ?_, Fr.rf, by rw [a3]; exact h7, by rw [a3]; exact hL, fun q => absurd q a2⟩
          show t_Formula_read_L122 k0 x2 k3 _ M v r1.1 = _
          unfold t_Formula_read_L122
          rw [if_neg a2]
        | inr t =>
          rw [e] at h
          obtain ⟨N, a1, a2, a3⟩ := s2 t e
          rw [a1, obind_some]
          exact on1 t N e a2 a3 h
/-- words have no value -/
theorem tW_word {B : Int → Int} {n : Int} {i : Nat} (h : tK B n i ≤ 24 ∨ 32 ≤ tK B n i) : tW B n i = 0 := by
  unfold tK at h
  unfold tW
  revert h
  unfold tkS
  (repeat' split) <;> intro h
  all_goals first | rfl | (exfalso; revert h; show ¬ ((30 : Int) ≤ 24 ∨ (32 : Int) ≤ 30); decide) | (exfalso; revert h; show ¬ ((31 : Int) ≤ 24 ∨ (32 : Int) ≤ 31); decide)
/-- a formula read by the class -/
theorem c_fread {B : Int → Int} {n : Int} {k0 k3 i : Nat} {c : Int} {M : Mem} (hk : k3 + 10 ≤ k0 ∧ k0 + 4 < 42) (hT : TBl M B n) (hL : Lv B n i) (h3 : M.1 k0 3 = 0) (h16 : M.1 k3 16 = c) (c0 : 0 ≤ c) (c1 : c ≤ 64) :
    ∃ N f j, t_Formula_read M k0 (i : Int) k3 = some (N, f) ∧ Fr (FmW k0 k3) M N ∧ N.1 k0 7 = ((j : Nat) : Int) ∧ Lv B n j ∧ j = (frS B n i c).2.1 ∧
      f = (if (frS B n i c).1 = 0 then (if tK B n j = 40 then 0 else 1) else (frS B n i c).1) ∧
      (f = 0 → OutM N k0 (frS B n i c).2.2.2 ∧ N.1 k3 16 = (frS B n i c).2.2.1 ∧ N.1 k0 4 = 1) := by
  have hn := hT.1
  obtain ⟨r, r1, -⟩ := exG_facts (K := tK B n) (W := tW B n) (T := 700) (fun x hx => tK_end hn.1 hn.2 (by omega)) (by omega) 200 0 0 i c (by omega) (by omega) (by omega) c0 c1 (by unfold nd; omega)
  have er : frS B n i c = r := by unfold frS; rw [r1]; rfl
  rw [er]
  obtain ⟨T, hT1, hT2⟩ : ∃ T : Nat, tK B n T = 32 ∧ (T : Int) ≤ 700 := ⟨n.toNat, tK_end hn.1 hn.2 (by omega), by omega⟩
  have hiT : i ≤ n.toNat := by have := hL.le hn; omega
  have m := mach (K := tK B n) (W := tW B n) (fun x a b => tW_word (Or.inl b)) r1 (fun _ => false) rfl
  obtain ⟨q, hq, hqr⟩ : ∃ q : ER, RnF (tK B n) (tW B n) (i, c, [], [], 0, (fun _ => false), true, true) q ∧ q.2.1 = r.2.1 ∧ q.1 = (if r.1 = 0 then (if tK B n r.2.1 = 40 then 0 else 1) else r.1) ∧ (q.1 = 0 → q = r) := by
    by_cases z : r.1 = 0
    · by_cases k : tK B n r.2.1 = 40
      · refine ⟨_, m.2.1 z k, rfl, by rw [if_pos z, if_pos k], fun _ => ?_⟩
        rw [← z]
      · refine ⟨_, m.2.2 z k, rfl, by rw [if_pos z, if_neg k], fun y => absurd y (show ¬ (1 : Int) = 0 by decide)⟩
    · exact ⟨_, m.1 z, rfl, by rw [if_neg z], fun y => absurd y z⟩
  obtain ⟨f0, hf0⟩ := hq
  have hf := rnF_fuel (T := n.toNat) (tK_end hn.1 hn.2 (by omega)) f0 701 _ q (show i ≤ n.toNat from hiT) (show n.toNat + 1 ≤ 701 + i by omega) hf0
  unfold t_Formula_read
  simp (config := { proj := false }) only [qlet]
  have f1 : Fr (fun k j => k = k0 ∧ 6 ≤ j ∧ j ≤ 11) M (setI (setI (setI (setI (setI (setI M k0 7 (i : Int)) k0 6 0) k0 8 0) k0 9 0) k0 10 1) k0 11 1) := (((((Fr.rf.setI (by omega)).setI (by omega)).setI (by omega)).setI (by omega)).setI (by omega)).setI (by omega)
  have e7 : (setI (setI (setI (setI (setI (setI M k0 7 (i : Int)) k0 6 0) k0 8 0) k0 9 0) k0 10 1) k0 11 1).1 k0 7 = (i : Int) := by rw [sI_ne (by omega), sI_ne (by omega), sI_ne (by omega), sI_ne (by omega), sI_ne (by omega), sI_self]
  have e6 : (setI (setI (setI (setI (setI (setI M k0 7 (i : Int)) k0 6 0) k0 8 0) k0 9 0) k0 10 1) k0 11 1).1 k0 6 = 0 := by rw [sI_ne (by omega), sI_ne (by omega), sI_ne (by omega), sI_ne (by omega), sI_self]
  have e8 : (setI (setI (setI (setI (setI (setI M k0 7 (i : Int)) k0 6 0) k0 8 0) k0 9 0) k0 10 1) k0 11 1).1 k0 8 = 0 := by rw [sI_ne (by omega), sI_ne (by omega), sI_ne (by omega), sI_self]
  have e9 : (setI (setI (setI (setI (setI (setI M k0 7 (i : Int)) k0 6 0) k0 8 0) k0 9 0) k0 10 1) k0 11 1).1 k0 9 = 0 := by rw [sI_ne (by omega), sI_ne (by omega), sI_self]
  have e10 : (setI (setI (setI (setI (setI (setI M k0 7 (i : Int)) k0 6 0) k0 8 0) k0 9 0) k0 10 1) k0 11 1).1 k0 10 = 1 := by rw [sI_ne (by omega), sI_self]
  have e11 : (setI (setI (setI (setI (setI (setI M k0 7 (i : Int)) k0 6 0) k0 8 0) k0 9 0) k0 10 1) k0 11 1).1 k0 11 = 1 := sI_self _ _ _ _
  generalize setI (setI (setI (setI (setI (setI M k0 7 (i : Int)) k0 6 0) k0 8 0) k0 9 0) k0 10 1) k0 11 1 = M1 at *
  obtain ⟨N, n1, n2, n3, n4, n5⟩ := c_fread_loop (x2 := (i : Int)) hk 701 FU M1 0 _ q hf (fu_big (by omega)) (by omega) (by omega) (hT.fr f1 (fun k j x y z => by omega)) hL ⟨⟨⟨e7, ((f1 k3 16 (by omega)).1).trans h16, e8, e10, e11, e6⟩, ⟨((f1 k0 3 (by omega)).1).trans h3, fun j hj => absurd hj (by show ¬ j < 0; omega)⟩, trivial, fun x x0 x1 => by show tbI (M1.1 k0 9) x = false; rw [e9]; exact tbI_zero x⟩, c0, c1, by show (0 : Int) ≤ 0; omega, by show (0 : Int) ≤ 8; omega, rfl, by show ((0 : Nat) : Int) + 0 ≤ c; omega, trivial⟩
  refine ⟨N, q.1, q.2.1, n1, (f1.mono (fun k j z => by unfold FmW; omega)).trans n2, n3, n4, hqr.1, by rw [hqr.1]; exact hqr.2.1, fun y => ?_⟩
  have := n5 y
  rw [hqr.2.2 y] at this
  exact this
