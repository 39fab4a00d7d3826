section
/-! ===== bits of ints ===== -/
def ib (v i : Int) : Bool := (Int32.ofInt v).toBitVec.getLsbD i.toNat
theorem tb_ib (v : Int) {i : Int} (h0 : 0 ≤ i) (h1 : i < 32) : tb (q_i2l v) i = ib v i := by
  unfold tb q_i2l ib
  rw [Int32.toBitVec_toInt64, BitVec.getLsbD_signExtend, if_pos (show i.toNat < 32 by omega), decide_eq_true (show i.toNat < 64 by omega), Bool.true_and]
theorem ib_one : ∀ k : Nat, k < 31 → ∀ i : Nat, i < 31 → (Int32.ofInt (q_shl 1 (k : Int))).toBitVec.getLsbD i = decide (i = k) := by decide +kernel
theorem ib_or (v : Int) {k i : Int} (k0 : 0 ≤ k) (k1 : k < 31) (h0 : 0 ≤ i) (h1 : i < 31) : ib (q_or v (q_shl 1 k)) i = (ib v i || decide (i = k)) := by
  unfold ib
  have e : Int32.ofInt (q_or v (q_shl 1 k)) = Int32.ofInt v ||| Int32.ofInt (q_shl 1 k) := q_of_toInt _
  rw [e, Int32.toBitVec_or, BitVec.getLsbD_or]
  have h := ib_one k.toNat (by omega) i.toNat (by omega)
  rw [Int.toNat_of_nonneg k0] at h
  rw [h]
  congr 1
  exact decide_eq_decide.mpr ⟨fun z => by omega, fun z => by rw [z]⟩
theorem ib_zero (i : Int) (h0 : 0 ≤ i) : ib 0 i = false := by
  unfold ib
  have e : (Int32.ofInt 0).toBitVec = 0#32 := by decide +kernel
  rw [e]
  exact BitVec.getLsbD_zero
/-! ===== what is known, the class's side ===== -/
def kbS (I F : Int → Int) : Nat → (Int → Bool) → (Int → Bool) → Int → Bool
  | 0, _, b => b
  | m + 1, s, b => if s (m : Int) = true then kbS I F m s b else if I (m : Int) = 0 then kbS I F m s (fun x => b x || decide (x = (m : Int))) else kbS I F m (fun x => s x || decide (x = F (m : Int))) b
theorem skS_hi {I F : Int → Int} : ∀ (m : Nat) (s : Int → Bool), (∀ k : Nat, k < m → I (k : Int) ≠ 0 → F (k : Int) < (k : Int)) → ∀ i : Int, (m : Int) ≤ i + 1 → skS I F m s i = s i := by
  intro m
  induction m with
  | zero => intro s _ i _; rfl
  | succ m ih =>
    intro s hF i hi
    rw [skS, ih _ (fun k hk => hF k (by omega)) i (by omega)]
    by_cases c : s (m : Int) = false ∧ ¬ I (m : Int) = 0
    · rw [if_pos c]
      have := hF m (by omega) c.2
      exact if_neg (by omega)
    · rw [if_neg c]
theorem kbS_eq {I F : Int → Int} : ∀ (m : Nat) (s b : Int → Bool), (∀ k : Nat, k < m → I (k : Int) ≠ 0 → F (k : Int) < (k : Int)) → (∀ i, 0 ≤ i → i < (m : Int) → b i = false) → ∀ i, 0 ≤ i → kbS I F m s b i = if i < (m : Int) then decide (skS I F m s i = false ∧ I i = 0) else b i := by
  intro m
  induction m with
  | zero => intro s b _ _ i hi; rw [if_neg (by omega)]; rfl
  | succ m ih =>
    intro s b hF hb i hi
    have hF' : ∀ k : Nat, k < m → I (k : Int) ≠ 0 → F (k : Int) < (k : Int) := fun k hk => hF k (by omega)
    rw [kbS, skS]
    cases es : s (m : Int) with
    | true =>
      rw [if_pos rfl, ih s b hF' (fun i a c => hb i a (by omega)) i hi, if_neg (show ¬ (true = false ∧ ¬ I (m : Int) = 0) from fun z => absurd z.1 (by decide))]
      by_cases c : i < (m : Int)
      · rw [if_pos c, if_pos (by omega)]
      · rw [if_neg c]
        by_cases e : i = (m : Int)
        · rw [if_pos (by omega), skS_hi m s hF' i (by omega), e, es, hb (m : Int) (by omega) (by omega)]
          rfl
        · rw [if_neg (by omega)]
    | false =>
      rw [if_neg (show ¬ false = true by decide)]
      by_cases ei : I (m : Int) = 0
      · rw [if_pos ei, if_neg (show ¬ (false = false ∧ ¬ I (m : Int) = 0) from fun z => z.2 ei), ih s _ hF' (fun i a c => by rw [hb i a (by omega), decide_eq_false (by omega)]; rfl) i hi]
        by_cases c : i < (m : Int)
        · rw [if_pos c, if_pos (by omega)]
        · rw [if_neg c]
          by_cases e : i = (m : Int)
          · rw [if_pos (by omega), skS_hi m s hF' i (by omega), e, es, ei, hb (m : Int) (by omega) (by omega)]
            simp
          · rw [if_neg (by omega), decide_eq_false e, Bool.or_false]
      · have hm : skS I F m (fun x => if x = F (m : Int) then true else s x) = skS I F m (fun x => s x || decide (x = F (m : Int))) := by
          congr 1
          funext x
          by_cases q : x = F (m : Int)
          · rw [if_pos q, decide_eq_true q, Bool.or_true]
          · rw [if_neg q, decide_eq_false q, Bool.or_false]
        rw [if_neg ei, if_pos (show (false = false ∧ ¬ I (m : Int) = 0) from ⟨rfl, ei⟩), hm, ih _ b hF' (fun i a c => hb i a (by omega)) i hi]
        by_cases c : i < (m : Int)
        · rw [if_pos c, if_pos (by omega)]
        · rw [if_neg c]
          by_cases e : i = (m : Int)
          · rw [if_pos (by omega), e, hb (m : Int) (by omega) (by omega)]
            exact (decide_eq_false (fun z => ei z.2)).symm
          · rw [if_neg (by omega)]
/-- the class's rows of notes, by the reference's -/
def CNo (M : Mem) (I F : Int → Int) (n : Int) : Prop := ∀ k, 0 ≤ k → k < n → (I k = 0 ∧ M.1 175 k = -1) ∨ (¬ I k = 0 ∧ M.1 175 k = F k ∧ 0 ≤ F k ∧ F k < k)
theorem c_kb_L11 {M : Mem} {I F : Int → Int} {n : Int} (hn : 0 ≤ n ∧ n ≤ 24) (hM : CNo M I F n) : ∀ (m fu : Nat) (v1 v2 : Int) (s b : Int → Bool), (m : Int) ≤ n → m < fu → (∀ i, 0 ≤ i → i < 24 → ib v1 i = s i) → (∀ i, 0 ≤ i → i < 24 → ib v2 i = b i) → ∃ v, t_Notes_knownBits_L11 fu M v1 v2 ((m : Int) - 1) = some v ∧ ∀ i, 0 ≤ i → i < 24 → ib v i = kbS I F m s b i := by
  intro m
  induction m with
  | zero =>
    intro fu v1 v2 s b g0 g1 h1 h2
    obtain ⟨g, rfl⟩ : ∃ g, fu = g + 1 := ⟨fu - 1, by omega⟩
    rw [t_Notes_knownBits_L11, if_pos (by omega)]
    exact ⟨v2, rfl, h2⟩
  | succ m ih =>
    intro fu v1 v2 s b g0 g1 h1 h2
    obtain ⟨g, rfl⟩ : ∃ g, fu = g + 1 := ⟨fu - 1, by omega⟩
    rw [t_Notes_knownBits_L11, show ((m + 1 : Nat) : Int) - 1 = (m : Int) by omega, if_neg (by omega)]
    simp (config := { proj := false }) only [qlet]
    unfold t_Notes_knownBits_L55
    rw [bitOf_tb M _ (by omega) (by omega), tb_ib v1 (by omega) (by omega), h1 (m : Int) (by omega) (by omega), w32_id (x := (m : Int) + -1) (by unfold InR; omega), show (m : Int) + -1 = (m : Int) - 1 by omega, look_in (by omega) (by omega), kbS]
    cases es : s (m : Int) with
    | true =>
      rw [if_pos rfl, if_neg (show ¬ (1 : Int) = 0 by decide), if_pos rfl]
      exact ih g v1 v2 s b (by omega) (by omega) h1 h2
    | false =>
      rw [if_neg (show ¬ false = true by decide), if_pos rfl, if_neg (show ¬ false = true by decide)]
      rcases hM (m : Int) (by omega) (by omega) with ⟨k1, k2⟩ | ⟨k1, k2, k3, k4⟩
      · rw [k2, if_neg (show ¬ (0 : Int) ≤ -1 by decide), if_pos k1]
        exact ih g v1 _ s _ (by omega) (by omega) h1 (fun i a c => by rw [ib_or v2 (by omega) (by omega) a (by omega), h2 i a c])
      · rw [k2, if_pos k3, if_neg k1]
        exact ih g _ v2 _ b (by omega) (by omega) (fun i a c => by rw [ib_or v1 (by omega) (by omega) a (by omega), h1 i a c]) h2
/-! the class's test of one setting -/
theorem foS_all {f F T I : Int → Int} {s : Int → Bool} : ∀ n : Nat, foS f F T I s n = true ↔ ∀ k : Nat, k < n → (s (k : Int) = true ∨ ¬ I (k : Int) = 0 ∨ wyOK f (F (k : Int)) (T (k : Int))) := by
  intro n
  induction n with
  | zero => exact ⟨fun _ k hk => absurd hk (Nat.not_lt_zero k), fun _ => rfl⟩
  | succ n ih =>
    rw [foS, Bool.and_eq_true, decide_eq_true_eq, ih]
    refine ⟨fun z k hk => ?_, fun z => ⟨fun k hk => z k (by omega), z n (by omega)⟩⟩
    by_cases e : k = n
    · rw [e]; exact z.2
    · exact z.1 k (by omega)
def asS (f F T : Int → Int) (b : Int → Bool) : Nat → Bool
  | 0 => true
  | n + 1 => asS f F T b n && decide (b (n : Int) = true → wyOK f (F (n : Int)) (T (n : Int)))
theorem asS_all {f F T : Int → Int} {b : Int → Bool} : ∀ n : Nat, asS f F T b n = true ↔ ∀ k : Nat, k < n → b (k : Int) = true → wyOK f (F (k : Int)) (T (k : Int)) := by
  intro n
  induction n with
  | zero => exact ⟨fun _ k hk => absurd hk (Nat.not_lt_zero k), fun _ => rfl⟩
  | succ n ih =>
    rw [asS, Bool.and_eq_true, decide_eq_true_eq, ih]
    refine ⟨fun z k hk => ?_, fun z => ⟨fun k hk => z k (by omega), z n (by omega)⟩⟩
    by_cases e : k = n
    · rw [e]; exact z.2
    · exact z.1 k (by omega)
theorem asS_mono {f F T : Int → Int} {b : Int → Bool} {n m : Nat} (h : n ≤ m) (e : asS f F T b n = false) : asS f F T b m = false := by
  cases q : asS f F T b m with
  | false => rfl
  | true =>
    have := (asS_all m).mp q
    have : asS f F T b n = true := (asS_all n).mpr (fun k hk => this k (by omega))
    rw [e] at this
    exact absurd this (by decide)
theorem as_fo {f F T I : Int → Int} {s b : Int → Bool} {km mu : Nat} (hk : km ≤ mu) (hb : ∀ k : Nat, k < mu → b (k : Int) = if (k : Int) < (km : Int) then decide (s (k : Int) = false ∧ I (k : Int) = 0) else false) : asS f F T b mu = foS f F T I s km := by
  have e : asS f F T b mu = true ↔ foS f F T I s km = true := by
    rw [asS_all, foS_all]
    refine ⟨fun z k hk1 => ?_, fun z k hk1 hk2 => ?_⟩
    · by_cases c : s (k : Int) = true
      · exact Or.inl c
      · by_cases d : I (k : Int) = 0
        · refine Or.inr (Or.inr (z k (by omega) ?_))
          rw [hb k (by omega), if_pos (by omega)]
          exact decide_eq_true ⟨by simpa using c, d⟩
        · exact Or.inr (Or.inl d)
    · rw [hb k hk1] at hk2
      by_cases c : (k : Int) < (km : Int)
      · rw [if_pos c] at hk2
        have h2 := of_decide_eq_true hk2
        rcases z k (by omega) with q | q | q
        · rw [h2.1] at q; exact absurd q (by decide)
        · exact absurd h2.2 q
        · exact q
      · rw [if_neg c] at hk2; exact absurd hk2 (by decide)
  cases q : asS f F T b mu with
  | true => exact (e.mp q).symm
  | false =>
    cases r : foS f F T I s km with
    | false => rfl
    | true => rw [e.mpr r] at q; exact absurd q (by decide)
theorem trail_end {N : Mem} {k : Nat} {V : TV} {f : Int → Int} {c : Int} {r : Nat × Option Nat} (h : FolR N k V f c r) (w3 : wAhead r ≤ (r.1 : Int)) (w5 : r.1 < 48) : t_Trail_end N k = if wRound r ≤ 0 then wEnd f c r else -2 := by
  obtain ⟨f1, f2, f3, f4, f5⟩ := h
  unfold t_Trail_end
  simp (config := { proj := false }) only [qlet]
  rw [f3, f1, w32_id (x := (r.1 : Int) + 1 - 1) (by unfold InR; omega), show (r.1 : Int) + 1 - 1 = (r.1 : Int) by omega]
  by_cases z : wRound r ≤ 0
  · rw [if_pos z, if_pos z, look_in (by omega) (by omega), f5 r.1 (Nat.le_refl _)]
    obtain ⟨i, o⟩ := r
    cases o with
    | none => rfl
    | some a =>
      unfold wRound at z
      unfold wAhead at w3
      dsimp only at z w3
      omega
  · rw [if_neg z, if_neg z]
section CFIT
variable {V : TV} {T : Nat} {M M0 : Mem} {D A S L : Int → Int} {nets wat : Int64}
/-- notes that the class's bits name lie at cells -/
def NtR (M : Mem) (V : TV) (F Tt : Int → Int) (b : Int → Bool) (mu : Int) : Prop := ∀ k, 0 ≤ k → k < mu → b k = true → M.1 173 k = F k ∧ M.1 174 k = Tt k ∧ (0 ≤ F k ∧ F k < cellsV V) ∧ (Tt k = -1 ∨ 0 ≤ Tt k)
theorem c_as_L3 (hV : VOK V) (hT : T = 2 ∨ T = 22) (hX : CT0 M0 T V ∧ CTs M0 T V) (hS : CScF M0 52 V D A S L nets wat (wlV V)) {x1 : Int} {F Tt : Int → Int} {b : Int → Bool} {mu : Nat} (hmu : mu ≤ 24) (h5 : M0.1 172 5 = (mu : Int)) (hb : ∀ i, 0 ≤ i → i < 24 → ib x1 i = b i) (hN : NtR M0 V F Tt b (mu : Int)) : ∀ (n k fu : Nat) (M : Mem), k + n = mu → n < fu → Fr (W_Trail_follow 189) M0 M → asS (nxV V D nets (wlV V)) F Tt b k = true → ∃ N, t_Notes_areSo_L3 x1 T 52 189 fu M (k : Int) = some (N, if asS (nxV V D nets (wlV V)) F Tt b mu = true then 1 else 0) ∧ Fr (W_Trail_follow 189) M0 N := by
  have hC := hV.cells
  intro n
  induction n with
  | zero =>
    intro k fu M g0 g1 hF he
    obtain ⟨g, rfl⟩ : ∃ g, fu = g + 1 := ⟨fu - 1, by omega⟩
    rw [t_Notes_areSo_L3, (hF 172 5 (by unfold W_Trail_follow; omega)).1, h5, if_pos (by omega), show mu = k by omega, if_pos he]
    exact ⟨M, rfl, hF⟩
  | succ n ih =>
    intro k fu M g0 g1 hF he
    obtain ⟨g, rfl⟩ : ∃ g, fu = g + 1 := ⟨fu - 1, by omega⟩
    have XM : CT0 M T V ∧ CTs M T V := ⟨CT0.fr hF (fun q j x y z => by unfold W_Trail_follow at z; omega) hX.1, CTs.fr hF (fun q j x y z => by unfold W_Trail_follow at z; omega) hX.2⟩
    have SM := hS.fr hF (fun q j x z => by unfold CsW at x; unfold W_Trail_follow at z; omega)
    have ha : asS (nxV V D nets (wlV V)) F Tt b (k + 1) = decide (b (k : Int) = true → wyOK (nxV V D nets (wlV V)) (F (k : Int)) (Tt (k : Int))) := by rw [asS, he, Bool.true_and]
    rw [t_Notes_areSo_L3, (hF 172 5 (by unfold W_Trail_follow; omega)).1, h5, if_neg (by omega)]
    simp (config := { proj := false }) only [qlet]
    unfold t_Notes_areSo_L67 t_Notes_areSo_L72
    rw [bitOf_tb M _ (by omega) (by omega), tb_ib x1 (by omega) (by omega), hb (k : Int) (by omega) (by omega), w32_succ (by omega)]
    have yes : asS (nxV V D nets (wlV V)) F Tt b (k + 1) = true → ∀ N, Fr (W_Trail_follow 189) M0 N → ∃ O, t_Notes_areSo_L3 x1 T 52 189 g N ((k + 1 : Nat) : Int) = some (O, if asS (nxV V D nets (wlV V)) F Tt b mu = true then 1 else 0) ∧ Fr (W_Trail_follow 189) M0 O := fun e N q => ih (k + 1) g N (by omega) (by omega) q e
    have no : asS (nxV V D nets (wlV V)) F Tt b (k + 1) = false → ∀ N, Fr (W_Trail_follow 189) M0 N → ∃ O, (some (N, (0 : Int)) : Option (Mem × Int)) = some (O, if asS (nxV V D nets (wlV V)) F Tt b mu = true then 1 else 0) ∧ Fr (W_Trail_follow 189) M0 O := fun e N q => by
      rw [asS_mono (n := k + 1) (by omega) e, if_neg (show ¬ false = true by decide)]
      exact ⟨N, rfl, q⟩
    cases eb : b (k : Int) with
    | false =>
      rw [if_neg (show ¬ false = true by decide), if_neg (show ¬ (0 : Int) = 1 by decide)]
      exact yes (by rw [ha, eb]; rfl) M hF
    | true =>
      obtain ⟨m1, m2, m3, m4⟩ := hN (k : Int) (by omega) (by omega) eb
      rw [if_pos rfl, if_pos rfl, look_in (by omega) (by omega), (hF 173 _ (by unfold W_Trail_follow; omega)).1, m1]
      have wf := way_facts (c := F (k : Int)) hC.2 (nx_ok hV D nets (wlV V)) m3.1 m3.2
      obtain ⟨N, n1, n2, n3⟩ := c_follow (k := 189) (k2 := 52) hT (Or.inr rfl) (by omega) hV XM.1 XM.2 SM.sc m3.1 m3.2
      have fN := hF.trans n2
      have ha : asS (nxV V D nets (wlV V)) F Tt b (k + 1) = decide (wyOK (nxV V D nets (wlV V)) (F (k : Int)) (Tt (k : Int))) := by
        rw [ha, eb]
        exact decide_eq_decide.mpr ⟨fun z => z rfl, fun z _ => z⟩
      rw [n1, obind_some, look_in (by omega) (by omega), (fN 174 _ (by unfold W_Trail_follow; omega)).1, m2]
      have hend : t_Trail_end N 189 = if wRound (wayS (nxV V D nets (wlV V)) (F (k : Int))) ≤ 0 then wEnd (nxV V D nets (wlV V)) (F (k : Int)) (wayS (nxV V D nets (wlV V)) (F (k : Int))) else -2 := by
        exact trail_end n3 wf.2.2.1 wf.2.2.2.2.1
      have hnn : wRound (wayS (nxV V D nets (wlV V)) (F (k : Int))) ≤ 0 → 0 ≤ wEnd (nxV V D nets (wlV V)) (F (k : Int)) (wayS (nxV V D nets (wlV V)) (F (k : Int))) := fun z => by
        have ws := way_spec (c := F (k : Int)) hC.2 (nx_ok hV D nets (wlV V)) m3.1 m3.2
        unfold wEnd
        split
        · exact (wf.2.2.2.2.2 _ (Nat.le_refl _)).1
        · rename_i a e
          have := wf.2.2.2.2.2 a (by
            rcases ws.2.2 with q | ⟨a', q1, q2, -⟩
            · rw [q.1] at e; cases e
            · rw [q1] at e; cases e; exact q2)
          exact this.1
      have wr := wf.2.1
      have hwy : wyOK (nxV V D nets (wlV V)) (F (k : Int)) (Tt (k : Int)) ↔ (if Tt (k : Int) = -1 then ¬ wRound (wayS (nxV V D nets (wlV V)) (F (k : Int))) = 0 else wRound (wayS (nxV V D nets (wlV V)) (F (k : Int))) ≤ 0 ∧ wEnd (nxV V D nets (wlV V)) (F (k : Int)) (wayS (nxV V D nets (wlV V)) (F (k : Int))) = Tt (k : Int)) := Iff.rfl
      rw [hend]
      rcases m4 with e | e
      · have hwy := hwy.trans (by rw [if_pos e])
        rw [if_neg (show ¬ 0 ≤ Tt (k : Int) by omega)]
        by_cases z : wRound (wayS (nxV V D nets (wlV V)) (F (k : Int))) ≤ 0
        · have := hnn z
          rw [if_pos z, if_neg (by omega)]
          exact no (by rw [ha]; exact decide_eq_false (fun q => hwy.mp q (by omega))) N fN
        · rw [if_neg z, if_pos rfl]
          exact yes (by rw [ha]; exact decide_eq_true (hwy.mpr (by omega))) N fN
      · have hwy := hwy.trans (by rw [if_neg (show ¬ Tt (k : Int) = -1 by omega)])
        rw [if_pos e]
        by_cases z : wRound (wayS (nxV V D nets (wlV V)) (F (k : Int))) ≤ 0
        · rw [if_pos z]
          by_cases q : wEnd (nxV V D nets (wlV V)) (F (k : Int)) (wayS (nxV V D nets (wlV V)) (F (k : Int))) = Tt (k : Int)
          · rw [if_pos q]
            exact yes (by rw [ha]; exact decide_eq_true (hwy.mpr ⟨z, q⟩)) N fN
          · rw [if_neg q]
            exact no (by rw [ha]; exact decide_eq_false (fun y => q (hwy.mp y).2)) N fN
        · rw [if_neg z, if_neg (by omega)]
          exact no (by rw [ha]; exact decide_eq_false (fun y => z (hwy.mp y).1)) N fN
/-! settings -/
theorem c_sd_L5 {x3 code : Int} (e14 : M0.1 T 14 = V 0 2) (hV : VOK V) (hT : T = 2 ∨ T = 22) : ∀ (n w fu : Nat) (M : Mem) (r : Int), (w : Int) + (n : Int) = V 0 2 → n < fu → 0 ≤ r → r < 100000 → Fr (fun q _ => q = 53) M0 M → (∀ x : Nat, dgV x r = dgV (w + x) code) → (∀ x, 0 ≤ x → x < (w : Int) → M.1 53 x = dcV code x) → ∃ N, t_Notes_setDowns_L5 T 52 x3 fu M r (w : Int) = some N ∧ Fr (fun q _ => q = 53) M0 N ∧ ∀ x, 0 ≤ x → x < V 0 2 → N.1 53 x = dcV code x := by
  have hv := hV.1
  intro n
  induction n with
  | zero =>
    intro w fu M r g0 g1 g2 g3 hF hd hx
    obtain ⟨g, rfl⟩ : ∃ g, fu = g + 1 := ⟨fu - 1, by omega⟩
    rw [t_Notes_setDowns_L5, (hF T 14 (by omega)).1, e14, if_pos (by omega)]
    exact ⟨M, rfl, hF, fun x a b => hx x a (by omega)⟩
  | succ n ih =>
    intro w fu M r g0 g1 g2 g3 hF hd hx
    obtain ⟨g, rfl⟩ : ∃ g, fu = g + 1 := ⟨fu - 1, by omega⟩
    have hq := q5 g2 (by omega)
    rw [t_Notes_setDowns_L5, (hF T 14 (by omega)).1, e14, if_neg (by omega)]
    simp (config := { proj := false }) only [qlet]
    rw [put_in (by omega) (by omega), w32_succ (by omega)]
    refine ih (w + 1) g _ (q_div r 5) (by omega) (by omega) (by rw [hq.2]; omega) (by rw [hq.2]; omega) (hF.setI rfl) (fun x => by
      have := hd (x + 1)
      rw [dgV] at this
      rw [this, show w + (x + 1) = w + 1 + x by omega]) (fun x a b => by
      by_cases e : x = (w : Int)
      · subst e
        have := hd 0
        rw [dgV, Nat.add_zero] at this
        unfold dcV
        rw [Int.toNat_natCast]
        exact (sI_self _ _ _ _).trans this
      · rw [sI_ne (by omega)]; exact hx x a (by omega))
def FfW : Nat → Int → Prop := fun q j => q = 53 ∨ W_Trail_follow 189 q j ∨ (q = 172 ∧ j = 4) ∨ q = 176
theorem FfW_q {q : Nat} {j : Int} (z : FfW q j) : q = 53 ∨ (q = 172 ∧ j = 4) ∨ q = 176 ∨ q = 189 ∨ q = 190 := by
  unfold FfW W_Trail_follow at z
  omega
theorem c_ff_L94 {k4 : Nat} {v4 v5 v6 : Int} {bk : Mem → Int → Int → Int → Option Mem} (hV : VOK V) (hT : T = 2 ∨ T = 22) (e14 : M0.1 T 14 = V 0 2) {B Dn : Int → Int} (h53 : ∀ w, 0 ≤ w → w < V 0 2 → M0.1 53 w = Dn w) (hB : ∀ w, 0 ≤ w → w < V 0 2 → M0.1 176 w = B w) (h6 : 0 ≤ v6 ∧ v6 < 1000) : ∀ (n fu : Nat) (M : Mem) (w : Int), w + (n : Int) = V 0 2 → 0 ≤ w → n < fu → Fr (fun q _ => q = 176) M0 M → (∀ x, 0 ≤ x → x < V 0 2 → M.1 176 x = if x < w then q_or (B x) (q_shl 1 (Dn x)) else B x) → ∃ N, t_Notes_findFits_L94 T 47 52 k4 bk fu M v4 v5 v6 w = bk N v4 v5 (v6 + 1) ∧ Fr (fun q _ => q = 176) M0 N ∧ ∀ x, 0 ≤ x → x < V 0 2 → N.1 176 x = q_or (B x) (q_shl 1 (Dn x)) := by
  have hv := hV.1
  intro n
  induction n with
  | zero =>
    intro fu M w g0 g1 g2 hF hx
    obtain ⟨g, rfl⟩ : ∃ g, fu = g + 1 := ⟨fu - 1, by omega⟩
    rw [t_Notes_findFits_L94, (hF T 14 (by omega)).1, e14, if_pos (by omega)]
    unfold t_Notes_findFits_L139
    rw [w32_id (x := v6 + 1) (by unfold InR; omega)]
    exact ⟨M, rfl, hF, fun x a b => by rw [hx x a b, if_pos (by omega)]⟩
  | succ n ih =>
    intro fu M w g0 g1 g2 hF hx
    obtain ⟨g, rfl⟩ : ∃ g, fu = g + 1 := ⟨fu - 1, by omega⟩
    rw [t_Notes_findFits_L94, (hF T 14 (by omega)).1, e14, if_neg (by omega)]
    simp (config := { proj := false }) only [qlet]
    rw [look_in (by omega) (by omega), look_in (by omega) (by omega), put_in (by omega) (by omega), (hF (52 + 1) w (by omega)).1, h53 w g1 (by omega), hx w g1 (by omega), if_neg (show ¬ w < w by omega), w32_id (x := w + 1) (by unfold InR; omega)]
    refine ih g _ (w + 1) (by omega) (by omega) (by omega) (hF.setI rfl) (fun x a b => ?_)
    by_cases e : x = w
    · rw [e, sI_self, if_pos (by omega)]
    · rw [sI_ne (by omega), hx x a b]
      by_cases z : x < w
      · rw [if_pos z, if_pos (by omega)]
      · rw [if_neg z, if_neg (by omega)]
theorem c_ff_L54 (hV : VOK V) (hT : T = 2 ∨ T = 22) (hX : CT0 M0 T V ∧ CTs M0 T V) (hS : CScF M0 52 V D A S L nets wat (wlV V)) {x1 : Int} {F Tt : Int → Int} {b : Int → Bool} {mu : Nat} (hmu : mu ≤ 24) (h5 : M0.1 172 5 = (mu : Int)) (hb : ∀ i, 0 ≤ i → i < 24 → ib x1 i = b i) (hN : NtR M0 V F Tt b (mu : Int)) {ft : Int → Bool} (hft : ∀ code, 0 ≤ code → code < 625 → ft code = asS (nxV V (dcV code) nets (wlV V)) F Tt b mu) {all : Nat} (hall : all ≤ 625) : ∀ (n code fu : Nat) (M : Mem), code + n = all → n < fu → Fr FfW M0 M → M.1 172 4 = fcS ft code → (∀ w, 0 ≤ w → w < V 0 2 → M.1 176 w = fmS ft w code) → ∃ N, t_Notes_findFits_L54 T 47 52 189 fu M x1 (all : Int) (code : Int) = some N ∧ Fr FfW M0 N ∧ N.1 172 4 = fcS ft all ∧ ∀ w, 0 ≤ w → w < V 0 2 → N.1 176 w = fmS ft w all := by
  have hv := hV.1
  intro n
  induction n with
  | zero =>
    intro code fu M g0 g1 hF h4 hw
    obtain ⟨g, rfl⟩ : ∃ g, fu = g + 1 := ⟨fu - 1, by omega⟩
    have : all = code := by omega
    subst this
    rw [t_Notes_findFits_L54, if_pos (by omega)]
    exact ⟨M, rfl, hF, h4, hw⟩
  | succ n ih =>
    intro code fu M g0 g1 hF h4 hw
    obtain ⟨g, rfl⟩ : ∃ g, fu = g + 1 := ⟨fu - 1, by omega⟩
    have XM : CT0 M T V ∧ CTs M T V := ⟨CT0.fr hF (fun q j x y z => by have := FfW_q z; omega) hX.1, CTs.fr hF (fun q j x y z => by have := FfW_q z; omega) hX.2⟩
    have e14 : M.1 T 14 = V 0 2 := XM.1.1.2.2.1
    obtain ⟨N1, a1, a2, a3⟩ := c_sd_L5 (M0 := M) (x3 := (code : Int)) (code := (code : Int)) e14 hV hT (V 0 2).toNat 0 FU M (code : Int) (by omega) (fu_big (by omega)) (by omega) (by omega) Fr.rf (fun x => by rw [Nat.zero_add]) (fun x a b => by omega)
    have a1 : t_Notes_setDowns_L5 T 52 (code : Int) FU M (code : Int) 0 = some N1 := a1
    have f1 : Fr FfW M0 N1 := hF.trans (a2.mono (fun q j z => Or.inl z))
    have X1 : CT0 N1 T V ∧ CTs N1 T V := ⟨CT0.fr a2 (fun q j x y z => by omega) XM.1, CTs.fr a2 (fun q j x y z => by omega) XM.2⟩
    have S1 : CScF N1 52 V (dcV (code : Int)) A S L nets wat (wlV V) := by
      obtain ⟨s1, s2, s3, s4, s5⟩ := hS
      have e : ∀ q j, q = 52 ∨ q = 54 ∨ q = 55 ∨ q = 56 → N1.1 q j = M0.1 q j ∧ N1.2 q j = M0.2 q j := fun q j y => f1 q j (fun z => by have := FfW_q z; omega)
      refine ⟨fun x a b => a3 x a b, fun t a b => ?_, ?_, ?_, fun c a b => ?_⟩
      · rw [(e (52 + 2) t (by omega)).1, (e (52 + 3) t (by omega)).1, (e (52 + 4) t (by omega)).1]; exact s2 t a b
      · rw [(e 52 5 (by omega)).2]; exact s3
      · rw [(e 52 6 (by omega)).2]; exact s4
      · rw [(e 52 4 (by omega)).2]; exact s5 c a b
    have h51 : N1.1 172 5 = (mu : Int) := ((f1 172 5 (fun z => by have := FfW_q z; omega)).1).trans h5
    have hN1 : NtR N1 V F Tt b (mu : Int) := fun k x y z => by
      rw [(f1 173 k (fun z => by have := FfW_q z; omega)).1, (f1 174 k (fun z => by have := FfW_q z; omega)).1]
      exact hN k x y z
    obtain ⟨N2, b1, b2⟩ := c_as_L3 (M0 := N1) (x1 := x1) hV hT X1 S1 hmu h51 hb hN1 mu 0 FU N1 (by omega) (fu_big (by omega)) Fr.rf rfl
    have b1 : t_Notes_areSo_L3 x1 T 52 189 FU N1 0 = some (N2, if asS (nxV V (dcV (code : Int)) nets (wlV V)) F Tt b mu = true then 1 else 0) := b1
    rw [← hft (code : Int) (by omega) (by omega)] at b1
    have f2 : Fr FfW M0 N2 := f1.trans (b2.mono (fun q j z => Or.inr (Or.inl z)))
    have fc := fcS_rng ft code
    have e4 : N2.1 172 4 = fcS ft code := ((b2 172 4 (by unfold W_Trail_follow; omega)).1).trans (((a2 172 4 (by omega)).1).trans h4)
    have e176 : ∀ w, 0 ≤ w → w < V 0 2 → N2.1 176 w = fmS ft w code := fun w x y => ((b2 176 w (by unfold W_Trail_follow; omega)).1).trans (((a2 176 w (by omega)).1).trans (hw w x y))
    rw [t_Notes_findFits_L54, if_neg (by omega)]
    unfold t_Notes_setDowns t_Notes_areSo
    rw [a1, obind_some, b1, obind_some]
    unfold t_Notes_findFits_L139
    have ih := ih (code + 1) g
    cases et : ft (code : Int) with
    | false =>
      rw [if_neg (show ¬ false = true by decide)]
      show ∃ N, (if (0 : Int) = 0 then t_Notes_findFits_L54 T 47 52 189 g N2 x1 (all : Int) (w32 ((code : Int) + 1)) else _) = some N ∧ _
      rw [if_pos rfl, w32_succ (by omega)]
      exact ih N2 (by omega) (by omega) f2 (by rw [e4, fcS, et, if_neg (show ¬ false = true by decide), Int.add_zero]) (fun w x y => by rw [e176 w x y, fmS, et, if_neg (show ¬ false = true by decide)])
    | true =>
      rw [if_pos rfl]
      show ∃ N, (if (1 : Int) = 0 then _ else qlet (setI N2 172 4 (w32 (N2.1 172 4 + 1))) fun M17 => t_Notes_findFits_L94 T 47 52 189 (fun a0_ a1_ a2_ a3_ => t_Notes_findFits_L54 T 47 52 189 g a0_ a1_ a2_ a3_) FU M17 x1 (all : Int) (code : Int) 0) = some N ∧ _
      rw [if_neg (show ¬ (1 : Int) = 0 by decide), e4, w32_id (x := fcS ft code + 1) (by unfold InR; omega)]
      simp (config := { proj := false }) only [qlet]
      have f3 : Fr (fun q j => q = 172 ∧ j = 4) N2 (setI N2 172 4 (fcS ft code + 1)) := Fr.rf.setI ⟨rfl, rfl⟩
      have v3 : (setI N2 172 4 (fcS ft code + 1)).1 172 4 = fcS ft code + 1 := sI_self _ _ _ _
      generalize setI N2 172 4 (fcS ft code + 1) = N3 at *
      have e53 : ∀ w, 0 ≤ w → w < V 0 2 → N3.1 53 w = dcV (code : Int) w := fun w x y => ((f3 53 w (by omega)).1).trans (((b2 53 w (by unfold W_Trail_follow; omega)).1).trans (a3 w x y))
      have e14' : N3.1 T 14 = V 0 2 := ((f3 T 14 (by omega)).1).trans (((b2 T 14 (by unfold W_Trail_follow; omega)).1).trans X1.1.1.2.2.1)
      obtain ⟨N4, c1, c2, c3⟩ := c_ff_L94 (M0 := N3) (k4 := 189) (v4 := x1) (v5 := (all : Int)) (v6 := (code : Int)) (bk := fun a0_ a1_ a2_ a3_ => t_Notes_findFits_L54 T 47 52 189 g a0_ a1_ a2_ a3_) (B := fun w => fmS ft w code) (Dn := dcV (code : Int)) hV hT e14' e53 (fun w x y => ((f3 176 w (by omega)).1).trans (e176 w x y)) (by omega) (V 0 2).toNat FU N3 0 (by omega) (by omega) (fu_big (by omega)) Fr.rf (fun x a b => by rw [if_neg (show ¬ x < 0 by omega), (f3 176 x (by omega)).1, e176 x a b])
      rw [c1, show (code : Int) + 1 = ((code + 1 : Nat) : Int) by omega]
      refine ih N4 (by omega) (by omega) ((f2.trans (f3.mono (fun q j z => by unfold FfW; omega))).trans (c2.mono (fun q j z => by unfold FfW; omega))) ?_ (fun w x y => ?_)
      · rw [(c2 172 4 (by omega)).1, v3, fcS, et, if_pos rfl]
      · rw [c3 w x y, fmS, et, if_pos rfl]
end CFIT
theorem c_ff_L17 {M : Mem} {T : Nat} {V : TV} {k2 k3 k4 : Nat} {v4 : Int} (hV : VOK V) (e14 : M.1 T 14 = V 0 2) : ∀ (n w fu : Nat), (w : Int) + (n : Int) = V 0 2 → n < fu → t_Notes_findFits_L17 T k2 k3 k4 fu M v4 (p5 w) (w : Int) = qlet (setI M 172 4 0) (fun M7 => obind (t_Arrays_fill M7 176 4 0) (fun q8 => t_Notes_findFits_L54 T k2 k3 k4 FU q8 v4 (p5 (V 0 2).toNat) 0)) := by
  have hv := hV.1
  intro n
  induction n with
  | zero =>
    intro w fu g0 g1
    obtain ⟨g, rfl⟩ : ∃ g, fu = g + 1 := ⟨fu - 1, by omega⟩
    rw [t_Notes_findFits_L17, e14, if_pos (by omega), show (V 0 2).toNat = w by omega]
  | succ n ih =>
    intro w fu g0 g1
    obtain ⟨g, rfl⟩ : ∃ g, fu = g + 1 := ⟨fu - 1, by omega⟩
    have hp := p5_rng (n := (w : Int)) (by omega) (by omega)
    rw [Int.toNat_natCast] at hp
    rw [t_Notes_findFits_L17, e14, if_neg (by omega), w32_id (x := p5 w * 5) (by unfold InR; omega), w32_succ (by omega)]
    exact ih (w + 1) g (by omega) (by omega)
theorem c_findFits {M : Mem} {V : TV} (hTT : (M.1 0 4).toNat = 2 ∨ (M.1 0 4).toNat = 22) (hR : RI M V) (hX : CTx M (M.1 0 4).toNat V) (hRL : RL M V) : ∃ N, t_Notes_findFits M (M.1 0 4).toNat 47 52 189 = some N ∧ Fr QkW M N ∧ N.1 172 4 = fcS (ftM M V) (p5 (V 0 2).toNat).toNat ∧ ∀ w, 0 ≤ w → w < V 0 2 → N.1 176 w = fmS (ftM M V) w (p5 (V 0 2).toNat).toNat := by
  have hV := hR.1.1
  have hv := hV.1
  have hS : CScF M 47 V (DN M 0) (AT M 0) (ST M 0) (LN M 0) (M.2 210 0) (M.2 211 0) (wlV V) := hRL.1
  obtain ⟨no1, no2, no3⟩ := hRL.2.2.2.2.1
  obtain ⟨nn1, nn2, nn3, nn4, nn5⟩ := hR.2.2.2.2.2
  have km := (m_known hR).2
  have p5r := p5_rng (n := V 0 2) (by omega) (by omega)
  unfold t_Notes_findFits
  simp (config := { proj := false }) only [qlet]
  obtain ⟨s1, s2⟩ := c_scopy (k0 := 52) (k1 := 47) hV (Or.inl (by omega)) hS
  generalize t_Scene_copy M 52 47 = M1 at *
  have e1 : ∀ q j, (q < 52 ∨ 56 < q) → M1.1 q j = M.1 q j := fun q j z => (s2 q j (by unfold CsW; omega)).1
  have hkb : t_Notes_knownBy M1 = kmS (M.1 191 61) (M.1 191 60) := by
    unfold t_Notes_knownBy kmS
    rw [e1 172 6 (by omega), e1 172 5 (by omega), no1, no2]
    by_cases z : M.1 191 61 = -1
    · rw [if_pos z, if_neg (by omega)]
    · rw [if_neg z, if_pos (by omega)]
  obtain ⟨m, hm⟩ : ∃ m : Nat, kmS (M.1 191 61) (M.1 191 60) = (m : Int) := ⟨(kmS (M.1 191 61) (M.1 191 60)).toNat, by omega⟩
  obtain ⟨mu, hmu⟩ : ∃ mu : Nat, M.1 191 60 = (mu : Int) := ⟨(M.1 191 60).toNat, by omega⟩
  have hF : ∀ k : Nat, k < m → ntI M (k : Int) ≠ 0 → ntF M (k : Int) < (k : Int) := fun k hk hi => by
    rcases nn5 (k : Int) (by omega) (by omega) with q | q
    · exact absurd q.1 hi
    · exact q.2.2
  have cno : CNo M1 (ntI M) (ntF M) (m : Int) := fun k a b => by
    rw [e1 175 k (by omega)]
    rcases no3 k a (by omega) with q | q
    · exact Or.inl ⟨q.1, q.2.2.2⟩
    · rcases nn5 k a (by omega) with r | r
      · omega
      · exact Or.inr ⟨by show ¬ M.1 228 k = 0; omega, q.2.1, r.2.1, r.2.2⟩
  obtain ⟨bits, b1, b2⟩ := c_kb_L11 (M := M1) (n := (m : Int)) (by omega) cno m FU 0 0 (fun _ => false) (fun _ => false) (by omega) (fu_big (by omega)) (fun i a _ => ib_zero i a) (fun i a _ => ib_zero i a)
  have hbits : t_Notes_knownBits M1 = some bits := by
    unfold t_Notes_knownBits
    simp only [qlet]
    rw [hkb, hm, w32_id (x := (m : Int) - 1) (by unfold InR; omega)]
    exact b1
  rw [hbits, obind_some]
  have e14 : M1.1 (M.1 0 4).toNat 14 = V 0 2 := (e1 _ _ (by omega)).trans hX.1.1.2.2.1
  have l17 := c_ff_L17 (M := M1) (T := (M.1 0 4).toNat) (k2 := 47) (k3 := 52) (k4 := 189) (v4 := bits) hV e14 (V 0 2).toNat 0 FU (by omega) (fu_big (by omega))
  have l17 : t_Notes_findFits_L17 (M.1 0 4).toNat 47 52 189 FU M1 bits 1 0 = _ := l17
  rw [l17]
  simp (config := { proj := false }) only [qlet]
  have f2 : Fr (fun q j => q = 172 ∧ j = 4) M1 (setI M1 172 4 0) := Fr.rf.setI ⟨rfl, rfl⟩
  have v2 : (setI M1 172 4 0).1 172 4 = 0 := sI_self _ _ _ _
  generalize setI M1 172 4 0 = M2 at *
  obtain ⟨M3, c1, c2, c3⟩ := c_fill (M := M2) (r := 176) (N1 := 4) (x := 0) (by omega)
  rw [c1, obind_some]
  have f3 : Fr (fun q j => (q = 172 ∧ j = 4) ∨ q = 176) M1 M3 := (f2.mono (fun q j z => Or.inl z)).trans (c2.mono (fun q j z => Or.inr z.1))
  have f13 : Fr (fun q j => (52 ≤ q ∧ q ≤ 56) ∨ (q = 172 ∧ j = 4) ∨ q = 176) M M3 := (s2.mono (fun q j z => by unfold CsW at z; omega)).trans (f3.mono (fun q j z => Or.inr z))
  have X3 : CT0 M3 (M.1 0 4).toNat V ∧ CTs M3 (M.1 0 4).toNat V := ⟨CT0.fr f13 (fun q j x y z => by omega) hX.1, CTs.fr f13 (fun q j x y z => by omega) hX.2.1⟩
  have S3 := s1.fr f3 (fun q j x z => by unfold CsW at x; omega)
  obtain ⟨all, hall⟩ : ∃ a : Nat, p5 (V 0 2).toNat = (a : Int) := ⟨(p5 (V 0 2).toNat).toNat, by omega⟩
  have hbk : ∀ i, 0 ≤ i → kbS (ntI M) (ntF M) m (fun _ => false) (fun _ => false) i = if i < (m : Int) then decide (skS (ntI M) (ntF M) m (fun _ => false) i = false ∧ ntI M i = 0) else false := fun i a => kbS_eq m (fun _ => false) (fun _ => false) hF (fun _ _ _ => rfl) i a
  have hsk : skM M = skS (ntI M) (ntF M) m (fun _ => false) := by
    unfold skM
    rw [hm, Int.toNat_natCast]
  have hNt : NtR M3 V (ntF M) (ntT M) (kbS (ntI M) (ntF M) m (fun _ => false) (fun _ => false)) (mu : Int) := fun k a b z => by
    rw [hbk k a] at z
    by_cases c : k < (m : Int)
    · rw [if_pos c] at z
      have z := of_decide_eq_true z
      have z2 : M.1 228 k = 0 := z.2
      rw [(f13 173 k (by omega)).1, (f13 174 k (by omega)).1]
      rcases no3 k a (by omega) with q | q
      · rcases nn5 k a (by omega) with r | r
        · exact ⟨q.2.1, q.2.2.1, ⟨r.2.1, r.2.2.1⟩, r.2.2.2.2.elim (fun y => Or.inl y) (fun y => Or.inr y.1)⟩
        · omega
      · omega
    · rw [if_neg c] at z; exact absurd z (by decide)
  have hft : ∀ code, 0 ≤ code → code < 625 → ftM M V code = asS (nxV V (dcV code) (M.2 210 0) (wlV V)) (ntF M) (ntT M) (kbS (ntI M) (ntF M) m (fun _ => false) (fun _ => false)) mu := fun code _ _ => by
    unfold ftM ftS
    rw [hm, Int.toNat_natCast, hsk]
    exact (as_fo (km := m) (mu := mu) (by omega) (fun k _ => hbk (k : Int) (by omega))).symm
  obtain ⟨N, n1, n2, n3, n4⟩ := c_ff_L54 (M0 := M3) (x1 := bits) (F := ntF M) (Tt := ntT M) (mu := mu) (ft := ftM M V) (all := all) hV hTT X3 S3 (by omega) (by rw [(f13 172 5 (by omega)).1, no1, hmu]) b2 hNt hft (by omega) all 0 FU M3 (by omega) (fu_big (by omega)) Fr.rf (by rw [(c2 172 4 (by omega)).1, v2]; rfl) (fun w x y => c3 w x (by omega))
  have n1 : t_Notes_findFits_L54 (M.1 0 4).toNat 47 52 189 FU M3 bits (all : Int) 0 = some N := n1
  rw [hall, n1, Int.toNat_natCast]
  exact ⟨N, rfl, (f13.mono (fun q j z => by unfold QkW; omega)).trans (n2.mono (fun q j z => by have := FfW_q z; unfold FfW W_Trail_follow at z; unfold QkW; omega)), n3, n4⟩
theorem ftM_q {M N : Mem} {V : TV} (hF : Fr QkW M N) : ftM N V = ftM M V := by
  have e : ∀ k, (k = 226 ∨ k = 227 ∨ k = 228) → ∀ j, N.1 k j = M.1 k j := fun k hk j => (hF k j (fun z => by have := qk_ri z; omega)).1
  have e1 : ntF N = ntF M := funext (e 226 (by omega))
  have e2 : ntT N = ntT M := funext (e 227 (by omega))
  have e3 : ntI N = ntI M := funext (e 228 (by omega))
  unfold ftM skM
  rw [e1, e2, e3, (hF 191 60 (fun z => by have := qk_ri z; omega)).1, (hF 191 61 (fun z => by have := qk_ri z; omega)).1, (hF 210 0 (fun z => by have := qk_ri z; omega)).2]
theorem bs_fits {M : Mem} (h : LI M) : Ok (fun q => Ok (fun r => q.2 = r.2 ∧ LI r.1) (t_MO_fits q.1)) (t_WF_fits M) := by
  have h' := h
  have hTT := h.T
  obtain ⟨hI, ⟨V, hR, hX, hRL⟩, -⟩ := h
  obtain ⟨N, n1, n2, n3, n4⟩ := c_findFits hTT.2 hR hX hRL
  have hw : t_WF_fits M = some (N, fcS (ftM M V) (p5 (V 0 2).toNat).toNat) := by
    unfold t_WF_fits
    rw [n1, obind_some, n3]
  obtain ⟨u, e, hu⟩ := sf_WF_fits hI
  have : u = _ := Option.some.inj (e.symm.trans hw)
  subst this
  have hLN : LI N := h'.q hu.1 n2
  have hRN : RI N V := hR.fr n2 (fun q j a z => by have := qk_ri z; have := ric_lo a; omega)
  obtain ⟨P, p1, p2⟩ := m_fits hRN
  rw [ftM_q n2] at p1
  have hIP := im_MO_fits hu.1 _ p1
  exact ⟨_, hw, _, p1, rfl, hLN.qm hIP.1 (p2.mono LF0_qm)⟩
theorem bs_may {M : Mem} (h : LI M) {x1 : Int} (h1 : InR x1) : Ok (fun q => Ok (fun r => q.2 = r.2 ∧ LI r.1) (t_MO_may q.1 x1)) (t_WF_may M x1) := by
  have h' := h
  have hTT := h.T
  obtain ⟨hI, ⟨V, hR, hX, hRL⟩, -⟩ := h
  have hV := hR.1.1
  have hv := hV.1
  have hcl : ∃ N, t_WF_may M x1 = some (N, if 0 ≤ x1 ∧ x1 < V 0 2 then fmS (ftM M V) x1 (p5 (V 0 2).toNat).toNat else -1) ∧ Fr QkW M N := by
    unfold t_WF_may
    simp (config := { proj := false }) only [qlet]
    rw [c_hasWard hX.1]
    by_cases c : 0 ≤ x1 ∧ x1 < V 0 2
    rotate_left
    · rw [if_neg c, if_pos rfl, if_neg c]; exact ⟨M, rfl, Fr.rf⟩
    obtain ⟨N, n1, n2, n3, n4⟩ := c_findFits hTT.2 hR hX hRL
    rw [if_pos c, if_neg (show ¬ (1 : Int) = 0 by decide), if_pos c, n1, obind_some, look_in c.1 (by omega), n4 x1 c.1 c.2]
    exact ⟨N, rfl, n2⟩
  obtain ⟨N, n1, n2⟩ := hcl
  obtain ⟨u, e, hu⟩ := sf_WF_may hI h1
  have : u = _ := Option.some.inj (e.symm.trans n1)
  subst this
  have hLN : LI N := h'.q hu.1 n2
  have hRN : RI N V := hR.fr n2 (fun q j a z => by have := qk_ri z; have := ric_lo a; omega)
  obtain ⟨P, p1, p2⟩ := m_may hRN x1
  rw [ftM_q n2] at p1
  have hIP := im_MO_may hu.1 h1 _ p1
  exact ⟨_, n1, _, p1, rfl, hLN.qm hIP.1 (p2.mono LF0_qm)⟩
end
