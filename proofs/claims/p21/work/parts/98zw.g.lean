section
/-! ===== the class's paths ===== -/
def GC (V : TV) (b wt co : Int → Int → Int) : Prop := ∀ c w, 0 ≤ c → c < cellsV V → 0 ≤ w → w < 4 → (co c w = -1 ∧ b c w = -1) ∨ (0 ≤ co c w ∧ co c w ≤ 999 ∧ 0 ≤ bsV V c w ∧ b c w = bsV V c w ∧ wt c w = co c w * 64 + 1)
def CoR (M : Mem) (V : TV) (co : Int → Int → Int) : Prop := ∀ c w, 0 ≤ c → c < cellsV V → 0 ≤ w → w < 4 → M.1 186 (c * 4 + w) = co c w
def fwC (x : Int) : Int := if x < BIG then x else -1
def LfR (M : Mem) (V : TV) (L : Int → Int) : Prop := ∀ x, 0 ≤ x → x < cellsV V → M.1 187 x = fwC (L x)
def W87 : Nat → Int → Prop := fun q _ => q = 187
section CPATH
variable {V : TV} {b wt co : Int → Int → Int} {T : Nat} {to : Int} {M0 M : Mem} {L : Int → Int}
theorem CoR.fr {W : Nat → Int → Prop} {N : Mem} (h : CoR M V co) (hF : Fr W M N) (hd : ∀ j, ¬ W 186 j) : CoR N V co := fun c w x y z u => by
  rw [(hF 186 _ (hd _)).1]
  exact h c w x y z u
theorem LfR.fr {W : Nat → Int → Prop} {N : Mem} (h : LfR M V L) (hF : Fr W M N) (hd : ∀ j, ¬ W 187 j) : LfR N V L := fun x y z => by
  rw [(hF 187 _ (hd _)).1]
  exact h x y z
theorem c_leftBy (hV : VOK V) (hX : CTs M T V) (hC : CoR M V co) (hL : LfR M V L) (hg : GC V b wt co) (hG : GOK b wt (CN V)) (hGI : GI b wt (CN V) to L) {c w : Int} (c0 : 0 ≤ c) (c1 : c < cellsV V) (w0 : 0 ≤ w) (w1 : w < 4) : t_Paths_leftBy M T c w = if 0 ≤ b c w ∧ L (b c w) < BIG then L (b c w) + wt c w else -1 := by
  have hc := hV.cells
  have hN := CN_eq hV
  unfold t_Paths_leftBy
  simp only [qlet]
  rw [w32_id (x := c * 4) (by unfold InR; omega), w32_id (x := c * 4 + w) (by unfold InR; omega), look_in (by omega) (by omega), hC c w c0 c1 w0 w1, c_beside hX hV c0 c1 w]
  have hb := bs_rng hV c0 c1 w
  rcases hg c w c0 c1 w0 w1 with ⟨e1, e2⟩ | ⟨e1, e2, e3, e4, e5⟩
  · rw [e1, e2, if_pos (show (-1 : Int) < 0 by decide), if_neg (show ¬ ((0 : Int) ≤ -1 ∧ L (-1) < BIG) from fun z => by omega)]
  · rw [if_neg (show ¬ co c w < 0 by omega), look_in e3 (by omega), hL _ e3 hb.2, e4, e5]
    have g := hGI.2 (bsV V c w) e3 (by omega)
    unfold fwC
    by_cases q : L (bsV V c w) < BIG
    · have t := hGI.top hG e3 (c := bsV V c w) (by omega) q
      rw [if_pos q, if_pos g.1, if_pos ⟨e3, q⟩, w32_id (x := co c w * 64) (by unfold InR; omega), w32_id (x := L (bsV V c w) + co c w * 64) (by unfold InR; omega), w32_id (x := L (bsV V c w) + co c w * 64 + 1) (by unfold InR; omega)]
      omega
    · rw [if_neg q, if_neg (show ¬ (0 : Int) ≤ -1 by decide), if_neg (fun z => q z.2)]
theorem c_sp_L15 (hV : VOK V) (hT : T = 2 ∨ T = 22) (hX : CTs M0 T V) (hC : CoR M0 V co) (hg : GC V b wt co) (hG : GOK b wt (CN V)) {c : Int} {bk : Mem → Int → Int → Option (Mem × Int)} (c0 : 0 ≤ c) (c1 : c < cellsV V) (LS Ls : Int → Int) (hs : ∀ x, Ls x ≤ LS x) (hgi : GI b wt (CN V) to Ls) : ∀ (n w fu : Nat) (M : Mem) (v : Int), w + n = 4 → n < fu → Fr W87 M0 M → LfR M V (rcG b wt Ls c w) → Flg (CN V) LS (rcG b wt Ls c w) v → ∃ N u, t_Paths_spread_L15 T bk fu M v c (w : Int) = bk N u (c + 1) ∧ Fr W87 M0 N ∧ LfR N V (rcG b wt Ls c 4) ∧ Flg (CN V) LS (rcG b wt Ls c 4) u := by
  have hc := hV.cells
  have hN := CN_eq hV
  have hB : BIG = 100000000 := rfl
  intro n
  induction n with
  | zero =>
    intro w fu M v g0 g1 hF hP hf
    obtain ⟨g, rfl⟩ : ∃ g, fu = g + 1 := ⟨fu - 1, by omega⟩
    have hw : w = 4 := by omega
    subst hw
    rw [t_Paths_spread_L15, if_pos (by omega), w32_id (x := c + 1) (by unfold InR; omega)]
    exact ⟨M, v, rfl, hF, hP, hf⟩
  | succ n ih =>
    intro w fu M v g0 g1 hF hP hf
    obtain ⟨g, rfl⟩ : ∃ g, fu = g + 1 := ⟨fu - 1, by omega⟩
    have XM : CTs M T V := CTs.fr hF (fun k j x y z => by unfold W87 at z; omega) hX
    have CM : CoR M V co := hC.fr hF (fun j z => by unfold W87 at z; omega)
    have hcur := rcG_GI hG hgi c0 (c := c) (by omega) w (by omega)
    have nx := fun N u q1 q2 q3 => ih (w + 1) g N u (by omega) (by omega) q1 q2 q3
    rw [rcG] at nx
    have hle : rcG b wt Ls c w c ≤ Ls c := rcG_le _ _ _ _
    have hsc := hs c
    rw [t_Paths_spread_L15, if_neg (by omega)]
    simp (config := { proj := false }) only [qlet]
    rw [c_leftBy hV XM CM hP hg hG hcur c0 c1 (by omega) (by omega), look_in c0 (by omega), hP c c0 c1]
    unfold t_Paths_spread_L58 t_Paths_spread_L70
    simp (config := { proj := false }) only [qlet]
    rw [w32_succ (by omega)]
    generalize rcG b wt Ls c w = L at *
    have gc := hcur.2 c c0 (by omega)
    have skip : rlG b wt L c (w : Int) = L → ∃ N u, t_Paths_spread_L15 T bk g M v c ((w + 1 : Nat) : Int) = bk N u (c + 1) ∧ Fr W87 M0 N ∧ LfR N V (rcG b wt Ls c 4) ∧ Flg (CN V) LS (rcG b wt Ls c 4) u := fun e => by
      rw [e] at nx
      exact nx M v hF hP hf
    by_cases p : 0 ≤ b c (w : Int) ∧ L (b c (w : Int)) < BIG
    rotate_left
    · rw [if_neg p, if_pos (show (-1 : Int) < 0 by decide)]
      refine skip ?_
      unfold rlG
      refine if_neg (fun z => p ⟨z.1, ?_⟩)
      rcases hg c (w : Int) c0 c1 (by omega) (by omega) with ⟨e1, e2⟩ | ⟨e1, e2, e3, e4, e5⟩
      · omega
      · have := z.2; omega
    rw [if_pos p]
    have hbl : b c (w : Int) < (CN V : Int) := (hG.2 c (w : Int) c0 (by omega) (by omega) (by omega)).1
    have hwt := (hG.2 c (w : Int) c0 (by omega) (by omega) (by omega)).2 p.1
    have gd := hcur.2 (b c (w : Int)) p.1 hbl
    have td := hcur.top hG p.1 hbl p.2
    rw [if_neg (show ¬ L (b c (w : Int)) + wt c (w : Int) < 0 by omega)]
    have put : L (b c (w : Int)) + wt c (w : Int) < L c → ∃ N u, t_Paths_spread_L15 T bk g (t_WF_put M 187 48 c (L (b c (w : Int)) + wt c (w : Int))) 1 c ((w + 1 : Nat) : Int) = bk N u (c + 1) ∧ Fr W87 M0 N ∧ LfR N V (rcG b wt Ls c 4) ∧ Flg (CN V) LS (rcG b wt Ls c 4) u := fun q => by
      have erl : rlG b wt L c (w : Int) = updG L c (L (b c (w : Int)) + wt c (w : Int)) := by
        unfold rlG
        rw [if_pos ⟨p.1, q⟩]
      rw [erl] at nx
      rw [put_in c0 (by omega)]
      refine nx _ _ (hF.setI rfl) (fun x x0 x1 => ?_) (Or.inr ⟨rfl, c, c0, by omega, ?_⟩)
      · by_cases ex : x = c
        · subst ex
          rw [sI_self]
          unfold updG fwC
          rw [if_pos rfl, if_pos (by omega)]
        · rw [sI_ne (by omega)]
          unfold updG
          rw [if_neg ex]
          exact hP x x0 x1
      · unfold updG
        rw [if_pos rfl]
        omega
    unfold fwC
    by_cases q1 : L c < BIG
    · rw [if_pos q1, if_neg (show ¬ L c < 0 by omega)]
      by_cases q : L c ≤ L (b c (w : Int)) + wt c (w : Int)
      · rw [if_pos q]
        refine skip ?_
        unfold rlG
        exact if_neg (fun z => by have := z.2; omega)
      · rw [if_neg q]
        exact put (by omega)
    · rw [if_neg q1, if_pos (show (-1 : Int) < 0 by decide)]
      exact put (by omega)
theorem c_sp_L4 (hV : VOK V) (hT : T = 2 ∨ T = 22) (hX : CTs M0 T V) (hC : CoR M0 V co) (hg : GC V b wt co) (hG : GOK b wt (CN V)) (LS : Int → Int) (hgi : GI b wt (CN V) to LS) : ∀ (n c fu : Nat) (M : Mem) (v : Int), c + n = CN V → n < fu → Fr W87 M0 M → LfR M V (rdG b wt LS c) → Flg (CN V) LS (rdG b wt LS c) v → ∃ N u, t_Paths_spread_L4 T fu M v (c : Int) = some (N, u) ∧ Fr W87 M0 N ∧ LfR N V (rdG b wt LS (CN V)) ∧ Flg (CN V) LS (rdG b wt LS (CN V)) u := by
  have hc := hV.cells
  have hN := CN_eq hV
  intro n
  induction n with
  | zero =>
    intro c fu M v g0 g1 hF hP hf
    obtain ⟨g, rfl⟩ : ∃ g, fu = g + 1 := ⟨fu - 1, by omega⟩
    rw [t_Paths_spread_L4, (hF T 13 (by unfold W87; omega)).1, hX.1, if_pos (by omega)]
    have hcc : c = CN V := by omega
    subst hcc
    exact ⟨M, v, rfl, hF, hP, hf⟩
  | succ n ih =>
    intro c fu M v g0 g1 hF hP hf
    obtain ⟨g, rfl⟩ : ∃ g, fu = g + 1 := ⟨fu - 1, by omega⟩
    rw [t_Paths_spread_L4, (hF T 13 (by unfold W87; omega)).1, hX.1, if_neg (by omega)]
    obtain ⟨N, u, n1, n2, n3, n4⟩ := c_sp_L15 (bk := fun a0_ a1_ a2_ => t_Paths_spread_L4 T g a0_ a1_ a2_) hV hT hX hC hg hG (c := (c : Int)) (by omega) (by omega) LS (rdG b wt LS c) (fun x => rdG_le _ _ _) (rdG_GI hG hgi c (by omega)) 4 0 FU M v (by omega) (fu_big (by omega)) hF hP hf
    rw [show ((0 : Nat) : Int) = 0 from rfl] at n1
    rw [n1, show (c : Int) + 1 = ((c + 1 : Nat) : Int) by omega]
    exact ih (c + 1) g N u (by omega) (by omega) n2 n3 n4
theorem c_find_L23 (hV : VOK V) (hT : T = 2 ∨ T = 22) (hX : CTs M0 T V) (hC : CoR M0 V co) (hg : GC V b wt co) (hG : GOK b wt (CN V)) {x2 x3 : Int} (LS : Int → Int) (hgi : GI b wt (CN V) to LS) : ∀ (n j fu : Nat) (M : Mem), j + n = 48 → n + 1 < fu → Fr W87 M0 M → LfR M V (itG b wt (CN V) LS j) → ∃ N, t_Paths_find_L23 T x2 x3 fu M 1 (j : Int) = t_Paths_find_L48 T x2 x3 N ∧ Fr W87 M0 N ∧ LfR N V (itG b wt (CN V) LS 47) := by
  have hc := hV.cells
  have hN := CN_eq hV
  have cv := it_conv hG hgi
  intro n
  induction n with
  | zero =>
    intro j fu M g0 g1 hF hP
    obtain ⟨g, rfl⟩ : ∃ g, fu = g + 2 := ⟨fu - 2, by omega⟩
    rw [t_Paths_find_L23, if_pos (by omega)]
    refine ⟨M, rfl, hF, fun x x0 x1 => ?_⟩
    rw [← cv.2 j (by omega) x x0 (by omega)]
    exact hP x x0 x1
  | succ n ih =>
    intro j fu M g0 g1 hF hP
    obtain ⟨g, rfl⟩ : ∃ g, fu = g + 2 := ⟨fu - 2, by omega⟩
    rw [t_Paths_find_L23, if_neg (by omega), if_neg (show ¬ (1 : Int) = 0 by decide)]
    unfold t_Paths_spread
    obtain ⟨N, u, n1, n2, n3, n4⟩ := c_sp_L4 hV hT hX hC hg hG _ (itG_GI hG hgi j) (CN V) 0 FU M 0 (by omega) (fu_big (by omega)) hF hP (Or.inl ⟨rfl, rfl⟩)
    rw [show ((0 : Nat) : Int) = 0 from rfl] at n1
    rw [n1, obind_some]
    show ∃ N', t_Paths_find_L23 T x2 x3 (g + 1) N u (w32 ((j : Int) + 1)) = _ ∧ _
    rw [w32_succ (by omega)]
    rcases n4 with ⟨u0, e⟩ | ⟨u1, -⟩
    · have l48 : t_Paths_find_L23 T x2 x3 (g + 1) N u ((j + 1 : Nat) : Int) = t_Paths_find_L48 T x2 x3 N := by
        rw [t_Paths_find_L23]
        by_cases q : 48 ≤ ((j + 1 : Nat) : Int)
        · rw [if_pos q]
        · rw [if_neg q, if_pos u0]
      rw [l48]
      refine ⟨N, rfl, n2, ?_⟩
      have same : ∀ m, itG b wt (CN V) LS (j + m) = itG b wt (CN V) LS j := by
        intro m
        induction m with
        | zero => rfl
        | succ m im => rw [show j + (m + 1) = (j + m) + 1 by omega, itG, im]; exact e
      rw [show 47 = j + (47 - j) by omega, same]
      rw [e] at n3
      exact n3
    · rw [u1]
      exact ih (j + 1) (g + 1) N (by omega) (by omega) n2 n3
/-! the way back -/
theorem c_tr_L45 (hV : VOK V) (hX : CTs M T V) (hC : CoR M V co) (hL : LfR M V L) (hg : GC V b wt co) (hG : GOK b wt (CN V)) (hGI : GI b wt (CN V) to L) (hF : Fix b wt (CN V) L) {x2 c i : Int} {bk : Mem → Int → Int → Option Mem} (c0 : 0 ≤ c) (c1 : c < cellsV V) (hb : L c < BIG) (hne : L c ≠ 0) (hi : 0 ≤ i ∧ i < 100) : ∀ (n fu : Nat) (w : Int), w + (n : Int) = ndG b wt L c → 0 ≤ w → n < fu → t_Paths_trace_L45 T x2 bk fu M c i w = bk M (b c (ndG b wt L c)) (i + 1) := by
  have hc := hV.cells
  have hN := CN_eq hV
  have nd := nd_some hG hGI hF c0 (c := c) (by omega) hb hne
  have gc := hGI.2 c c0 (by omega)
  generalize hnd : ndG b wt L c = m at *
  have l76 : ∀ w, w = m → t_Paths_trace_L76 T x2 bk M c i w = bk M (b c m) (i + 1) := fun w e => by
    unfold t_Paths_trace_L76
    simp only [qlet]
    rw [c_beside hX hV c0 c1 w, w32_id (x := i + 1) (by unfold InR; omega), e]
    rcases hg c m c0 c1 nd.1.1 nd.1.2 with ⟨e1, e2⟩ | ⟨e1, e2, e3, e4, e5⟩
    · have := nd.2.1.1; omega
    · rw [e4]
  have tst : ∀ w, 0 ≤ w → w < 4 → (t_Paths_leftBy M T c w = t_WF_look M 187 48 c ↔ mtG b wt L c w) := by
    intro w w0 w1
    rw [c_leftBy hV hX hC hL hg hG hGI c0 c1 w0 w1, look_in c0 (by omega), hL c c0 c1]
    unfold fwC mtG
    rw [if_pos hb]
    have hwt := (hG.2 c w c0 (by omega) w0 w1).2
    by_cases p : 0 ≤ b c w ∧ L (b c w) < BIG
    · rw [if_pos p]
      exact ⟨fun z => ⟨p.1, z⟩, fun z => z.2⟩
    · rw [if_neg p]
      refine ⟨fun z => ?_, fun z => ?_⟩
      · omega
      · exfalso
        have := hwt z.1
        exact p ⟨z.1, by have := z.2; omega⟩
  intro n
  induction n with
  | zero =>
    intro fu w g0 g1 g2
    obtain ⟨g, rfl⟩ : ∃ g, fu = g + 1 := ⟨fu - 1, by omega⟩
    have hw : w = m := by omega
    rw [t_Paths_trace_L45]
    by_cases q : 3 ≤ w
    · rw [if_pos q]; exact l76 w hw
    · rw [if_neg q]
      simp only [qlet]
      rw [if_pos ((tst w g1 (by omega)).mpr (by rw [hw]; exact nd.2.1))]
      exact l76 w hw
  | succ n ih =>
    intro fu w g0 g1 g2
    obtain ⟨g, rfl⟩ : ∃ g, fu = g + 1 := ⟨fu - 1, by omega⟩
    have hm := nd.1.2
    rw [t_Paths_trace_L45, if_neg (by omega)]
    simp only [qlet]
    rw [if_neg (fun z => nd.2.2 w g1 (by omega) ((tst w g1 (by omega)).mp z)), w32_id (x := w + 1) (by unfold InR; omega)]
    exact ih g (w + 1) (by omega) (by omega) (by omega)
def TrW : Nat → Int → Prop := fun q j => q = 188 ∨ (q = 185 ∧ j = 3)
theorem c_tr_L5 (hV : VOK V) (hT : T = 2 ∨ T = 22) (hX : CTs M0 T V) (hC : CoR M0 V co) (hL : LfR M0 V L) (hg : GC V b wt co) (hG : GOK b wt (CN V)) (hGI : GI b wt (CN V) to L) (hF : Fix b wt (CN V) L) {a : Int} (a0 : 0 ≤ a) (a1 : a < cellsV V) (hb : L a < BIG) : ∀ (n i fu : Nat) (M : Mem), (i : Int) + (n : Int) = L a % 64 → n < fu → Fr TrW M0 M → (∀ x : Nat, x < i → M.1 188 (x : Int) = tkG b wt L a x) → ∃ N, t_Paths_trace_L5 T a fu M (tkG b wt L a i) (i : Int) = some N ∧ Fr TrW M0 N ∧ N.1 185 3 = L a % 64 + 1 ∧ ∀ x : Nat, (x : Int) ≤ L a % 64 → N.1 188 (x : Int) = tkG b wt L a x := by
  have hc := hV.cells
  have hN := CN_eq hV
  have top := hGI.top hG a0 (c := a) (by omega) hb
  intro n
  induction n with
  | zero =>
    intro i fu M g0 g1 hFr hx
    obtain ⟨g, rfl⟩ : ∃ g, fu = g + 1 := ⟨fu - 1, by omega⟩
    obtain ⟨q1, q2, q3⟩ := tk_facts hG hGI hF a0 (c := a) (by omega) hb i (by omega)
    have e0 := (tk_end hG hGI hF a0 (c := a) (by omega) hb (n := i) (by omega)).mpr (by omega)
    rw [t_Paths_trace_L5, if_neg (by omega)]
    simp (config := { proj := false }) only [qlet]
    rw [put_in (by omega) (by omega), w32_succ (by omega)]
    have f2 : Fr TrW M0 (setI (setI M 188 (i : Int) (tkG b wt L a i)) 185 3 ((i + 1 : Nat) : Int)) := (hFr.setI (Or.inl rfl)).setI (Or.inr ⟨rfl, rfl⟩)
    rw [look_in q1.1 (by omega), (hL.fr f2 (fun j z => by unfold TrW at z; omega)) _ q1.1 (by omega), e0]
    rw [if_pos (show fwC 0 = 0 from rfl)]
    refine ⟨_, rfl, f2, ?_, fun x x1 => ?_⟩
    · rw [sI_self]; omega
    · rw [sI_ne (by omega)]
      by_cases e : x = i
      · rw [e]; exact sI_self _ _ _ _
      · rw [sI_ne (by omega)]; exact hx x (by omega)
  | succ n ih =>
    intro i fu M g0 g1 hFr hx
    obtain ⟨g, rfl⟩ : ∃ g, fu = g + 1 := ⟨fu - 1, by omega⟩
    obtain ⟨q1, q2, q3⟩ := tk_facts hG hGI hF a0 (c := a) (by omega) hb i (by omega)
    have hne : L (tkG b wt L a i) ≠ 0 := by intro e; rw [e] at q3; omega
    have hbi : L (tkG b wt L a i) < BIG := by omega
    have nd := nd_some hG hGI hF q1.1 q1.2 hbi hne
    rw [t_Paths_trace_L5, if_neg (by omega)]
    simp (config := { proj := false }) only [qlet]
    rw [put_in (by omega) (by omega), w32_succ (by omega)]
    have f2 : Fr TrW M0 (setI (setI M 188 (i : Int) (tkG b wt L a i)) 185 3 ((i + 1 : Nat) : Int)) := (hFr.setI (Or.inl rfl)).setI (Or.inr ⟨rfl, rfl⟩)
    have hx2 : ∀ x : Nat, x < i + 1 → (setI (setI M 188 (i : Int) (tkG b wt L a i)) 185 3 ((i + 1 : Nat) : Int)).1 188 (x : Int) = tkG b wt L a x := fun x x1 => by
      rw [sI_ne (by omega)]
      by_cases e : x = i
      · rw [e]; exact sI_self _ _ _ _
      · rw [sI_ne (by omega)]; exact hx x (by omega)
    generalize setI (setI M 188 (i : Int) (tkG b wt L a i)) 185 3 ((i + 1 : Nat) : Int) = M2 at *
    have L2 : LfR M2 V L := hL.fr f2 (fun j z => by unfold TrW at z; omega)
    have gi := hGI.2 (tkG b wt L a i) q1.1 q1.2
    rw [look_in q1.1 (by omega), L2 _ q1.1 (by omega)]
    have ef : fwC (L (tkG b wt L a i)) = L (tkG b wt L a i) := if_pos hbi
    rw [ef, if_neg hne]
    have st := c_tr_L45 (M := M2) (x2 := a) (bk := fun a0_ a1_ a2_ => t_Paths_trace_L5 T a g a0_ a1_ a2_) hV (CTs.fr f2 (fun k j x y z => by unfold TrW at z; omega) hX) (hC.fr f2 (fun j z => by unfold TrW at z; omega)) L2 hg hG hGI hF (c := tkG b wt L a i) (i := (i : Int)) q1.1 (by omega) hbi hne (by omega) (ndG b wt L (tkG b wt L a i)).toNat FU 0 (by omega) (by omega) (fu_big (by omega))
    rw [st, show (i : Int) + 1 = ((i + 1 : Nat) : Int) by omega]
    exact ih (i + 1) g M2 (by omega) (by omega) f2 hx2
def FndW : Nat → Int → Prop := fun q j => q = 187 ∨ q = 188 ∨ (q = 185 ∧ (j = 3 ∨ j = 4))
/-- what a find leaves -/
def FdR (N : Mem) (b wt : Int → Int → Int) (F : Int → Int) (a : Int) : Prop := (F a < BIG ∧ N.1 185 3 = F a % 64 + 1 ∧ N.1 185 4 = F a / 64 ∧ ∀ x : Nat, (x : Int) ≤ F a % 64 → N.1 188 (x : Int) = tkG b wt F a x) ∨ (¬ F a < BIG ∧ N.1 185 3 = 0)
theorem c_find_L48 (hV : VOK V) (hT : T = 2 ∨ T = 22) (hX : CTs M T V) (hC : CoR M V co) (hL : LfR M V L) (hg : GC V b wt co) (hG : GOK b wt (CN V)) (hGI : GI b wt (CN V) to L) (hF : Fix b wt (CN V) L) {a x3 : Int} (a0 : 0 ≤ a) (a1 : a < cellsV V) : ∃ N, t_Paths_find_L48 T a x3 M = some N ∧ Fr FndW M N ∧ FdR N b wt L a := by
  have hc := hV.cells
  have hN := CN_eq hV
  have ga := hGI.2 a a0 (by omega)
  unfold t_Paths_find_L48
  simp (config := { proj := false }) only [qlet]
  obtain ⟨M1, e1⟩ : ∃ P, P = setI M 185 3 0 := ⟨_, rfl⟩
  rw [← e1]
  have f1 : Fr (fun q j => q = 185 ∧ (j = 3 ∨ j = 4)) M M1 := by rw [e1]; exact Fr.rf.setI (by omega)
  obtain ⟨d, ed⟩ : ∃ d, d = q_div (t_WF_look M1 187 48 a) 64 := ⟨_, rfl⟩
  rw [← ed]
  obtain ⟨M2, e2⟩ : ∃ P, P = setI M1 185 4 d := ⟨_, rfl⟩
  rw [← e2]
  have f2 : Fr (fun q j => q = 185 ∧ (j = 3 ∨ j = 4)) M M2 := by rw [e2]; exact f1.setI (by omega)
  have v3 : M2.1 185 3 = 0 := by rw [e2, sI_ne (by omega), e1]; exact sI_self _ _ _ _
  have v4 : M2.1 185 4 = d := by rw [e2]; exact sI_self _ _ _ _
  have L1 : LfR M1 V L := hL.fr f1 (fun j z => by omega)
  have L2 : LfR M2 V L := hL.fr f2 (fun j z => by omega)
  rw [look_in a0 (by omega), L1 a a0 a1] at ed
  rw [look_in a0 (by omega), L2 a a0 a1]
  by_cases q : L a < BIG
  · have top := hGI.top hG a0 (c := a) (by omega) q
    have ef : fwC (L a) = L a := if_pos q
    rw [ef] at ed ⊢
    rw [q_div_nn (by unfold InR; omega) (by unfold InR; omega) ga.1 (by omega)] at ed
    obtain ⟨N, n1, n2, n3, n4⟩ := c_tr_L5 hV hT (CTs.fr f2 (fun k j x y z => by omega) hX) (hC.fr f2 (fun j z => by omega)) L2 hg hG hGI hF a0 a1 q (L a % 64).toNat 0 FU M2 (by omega) (fu_big (by omega)) Fr.rf (fun x x1 => by omega)
    have n1 : t_Paths_trace_L5 T a FU M2 a 0 = some N := n1
    unfold t_Paths_trace
    rw [if_neg (show ¬ L a < 0 by omega), n1, obind_some]
    refine ⟨N, rfl, (f2.mono (fun q j z => by unfold FndW; omega)).trans (n2.mono (fun q j z => by unfold TrW at z; unfold FndW; omega)), Or.inl ⟨q, n3, ?_, n4⟩⟩
    rw [(n2 185 4 (by unfold TrW; omega)).1, v4, ed]
  · have ef : fwC (L a) = -1 := if_neg q
    rw [ef, if_pos (show (-1 : Int) < 0 by decide)]
    exact ⟨M2, rfl, f2.mono (fun q j z => by unfold FndW; omega), Or.inr ⟨q, v3⟩⟩
theorem c_find (hV : VOK V) (hT : T = 2 ∨ T = 22) (hX : CTs M T V) (hC : CoR M V co) (hg : GC V b wt co) (hG : GOK b wt (CN V)) {a : Int} (a0 : 0 ≤ a) (a1 : a < cellsV V) (t0 : 0 ≤ to) (t1 : to < cellsV V) : ∃ N, t_Paths_find M T a to = some N ∧ Fr FndW M N ∧ FdR N b wt (itG b wt (CN V) (L0G to) 47) a := by
  have hc := hV.cells
  have hN := CN_eq hV
  have hgi := L0_GI (b := b) (wt := wt) (C := CN V) t0 (by omega)
  obtain ⟨M1, b1, b2, b3⟩ := c_fill (M := M) (r := 187) (N1 := 48) (x := -1) (by omega)
  unfold t_Paths_find
  rw [b1, obind_some]
  simp (config := { proj := false }) only [qlet]
  rw [put_in t0 (by omega)]
  have f2 : Fr W87 M (setI M1 187 to 0) := (b2.mono (fun q j z => z.1)).setI rfl
  have L2 : LfR (setI M1 187 to 0) V (L0G to) := fun x x0 x1 => by
    unfold L0G fwC
    by_cases e : x = to
    · rw [if_pos e, e, sI_self]; rfl
    · rw [if_neg e, sI_ne (by omega), b3 x x0 (by omega)]; rfl
  obtain ⟨N, n1, n2, n3⟩ := c_find_L23 (M0 := M) (x2 := a) (x3 := to) hV hT hX hC hg hG (L0G to) hgi 48 0 FU _ (by omega) (fu_big (by omega)) f2 L2
  have n1 : t_Paths_find_L23 T a to FU (setI M1 187 to 0) 1 0 = t_Paths_find_L48 T a to N := n1
  rw [n1]
  obtain ⟨P, p1, p2, p3⟩ := c_find_L48 (M := N) (x3 := to) hV hT (CTs.fr n2 (fun k j x y z => by unfold W87 at z; omega) hX) (hC.fr n2 (fun j z => by unfold W87 at z; omega)) n3 hg hG (itG_GI hG hgi 47) (it_conv hG hgi).1 a0 a1
  exact ⟨P, p1, (n2.mono (fun q j z => by unfold W87 at z; unfold FndW; omega)).trans p2, p3⟩
end CPATH
end
section
/-! ===== walk, step, both sides ===== -/
section CWALK
variable {V : TV} {T : Nat} {M M0 : Mem} {D A S L : Int → Int} {nets wat : Int64}
theorem c_canStep (hV : VOK V) (hX : CT0 M T V ∧ CTs M T V) (hS : CScF M 47 V D A S L nets wat (wlV V)) {c d : Int} (c0 : 0 ≤ c) (c1 : c < cellsV V) (d1 : d < cellsV V) : t_Paths_canStep M T 47 c d = if cnS V D c d then 1 else 0 := by
  have hC := hV.cells
  unfold t_Paths_canStep
  simp (config := { proj := false }) only [qlet]
  by_cases e : d < 0
  · rw [if_pos e, if_neg (show ¬ cnS V D c d from fun z => by have := z.1; omega)]
  rw [if_neg e, c_stands hV hX hS c0 c1, c_stands hV hX hS (show 0 ≤ d by omega) d1, c_line hX.1 c0 (by omega) (show 0 ≤ d by omega) (by omega)]
  have b9 : ∀ x, 0 ≤ x → x < cellsV V → t_WF_bitOf M (M.2 T 19) x = V 9 x := fun x x0 x1 => by
    have h9 := (hV.2.2.2 x x0 (by omega)).2.2.2
    rw [bitOf_tb M _ x0 (by omega), (hX.1.2.2.2 x x0 (by omega)).2.2]
    rcases h9 with z | z
    · rw [z]; rfl
    · rw [z]; rfl
  have h9c := (hV.2.2.2 c c0 (by omega)).2.2.2
  have h9d := (hV.2.2.2 d (by omega) (by omega)).2.2.2
  rw [b9 c c0 c1, b9 d (by omega) d1]
  by_cases s1 : stV V D c = 0
  · rw [if_pos s1, if_neg (show ¬ cnS V D c d from fun z => z.2.1 s1)]
  rw [if_neg s1]
  by_cases s2 : stV V D d = 0
  · rw [if_pos s2, if_neg (show ¬ cnS V D c d from fun z => z.2.2.1 s2)]
  rw [if_neg s2]
  by_cases s3 : lnV V c d = 0
  · rw [if_pos s3, if_pos (show cnS V D c d from ⟨by omega, s1, s2, Or.inl s3⟩)]
  rw [if_neg s3]
  by_cases s4 : V 9 c = 1
  · rw [if_pos s4, if_pos (show cnS V D c d from ⟨by omega, s1, s2, Or.inr (Or.inl (by omega))⟩)]
  rw [if_neg s4]
  by_cases s5 : V 9 d = 1
  · rw [if_pos s5, if_pos (show cnS V D c d from ⟨by omega, s1, s2, Or.inr (Or.inr (by omega))⟩)]
  · rw [if_neg s5, if_neg (show ¬ cnS V D c d from fun z => by
      rcases z.2.2.2 with q | q | q
      · exact s3 q
      · omega
      · omega)]
def coW (V : TV) (D : Int → Int) : Int → Int → Int := fun c w => if cnS V D c (bsV V c w) then 0 else -1
theorem gc_walk (V : TV) (D : Int → Int) : GC V (bwW V D) one2 (coW V D) := fun c w c0 c1 w0 w1 => by
  unfold coW bwW
  by_cases e : cnS V D c (bsV V c w)
  · rw [if_pos e, if_pos e]
    exact Or.inr ⟨by omega, by omega, e.1, rfl, rfl⟩
  · rw [if_neg e, if_neg e]
    exact Or.inl ⟨rfl, rfl⟩
def W86 : Nat → Int → Prop := fun q _ => q = 186
theorem c_wt_L15 (hV : VOK V) (hX : CT0 M0 T V ∧ CTs M0 T V) (hT : T = 2 ∨ T = 22) (hS : CScF M0 47 V D A S L nets wat (wlV V)) {x3 x4 c : Int} {bk : Mem → Int → Option Mem} (c0 : 0 ≤ c) (c1 : c < cellsV V) : ∀ (n fu : Nat) (M : Mem) (w : Int), w + (n : Int) = 4 → 0 ≤ w → n < fu → Fr W86 M0 M → (∀ x y, 0 ≤ x → 0 ≤ y → y < 4 → (x < c ∨ (x = c ∧ y < w)) → M.1 186 (x * 4 + y) = coW V D x y) → ∃ N, t_Paths_walkTo_L15 T 47 x3 x4 bk fu M c w = bk N (c + 1) ∧ Fr W86 M0 N ∧ (∀ x y, 0 ≤ x → 0 ≤ y → y < 4 → x < c + 1 → N.1 186 (x * 4 + y) = coW V D x y) := by
  have hC := hV.cells
  intro n
  induction n with
  | zero =>
    intro fu M w g0 g1 g2 hF hx
    obtain ⟨g, rfl⟩ : ∃ g, fu = g + 1 := ⟨fu - 1, by omega⟩
    rw [t_Paths_walkTo_L15, if_pos (by omega), w32_id (x := c + 1) (by unfold InR; omega)]
    exact ⟨M, rfl, hF, fun x y x0 y0 y1 x1 => hx x y x0 y0 y1 (by omega)⟩
  | succ n ih =>
    intro fu M w g0 g1 g2 hF hx
    obtain ⟨g, rfl⟩ : ∃ g, fu = g + 1 := ⟨fu - 1, by omega⟩
    have XM : CT0 M T V ∧ CTs M T V := ⟨CT0.fr hF (fun k j x y z => by unfold W86 at z; omega) hX.1, CTs.fr hF (fun k j x y z => by unfold W86 at z; omega) hX.2⟩
    have SM := hS.fr hF (fun q j x z => by unfold CsW at x; unfold W86 at z; omega)
    have hb := bs_rng hV c0 c1 w
    rw [t_Paths_walkTo_L15, if_neg (by omega)]
    simp (config := { proj := false }) only [qlet]
    rw [c_beside XM.2 hV c0 c1 w, c_canStep hV XM SM c0 c1 hb.2, w32_id (x := c * 4) (by unfold InR; omega), w32_id (x := c * 4 + w) (by unfold InR; omega)]
    unfold t_Paths_walkTo_L59
    simp (config := { proj := false }) only [qlet]
    rw [put_in (by omega) (by omega), put_in (by omega) (by omega), w32_id (x := w + 1) (by unfold InR; omega)]
    have go : ∀ k : Int, k = coW V D c w → ∃ N, t_Paths_walkTo_L15 T 47 x3 x4 bk g (setI M 186 (c * 4 + w) k) c (w + 1) = bk N (c + 1) ∧ Fr W86 M0 N ∧ (∀ x y, 0 ≤ x → 0 ≤ y → y < 4 → x < c + 1 → N.1 186 (x * 4 + y) = coW V D x y) := fun k hk => by
      refine ih g _ (w + 1) (by omega) (by omega) (by omega) (hF.setI rfl) (fun x y x0 y0 y1 h => ?_)
      by_cases e : x = c ∧ y = w
      · rw [e.1, e.2, sI_self]; exact hk
      · rw [sI_ne (by omega)]
        exact hx x y x0 y0 y1 (by omega)
    by_cases e : cnS V D c (bsV V c w)
    · have k0 : (0 : Int) = coW V D c w := by unfold coW; rw [if_pos e]
      rw [if_pos e, if_neg (show ¬ (1 : Int) = 0 by decide)]
      exact go 0 k0
    · have k0 : (-1 : Int) = coW V D c w := by unfold coW; rw [if_neg e]
      rw [if_neg e, if_pos rfl]
      exact go (-1) k0
theorem c_wt_L3 (hV : VOK V) (hX : CT0 M0 T V ∧ CTs M0 T V) (hT : T = 2 ∨ T = 22) (hS : CScF M0 47 V D A S L nets wat (wlV V)) {x3 x4 : Int} : ∀ (n fu : Nat) (M : Mem) (c : Int), c + (n : Int) = cellsV V → 0 ≤ c → n < fu → Fr W86 M0 M → (∀ x y, 0 ≤ x → 0 ≤ y → y < 4 → x < c → M.1 186 (x * 4 + y) = coW V D x y) → ∃ N, t_Paths_walkTo_L3 T 47 x3 x4 fu M c = obind (t_Paths_find N T x3 x4) (fun q3 => some q3) ∧ Fr W86 M0 N ∧ CoR N V (coW V D) := by
  have hC := hV.cells
  intro n
  induction n with
  | zero =>
    intro fu M c g0 g1 g2 hF hx
    obtain ⟨g, rfl⟩ : ∃ g, fu = g + 1 := ⟨fu - 1, by omega⟩
    rw [t_Paths_walkTo_L3, (hF T 13 (by unfold W86; omega)).1, hX.2.1, if_pos (by omega)]
    exact ⟨M, rfl, hF, fun x y x0 x1 y0 y1 => hx x y x0 y0 y1 (by omega)⟩
  | succ n ih =>
    intro fu M c g0 g1 g2 hF hx
    obtain ⟨g, rfl⟩ : ∃ g, fu = g + 1 := ⟨fu - 1, by omega⟩
    rw [t_Paths_walkTo_L3, (hF T 13 (by unfold W86; omega)).1, hX.2.1, if_neg (by omega)]
    obtain ⟨N, n1, n2, n3⟩ := c_wt_L15 (x3 := x3) (x4 := x4) (bk := fun a0_ a1_ => t_Paths_walkTo_L3 T 47 x3 x4 g a0_ a1_) hV hX hT hS g1 (show c < cellsV V by omega) 4 FU M 0 (by omega) (by omega) (fu_big (by omega)) hF (fun x y x0 y0 y1 h => hx x y x0 y0 y1 (by omega))
    rw [n1]
    exact ih g N (c + 1) (by omega) (by omega) (by omega) n2 n3
def PthW : Nat → Int → Prop := fun q j => q = 186 ∨ FndW q j
theorem c_walkTo (hV : VOK V) (hX : CT0 M T V ∧ CTs M T V) (hT : T = 2 ∨ T = 22) (hS : CScF M 47 V D A S L nets wat (wlV V)) {a to : Int} (a0 : 0 ≤ a) (a1 : a < cellsV V) (t0 : 0 ≤ to) (t1 : to < cellsV V) : ∃ N, t_Paths_walkTo M T 47 a to = some N ∧ Fr PthW M N ∧ FdR N (bwW V D) one2 (FW V D to) a := by
  have hC := hV.cells
  unfold t_Paths_walkTo
  obtain ⟨N, n1, n2, n3⟩ := c_wt_L3 (M0 := M) (x3 := a) (x4 := to) hV hX hT hS (cellsV V).toNat FU M 0 (by omega) (by omega) (fu_big (by omega)) Fr.rf (fun x y x0 y0 y1 h => by omega)
  obtain ⟨P, p1, p2, p3⟩ := c_find (M := N) (a := a) (to := to) hV hT (CTs.fr n2 (fun k j x y z => by unfold W86 at z; omega) hX.2) n3 (gc_walk V D) (bw_ok hV D) a0 a1 t0 t1
  rw [n1, p1, obind_some]
  exact ⟨P, rfl, (n2.mono (fun q j z => Or.inl z)).trans (p2.mono (fun q j z => Or.inr z)), p3⟩
theorem c_canWalk (hV : VOK V) (hT : (M.1 0 4).toNat = T) (hX : CT0 M T V ∧ CTs M T V) (hS : CScF M 47 V D A S L nets wat (wlV V)) (a b : Int) : t_WF_canWalk M a b = if wkOK V D a b then 1 else 0 := by
  have hC := hV.cells
  unfold t_WF_canWalk
  simp (config := { proj := false }) only [qlet]
  rw [hT, c_hasCell hX.2, c_hasCell hX.2]
  by_cases e1 : 0 ≤ a ∧ a < cellsV V
  rotate_left
  · rw [if_neg e1, if_pos rfl, if_neg (show ¬ wkOK V D a b from fun z => e1 z.1)]
  rw [if_pos e1, if_neg (show ¬ (1 : Int) = 0 by decide)]
  by_cases e2 : 0 ≤ b ∧ b < cellsV V
  rotate_left
  · rw [if_neg e2, if_pos rfl, if_neg (show ¬ wkOK V D a b from fun z => e2 z.2.1)]
  rw [if_pos e2, if_neg (show ¬ (1 : Int) = 0 by decide), c_stands hV hX hS e1.1 e1.2, c_stands hV hX hS e2.1 e2.2]
  by_cases e3 : stV V D a = 0
  · rw [if_pos e3, if_neg (show ¬ wkOK V D a b from fun z => z.2.2.1 e3)]
  rw [if_neg e3]
  by_cases e4 : stV V D b = 0
  · rw [if_pos e4, if_neg (show ¬ wkOK V D a b from fun z => z.2.2.2 e4)]
  · rw [if_neg e4, if_pos (show wkOK V D a b from ⟨e1, e2, e3, e4⟩)]
theorem PthW_q : ∀ q j, PthW q j → QkW q j := fun q j z => by unfold PthW FndW at z; unfold QkW; omega
end CWALK
theorem w22_qm : ∀ q j, W22 q j → QmW q j := fun q j z => by unfold W22 at z; unfold QmW; omega
theorem bs_walk {M : Mem} (h : LI M) {x1 x2 : Int} (h1 : InR x1) (h2 : InR x2) : Ok (fun q => Ok (fun r => q.2 = r.2 ∧ LI r.1) (t_MO_walk q.1 x1 x2)) (t_WF_walk M x1 x2) := by
  have h' := h
  have hTT := h.T
  obtain ⟨hI, ⟨V, hR, hX, hRL⟩, -⟩ := h
  have hV := hR.1.1
  have hC := hV.cells
  have hS : CScF M 47 V (DN M 0) (AT M 0) (ST M 0) (LN M 0) (M.2 210 0) (M.2 211 0) (wlV V) := hRL.1
  have hcl : ∃ N, t_WF_walk M x1 x2 = some (N, walkS V (DN M 0) x1 x2) ∧ Fr QkW M N := by
    unfold t_WF_walk walkS
    simp (config := { proj := false }) only [qlet]
    rw [c_canWalk hV rfl ⟨hX.1, hX.2.1⟩ hS x1 x2]
    by_cases e : wkOK V (DN M 0) x1 x2
    rotate_left
    · rw [if_neg e, if_pos rfl, if_neg e]; exact ⟨M, rfl, Fr.rf⟩
    obtain ⟨N, n1, n2, n3⟩ := c_walkTo hV ⟨hX.1, hX.2.1⟩ hTT.2 hS e.1.1 e.1.2 e.2.1.1 e.2.1.2
    have hf := fw_lt hV (DN M 0) e.2.1.1 e.2.1.2 e.1.1 e.1.2
    rw [if_pos e, if_neg (show ¬ (1 : Int) = 0 by decide), if_pos e, n1, obind_some]
    refine ⟨N, ?_, n2.mono PthW_q⟩
    rcases n3 with ⟨f1, f2, -, -⟩ | ⟨f1, f2⟩
    · have f47 := hf.2.1 f1
      rw [f2, if_neg (by omega), if_pos f1, w32_id (by unfold InR; omega), show FW V (DN M 0) x2 x1 % 64 + 1 - 1 = FW V (DN M 0) x2 x1 by omega]
    · rw [f2, if_pos rfl, if_neg f1]
  obtain ⟨N, n1, n2⟩ := hcl
  obtain ⟨u, e, hu⟩ := sf_WF_walk hI h1 h2
  have : u = _ := Option.some.inj (e.symm.trans n1)
  subst this
  have hLN : LI N := h'.q hu.1 n2
  have hRN : RI N V := hR.fr n2 (fun q j a z => by have := qk_ri z; have := ric_lo a; omega)
  obtain ⟨P, p1, p2⟩ := m_walk hRN x1 x2
  rw [DN_fr n2 (fun j z => by have := qk_ri z; omega)] at p1
  have hIP := im_MO_walk hu.1 h1 h2 _ p1
  exact ⟨_, n1, _, p1, rfl, hLN.qm hIP.1 (p2.mono w22_qm)⟩
theorem c_cellAt {N : Mem} {b wt : Int → Int → Int} {F : Int → Int} {a k : Int} (h : FdR N b wt F a) (hF : F a < BIG → 0 ≤ F a % 64 ∧ F a % 64 ≤ 47) (k0 : 0 ≤ k) : t_Paths_cellAt N k = if F a < BIG ∧ k ≤ F a % 64 then tkG b wt F a k.toNat else -2 := by
  unfold t_Paths_cellAt
  simp only [qlet]
  rcases h with ⟨f1, f2, -, f4⟩ | ⟨f1, f2⟩
  · have hf := hF f1
    rw [f2]
    by_cases q : k ≤ F a % 64
    · rw [if_neg (by omega), if_pos ⟨f1, q⟩, look_in k0 (by omega)]
      have := f4 k.toNat (by omega)
      rw [Int.toNat_of_nonneg k0] at this
      exact this
    · rw [if_pos (by omega), if_neg (fun z => q z.2)]
  · rw [f2, if_pos k0, if_neg (fun z => f1 z.1)]
theorem bs_step {M : Mem} (h : LI M) {x1 x2 x3 : Int} (h1 : InR x1) (h2 : InR x2) (h3 : InR x3) : Ok (fun q => Ok (fun r => q.2 = r.2 ∧ LI r.1) (t_MO_step q.1 x1 x2 x3)) (t_WF_step M x1 x2 x3) := by
  have h' := h
  have hTT := h.T
  obtain ⟨hI, ⟨V, hR, hX, hRL⟩, -⟩ := h
  have hV := hR.1.1
  have hC := hV.cells
  have hS : CScF M 47 V (DN M 0) (AT M 0) (ST M 0) (LN M 0) (M.2 210 0) (M.2 211 0) (wlV V) := hRL.1
  have hcl : ∃ N, t_WF_step M x1 x2 x3 = some (N, stepS V (DN M 0) x1 x2 x3) ∧ Fr QkW M N := by
    unfold t_WF_step stepS
    simp (config := { proj := false }) only [qlet]
    rw [c_canWalk hV rfl ⟨hX.1, hX.2.1⟩ hS x1 x2]
    by_cases e : wkOK V (DN M 0) x1 x2
    rotate_left
    · rw [if_neg e, if_pos rfl, if_neg (fun z => e z.1)]; exact ⟨M, rfl, Fr.rf⟩
    rw [if_pos e, if_neg (show ¬ (1 : Int) = 0 by decide)]
    by_cases k0 : 0 ≤ x3
    rotate_left
    · rw [if_neg k0, if_neg (fun z => k0 z.2)]; exact ⟨M, rfl, Fr.rf⟩
    obtain ⟨N, n1, n2, n3⟩ := c_walkTo hV ⟨hX.1, hX.2.1⟩ hTT.2 hS e.1.1 e.1.2 e.2.1.1 e.2.1.2
    have hf := fw_lt hV (DN M 0) e.2.1.1 e.2.1.2 e.1.1 e.1.2
    rw [if_pos k0, if_pos ⟨e, k0⟩, n1, obind_some, c_cellAt n3 (fun q => by have := hf.2.1 q; omega) k0]
    refine ⟨N, ?_, n2.mono PthW_q⟩
    by_cases q : FW V (DN M 0) x2 x1 < BIG
    · have f47 := hf.2.1 q
      rw [show FW V (DN M 0) x2 x1 % 64 = FW V (DN M 0) x2 x1 by omega]
    · rw [if_neg (fun z => q z.1), if_neg (fun z => q z.1)]
  obtain ⟨N, n1, n2⟩ := hcl
  obtain ⟨u, e, hu⟩ := sf_WF_step hI h1 h2 h3
  have : u = _ := Option.some.inj (e.symm.trans n1)
  subst this
  have hLN : LI N := h'.q hu.1 n2
  have hRN : RI N V := hR.fr n2 (fun q j a z => by have := qk_ri z; have := ric_lo a; omega)
  obtain ⟨P, p1, p2⟩ := m_step hRN x1 x2 x3
  rw [DN_fr n2 (fun j z => by have := qk_ri z; omega)] at p1
  have hIP := im_MO_step hu.1 h1 h2 h3 _ p1
  exact ⟨_, n1, _, p1, rfl, hLN.qm hIP.1 (p2.mono w22_qm)⟩
end
