theorem nx_congr {V : TV} (hV : VOK V) {D D' : Int → Int} (h : ∀ w, 0 ≤ w → w < V 0 2 → D w = D' w) (nets : Int64) (wl : Int → Bool) {c : Int} (c0 : 0 ≤ c) (c1 : c < 48) : nxV V D nets wl c = nxV V D' nets wl c := by
  have ho := hV.2.2.2 c c0 c1
  have e : dnV V D c = dnV V D' c := by
    unfold dnV
    by_cases z : V 7 c < 0
    · rw [if_pos z, if_pos z]
    · rw [if_neg z, if_neg z]; exact h _ (by omega) (by omega)
  unfold nxV
  rw [e]
theorem prS_congr {f g : Int → Int} {C : Int} (hf : stepOK f C) (h : ∀ c, 0 ≤ c → c < C → f c = g c) : ∀ (n : Nat) (w : Int64) (c : Int), 0 ≤ c → c < C → prS f n w c = prS g n w c := by
  intro n
  induction n with
  | zero => intro w c _ _; rfl
  | succ n ih =>
    intro w c c0 c1
    rw [prS, prS, ← h c c0 c1]
    by_cases z : f c < 0 ∨ tb w (f c) = true
    · rw [if_pos z, if_pos z]
    · rw [if_neg z, if_neg z]
      have := hf c c0 c1
      exact ih w (f c) (by omega) this.2
theorem flS_congr {f g : Int → Int} {C : Int} {was : Int64} (hf : stepOK f C) (h : ∀ c, 0 ≤ c → c < C → f c = g c) : ∀ n : Nat, (n : Int) ≤ C → flS f was n = flS g was n := by
  intro n
  induction n with
  | zero => intro _; rfl
  | succ n ih =>
    intro hn
    rw [flS, flS, ih (by omega), prS_congr hf h _ _ _ (by omega) (by omega)]
theorem fl_congr {V : TV} (hV : VOK V) {D D' : Int → Int} (h : ∀ w, 0 ≤ w → w < V 0 2 → D w = D' w) (nets : Int64) (wl : Int → Bool) (was : Int64) : flS (nxV V D nets wl) was (cellsV V).toNat = flS (nxV V D' nets wl) was (cellsV V).toNat := by
  have hC := hV.cells
  exact flS_congr (nx_ok hV D nets wl) (fun c a b => nx_congr hV h nets wl a (by omega)) _ (by omega)
theorem c_isFree {M : Mem} {V : TV} {D A S L : Int → Int} {nets wat : Int64} (hV : VOK V) (hX : CTx M (M.1 0 4).toNat V) (h : CScF M 47 V D A S L nets wat (wlV V)) (c : Int) : t_WF_isFree M c = if opV V c then 1 else 0 := by
  have hC := hV.cells
  unfold t_WF_isFree
  simp only [qlet]
  rw [c_hasCell hX.2.1]
  by_cases a : 0 ≤ c ∧ c < cellsV V
  · have w8 := (hV.2.2.2 c a.1 (by omega)).2.2.1
    rw [if_pos a, if_neg (show ¬ (1 : Int) = 0 by decide), bitOf_tb M _ a.1 (by omega), h.2.2.2.2 c a.1 (by omega)]
    unfold wlV
    by_cases v8 : V 8 c = 1
    · rw [decide_eq_true v8, if_neg (show ¬ (if true = true then (1 : Int) else 0) = 0 by decide), if_neg (show ¬ opV V c from fun q => by have := q.2.2; omega)]
    · rw [decide_eq_false v8, if_pos (show (if false = true then (1 : Int) else 0) = 0 from rfl), if_pos (show opV V c from ⟨a.1, a.2, by omega⟩)]
  · rw [if_neg a, if_pos rfl, if_neg (show ¬ opV V c from fun q => a ⟨q.1, q.2.1⟩)]
theorem m_open01 {M : Mem} {V : TV} (h : MT0 M V) (hV : VOK V) (c : Int) : t_MO_isOpen M c = some (if opV V c then 1 else 0) := by
  rcases m_isOpen h hV c with ⟨a, b⟩ | ⟨a, b⟩
  · rw [b, if_pos a]
  · rw [b, if_neg a]
/-- from both sides' values to both sides' answers, for a change that can be undone -/
theorem bs_move {M N P : Mem} {V : TV} {D A S L : Int → Int} {nets wat : Int64} (h : LI M) (hR : RI M V) (hX : CTx M (M.1 0 4).toNat V) (hRL : RL M V) (hIP : IM P) (hRP : RI P V) (hc : CmR M N V D A S L nets wat) (hm : MmR N P V D A S L nets wat) : LI P := by
  have hL := hRL.2.2.1.2.1
  refine h.two hX hIP hRP (rl_move hR.1.1 hR.yr hRL hc hm) ((hc.1.mono (fun q j z => ?_)).trans (hm.1.mono (fun q j z => ?_)))
  · have := CmW_cls hL z
    unfold KpA
    omega
  · have := MmW_ref z
    unfold KpA
    omega
theorem riN {M N : Mem} {V : TV} {W : Nat → Int → Prop} (hR : RI M V) (hF : Fr W M N) (hd : ∀ q j, W q j → q < 191) : RI N V := hR.fr hF (fun k j a z => by have := hd k j z; unfold RIc at a; omega)
