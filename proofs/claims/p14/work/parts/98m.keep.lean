theorem post_letX {α β : Type} {P : β → Prop} {x : α} {f : α → Option β} (h : ∀ v, v = x → Post P (f v)) : Post P (qlet x f) := h x rfl
/-! ===== the class's reader: no fault is told where a line goes well ===== -/
def KpW : Nat → Int → Prop := fun k j => ¬ (k = 46 ∧ (j = 9 ∨ j = 10))
section KP
variable {M0 M : Mem} {T : Nat}
theorem kp_goTo (h : Fr KpW M0 M) (x : Int) : Post (fun r => Fr KpW M0 r) (t_Reader_goTo M x) := fr_Reader_goTo (fun k j z => by unfold W_Reader_goTo at z; unfold KpW; omega) h
theorem kp_put (h : Fr KpW M0 M) {r : Nat} (hr : r < 46) (N : Nat) (i x : Int) : Fr KpW M0 (t_WF_put M r N i x) := fr_WF_put (fun k j z => by unfold W_WF_put at z; unfold KpW; omega) h
theorem kp_bad {P : Prop} : (0 : Int) ≤ -1 → P := fun z => absurd z (by decide)
theorem kp_bad0 {P : Prop} : (0 : Int) ≠ 0 → P := fun z => absurd rfl z
theorem kp_take (h : Fr KpW M0 M) (due : Int) : Post (fun r => r.2 ≠ 0 → Fr KpW M0 r.1) (t_Reader_take M due) := by
  unfold t_Reader_take
  exact post_ite (fun _ => post_bind (kp_goTo h _) (fun q hq => post_some (fun _ => hq))) (fun _ => post_letX (fun v e => post_some (by rw [e]; exact kp_bad0)))
theorem kp_num (h : Fr KpW M0 M) (lo hi : Int) : Post (fun r => 0 ≤ r.2 → Fr KpW M0 r.1) (t_Reader_takeNumber M lo hi) := by
  have a : Post (fun r => 0 ≤ r.2 → Fr KpW M0 r.1) (t_Reader_takeNumber_L24 lo hi M) := by
    unfold t_Reader_takeNumber_L24
    exact post_letX (fun v e => post_some kp_bad)
  have b : ∀ v, Post (fun r => 0 ≤ r.2 → Fr KpW M0 r.1) (t_Reader_takeNumber_L36 lo hi M v) := fun v => by
    unfold t_Reader_takeNumber_L36
    exact post_bind (kp_take h _) (fun q hq => post_ite (fun _ => post_some kp_bad) (fun c => post_some (fun _ => hq c)))
  unfold t_Reader_takeNumber
  exact post_ite (fun _ => post_ite (fun _ => a) (fun _ => post_ite (fun _ => b _) (fun _ => a))) (fun _ => b _)
theorem kp_name (h : Fr KpW M0 M) (r N : Nat) (len : Int) : Post (fun r => 0 ≤ r.2 → Fr KpW M0 r.1) (t_Reader_takeNewName M r N len) := by
  unfold t_Reader_takeNewName
  exact post_bind (kp_take h _) (fun q hq => post_ite (fun _ => post_some kp_bad) (fun c => post_bindv (fun v => post_ite (fun _ => post_some (fun _ => hq c)) (fun _ => post_letX (fun v e => post_some kp_bad)))))
theorem kp_cell (h : Fr KpW M0 M) (T : Nat) : Post (fun r => 0 ≤ r.2 → Fr KpW M0 r.1) (t_Reader_takeCell M T) := by
  unfold t_Reader_takeCell t_Reader_takeCell_L31
  refine post_bind (kp_num h _ _) (fun q hq => post_ite (fun c => post_bind (kp_num (hq c) _ _) (fun p hp => post_ite (fun d => post_some (fun _ => hp d)) (fun _ => post_some kp_bad))) (fun _ => ?_))
  rw [if_neg (by decide)]
  exact post_some kp_bad
theorem kp_town (hT : T ≤ 22) (h : Fr KpW M0 M) : Post (fun r => r.2 ≠ 0 → Fr KpW M0 r.1) (t_Reader_readTown M T) := by
  have a : Post (fun r => r.2 ≠ 0 → Fr KpW M0 r.1) (t_Reader_readTown_L49 T M) := by
    unfold t_Reader_readTown_L49
    exact post_letX (fun v e => post_some (by rw [e]; exact kp_bad0))
  unfold t_Reader_readTown t_Reader_readTown_L97
  refine post_ite (fun _ => post_ite (fun _ => a) (fun _ => post_ite (fun _ => post_ite (fun _ => post_ite (fun _ => ?_) (fun _ => a)) (fun _ => a)) (fun _ => a))) (fun _ => post_letX (fun v e => post_some (by rw [e]; exact kp_bad0)))
  refine post_letX (fun v e => post_bind (kp_goTo (M0 := M0) (M := v) (by rw [e]; exact h.setI (by unfold KpW; omega)) _) (fun q hq => post_bind (kp_num hq _ _) (fun p hp => post_ite (fun c => post_bind (kp_num (hp c) _ _) (fun s hs => post_ite (fun d => ?_) (fun _ => post_some kp_bad0))) (fun _ => ?_))))
  · exact post_letX (fun v e => post_letX (fun w e2 => post_some (fun _ => by rw [e2, e]; exact ((hs d).setI (by unfold KpW; omega)).setI (by unfold KpW; omega))))
  · rw [if_neg (by decide)]
    exact post_some kp_bad0
theorem kp_ward (hT : T ≤ 22) (h : Fr KpW M0 M) : Post (fun r => r.2 ≠ 0 → Fr KpW M0 r.1) (t_Reader_readWard M T) := by
  unfold t_Reader_readWard
  refine post_ite (fun _ => post_bind (kp_goTo h _) (fun q hq => post_bind (kp_name hq _ _ _) (fun p hp => post_ite (fun c => post_letX (fun v e => post_ite (fun _ => post_letX (fun v e => post_some (by rw [e]; exact kp_bad0))) (fun _ => post_bind (kp_goTo (hp c) _) (fun s hs => post_bind (kp_num hs _ _) (fun t ht => post_ite (fun d => ?_) (fun _ => post_some kp_bad0)))))) (fun _ => post_some kp_bad0)))) (fun _ => post_letX (fun v e => post_some (by rw [e]; exact kp_bad0)))
  refine post_letX (fun a ea => post_letX (fun b eb => post_letX (fun c' ec => post_letX (fun d' ed => post_some (fun _ => ?_)))))
  rw [ed, ec, eb, ea]
  exact (kp_put (kp_put (kp_put (ht d) (by omega) _ _ _) (by omega) _ _ _) (by omega) _ _ _).setI (by unfold KpW; omega)
theorem kp_part175 (hT : T ≤ 22) {bk : Mem → Int → Int → Int → Int → Int → Option (Mem × Int)} (hbk : ∀ N a b c d e, Fr KpW M0 N → Post (fun r => r.2 ≠ 0 → Fr KpW M0 r.1) (bk N a b c d e)) : ∀ (fu : Nat) (M : Mem) (a b c d e f : Int), Fr KpW M0 M → Post (fun r => r.2 ≠ 0 → Fr KpW M0 r.1) (t_Reader_readPart_L175 T bk fu M a b c d e f) := by
  intro fu
  induction fu with
  | zero => intro M a b c d e f h; rw [t_Reader_readPart_L175]; exact post_none
  | succ fu ih =>
    intro M a b c d e f h
    rw [t_Reader_readPart_L175]
    exact post_ite (fun _ => hbk _ _ _ _ _ _ h) (fun _ => post_letX (fun v ev => ih _ _ _ _ _ _ _ (by rw [ev]; exact kp_put h (by omega) _ _ _)))
theorem kp_part164 (hT : T ≤ 22) : ∀ (fu : Nat) (M : Mem) (a b c d e : Int), Fr KpW M0 M → Post (fun r => r.2 ≠ 0 → Fr KpW M0 r.1) (t_Reader_readPart_L164 T fu M a b c d e) := by
  intro fu
  induction fu with
  | zero => intro M a b c d e h; rw [t_Reader_readPart_L164]; exact post_none
  | succ fu ih =>
    intro M a b c d e h
    rw [t_Reader_readPart_L164]
    exact post_ite (fun _ => post_letX (fun v ev => post_some (fun _ => by rw [ev]; exact h.setI (by unfold KpW; omega)))) (fun _ => kp_part175 hT (fun N a b c d e hN => ih N a b c d e hN) _ _ _ _ _ _ _ _ h)
theorem kp_part (hT : T ≤ 22) (h : Fr KpW M0 M) : Post (fun r => r.2 ≠ 0 → Fr KpW M0 r.1) (t_Reader_readPart M T) := by
  have a1 : ∀ (N : Mem) (a b c d e : Int), (0 ≤ e → Fr KpW M0 N) → Post (fun r => r.2 ≠ 0 → Fr KpW M0 r.1) (t_Reader_readPart_L151 T N a b c d e) := fun N a b c d e hN => by
    unfold t_Reader_readPart_L151
    exact post_ite (fun q => kp_part164 hT _ _ _ _ _ _ _ (hN q)) (fun _ => post_some kp_bad0)
  have a2 : ∀ (N : Mem) (a b c d : Int), (0 ≤ d → Fr KpW M0 N) → Post (fun r => r.2 ≠ 0 → Fr KpW M0 r.1) (t_Reader_readPart_L128 T N a b c d) := fun N a b c d hN => by
    unfold t_Reader_readPart_L128
    exact post_ite (fun q => post_bind (kp_num (hN q) _ _) (fun p hp => a1 _ _ _ _ _ _ hp)) (fun _ => a1 _ _ _ _ _ _ kp_bad)
  have a3 : ∀ (N : Mem) (a b c : Int), (0 ≤ c → Fr KpW M0 N) → Post (fun r => r.2 ≠ 0 → Fr KpW M0 r.1) (t_Reader_readPart_L105 T N a b c) := fun N a b c hN => by
    unfold t_Reader_readPart_L105
    exact post_ite (fun q => post_bind (kp_num (hN q) _ _) (fun p hp => a2 _ _ _ _ _ hp)) (fun _ => a2 _ _ _ _ _ kp_bad)
  unfold t_Reader_readPart
  exact post_ite (fun _ => post_bind (kp_goTo h _) (fun q hq => post_bind (kp_take hq _) (fun p hp => post_ite (fun _ => post_some kp_bad0) (fun c => post_bindv (fun v => post_ite (fun _ => post_bind (kp_num (hp c) _ _) (fun s hs => post_ite (fun d => post_bind (kp_num (hs d) _ _) (fun t ht => a3 _ _ _ _ ht)) (fun _ => a3 _ _ _ _ kp_bad))) (fun _ => post_letX (fun v e => post_some (by rw [e]; exact kp_bad0)))))))) (fun _ => post_letX (fun v e => post_some (by rw [e]; exact kp_bad0)))
theorem kp_wall (hT : T ≤ 22) (h : Fr KpW M0 M) : Post (fun r => r.2 ≠ 0 → Fr KpW M0 r.1) (t_Reader_readWall M T) := by
  have a : ∀ N : Mem, Post (fun r => r.2 ≠ 0 → Fr KpW M0 r.1) (t_Reader_readWall_L93 T N) := fun N => by
    unfold t_Reader_readWall_L93
    exact post_letX (fun v e => post_some (by rw [e]; exact kp_bad0))
  unfold t_Reader_readWall
  exact post_letX (fun _ _ => post_ite (fun _ => post_bind (kp_goTo h _) (fun q hq => post_bind (kp_cell hq _) (fun p hp => post_ite (fun c => post_letX (fun _ _ => post_ite (fun _ => post_letX (fun v e => post_some (by rw [e]; exact kp_bad0))) (fun _ => post_letX (fun _ _ => post_ite (fun _ => a _) (fun _ => post_bindv (fun v => post_ite (fun _ => post_letX (fun w e => post_some (fun _ => by rw [e]; exact (hp c).setL (by unfold KpW; omega)))) (fun _ => a _))))))) (fun _ => post_some kp_bad0)))) (fun _ => post_letX (fun v e => post_some (by rw [e]; exact kp_bad0))))
theorem kp_stair (hT : T ≤ 22) (h : Fr KpW M0 M) : Post (fun r => r.2 ≠ 0 → Fr KpW M0 r.1) (t_Reader_readStair M T) := by
  unfold t_Reader_readStair
  exact post_letX (fun _ _ => post_ite (fun _ => post_bind (kp_goTo h _) (fun q hq => post_bind (kp_cell hq _) (fun p hp => post_ite (fun c => post_letX (fun _ _ => post_ite (fun _ => post_letX (fun v e => post_some (by rw [e]; exact kp_bad0))) (fun _ => post_letX (fun _ _ => post_ite (fun _ => post_letX (fun v e => post_some (by rw [e]; exact kp_bad0))) (fun _ => post_letX (fun w e => post_some (fun _ => by rw [e]; exact (hp c).setL (by unfold KpW; omega)))))))) (fun _ => post_some kp_bad0)))) (fun _ => post_letX (fun v e => post_some (by rw [e]; exact kp_bad0))))
theorem kp_thing (hT : T ≤ 22) (h : Fr KpW M0 M) : Post (fun r => r.2 ≠ 0 → Fr KpW M0 r.1) (t_Reader_readThing M T) := by
  have a0 : ∀ N : Mem, Post (fun r => r.2 ≠ 0 → Fr KpW M0 r.1) (t_Reader_readThing_L109 T N) := fun N => by
    unfold t_Reader_readThing_L109
    exact post_letX (fun v e => post_some (by rw [e]; exact kp_bad0))
  have a1 : ∀ (N : Mem) (a b c : Int), (0 ≤ c → Fr KpW M0 N) → Post (fun r => r.2 ≠ 0 → Fr KpW M0 r.1) (t_Reader_readThing_L71 T N a b c) := fun N a b c hN => by
    unfold t_Reader_readThing_L71
    refine post_ite (fun q => post_letX (fun _ _ => post_ite (fun _ => a0 _) (fun _ => post_bindv (fun v => post_ite (fun _ => ?_) (fun _ => a0 _))))) (fun _ => post_some kp_bad0)
    refine post_letX (fun a ea => post_letX (fun b eb => post_letX (fun c' ec => post_letX (fun d' ed => post_some (fun _ => ?_)))))
    rw [ed, ec, eb, ea]
    exact (kp_put (kp_put (kp_put (hN q) (by omega) _ _ _) (by omega) _ _ _) (by omega) _ _ _).setI (by unfold KpW; omega)
  have a2 : ∀ (N : Mem) (a b : Int), (0 ≤ b → Fr KpW M0 N) → Post (fun r => r.2 ≠ 0 → Fr KpW M0 r.1) (t_Reader_readThing_L57 T N a b) := fun N a b hN => by
    unfold t_Reader_readThing_L57
    exact post_ite (fun q => post_bind (kp_cell (hN q) _) (fun p hp => a1 _ _ _ _ hp)) (fun _ => a1 _ _ _ _ kp_bad)
  unfold t_Reader_readThing
  exact post_ite (fun _ => post_bind (kp_goTo h _) (fun q hq => post_bind (kp_name hq _ _ _) (fun p hp => post_ite (fun c => post_bind (kp_num (hp c) _ _) (fun s hs => a2 _ _ _ hs)) (fun _ => a2 _ _ _ kp_bad)))) (fun _ => post_letX (fun v e => post_some (by rw [e]; exact kp_bad0)))
theorem kp_seed (hT : T ≤ 22) (h : Fr KpW M0 M) : Post (fun r => r.2 ≠ 0 → Fr KpW M0 r.1) (t_Reader_readSeed M T) := by
  unfold t_Reader_readSeed
  exact post_ite (fun _ => post_letX (fun v e => post_bind (kp_goTo (M0 := M0) (M := v) (by rw [e]; exact h.setI (by unfold KpW; omega)) _) (fun q hq => post_bind (kp_num hq _ _) (fun p hp => post_letX (fun w e2 => post_ite (fun _ => post_some kp_bad0) (fun c => post_some (fun _ => by rw [e2]; exact (hp (by omega)).setI (by unfold KpW; omega)))))))) (fun _ => post_letX (fun v e => post_some (by rw [e]; exact kp_bad0)))
theorem kp_law (hT : T ≤ 22) (h : Fr KpW M0 M) : Post (fun r => r.2 ≠ 0 → Fr KpW M0 r.1) (t_Reader_readLaw M T) := by
  have a1 : ∀ (N : Mem) (u : Nat) (v : Int), Fr KpW M0 N → Post (fun r => r.2 ≠ 0 → Fr KpW M0 r.1) (t_Reader_readLaw_L102 T N u v) := fun N u v hN => by
    unfold t_Reader_readLaw_L102
    exact post_bind (kp_goTo hN _) (fun q hq => post_ite (fun _ => post_some (fun _ => hq)) (fun _ => post_letX (fun w e => post_ite (fun _ => post_some kp_bad0) (fun c => absurd (show w.2 = 0 by rw [e]; rfl) c))))
  have a2 : ∀ (N : Mem) (u : Nat), u ≤ 37 → Fr KpW M0 N → Post (fun r => r.2 ≠ 0 → Fr KpW M0 r.1) (t_Reader_readLaw_L58 T N u) := fun N u hu hN => by
    unfold t_Reader_readLaw_L58
    exact post_ite (fun _ => post_ite (fun _ => a1 _ _ _ hN) (fun _ => post_ite (fun _ => post_none) (fun _ => post_bind (fr_Formula_read (W := KpW) (M0 := M0) (fun k j z => by unfold W_Formula_read at z; unfold KpW; omega) hN) (fun q hq => a1 _ _ _ hq)))) (fun _ => post_letX (fun v e => post_some (by rw [e]; exact kp_bad0)))
  unfold t_Reader_readLaw t_Reader_readLaw_L38
  exact post_bind (kp_goTo h _) (fun q hq => post_ite (fun _ => post_ite (fun _ => a2 _ _ (by omega) hq) (fun _ => a2 _ _ (by omega) hq)) (fun _ => post_ite (fun _ => post_ite (fun _ => a2 _ _ (by omega) hq) (fun _ => a2 _ _ (by omega) hq)) (fun _ => post_letX (fun v e => post_some (by rw [e]; exact kp_bad0)))))
theorem kp_loop (hT : T ≤ 22) : ∀ (fu : Nat) (M : Mem) (a b : Int), Fr KpW M0 M → Post (fun r => 0 ≤ r.2 → Fr KpW M0 r.1) (t_Reader_read_L10 T fu M a b) := by
  intro fu
  induction fu with
  | zero => intro M a b h; rw [t_Reader_read_L10]; exact post_none
  | succ fu ih =>
    intro M a b h
    have a1 : ∀ N c, Fr KpW M0 N → Post (fun r => 0 ≤ r.2 → Fr KpW M0 r.1) (t_Reader_read_L192 T N c) := fun N c hN => by
      unfold t_Reader_read_L192
      exact post_bind (fr_Town_settle (W := KpW) (M0 := M0) (fun k j z => by unfold W_Town_settle at z; unfold KpW; omega) hN) (fun q hq => post_some (fun _ => hq))
    have a2 : ∀ (N : Mem) (g : Int), (g ≠ 0 → Fr KpW M0 N) → Post (fun r => 0 ≤ r.2 → Fr KpW M0 r.1) (t_Reader_read_L167 T (fun a0_ a1_ a2_ => t_Reader_read_L10 T fu a0_ a1_ a2_) N a b g) := fun N g hN => by
      unfold t_Reader_read_L167
      exact post_ite (fun _ => post_some kp_bad) (fun c => post_bind (kp_take (hN c) _) (fun q hq => post_ite (fun _ => post_some kp_bad) (fun d => ih _ _ _ (hq d))))
    rw [t_Reader_read_L10]
    exact post_ite (fun _ => a1 _ _ h) (fun _ => post_ite (fun _ => a1 _ _ h) (fun _ => post_ite (fun _ => post_bind (kp_town hT h) (fun q hq => a2 _ _ hq)) (fun _ => post_ite (fun _ => post_bind (kp_ward hT h) (fun q hq => a2 _ _ hq)) (fun _ => post_ite (fun _ => post_bind (kp_part hT h) (fun q hq => a2 _ _ hq)) (fun _ => post_ite (fun _ => post_bind (kp_wall hT h) (fun q hq => a2 _ _ hq)) (fun _ => post_ite (fun _ => post_bind (kp_stair hT h) (fun q hq => a2 _ _ hq)) (fun _ => post_ite (fun _ => post_bind (kp_thing hT h) (fun q hq => a2 _ _ hq)) (fun _ => post_ite (fun _ => post_bind (kp_seed hT h) (fun q hq => a2 _ _ hq)) (fun _ => post_ite (fun _ => post_bind (kp_law hT h) (fun q hq => a2 _ _ hq)) (fun _ => post_letX (fun v e => a2 _ _ (by rw [e]; exact kp_bad0))))))))))))
theorem kp_read (hT : T ≤ 22) : Post (fun r => 0 ≤ r.2 → FT r.1 0 (-1)) (t_Reader_read M T) := by
  unfold t_Reader_read t_Reader_begin
  refine post_bind (Q := fun r => FT r 0 (-1)) ?_ (fun q hq => ?_)
  · refine post_letX (fun a1 e1 => post_letX (fun a2 e2 => post_letX (fun a3 e3 => post_letX (fun a4 e4 => post_letX (fun a5 e5 => post_letX (fun a6 e6 => post_letX (fun a7 e7 => ?_)))))))
    refine post_bind (kp_goTo (M0 := a7) Fr.rf _) (fun q hq => post_some ⟨?_, ?_⟩)
    · rw [(hq 46 9 (by unfold KpW; omega)).1, e7, sI_ne (by omega), e6, sI_ne (by omega), e5, sI_self]
    · rw [(hq 46 10 (by unfold KpW; omega)).1, e7, sI_ne (by omega), e6, sI_self]
  · intro r e h0
    have := kp_loop (M0 := q) hT FU q 0 0 Fr.rf r e h0
    exact ⟨((this 46 9 (by unfold KpW; omega)).1).trans hq.1, ((this 46 10 (by unfold KpW; omega)).1).trans hq.2⟩
end KP
