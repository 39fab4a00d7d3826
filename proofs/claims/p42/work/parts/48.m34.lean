theorem mw_1379 : (Jvm.Cond.classLink "WardFallsLaw" (18 : Nat) "WardFallsModel") ∈ lw_good := List.mem_filter.mpr ⟨List.mem_append_right _ (List.mem_append_right _ (List.mem_append_right _ (List.mem_append_right _ (List.mem_append_right _ (List.mem_append_right _ (List.mem_append_left _ (List.mem_of_getElem? (i := 179) rfl))))))), rfl⟩
theorem mw_1380 : (Jvm.Cond.instantiable "WardFallsModel" (68 : Nat)) ∈ lw_good := List.mem_filter.mpr ⟨List.mem_append_right _ (List.mem_append_right _ (List.mem_append_right _ (List.mem_append_right _ (List.mem_append_right _ (List.mem_append_right _ (List.mem_append_left _ (List.mem_of_getElem? (i := 180) rfl))))))), rfl⟩
theorem mw_1381 : (Jvm.Cond.methodLink "WardFallsLaw" (20 : Nat) ({ cls := "WardFallsModel", name := "<init>", desc := "()V" } : Jvm.MethodName)) ∈ lw_good := List.mem_filter.mpr ⟨List.mem_append_right _ (List.mem_append_right _ (List.mem_append_right _ (List.mem_append_right _ (List.mem_append_right _ (List.mem_append_right _ (List.mem_append_left _ (List.mem_of_getElem? (i := 181) rfl))))))), rfl⟩
theorem mw_1382 : (Jvm.Cond.instanceMethod ({ cls := "WardFallsModel", name := "<init>", desc := "()V" } : Jvm.MethodName)) ∈ lw_good := List.mem_filter.mpr ⟨List.mem_append_right _ (List.mem_append_right _ (List.mem_append_right _ (List.mem_append_right _ (List.mem_append_right _ (List.mem_append_right _ (List.mem_append_left _ (List.mem_of_getElem? (i := 182) rfl))))))), rfl⟩
theorem mw_27 : (Jvm.Cond.classLink "WardFallsLaw" (8 : Nat) "WardFalls") ∈ lw_good := List.mem_filter.mpr ⟨List.mem_append_right _ (List.mem_append_left _ (List.mem_of_getElem? (i := 27) rfl)), rfl⟩
theorem mw_28 : (Jvm.Cond.instantiable "WardFalls" (19 : Nat)) ∈ lw_good := List.mem_filter.mpr ⟨List.mem_append_right _ (List.mem_append_left _ (List.mem_of_getElem? (i := 28) rfl)), rfl⟩
theorem mw_29 : (Jvm.Cond.methodLink "WardFallsLaw" (17 : Nat) ({ cls := "WardFalls", name := "<init>", desc := "()V" } : Jvm.MethodName)) ∈ lw_good := List.mem_filter.mpr ⟨List.mem_append_right _ (List.mem_append_left _ (List.mem_of_getElem? (i := 29) rfl)), rfl⟩
theorem mw_30 : (Jvm.Cond.instanceMethod ({ cls := "WardFalls", name := "<init>", desc := "()V" } : Jvm.MethodName)) ∈ lw_good := List.mem_filter.mpr ⟨List.mem_append_right _ (List.mem_append_left _ (List.mem_of_getElem? (i := 30) rfl)), rfl⟩

theorem kn_one {s : State} {args : Array Value} {C : String} {T : u_T} {N n : Nat} (hg : ∀ w ∈ lw_good, w.before args s = true) (hin : ∀ w ∈ u_ws C T N, w ∈ lw_good) (hi : Cond.instantiable C n ∈ lw_good) : ∃ r : ClassId × (Nat → Nat), u_Kn s C T N r.1 r.2 := by
  obtain ⟨cC, iS, h⟩ := u_known hg hin (hg _ hi)
  exact ⟨(cC, iS), h⟩
theorem kn_prim {s : State} {args : Array Value} {ty : FieldType} (h : (Cond.arrayClass ty).before args s = true) : ∃ cA, ArrOfT s cA ty ∧ s.vm.findClass ("[" ++ ty.toString) = some cA := by
  obtain ⟨c, k, comp, h1, h2, h3⟩ := Cond.arrayClass_spec h
  exact ⟨c, fun n z => ⟨(fun k hk => by cases hk), k, h2, comp, h3⟩, h1⟩
theorem kn_over {s : State} {args : Array Value} {C : String} (h : (Cond.arrayOver (.object C)).before args s = true) : ∃ cA, ArrOfT s cA (.object C) ∧ va_RA s cA (.object C) := by
  obtain ⟨comp, c, k, h1, h2, h3, h4, h5⟩ := Cond.arrayOver_spec h
  exact ⟨c, fun n z => ⟨(fun k hk => by cases hk), k, h3, comp, h4⟩, k, comp, h3, h4, h1, h5⟩
set_option maxHeartbeats 4000000 in
theorem kn_classes {s : State} {args : Array Value} (hg : ∀ w ∈ lw_good, w.before args s = true) : ∃ f : Nat → ClassId × (Nat → Nat), ∀ (c : Nat) (q : vw_C), classes[c]? = some q → u_Kn s q.1 q.2.1 q.2.2 (f c).1 (f c).2 := by
  have h : ∀ q ∈ classes, ∃ r : ClassId × (Nat → Nat), u_Kn s q.1 q.2.1 q.2.2 r.1 r.2 := List.forall_mem_cons.mpr ⟨kn_one hg ing0 mw_28, List.forall_mem_cons.mpr ⟨kn_one hg ing1 mw_1380, List.forall_mem_cons.mpr ⟨kn_one hg ing2 mw_309, List.forall_mem_cons.mpr ⟨kn_one hg ing3 mw_42, List.forall_mem_cons.mpr ⟨kn_one hg ing4 mw_391, List.forall_mem_cons.mpr ⟨kn_one hg ing5 mw_359, List.forall_mem_cons.mpr ⟨kn_one hg ing6 mw_339, List.forall_mem_cons.mpr ⟨kn_one hg ing7 mw_469, List.forall_mem_cons.mpr ⟨kn_one hg ing8 mw_225, List.forall_mem_cons.mpr ⟨kn_one hg ing9 mw_267, List.forall_mem_cons.mpr ⟨kn_one hg ing10 mw_201, List.forall_mem_cons.mpr ⟨kn_one hg ing11 mw_36, List.forall_mem_cons.mpr ⟨kn_one hg ing12 mw_397, fun _ h => absurd h List.not_mem_nil⟩⟩⟩⟩⟩⟩⟩⟩⟩⟩⟩⟩⟩
  have h2 : ∀ c : Nat, ∃ r : ClassId × (Nat → Nat), ∀ q : vw_C, classes[c]? = some q → u_Kn s q.1 q.2.1 q.2.2 r.1 r.2 := by
    intro c
    cases e : classes[c]? with
    | none => exact ⟨(0, fun _ => 0), fun q hq => by cases hq⟩
    | some q =>
      obtain ⟨r, hr⟩ := h q (List.mem_of_getElem? e)
      exact ⟨r, fun q' hq => by cases hq; exact hr⟩
  obtain ⟨f, hf⟩ := Classical.skolem.mp h2
  exact ⟨f, hf⟩
theorem kn_C {s : State} {args : Array Value} (hg : ∀ w ∈ lw_good, w.before args s = true) (ho : (Cond.arrayOver (.object "WardFalls$Scene")).before args s = true) (q1 q2 q3 q4 : Nat) : ∃ C : CT, C.2.2.2 = s.heap ∧ KK C s ∧ C.2.2.1 10 = q1 ∧ C.2.2.1 11 = q2 ∧ C.2.2.1 12 = q3 ∧ C.2.2.1 13 = q4 := by
  obtain ⟨f, hf⟩ := kn_classes hg
  obtain ⟨c0, a0, b0⟩ := kn_prim (hg _ mw_86)
  obtain ⟨c1, a1, b1⟩ := kn_prim (hg _ mw_1594)
  obtain ⟨c2, a2, b2⟩ := kn_prim (hg _ mw_87)
  obtain ⟨c3, a3, b3⟩ := kn_over ho
  refine ⟨(fun c => (f c).1, fun c => (f c).2, fun a => if a = 0 then c0 else if a = 1 then c1 else if a = 2 then c2 else if a = 3 then c3 else if a = 10 then q1 else if a = 11 then q2 else if a = 12 then q3 else q4, s.heap), rfl, ⟨hf, fun k q hk => ?_⟩, rfl, rfl, rfl, rfl⟩
  match k, hk with
  | 0, hk => cases hk; exact ⟨a0, b0⟩
  | 1, hk => cases hk; exact ⟨a1, b1⟩
  | 2, hk => cases hk; exact ⟨a2, b2⟩
  | 3, hk => cases hk; exact ⟨a3, b3⟩
theorem nests_in : ∀ q ∈ nests, Cond.methodLinkNest q.1 q.2.1 q.2.2.1 q.2.2.2 ∈ lw_tbl := fun q hq => by
  obtain ⟨i, -, hi⟩ := List.mem_filterMap.mp ((by decide +kernel : ∀ q ∈ nests, Cond.methodLinkNest q.1 q.2.1 q.2.2.1 q.2.2.2 ∈ ([153, 159, 318, 342, 384, 426, 462, 476, 508, 514, 586, 610, 626, 633, 644, 741, 808, 837, 862, 865, 868, 887, 911, 923, 939, 965, 970, 975, 980, 993, 994, 999, 1001, 1061, 1066, 1105, 1176, 1177, 1191, 1302, 1328, 1329, 1359, 1360, 1390] : List Nat).filterMap (fun i => lw_tbl[i]?)) q hq)
  exact List.mem_of_getElem? hi
theorem nests_ot : ∀ q ∈ nests, (Cond.methodLinkNest q.1 q.2.1 q.2.2.1 q.2.2.2).onTables = true := fun _ _ => rfl
theorem kn_str {s : State} {args : Array Value} {own tx : String} {k : Nat} {cur : ClassId} (hc : s.vm.findClass own = some cur) (h : (Cond.stringRef own k tx).before args s = true) : ∃ a, vk_R own k tx a s := by
  obtain ⟨-, -, -, a, -, -, -, -, -, h2⟩ := Cond.stringRef_spec hc h
  exact ⟨a, vk_R.of h h2⟩
theorem kn_S {s : State} {args : Array Value} {own : String} {k : Nat} (hs : (Cond.stringRef own k TXS).before args s = true) (hex : (Cond.exactly (.string own k) "java/lang/String").before args s = true) (hco : (Cond.eq (.field (.string own k) "java/lang/String" "coder" "B") (.int 0)).before args s = true)
    (har : (Cond.arrayOf (.field (.string own k) "java/lang/String" "value" "[B") .byte).before args s = true) (hle : (Cond.eq (.length (.field (.string own k) "java/lang/String" "value" "[B")) (.int 126)).before args s = true)
    (hel : ∀ j : Nat, j < 126 → (Cond.eq (.elem (.field (.string own k) "java/lang/String" "value" "[B") (.int (Int32.ofNat j))) (.int (TXB.getD j 0))).before args s = true) : ∃ S V : Nat, vk_R own k TXS S s ∧ STR s.heap.size S V s s.heap := by
  obtain ⟨adK, adV, hS, hev⟩ := vk_Sof (N := 1) (tm := fun _ => .string own k) (len := [126]) (byt := [TXB]) (A := frb s.heap.size) (args := args) (s := s) (fun i hi => by
    have : i = 0 := by omega
    subst this
    decide) (fun _ _ => hex) (fun _ _ => hco) (fun _ _ => har) (fun i hi => by
    have : i = 0 := by omega
    subst this
    exact hle) (fun i hi j hj => by
    have : i = 0 := by omega
    subst this
    exact hel j hj) (fun i j hi hj hne => absurd (show i = j by omega) hne) (fun a h1 h2 => by have h3 : s.heap.size ≤ a := h2; omega)
  obtain ⟨h1, h2, h3, h4⟩ := hS.1 0 (by decide)
  exact ⟨adK 0, adV 0, vk_R.of hs (hev 0 (by decide)), h1, h2, h3, h4⟩
def leafT (own : String) (k j : Nat) : Cond := Cond.eq (.elem (.field (.string own k) "java/lang/String" "value" "[B") (.int (Int32.ofNat j))) (.int (TXB.getD j 0))
theorem lf_T : ((flatC (Jvm.Cond.and given_1 narrow_1)).drop 43).take 126 = (List.range 126).map (leafT "WardFalls$Tokens" 69) := by decide +kernel
theorem lf_M : ((flatC (Jvm.Cond.and given_1 narrow_1)).drop 208).take 126 = (List.range 126).map (leafT "WardFallsModel" 188) := by decide +kernel
theorem lf_mem {L : List Cond} {b0 k : Nat} {own : String} (h : (L.drop b0).take 126 = (List.range 126).map (leafT own k)) {j : Nat} (hj : j < 126) : leafT own k j ∈ L := by
  have h2 : leafT own k j ∈ (List.range 126).map (leafT own k) := List.mem_map.mpr ⟨j, List.mem_range.mpr hj, rfl⟩
  rw [← h] at h2
  exact List.mem_of_mem_drop (List.mem_of_mem_take h2)
theorem kn_SX {s : State} {scr : Nat} (hts : ∀ w ∈ lw_tbl, w.before #[Value.ref scr] s = true) (hgv : (Jvm.Cond.and given_1 narrow_1).before #[Value.ref scr] s = true) : ∃ q1 q2 q3 q4 : Nat, ∀ C : CT, C.2.2.2 = s.heap → C.2.2.1 10 = q1 → C.2.2.1 11 = q2 → C.2.2.1 12 = q3 → C.2.2.1 13 = q4 → SX s.heap.size C s := by
  have hf := flat_of_before _ hgv
  obtain ⟨S, V, a1, a2⟩ := kn_S (own := "WardFalls$Tokens") (k := 69) (hts _ (by decide +kernel)) (hf _ (by decide +kernel)) (hf _ (by decide +kernel)) (hf _ (by decide +kernel)) (hf _ (by decide +kernel)) (fun j hj => hf _ (lf_mem lf_T hj))
  obtain ⟨S2, V2, b1, b2⟩ := kn_S (own := "WardFallsModel") (k := 188) (hts _ (by decide +kernel)) (hf _ (by decide +kernel)) (hf _ (by decide +kernel)) (hf _ (by decide +kernel)) (hf _ (by decide +kernel)) (fun j hj => hf _ (lf_mem lf_M hj))
  have hA : ∀ a : Nat, a < s.heap.size → ¬ frb s.heap.size a := fun a h1 h2 => by have h3 : s.heap.size ≤ a := h2; omega
  refine ⟨S, V, S2, V2, fun C e0 e1 e2 e3 e4 => ?_⟩
  unfold SX
  rw [e0, e1, e2, e3, e4]
  exact ⟨⟨a1, a2⟩, ⟨b1, b2⟩, va_Zof (hts _ (by decide +kernel)) (hts _ (by decide +kernel)) (va_eqi (hf _ (by decide +kernel))) hA, va_Zqof (hts _ (by decide +kernel)) (hts _ (by decide +kernel)) (hf _ (by decide +kernel)) hA⟩
theorem kn_EX {s : State} {scr : Nat} {C : CT} (hK : KK C s) (hts : ∀ w ∈ lw_tbl, w.before #[Value.ref scr] s = true) (hgv : (Jvm.Cond.and given_1 narrow_1).before #[Value.ref scr] s = true) : EX s.heap.size s := by
  have hf := flat_of_before _ hgv
  have hcur : s.vm.findClass "WardFalls" = some (C.1 0) := (hK.1 0 _ rfl).2.1
  refine ⟨kn_str hcur (hts _ (by decide +kernel)), kn_str hcur (hts _ (by decide +kernel)), va_Nw.of rfl (hts _ (by decide +kernel)), va_Nw.of rfl (hts _ (by decide +kernel)), va_Nc.of (hf _ (by decide +kernel)), ⟨va_Nw.of rfl (hts _ (by decide +kernel)), va_Nw.of rfl (hts _ (by decide +kernel)), va_Nw.of rfl (hts _ (by decide +kernel))⟩, vx_Zqof (hts _ (by decide +kernel)) (hts _ (by decide +kernel)) (hf _ (by decide +kernel)) (fun a h1 h2 => by have h3 : s.heap.size ≤ a := h2; omega), vx_Zqof (hts _ (by decide +kernel)) (hts _ (by decide +kernel)) (hf _ (by decide +kernel)) (fun a h1 h2 => by have h3 : s.heap.size ≤ a := h2; omega)⟩
theorem Mz_rng : RngOK 0 Mz := by
  refine ⟨fun k j => ?_, ⟨Or.inl rfl, Or.inr rfl, Or.inl rfl⟩, fun k j h => ?_, fun k j _ h => ⟨?_, rfl⟩⟩
  · show InR (if k = 0 then (if j = 4 then 2 else if j = 5 then 22 else 0) else if k = 46 then (if j = 0 then -1 else 0) else 0)
    unfold InR
    split <;> (try split) <;> (try split) <;> omega
  · have h0 : k ≠ 0 := fun q => by subst q; exact absurd h (by decide)
    have h1 : k ≠ 46 := fun q => by subst q; exact absurd h (by decide)
    exact Or.inl (by show (if k = 0 then _ else if k = 46 then _ else (0 : Int)) = 0; rw [if_neg h0, if_neg h1])
  · show (if k = 0 then (if j = 4 then 2 else if j = 5 then 22 else 0) else if k = 46 then (if j = 0 then -1 else 0) else (0 : Int)) = 0
    unfold dyn at h
    by_cases h0 : k = 0
    · subst h0
      rw [if_pos rfl]
      by_cases h4 : j = 4
      · subst h4; exact absurd h (by decide)
      · by_cases h5 : j = 5
        · subst h5; exact absurd h (by decide)
        · rw [if_neg h4, if_neg h5]
    · rw [if_neg h0]
      by_cases h1 : k = 46
      · subst h1
        rw [if_pos rfl]
        by_cases h2 : j = 0
        · subst h2; exact absurd h (by decide)
        · rw [if_neg h2]
      · rw [if_neg h1]
def Gn (n : Nat) (M : Mem) : Nat → Int → Int := fun k j => if k < n then GM M k j else -1
theorem St.toSt0 {b n : Nat} {C : CT} {M : Mem} {s : State} {H : Heap} {locs : List Loc} (hS : St b C n M s H locs) (hz : H.size ≤ b + n) : St0 b C n (Gn n M) M s H locs := by
  obtain ⟨g1, g2, g3, g4, g5⟩ := hS
  exact ⟨by omega, fun k hk => cellOK_congr (g2 k hk) rfl (fun _ => rfl) (fun _ => rfl) (fun j => if_pos hk), g3, ⟨g4, fun k j hk => if_neg (by omega)⟩, g5⟩
theorem r0_backV {p : Program} {l : Launch} {e : Env} {R : Room} {s : State} {m : MethodId} {args : Array Value} {below : List Frame} {meth : Method} {c : Code} {H : Heap} {locs : List Loc} {cells slots : Nat} {Q : State → Prop} {pc : Nat} {ls : Array Slot} {rest : List Value} {b n : Nat} {C : CT} {M : Mem} {G : Nat → Int → Int} {mc ms n' : Nat} {M' : Mem} {st0 : List Value} {a : Array Value} (hS : St0 b C n G M s H locs) (hr : va_Run p l e R s m args below meth c H locs cells slots mc ms (F0 m pc ls st0) rest (QV b C n' M' a) (frb b))
    (kk : ∀ (H1 : Heap) (locs1 : List Loc), St b C n' M' s H1 locs1 → W p l e R s m args below meth c H1 locs1 (cells + mc) (slots + ms) Q (F0 m (pc + 3) ls rest)) : W p l e R s m args below meth c H locs cells slots Q (F0 m pc ls st0) := by
  refine va_callv hr hS.2.2.2.2 (fun q _ h => h) (fun q h => h) (fun u t H1 locs1 ht hvm hp hB hz ho hS1 => ?_)
  subst ht
  exact kk _ _ ⟨hB.1, hB.2.1, hB.2.2.1, hB.2.2.2.1, hS1⟩
set_option maxHeartbeats 16000000 in
set_option maxRecDepth 100000 in
theorem law_start {p : Program} {e : Env} {s : State} {m : MethodId} {below : List Frame} {meth : Method} {c : Code} (l : Launch) (hflags : l.flags = flags0) {scr L : Nat} {xs : Nat → Int32} (hL : L ≤ 3072) (A0 : lw_At p s m meth c scr L xs) (M1 M2 : Mem) (hM1 : t_WF_init Mz = some M1) (hM2 : t_MO_init M1 = some M2) (hT : t_Law_law_L23 xs L FU M2 0 = some 1) : W p l e room_1 s m #[Value.ref scr] below meth c s.heap [] 0 0 (lw_Z below #[Value.ref scr] s) (entryFrame m ([Value.ref scr] : List Value).toArray 7) := by
  obtain ⟨hx, hcb, hr, hml, hown, hts, hXs, hsl, hlk, hgv⟩ := A0
  have hlf : l.stackTraces = false := by unfold Launch.stackTraces; rw [hflags]; decide
  have hg : ∀ w ∈ lw_good, w.before #[Value.ref scr] s = true := fun w hw => hts w (List.mem_filter.mp hw).1
  have ho : (Cond.arrayOver (.object "WardFalls$Scene")).before #[Value.ref scr] s = true := hts _ (by decide +kernel)
  obtain ⟨q1, q2, q3, q4, hSX0⟩ := kn_SX hts hgv
  obtain ⟨C, hC, hK, e1, e2, e3, e4⟩ := kn_C hg ho q1 q2 q3 q4
  have hSX : SX s.heap.size C s := hSX0 C hC e1 e2 e3 e4
  obtain ⟨b, hb⟩ : ∃ q, q = s.heap.size := ⟨_, rfl⟩
  rw [← hb] at hSX
  have hNN : NN b C s := ⟨fun q hq => va_Nw.of (nests_ot q hq) (hts _ (nests_in q hq)), hSX⟩
  have hAO : va_AO "WardFalls$Scene" s := va_AO.of ho
  have hX : EX s.heap.size s := kn_EX hK hts hgv
  rw [← hb] at hX
  have CF : CallFix p m c b_Law_law 7 s ([.ref scr] : List Value).toArray lw_good "WardFallsLaw" := ⟨hx, hcb, hml, hown, hg⟩
  have F : C0 b p m c b_Law_law 7 s ([.ref scr] : List Value).toArray "WardFallsLaw" C := ⟨⟨CF, hK, Nat.le_refl _, hNN⟩, hAO⟩
  have hS : St0 b C 0 Gz Mz s s.heap [] := ⟨by omega, fun k hk => absurd hk (Nat.not_lt_zero k), fun q hq => by rw [hC], ⟨Mz_rng, fun k j hk => rfl⟩, va_S.rf⟩
  have hl := lv_entry ([.ref scr] : List Value) (n := 7) (Nat.le_of_ble_eq_true rfl)
  rw [lg_entry_eq]
  generalize (lg_sl ([.ref scr] : List Value) ++ List.replicate (7 - (lg_sl ([.ref scr] : List Value)).length) Slot.unset).toArray = ls at hl ⊢
  have hl : lv_has ls 7 [(0, .ref scr)] := hl
  refine r0_new (ci := 0) (N := 19) (T := T0) F hS rfl rfl rfl ing0 tyok0 nf_WF_0 mw_27 mw_28 mw_1 (Nat.le_of_ble_eq_true rfl) (Nat.le_of_ble_eq_true rfl) d_Law_law_0 (fun H hS => ?_)
  refine lv_dup F.1.hx F.1.hb d_Law_law_3 rfl ?_
  refine r0_backV hS (r0_runI (k := 0) (n := 1) F hS (cc_WF l M1 hM1) mw_31 mw_29 mw_30 mw_1 rfl hd_WF_init ⟨(Nat.le_of_ble_eq_true rfl), (Nat.le_of_ble_eq_true rfl)⟩ hl.1 (Nat.le_of_ble_eq_true rfl) ⟨(Nat.le_of_ble_eq_true rfl), (Nat.le_of_ble_eq_true rfl)⟩ d_Law_law_4) (fun H locs hS => ?_)
  refine r_size (fun hz => ?_)
  have hS : St0 b C 191 (Gn 191 M1) M1 s H locs := hS.toSt0 (by omega)
  refine lv_astore_n (lv' := [(1, .ref (b + 0)), (0, .ref scr)]) F.1.hx F.1.hb d_Law_law_7 rfl hl (Nat.le_of_ble_eq_true rfl) rfl (fun ls hl => ?_)
  refine r0_new (ci := 1) (N := 68) (T := T1) F hS rfl rfl rfl ing1 tyok1 nf_MO_191 mw_1379 mw_1380 mw_16 (Nat.le_of_ble_eq_true rfl) (Nat.le_of_ble_eq_true rfl) d_Law_law_8 (fun H hS => ?_)
  refine lv_dup F.1.hx F.1.hb d_Law_law_11 rfl ?_
  refine r0_backV hS (r0_runI (k := 191) (n := 192) F hS (cc_MO l (Gn 191 M1) M1 (fun k hk j => (if_pos hk).symm) M2 hM2) mw_1383 mw_1381 mw_1382 mw_16 rfl hd_MO_init ⟨(Nat.le_of_ble_eq_true rfl), (Nat.le_of_ble_eq_true rfl)⟩ hl.1 (Nat.le_of_ble_eq_true rfl) ⟨(Nat.le_of_ble_eq_true rfl), (Nat.le_of_ble_eq_true rfl)⟩ d_Law_law_12) (fun H locs hS => ?_)
  refine r_size (fun hz => ?_)
  have hS : St0 b C 231 (Gn 231 M2) M2 s H locs := hS.toSt0 (by omega)
  refine lv_astore_n (lv' := [(2, .ref (b + 191)), (1, .ref (b + 0)), (0, .ref scr)]) F.1.hx F.1.hb d_Law_law_15 rfl hl (Nat.le_of_ble_eq_true rfl) rfl (fun ls hl => ?_)
  refine r_iconst F.1.hx F.1.hb d_Law_law_16 ?_
  refine r0_newa (a := 2) (N := 1) (ty := .long) (atype := .long) F hS rfl rfl (by decide) rfl rfl rfl rfl mw_87 rfl (by decide) (by decide) (Nat.le_of_ble_eq_true rfl) (Nat.le_of_ble_eq_true rfl) d_Law_law_17 (fun H hS => ?_)
  have hS : St b C 232 M2 s H locs := hS.toSt2 (fun k hk j hj hq => by
    by_cases h1 : k < 231
    · exact (if_pos h1).symm
    · have h2 : k = 231 := by omega
      subst h2
      have h3 : shK 231 = 2 := rfl
      unfold refS at hq
      rw [h3] at hq
      simp at hq)
  refine lv_astore_n (lv' := [(3, .ref (b + 231)), (2, .ref (b + 191)), (1, .ref (b + 0)), (0, .ref scr)]) F.1.hx F.1.hb d_Law_law_19 rfl hl (Nat.le_of_ble_eq_true rfl) rfl (fun ls hl => ?_)
  refine r_iconst F.1.hx F.1.hb d_Law_law_20 ?_
  refine lv_istore (lv' := [(4, vI 0), (3, .ref (b + 231)), (2, .ref (b + 191)), (1, .ref (b + 0)), (0, .ref scr)]) F.1.hx F.1.hb d_Law_law_21 hl (Nat.le_of_ble_eq_true rfl) rfl (fun ls hl => ?_)
  exact k_Law_law_L23 l hlf hL ⟨CF, hK, Nat.le_refl _, hNN⟩ hX hXs hsl hb hlk hr FU M2 0 (inr_c rfl) 0 rfl (Nat.zero_le _) _ _ ⟨(Nat.le_of_ble_eq_true rfl), (Nat.le_of_ble_eq_true rfl)⟩ _ _ _ hS (lv_sub hl [4, 3, 2, 1, 0] rfl) hT
