theorem nf_WF_0 : ∀ j, j < 19 → (fk 0 j = 0 ∧ defaultValue (ty0 j) = .int 0 ∧ dyn 0 (j : Int) = false) ∨ (fk 0 j = 1 ∧ defaultValue (ty0 j) = .long 0 ∧ dyn 0 (j : Int) = false) ∨ (fk 0 j = 2 ∧ defaultValue (ty0 j) = .null) := by decide +kernel
theorem nf_MO_191 : ∀ j, j < 68 → (fk 1 j = 0 ∧ defaultValue (ty1 j) = .int 0 ∧ dyn 191 (j : Int) = false) ∨ (fk 1 j = 1 ∧ defaultValue (ty1 j) = .long 0 ∧ dyn 191 (j : Int) = false) ∨ (fk 1 j = 2 ∧ defaultValue (ty1 j) = .null) := by decide +kernel
theorem nfm_Chronicle {k : Nat} (h : isChronicle k) : ∀ j, j < 6 → (fk 2 j = 0 ∧ defaultValue (ty2 j) = .int 0 ∧ dyn k (j : Int) = false) ∨ (fk 2 j = 1 ∧ defaultValue (ty2 j) = .long 0 ∧ dyn k (j : Int) = false) ∨ (fk 2 j = 2 ∧ defaultValue (ty2 j) = .null) := by
  intro j hj
  have hd := Chronicle_dyn h (j : Int)
  rcases (by decide +kernel : ∀ j, j < 6 → (fk 2 j = 0 ∧ defaultValue (ty2 j) = .int 0) ∨ (fk 2 j = 1 ∧ defaultValue (ty2 j) = .long 0) ∨ (fk 2 j = 2 ∧ defaultValue (ty2 j) = .null)) j hj with q | q | q
  · exact Or.inl ⟨q.1, q.2, hd⟩
  · exact Or.inr (Or.inl ⟨q.1, q.2, hd⟩)
  · exact Or.inr (Or.inr q)
theorem nf_Chronicle_62 : ∀ j, j < 6 → (fk 2 j = 0 ∧ defaultValue (ty2 j) = .int 0 ∧ dyn 62 (j : Int) = false) ∨ (fk 2 j = 1 ∧ defaultValue (ty2 j) = .long 0 ∧ dyn 62 (j : Int) = false) ∨ (fk 2 j = 2 ∧ defaultValue (ty2 j) = .null) := nfm_Chronicle (by decide : isChronicle 62)
theorem nf_Chronicle_66 : ∀ j, j < 6 → (fk 2 j = 0 ∧ defaultValue (ty2 j) = .int 0 ∧ dyn 66 (j : Int) = false) ∨ (fk 2 j = 1 ∧ defaultValue (ty2 j) = .long 0 ∧ dyn 66 (j : Int) = false) ∨ (fk 2 j = 2 ∧ defaultValue (ty2 j) = .null) := nfm_Chronicle (by decide : isChronicle 66)
theorem nfm_Formula {k : Nat} (h : isFormula k) : ∀ j, j < 12 → (fk 3 j = 0 ∧ defaultValue (ty3 j) = .int 0 ∧ dyn k (j : Int) = false) ∨ (fk 3 j = 1 ∧ defaultValue (ty3 j) = .long 0 ∧ dyn k (j : Int) = false) ∨ (fk 3 j = 2 ∧ defaultValue (ty3 j) = .null) := by
  intro j hj
  have hd := Formula_dyn h (j : Int)
  rcases (by decide +kernel : ∀ j, j < 12 → (fk 3 j = 0 ∧ defaultValue (ty3 j) = .int 0) ∨ (fk 3 j = 1 ∧ defaultValue (ty3 j) = .long 0) ∨ (fk 3 j = 2 ∧ defaultValue (ty3 j) = .null)) j hj with q | q | q
  · exact Or.inl ⟨q.1, q.2, hd⟩
  · exact Or.inr (Or.inl ⟨q.1, q.2, hd⟩)
  · exact Or.inr (Or.inr q)
theorem nf_Formula_12 : ∀ j, j < 12 → (fk 3 j = 0 ∧ defaultValue (ty3 j) = .int 0 ∧ dyn 12 (j : Int) = false) ∨ (fk 3 j = 1 ∧ defaultValue (ty3 j) = .long 0 ∧ dyn 12 (j : Int) = false) ∨ (fk 3 j = 2 ∧ defaultValue (ty3 j) = .null) := nfm_Formula (by decide : isFormula 12)
theorem nf_Formula_17 : ∀ j, j < 12 → (fk 3 j = 0 ∧ defaultValue (ty3 j) = .int 0 ∧ dyn 17 (j : Int) = false) ∨ (fk 3 j = 1 ∧ defaultValue (ty3 j) = .long 0 ∧ dyn 17 (j : Int) = false) ∨ (fk 3 j = 2 ∧ defaultValue (ty3 j) = .null) := nfm_Formula (by decide : isFormula 17)
theorem nf_Formula_32 : ∀ j, j < 12 → (fk 3 j = 0 ∧ defaultValue (ty3 j) = .int 0 ∧ dyn 32 (j : Int) = false) ∨ (fk 3 j = 1 ∧ defaultValue (ty3 j) = .long 0 ∧ dyn 32 (j : Int) = false) ∨ (fk 3 j = 2 ∧ defaultValue (ty3 j) = .null) := nfm_Formula (by decide : isFormula 32)
theorem nf_Formula_37 : ∀ j, j < 12 → (fk 3 j = 0 ∧ defaultValue (ty3 j) = .int 0 ∧ dyn 37 (j : Int) = false) ∨ (fk 3 j = 1 ∧ defaultValue (ty3 j) = .long 0 ∧ dyn 37 (j : Int) = false) ∨ (fk 3 j = 2 ∧ defaultValue (ty3 j) = .null) := nfm_Formula (by decide : isFormula 37)
theorem nf_Laws_177 : ∀ j, j < 9 → (fk 4 j = 0 ∧ defaultValue (ty4 j) = .int 0 ∧ dyn 177 (j : Int) = false) ∨ (fk 4 j = 1 ∧ defaultValue (ty4 j) = .long 0 ∧ dyn 177 (j : Int) = false) ∨ (fk 4 j = 2 ∧ defaultValue (ty4 j) = .null) := by decide +kernel
theorem nf_Notes_172 : ∀ j, j < 7 → (fk 5 j = 0 ∧ defaultValue (ty5 j) = .int 0 ∧ dyn 172 (j : Int) = false) ∨ (fk 5 j = 1 ∧ defaultValue (ty5 j) = .long 0 ∧ dyn 172 (j : Int) = false) ∨ (fk 5 j = 2 ∧ defaultValue (ty5 j) = .null) := by decide +kernel
theorem nf_Past_70 : ∀ j, j < 3 → (fk 6 j = 0 ∧ defaultValue (ty6 j) = .int 0 ∧ dyn 70 (j : Int) = false) ∨ (fk 6 j = 1 ∧ defaultValue (ty6 j) = .long 0 ∧ dyn 70 (j : Int) = false) ∨ (fk 6 j = 2 ∧ defaultValue (ty6 j) = .null) := by decide +kernel
theorem nf_Paths_185 : ∀ j, j < 5 → (fk 7 j = 0 ∧ defaultValue (ty7 j) = .int 0 ∧ dyn 185 (j : Int) = false) ∨ (fk 7 j = 1 ∧ defaultValue (ty7 j) = .long 0 ∧ dyn 185 (j : Int) = false) ∨ (fk 7 j = 2 ∧ defaultValue (ty7 j) = .null) := by decide +kernel
theorem nf_Reader_46 : ∀ j, j < 11 → (fk 8 j = 0 ∧ defaultValue (ty8 j) = .int 0 ∧ dyn 46 (j : Int) = false) ∨ (fk 8 j = 1 ∧ defaultValue (ty8 j) = .long 0 ∧ dyn 46 (j : Int) = false) ∨ (fk 8 j = 2 ∧ defaultValue (ty8 j) = .null) := by decide +kernel
theorem nfm_Scene {k : Nat} (h : isScene k) : ∀ j, j < 7 → (fk 9 j = 0 ∧ defaultValue (ty9 j) = .int 0 ∧ dyn k (j : Int) = false) ∨ (fk 9 j = 1 ∧ defaultValue (ty9 j) = .long 0 ∧ dyn k (j : Int) = false) ∨ (fk 9 j = 2 ∧ defaultValue (ty9 j) = .null) := by
  intro j hj
  have hd := Scene_dyn h (j : Int)
  rcases (by decide +kernel : ∀ j, j < 7 → (fk 9 j = 0 ∧ defaultValue (ty9 j) = .int 0) ∨ (fk 9 j = 1 ∧ defaultValue (ty9 j) = .long 0) ∨ (fk 9 j = 2 ∧ defaultValue (ty9 j) = .null)) j hj with q | q | q
  · exact Or.inl ⟨q.1, q.2, hd⟩
  · exact Or.inr (Or.inl ⟨q.1, q.2, hd⟩)
  · exact Or.inr (Or.inr q)
theorem nf_Scene_47 : ∀ j, j < 7 → (fk 9 j = 0 ∧ defaultValue (ty9 j) = .int 0 ∧ dyn 47 (j : Int) = false) ∨ (fk 9 j = 1 ∧ defaultValue (ty9 j) = .long 0 ∧ dyn 47 (j : Int) = false) ∨ (fk 9 j = 2 ∧ defaultValue (ty9 j) = .null) := nfm_Scene (by decide : isScene 47)
theorem nf_Scene_52 : ∀ j, j < 7 → (fk 9 j = 0 ∧ defaultValue (ty9 j) = .int 0 ∧ dyn 52 (j : Int) = false) ∨ (fk 9 j = 1 ∧ defaultValue (ty9 j) = .long 0 ∧ dyn 52 (j : Int) = false) ∨ (fk 9 j = 2 ∧ defaultValue (ty9 j) = .null) := nfm_Scene (by decide : isScene 52)
theorem nf_Scene_57 : ∀ j, j < 7 → (fk 9 j = 0 ∧ defaultValue (ty9 j) = .int 0 ∧ dyn 57 (j : Int) = false) ∨ (fk 9 j = 1 ∧ defaultValue (ty9 j) = .long 0 ∧ dyn 57 (j : Int) = false) ∨ (fk 9 j = 2 ∧ defaultValue (ty9 j) = .null) := nfm_Scene (by decide : isScene 57)
theorem nf_Scene_72 : ∀ j, j < 7 → (fk 9 j = 0 ∧ defaultValue (ty9 j) = .int 0 ∧ dyn 72 (j : Int) = false) ∨ (fk 9 j = 1 ∧ defaultValue (ty9 j) = .long 0 ∧ dyn 72 (j : Int) = false) ∨ (fk 9 j = 2 ∧ defaultValue (ty9 j) = .null) := nfm_Scene (by decide : isScene 72)
theorem nf_Scene_77 : ∀ j, j < 7 → (fk 9 j = 0 ∧ defaultValue (ty9 j) = .int 0 ∧ dyn 77 (j : Int) = false) ∨ (fk 9 j = 1 ∧ defaultValue (ty9 j) = .long 0 ∧ dyn 77 (j : Int) = false) ∨ (fk 9 j = 2 ∧ defaultValue (ty9 j) = .null) := nfm_Scene (by decide : isScene 77)
theorem nf_Scene_82 : ∀ j, j < 7 → (fk 9 j = 0 ∧ defaultValue (ty9 j) = .int 0 ∧ dyn 82 (j : Int) = false) ∨ (fk 9 j = 1 ∧ defaultValue (ty9 j) = .long 0 ∧ dyn 82 (j : Int) = false) ∨ (fk 9 j = 2 ∧ defaultValue (ty9 j) = .null) := nfm_Scene (by decide : isScene 82)
theorem nf_Scene_87 : ∀ j, j < 7 → (fk 9 j = 0 ∧ defaultValue (ty9 j) = .int 0 ∧ dyn 87 (j : Int) = false) ∨ (fk 9 j = 1 ∧ defaultValue (ty9 j) = .long 0 ∧ dyn 87 (j : Int) = false) ∨ (fk 9 j = 2 ∧ defaultValue (ty9 j) = .null) := nfm_Scene (by decide : isScene 87)
theorem nf_Scene_92 : ∀ j, j < 7 → (fk 9 j = 0 ∧ defaultValue (ty9 j) = .int 0 ∧ dyn 92 (j : Int) = false) ∨ (fk 9 j = 1 ∧ defaultValue (ty9 j) = .long 0 ∧ dyn 92 (j : Int) = false) ∨ (fk 9 j = 2 ∧ defaultValue (ty9 j) = .null) := nfm_Scene (by decide : isScene 92)
theorem nf_Scene_97 : ∀ j, j < 7 → (fk 9 j = 0 ∧ defaultValue (ty9 j) = .int 0 ∧ dyn 97 (j : Int) = false) ∨ (fk 9 j = 1 ∧ defaultValue (ty9 j) = .long 0 ∧ dyn 97 (j : Int) = false) ∨ (fk 9 j = 2 ∧ defaultValue (ty9 j) = .null) := nfm_Scene (by decide : isScene 97)
theorem nf_Scene_102 : ∀ j, j < 7 → (fk 9 j = 0 ∧ defaultValue (ty9 j) = .int 0 ∧ dyn 102 (j : Int) = false) ∨ (fk 9 j = 1 ∧ defaultValue (ty9 j) = .long 0 ∧ dyn 102 (j : Int) = false) ∨ (fk 9 j = 2 ∧ defaultValue (ty9 j) = .null) := nfm_Scene (by decide : isScene 102)
theorem nf_Scene_107 : ∀ j, j < 7 → (fk 9 j = 0 ∧ defaultValue (ty9 j) = .int 0 ∧ dyn 107 (j : Int) = false) ∨ (fk 9 j = 1 ∧ defaultValue (ty9 j) = .long 0 ∧ dyn 107 (j : Int) = false) ∨ (fk 9 j = 2 ∧ defaultValue (ty9 j) = .null) := nfm_Scene (by decide : isScene 107)
theorem nf_Scene_112 : ∀ j, j < 7 → (fk 9 j = 0 ∧ defaultValue (ty9 j) = .int 0 ∧ dyn 112 (j : Int) = false) ∨ (fk 9 j = 1 ∧ defaultValue (ty9 j) = .long 0 ∧ dyn 112 (j : Int) = false) ∨ (fk 9 j = 2 ∧ defaultValue (ty9 j) = .null) := nfm_Scene (by decide : isScene 112)
theorem nf_Scene_117 : ∀ j, j < 7 → (fk 9 j = 0 ∧ defaultValue (ty9 j) = .int 0 ∧ dyn 117 (j : Int) = false) ∨ (fk 9 j = 1 ∧ defaultValue (ty9 j) = .long 0 ∧ dyn 117 (j : Int) = false) ∨ (fk 9 j = 2 ∧ defaultValue (ty9 j) = .null) := nfm_Scene (by decide : isScene 117)
theorem nf_Scene_122 : ∀ j, j < 7 → (fk 9 j = 0 ∧ defaultValue (ty9 j) = .int 0 ∧ dyn 122 (j : Int) = false) ∨ (fk 9 j = 1 ∧ defaultValue (ty9 j) = .long 0 ∧ dyn 122 (j : Int) = false) ∨ (fk 9 j = 2 ∧ defaultValue (ty9 j) = .null) := nfm_Scene (by decide : isScene 122)
theorem nf_Scene_127 : ∀ j, j < 7 → (fk 9 j = 0 ∧ defaultValue (ty9 j) = .int 0 ∧ dyn 127 (j : Int) = false) ∨ (fk 9 j = 1 ∧ defaultValue (ty9 j) = .long 0 ∧ dyn 127 (j : Int) = false) ∨ (fk 9 j = 2 ∧ defaultValue (ty9 j) = .null) := nfm_Scene (by decide : isScene 127)
theorem nf_Scene_132 : ∀ j, j < 7 → (fk 9 j = 0 ∧ defaultValue (ty9 j) = .int 0 ∧ dyn 132 (j : Int) = false) ∨ (fk 9 j = 1 ∧ defaultValue (ty9 j) = .long 0 ∧ dyn 132 (j : Int) = false) ∨ (fk 9 j = 2 ∧ defaultValue (ty9 j) = .null) := nfm_Scene (by decide : isScene 132)
theorem nf_Scene_137 : ∀ j, j < 7 → (fk 9 j = 0 ∧ defaultValue (ty9 j) = .int 0 ∧ dyn 137 (j : Int) = false) ∨ (fk 9 j = 1 ∧ defaultValue (ty9 j) = .long 0 ∧ dyn 137 (j : Int) = false) ∨ (fk 9 j = 2 ∧ defaultValue (ty9 j) = .null) := nfm_Scene (by decide : isScene 137)
theorem nf_Scene_142 : ∀ j, j < 7 → (fk 9 j = 0 ∧ defaultValue (ty9 j) = .int 0 ∧ dyn 142 (j : Int) = false) ∨ (fk 9 j = 1 ∧ defaultValue (ty9 j) = .long 0 ∧ dyn 142 (j : Int) = false) ∨ (fk 9 j = 2 ∧ defaultValue (ty9 j) = .null) := nfm_Scene (by decide : isScene 142)
theorem nf_Scene_147 : ∀ j, j < 7 → (fk 9 j = 0 ∧ defaultValue (ty9 j) = .int 0 ∧ dyn 147 (j : Int) = false) ∨ (fk 9 j = 1 ∧ defaultValue (ty9 j) = .long 0 ∧ dyn 147 (j : Int) = false) ∨ (fk 9 j = 2 ∧ defaultValue (ty9 j) = .null) := nfm_Scene (by decide : isScene 147)
theorem nf_Scene_152 : ∀ j, j < 7 → (fk 9 j = 0 ∧ defaultValue (ty9 j) = .int 0 ∧ dyn 152 (j : Int) = false) ∨ (fk 9 j = 1 ∧ defaultValue (ty9 j) = .long 0 ∧ dyn 152 (j : Int) = false) ∨ (fk 9 j = 2 ∧ defaultValue (ty9 j) = .null) := nfm_Scene (by decide : isScene 152)
theorem nf_Scene_157 : ∀ j, j < 7 → (fk 9 j = 0 ∧ defaultValue (ty9 j) = .int 0 ∧ dyn 157 (j : Int) = false) ∨ (fk 9 j = 1 ∧ defaultValue (ty9 j) = .long 0 ∧ dyn 157 (j : Int) = false) ∨ (fk 9 j = 2 ∧ defaultValue (ty9 j) = .null) := nfm_Scene (by decide : isScene 157)
theorem nf_Scene_162 : ∀ j, j < 7 → (fk 9 j = 0 ∧ defaultValue (ty9 j) = .int 0 ∧ dyn 162 (j : Int) = false) ∨ (fk 9 j = 1 ∧ defaultValue (ty9 j) = .long 0 ∧ dyn 162 (j : Int) = false) ∨ (fk 9 j = 2 ∧ defaultValue (ty9 j) = .null) := nfm_Scene (by decide : isScene 162)
theorem nf_Scene_167 : ∀ j, j < 7 → (fk 9 j = 0 ∧ defaultValue (ty9 j) = .int 0 ∧ dyn 167 (j : Int) = false) ∨ (fk 9 j = 1 ∧ defaultValue (ty9 j) = .long 0 ∧ dyn 167 (j : Int) = false) ∨ (fk 9 j = 2 ∧ defaultValue (ty9 j) = .null) := nfm_Scene (by decide : isScene 167)
theorem nf_Tokens_42 : ∀ j, j < 4 → (fk 10 j = 0 ∧ defaultValue (ty10 j) = .int 0 ∧ dyn 42 (j : Int) = false) ∨ (fk 10 j = 1 ∧ defaultValue (ty10 j) = .long 0 ∧ dyn 42 (j : Int) = false) ∨ (fk 10 j = 2 ∧ defaultValue (ty10 j) = .null) := by decide +kernel
theorem nfm_Town {k : Nat} (h : isTown k) : ∀ j, j < 20 → (fk 11 j = 0 ∧ defaultValue (ty11 j) = .int 0 ∧ dyn k (j : Int) = false) ∨ (fk 11 j = 1 ∧ defaultValue (ty11 j) = .long 0 ∧ dyn k (j : Int) = false) ∨ (fk 11 j = 2 ∧ defaultValue (ty11 j) = .null) := by
  intro j hj
  have hd := Town_dyn h (j : Int)
  rcases (by decide +kernel : ∀ j, j < 20 → (fk 11 j = 0 ∧ defaultValue (ty11 j) = .int 0) ∨ (fk 11 j = 1 ∧ defaultValue (ty11 j) = .long 0) ∨ (fk 11 j = 2 ∧ defaultValue (ty11 j) = .null)) j hj with q | q | q
  · exact Or.inl ⟨q.1, q.2, hd⟩
  · exact Or.inr (Or.inl ⟨q.1, q.2, hd⟩)
  · exact Or.inr (Or.inr q)
theorem nf_Town_2 : ∀ j, j < 20 → (fk 11 j = 0 ∧ defaultValue (ty11 j) = .int 0 ∧ dyn 2 (j : Int) = false) ∨ (fk 11 j = 1 ∧ defaultValue (ty11 j) = .long 0 ∧ dyn 2 (j : Int) = false) ∨ (fk 11 j = 2 ∧ defaultValue (ty11 j) = .null) := nfm_Town (by decide : isTown 2)
theorem nf_Town_22 : ∀ j, j < 20 → (fk 11 j = 0 ∧ defaultValue (ty11 j) = .int 0 ∧ dyn 22 (j : Int) = false) ∨ (fk 11 j = 1 ∧ defaultValue (ty11 j) = .long 0 ∧ dyn 22 (j : Int) = false) ∨ (fk 11 j = 2 ∧ defaultValue (ty11 j) = .null) := nfm_Town (by decide : isTown 22)
theorem nfm_Trail {k : Nat} (h : isTrail k) : ∀ j, j < 9 → (fk 12 j = 0 ∧ defaultValue (ty12 j) = .int 0 ∧ dyn k (j : Int) = false) ∨ (fk 12 j = 1 ∧ defaultValue (ty12 j) = .long 0 ∧ dyn k (j : Int) = false) ∨ (fk 12 j = 2 ∧ defaultValue (ty12 j) = .null) := by
  intro j hj
  have hd := Trail_dyn h (j : Int)
  rcases (by decide +kernel : ∀ j, j < 9 → (fk 12 j = 0 ∧ defaultValue (ty12 j) = .int 0) ∨ (fk 12 j = 1 ∧ defaultValue (ty12 j) = .long 0) ∨ (fk 12 j = 2 ∧ defaultValue (ty12 j) = .null)) j hj with q | q | q
  · exact Or.inl ⟨q.1, q.2, hd⟩
  · exact Or.inr (Or.inl ⟨q.1, q.2, hd⟩)
  · exact Or.inr (Or.inr q)
theorem nf_Trail_182 : ∀ j, j < 9 → (fk 12 j = 0 ∧ defaultValue (ty12 j) = .int 0 ∧ dyn 182 (j : Int) = false) ∨ (fk 12 j = 1 ∧ defaultValue (ty12 j) = .long 0 ∧ dyn 182 (j : Int) = false) ∨ (fk 12 j = 2 ∧ defaultValue (ty12 j) = .null) := nfm_Trail (by decide : isTrail 182)
theorem nf_Trail_189 : ∀ j, j < 9 → (fk 12 j = 0 ∧ defaultValue (ty12 j) = .int 0 ∧ dyn 189 (j : Int) = false) ∨ (fk 12 j = 1 ∧ defaultValue (ty12 j) = .long 0 ∧ dyn 189 (j : Int) = false) ∨ (fk 12 j = 2 ∧ defaultValue (ty12 j) = .null) := nfm_Trail (by decide : isTrail 189)
theorem d_Formula_init_0 : decode b_Formula_init 0 = .ok (.aload_n 0, 1) := dc_42 (by decide +kernel)
theorem d_Formula_init_1 : decode b_Formula_init 1 = .ok (.invokespecial 3, 3) := dc_183 (by decide +kernel)
theorem d_Formula_init_4 : decode b_Formula_init 4 = .ok (.aload_n 0, 1) := dc_42 (by decide +kernel)
theorem d_Formula_init_5 : decode b_Formula_init 5 = .ok (.bipush 64, 2) := dc_16 (by decide +kernel)
theorem d_Formula_init_7 : decode b_Formula_init 7 = .ok (.newarray .int, 2) := by decide +kernel
theorem d_Formula_init_9 : decode b_Formula_init 9 = .ok (.putfield 9, 3) := dc_181 (by decide +kernel)
theorem d_Formula_init_12 : decode b_Formula_init 12 = .ok (.aload_n 0, 1) := dc_42 (by decide +kernel)
theorem d_Formula_init_13 : decode b_Formula_init 13 = .ok (.bipush 64, 2) := dc_16 (by decide +kernel)
theorem d_Formula_init_15 : decode b_Formula_init 15 = .ok (.newarray .int, 2) := by decide +kernel
theorem d_Formula_init_17 : decode b_Formula_init 17 = .ok (.putfield 15, 3) := dc_181 (by decide +kernel)
theorem d_Formula_init_20 : decode b_Formula_init 20 = .ok (.aload_n 0, 1) := dc_42 (by decide +kernel)
theorem d_Formula_init_21 : decode b_Formula_init 21 = .ok (.bipush 64, 2) := dc_16 (by decide +kernel)
theorem d_Formula_init_23 : decode b_Formula_init 23 = .ok (.newarray .long, 2) := by decide +kernel
theorem d_Formula_init_25 : decode b_Formula_init 25 = .ok (.putfield 18, 3) := dc_181 (by decide +kernel)
theorem d_Formula_init_28 : decode b_Formula_init 28 = .ok (.aload_n 0, 1) := dc_42 (by decide +kernel)
theorem d_Formula_init_29 : decode b_Formula_init 29 = .ok (.bipush 72, 2) := dc_16 (by decide +kernel)
theorem d_Formula_init_31 : decode b_Formula_init 31 = .ok (.newarray .int, 2) := by decide +kernel
theorem d_Formula_init_33 : decode b_Formula_init 33 = .ok (.putfield 22, 3) := dc_181 (by decide +kernel)
theorem d_Formula_init_36 : decode b_Formula_init 36 = .ok (.return_, 1) := dc_177 (by decide +kernel)
def gc_Formula (k0 : Nat) (G : Nat → Int → Int) : Nat → Int → Int := (uI (uI (uI (uI G k0 0 ((k0 + 1) : Nat)) k0 1 ((k0 + 2) : Nat)) k0 2 ((k0 + 3) : Nat)) k0 5 ((k0 + 4) : Nat))
set_option maxHeartbeats 8000000 in
set_option maxRecDepth 100000 in
theorem cc_Formula (l : Launch) {b : Nat} {C : CT} (k0 : Nat) (hk0 : isFormula k0) (G : Nat → Int → Int) (M : Mem) : CC l b C 1 4 264 y_Formula_init b_Formula_init 1 [.ref (b + k0)] (k0 + 1) G M (Q0 b C (k0 + 5) (gc_Formula k0 G) M) := by
  refine CC.of (ow := "WardFalls$Formula") (by decide) rfl rfl (Nat.le_of_ble_eq_true rfl) (fun p e s m below meth c F hlk hr hin hS ls hl => ?_)
  have hl : lv_has ls 1 [(0, .ref (b + k0))] := hl
  refine lv_aload_n F.1.hx F.1.hb d_Formula_init_0 rfl (lv_at hl 0 rfl) ?_
  refine W.objInit F.1.hx F.1.hb F.1.hown (F.1.hts mw_46) (F.1.hts mw_33) (F.1.hts mw_34) rfl (by rw [F.1.hml]; exact hl.1) rfl d_Formula_init_1 (Nat.le_of_ble_eq_true rfl) (Nat.le_of_ble_eq_true rfl) ?_
  refine W.eq (g2 := F0 m 4 ls []) rfl ?_
  refine lv_aload_n F.1.hx F.1.hb d_Formula_init_4 rfl (lv_at hl 0 rfl) ?_
  refine r_bipush F.1.hx F.1.hb d_Formula_init_5 rfl ?_
  refine r0_newa (a := 0) (N := 64) (ty := .int) (atype := .int) F hS (Formula_f0 hk0).1 (Formula_f0 hk0).2.1 (by decide) rfl rfl rfl rfl mw_86 rfl (by decide) (by decide) (Nat.le_of_ble_eq_true rfl) (Nat.le_of_ble_eq_true rfl) d_Formula_init_7 (fun H hS => ?_)
  replace hS : St0 b C (k0 + 2) G M s _ _ := hS
  refine r0_putR (t := (k0 + 1)) (N := 12) (T := T3) (j := 0) F hin hS (by omega) (Formula_sh hk0) (Formula_N hk0) rfl (Nat.le_of_ble_eq_true rfl) ing3 tyok3 nm3 rfl rfl rfl rfl rfl mw_47 d_Formula_init_9 (fun H locs hS => ?_)
  obtain ⟨G1, eG1⟩ : ∃ q, q = (uI G k0 0 ((k0 + 1) : Nat)) := ⟨_, rfl⟩
  replace hS : St0 b C (k0 + 2) G1 M s H locs := by rw [eG1]; exact hS
  refine lv_aload_n F.1.hx F.1.hb d_Formula_init_12 rfl (lv_at hl 0 rfl) ?_
  refine r_bipush F.1.hx F.1.hb d_Formula_init_13 rfl ?_
  refine r0_newa (a := 0) (N := 64) (ty := .int) (atype := .int) F hS (Formula_f1 hk0).1 (Formula_f1 hk0).2.1 (by decide) rfl rfl rfl rfl mw_86 rfl (by decide) (by decide) (Nat.le_of_ble_eq_true rfl) (Nat.le_of_ble_eq_true rfl) d_Formula_init_15 (fun H hS => ?_)
  replace hS : St0 b C (k0 + 3) G1 M s _ _ := hS
  refine r0_putR (t := (k0 + 2)) (N := 12) (T := T3) (j := 1) F hin hS (by omega) (Formula_sh hk0) (Formula_N hk0) rfl (Nat.le_of_ble_eq_true rfl) ing3 tyok3 nm3 rfl rfl rfl rfl rfl mw_48 d_Formula_init_17 (fun H locs hS => ?_)
  obtain ⟨G2, eG2⟩ : ∃ q, q = (uI G1 k0 1 ((k0 + 2) : Nat)) := ⟨_, rfl⟩
  replace hS : St0 b C (k0 + 3) G2 M s H locs := by rw [eG2]; exact hS
  refine lv_aload_n F.1.hx F.1.hb d_Formula_init_20 rfl (lv_at hl 0 rfl) ?_
  refine r_bipush F.1.hx F.1.hb d_Formula_init_21 rfl ?_
  refine r0_newa (a := 2) (N := 64) (ty := .long) (atype := .long) F hS (Formula_f2 hk0).1 (Formula_f2 hk0).2.1 (by decide) rfl rfl rfl rfl mw_87 rfl (by decide) (by decide) (Nat.le_of_ble_eq_true rfl) (Nat.le_of_ble_eq_true rfl) d_Formula_init_23 (fun H hS => ?_)
  replace hS : St0 b C (k0 + 4) G2 M s _ _ := hS
  refine r0_putR (t := (k0 + 3)) (N := 12) (T := T3) (j := 2) F hin hS (by omega) (Formula_sh hk0) (Formula_N hk0) rfl (Nat.le_of_ble_eq_true rfl) ing3 tyok3 nm3 rfl rfl rfl rfl rfl mw_49 d_Formula_init_25 (fun H locs hS => ?_)
  obtain ⟨G3, eG3⟩ : ∃ q, q = (uI G2 k0 2 ((k0 + 3) : Nat)) := ⟨_, rfl⟩
  replace hS : St0 b C (k0 + 4) G3 M s H locs := by rw [eG3]; exact hS
  refine lv_aload_n F.1.hx F.1.hb d_Formula_init_28 rfl (lv_at hl 0 rfl) ?_
  refine r_bipush F.1.hx F.1.hb d_Formula_init_29 rfl ?_
  refine r0_newa (a := 0) (N := 72) (ty := .int) (atype := .int) F hS (Formula_f5 hk0).1 (Formula_f5 hk0).2.1 (by decide) rfl rfl rfl rfl mw_86 rfl (by decide) (by decide) (Nat.le_of_ble_eq_true rfl) (Nat.le_of_ble_eq_true rfl) d_Formula_init_31 (fun H hS => ?_)
  replace hS : St0 b C (k0 + 5) G3 M s _ _ := hS
  refine r0_putR (t := (k0 + 4)) (N := 12) (T := T3) (j := 5) F hin hS (by omega) (Formula_sh hk0) (Formula_N hk0) rfl (Nat.le_of_ble_eq_true rfl) ing3 tyok3 nm3 rfl rfl rfl rfl rfl mw_53 d_Formula_init_33 (fun H locs hS => ?_)
  obtain ⟨G4, eG4⟩ : ∃ q, q = (uI G3 k0 5 ((k0 + 4) : Nat)) := ⟨_, rfl⟩
  replace hS : St0 b C (k0 + 5) G4 M s H locs := by rw [eG4]; exact hS
  subst eG1 eG2 eG3 eG4
  exact r0_ret F hlk hr hS d_Formula_init_36
theorem d_Tokens_init_0 : decode b_Tokens_init 0 = .ok (.aload_n 0, 1) := dc_42 (by decide +kernel)
theorem d_Tokens_init_1 : decode b_Tokens_init 1 = .ok (.invokespecial 3, 3) := dc_183 (by decide +kernel)
theorem d_Tokens_init_4 : decode b_Tokens_init 4 = .ok (.aload_n 0, 1) := dc_42 (by decide +kernel)
theorem d_Tokens_init_5 : decode b_Tokens_init 5 = .ok (.sipush 701, 3) := dc_17 (by decide +kernel)
theorem d_Tokens_init_8 : decode b_Tokens_init 8 = .ok (.newarray .int, 2) := by decide +kernel
theorem d_Tokens_init_10 : decode b_Tokens_init 10 = .ok (.putfield 9, 3) := dc_181 (by decide +kernel)
theorem d_Tokens_init_13 : decode b_Tokens_init 13 = .ok (.aload_n 0, 1) := dc_42 (by decide +kernel)
theorem d_Tokens_init_14 : decode b_Tokens_init 14 = .ok (.sipush 701, 3) := dc_17 (by decide +kernel)
theorem d_Tokens_init_17 : decode b_Tokens_init 17 = .ok (.newarray .int, 2) := by decide +kernel
theorem d_Tokens_init_19 : decode b_Tokens_init 19 = .ok (.putfield 15, 3) := dc_181 (by decide +kernel)
theorem d_Tokens_init_22 : decode b_Tokens_init 22 = .ok (.aload_n 0, 1) := dc_42 (by decide +kernel)
theorem d_Tokens_init_23 : decode b_Tokens_init 23 = .ok (.sipush 701, 3) := dc_17 (by decide +kernel)
theorem d_Tokens_init_26 : decode b_Tokens_init 26 = .ok (.newarray .int, 2) := by decide +kernel
theorem d_Tokens_init_28 : decode b_Tokens_init 28 = .ok (.putfield 18, 3) := dc_181 (by decide +kernel)
theorem d_Tokens_init_31 : decode b_Tokens_init 31 = .ok (.return_, 1) := dc_177 (by decide +kernel)
def gc_Tokens (G : Nat → Int → Int) : Nat → Int → Int := (uI (uI (uI G 42 0 (43 : Nat)) 42 1 (44 : Nat)) 42 2 (45 : Nat))
set_option maxHeartbeats 8000000 in
set_option maxRecDepth 100000 in
theorem cc_Tokens (l : Launch) {b : Nat} {C : CT} (G : Nat → Int → Int) (M : Mem) : CC l b C 1 3 2103 y_Tokens_init b_Tokens_init 1 [.ref (b + 42)] 43 G M (Q0 b C 46 (gc_Tokens G) M) := by
  refine CC.of (ow := "WardFalls$Tokens") (by decide) rfl rfl (Nat.le_of_ble_eq_true rfl) (fun p e s m below meth c F hlk hr hin hS ls hl => ?_)
  have hl : lv_has ls 1 [(0, .ref (b + 42))] := hl
  refine lv_aload_n F.1.hx F.1.hb d_Tokens_init_0 rfl (lv_at hl 0 rfl) ?_
  refine W.objInit F.1.hx F.1.hb F.1.hown (F.1.hts mw_205) (F.1.hts mw_33) (F.1.hts mw_34) rfl (by rw [F.1.hml]; exact hl.1) rfl d_Tokens_init_1 (Nat.le_of_ble_eq_true rfl) (Nat.le_of_ble_eq_true rfl) ?_
  refine W.eq (g2 := F0 m 4 ls []) rfl ?_
  refine lv_aload_n F.1.hx F.1.hb d_Tokens_init_4 rfl (lv_at hl 0 rfl) ?_
  refine r_sipush F.1.hx F.1.hb d_Tokens_init_5 rfl ?_
  refine r0_newa (a := 0) (N := 701) (ty := .int) (atype := .int) F hS rfl rfl (by decide) rfl rfl rfl rfl mw_86 rfl (by decide) (by decide) (Nat.le_of_ble_eq_true rfl) (Nat.le_of_ble_eq_true rfl) d_Tokens_init_8 (fun H hS => ?_)
  replace hS : St0 b C 44 G M s _ _ := hS
  refine r0_putR (t := 43) (N := 4) (T := T10) (j := 0) F hin hS (show 42 < 44 by decide) rfl rfl rfl (Nat.le_of_ble_eq_true rfl) ing10 tyok10 nm10 rfl rfl rfl rfl rfl mw_206 d_Tokens_init_10 (fun H locs hS => ?_)
  obtain ⟨G1, eG1⟩ : ∃ q, q = (uI G 42 0 (43 : Nat)) := ⟨_, rfl⟩
  replace hS : St0 b C 44 G1 M s H locs := by rw [eG1]; exact hS
  refine lv_aload_n F.1.hx F.1.hb d_Tokens_init_13 rfl (lv_at hl 0 rfl) ?_
  refine r_sipush F.1.hx F.1.hb d_Tokens_init_14 rfl ?_
  refine r0_newa (a := 0) (N := 701) (ty := .int) (atype := .int) F hS rfl rfl (by decide) rfl rfl rfl rfl mw_86 rfl (by decide) (by decide) (Nat.le_of_ble_eq_true rfl) (Nat.le_of_ble_eq_true rfl) d_Tokens_init_17 (fun H hS => ?_)
  replace hS : St0 b C 45 G1 M s _ _ := hS
  refine r0_putR (t := 44) (N := 4) (T := T10) (j := 1) F hin hS (show 42 < 45 by decide) rfl rfl rfl (Nat.le_of_ble_eq_true rfl) ing10 tyok10 nm10 rfl rfl rfl rfl rfl mw_209 d_Tokens_init_19 (fun H locs hS => ?_)
  obtain ⟨G2, eG2⟩ : ∃ q, q = (uI G1 42 1 (44 : Nat)) := ⟨_, rfl⟩
  replace hS : St0 b C 45 G2 M s H locs := by rw [eG2]; exact hS
  refine lv_aload_n F.1.hx F.1.hb d_Tokens_init_22 rfl (lv_at hl 0 rfl) ?_
  refine r_sipush F.1.hx F.1.hb d_Tokens_init_23 rfl ?_
  refine r0_newa (a := 0) (N := 701) (ty := .int) (atype := .int) F hS rfl rfl (by decide) rfl rfl rfl rfl mw_86 rfl (by decide) (by decide) (Nat.le_of_ble_eq_true rfl) (Nat.le_of_ble_eq_true rfl) d_Tokens_init_26 (fun H hS => ?_)
  replace hS : St0 b C 46 G2 M s _ _ := hS
  refine r0_putR (t := 45) (N := 4) (T := T10) (j := 2) F hin hS (show 42 < 46 by decide) rfl rfl rfl (Nat.le_of_ble_eq_true rfl) ing10 tyok10 nm10 rfl rfl rfl rfl rfl mw_212 d_Tokens_init_28 (fun H locs hS => ?_)
  obtain ⟨G3, eG3⟩ : ∃ q, q = (uI G2 42 2 (45 : Nat)) := ⟨_, rfl⟩
  replace hS : St0 b C 46 G3 M s H locs := by rw [eG3]; exact hS
  subst eG1 eG2 eG3
  exact r0_ret F hlk hr hS d_Tokens_init_31
theorem d_Reader_init_0 : decode b_Reader_init 0 = .ok (.aload_n 0, 1) := dc_42 (by decide +kernel)
theorem d_Reader_init_1 : decode b_Reader_init 1 = .ok (.invokespecial 3, 3) := dc_183 (by decide +kernel)
theorem d_Reader_init_4 : decode b_Reader_init 4 = .ok (.return_, 1) := dc_177 (by decide +kernel)
def gc_Reader (G : Nat → Int → Int) : Nat → Int → Int := G
set_option maxHeartbeats 8000000 in
set_option maxRecDepth 100000 in
theorem cc_Reader (l : Launch) {b : Nat} {C : CT} (G : Nat → Int → Int) (M : Mem) : CC l b C 1 0 0 y_Reader_init b_Reader_init 1 [.ref (b + 46)] 47 G M (Q0 b C 47 (gc_Reader G) M) := by
  refine CC.of (ow := "WardFalls$Reader") (by decide) rfl rfl (Nat.le_of_ble_eq_true rfl) (fun p e s m below meth c F hlk hr hin hS ls hl => ?_)
  have hl : lv_has ls 1 [(0, .ref (b + 46))] := hl
  refine lv_aload_n F.1.hx F.1.hb d_Reader_init_0 rfl (lv_at hl 0 rfl) ?_
  refine W.objInit F.1.hx F.1.hb F.1.hown (F.1.hts mw_229) (F.1.hts mw_33) (F.1.hts mw_34) rfl (by rw [F.1.hml]; exact hl.1) rfl d_Reader_init_1 (Nat.le_of_ble_eq_true rfl) (Nat.le_of_ble_eq_true rfl) ?_
  refine W.eq (g2 := F0 m 4 ls []) rfl ?_
  skip
  exact r0_ret F hlk hr hS d_Reader_init_4
theorem d_Scene_init_0 : decode b_Scene_init 0 = .ok (.aload_n 0, 1) := dc_42 (by decide +kernel)
theorem d_Scene_init_1 : decode b_Scene_init 1 = .ok (.invokespecial 3, 3) := dc_183 (by decide +kernel)
theorem d_Scene_init_4 : decode b_Scene_init 4 = .ok (.aload_n 0, 1) := dc_42 (by decide +kernel)
theorem d_Scene_init_5 : decode b_Scene_init 5 = .ok (.iconst 4, 1) := dc_7 (by decide +kernel)
theorem d_Scene_init_6 : decode b_Scene_init 6 = .ok (.newarray .int, 2) := by decide +kernel
theorem d_Scene_init_8 : decode b_Scene_init 8 = .ok (.putfield 9, 3) := dc_181 (by decide +kernel)
theorem d_Scene_init_11 : decode b_Scene_init 11 = .ok (.aload_n 0, 1) := dc_42 (by decide +kernel)
theorem d_Scene_init_12 : decode b_Scene_init 12 = .ok (.bipush 8, 2) := dc_16 (by decide +kernel)
theorem d_Scene_init_14 : decode b_Scene_init 14 = .ok (.newarray .int, 2) := by decide +kernel
theorem d_Scene_init_16 : decode b_Scene_init 16 = .ok (.putfield 15, 3) := dc_181 (by decide +kernel)
theorem d_Scene_init_19 : decode b_Scene_init 19 = .ok (.aload_n 0, 1) := dc_42 (by decide +kernel)
theorem d_Scene_init_20 : decode b_Scene_init 20 = .ok (.bipush 8, 2) := dc_16 (by decide +kernel)
theorem d_Scene_init_22 : decode b_Scene_init 22 = .ok (.newarray .int, 2) := by decide +kernel
theorem d_Scene_init_24 : decode b_Scene_init 24 = .ok (.putfield 18, 3) := dc_181 (by decide +kernel)
theorem d_Scene_init_27 : decode b_Scene_init 27 = .ok (.aload_n 0, 1) := dc_42 (by decide +kernel)
theorem d_Scene_init_28 : decode b_Scene_init 28 = .ok (.bipush 8, 2) := dc_16 (by decide +kernel)
theorem d_Scene_init_30 : decode b_Scene_init 30 = .ok (.newarray .int, 2) := by decide +kernel
theorem d_Scene_init_32 : decode b_Scene_init 32 = .ok (.putfield 21, 3) := dc_181 (by decide +kernel)
theorem d_Scene_init_35 : decode b_Scene_init 35 = .ok (.return_, 1) := dc_177 (by decide +kernel)
def gc_Scene (k0 : Nat) (G : Nat → Int → Int) : Nat → Int → Int := (uI (uI (uI (uI G k0 0 ((k0 + 1) : Nat)) k0 1 ((k0 + 2) : Nat)) k0 2 ((k0 + 3) : Nat)) k0 3 ((k0 + 4) : Nat))
theorem gc_Scene_ne {k0 k : Nat} {j : Int} {G : Nat → Int → Int} (h : k ≠ k0) : gc_Scene k0 G k j = G k j := by simp only [gc_Scene, uI, if_neg h]
set_option maxHeartbeats 8000000 in
set_option maxRecDepth 100000 in
theorem cc_Scene (l : Launch) {b : Nat} {C : CT} (k0 : Nat) (hk0 : isScene k0) (G : Nat → Int → Int) (M : Mem) : CC l b C 1 4 28 y_Scene_init b_Scene_init 1 [.ref (b + k0)] (k0 + 1) G M (Q0 b C (k0 + 5) (gc_Scene k0 G) M) := by
  refine CC.of (ow := "WardFalls$Scene") (by decide) rfl rfl (Nat.le_of_ble_eq_true rfl) (fun p e s m below meth c F hlk hr hin hS ls hl => ?_)
  have hl : lv_has ls 1 [(0, .ref (b + k0))] := hl
  refine lv_aload_n F.1.hx F.1.hb d_Scene_init_0 rfl (lv_at hl 0 rfl) ?_
  refine W.objInit F.1.hx F.1.hb F.1.hown (F.1.hts mw_271) (F.1.hts mw_33) (F.1.hts mw_34) rfl (by rw [F.1.hml]; exact hl.1) rfl d_Scene_init_1 (Nat.le_of_ble_eq_true rfl) (Nat.le_of_ble_eq_true rfl) ?_
  refine W.eq (g2 := F0 m 4 ls []) rfl ?_
  refine lv_aload_n F.1.hx F.1.hb d_Scene_init_4 rfl (lv_at hl 0 rfl) ?_
  refine r_iconst F.1.hx F.1.hb d_Scene_init_5 ?_
  refine r0_newa (a := 0) (N := 4) (ty := .int) (atype := .int) F hS (Scene_f0 hk0).1 (Scene_f0 hk0).2.1 (by decide) rfl rfl rfl rfl mw_86 rfl (by decide) (by decide) (Nat.le_of_ble_eq_true rfl) (Nat.le_of_ble_eq_true rfl) d_Scene_init_6 (fun H hS => ?_)
  replace hS : St0 b C (k0 + 2) G M s _ _ := hS
  refine r0_putR (t := (k0 + 1)) (N := 7) (T := T9) (j := 0) F hin hS (by omega) (Scene_sh hk0) (Scene_N hk0) rfl (Nat.le_of_ble_eq_true rfl) ing9 tyok9 nm9 rfl rfl rfl rfl rfl mw_272 d_Scene_init_8 (fun H locs hS => ?_)
  obtain ⟨G1, eG1⟩ : ∃ q, q = (uI G k0 0 ((k0 + 1) : Nat)) := ⟨_, rfl⟩
  replace hS : St0 b C (k0 + 2) G1 M s H locs := by rw [eG1]; exact hS
  refine lv_aload_n F.1.hx F.1.hb d_Scene_init_11 rfl (lv_at hl 0 rfl) ?_
  refine r_bipush F.1.hx F.1.hb d_Scene_init_12 rfl ?_
  refine r0_newa (a := 0) (N := 8) (ty := .int) (atype := .int) F hS (Scene_f1 hk0).1 (Scene_f1 hk0).2.1 (by decide) rfl rfl rfl rfl mw_86 rfl (by decide) (by decide) (Nat.le_of_ble_eq_true rfl) (Nat.le_of_ble_eq_true rfl) d_Scene_init_14 (fun H hS => ?_)
  replace hS : St0 b C (k0 + 3) G1 M s _ _ := hS
  refine r0_putR (t := (k0 + 2)) (N := 7) (T := T9) (j := 1) F hin hS (by omega) (Scene_sh hk0) (Scene_N hk0) rfl (Nat.le_of_ble_eq_true rfl) ing9 tyok9 nm9 rfl rfl rfl rfl rfl mw_278 d_Scene_init_16 (fun H locs hS => ?_)
  obtain ⟨G2, eG2⟩ : ∃ q, q = (uI G1 k0 1 ((k0 + 2) : Nat)) := ⟨_, rfl⟩
  replace hS : St0 b C (k0 + 3) G2 M s H locs := by rw [eG2]; exact hS
  refine lv_aload_n F.1.hx F.1.hb d_Scene_init_19 rfl (lv_at hl 0 rfl) ?_
  refine r_bipush F.1.hx F.1.hb d_Scene_init_20 rfl ?_
  refine r0_newa (a := 0) (N := 8) (ty := .int) (atype := .int) F hS (Scene_f2 hk0).1 (Scene_f2 hk0).2.1 (by decide) rfl rfl rfl rfl mw_86 rfl (by decide) (by decide) (Nat.le_of_ble_eq_true rfl) (Nat.le_of_ble_eq_true rfl) d_Scene_init_22 (fun H hS => ?_)
  replace hS : St0 b C (k0 + 4) G2 M s _ _ := hS
  refine r0_putR (t := (k0 + 3)) (N := 7) (T := T9) (j := 2) F hin hS (by omega) (Scene_sh hk0) (Scene_N hk0) rfl (Nat.le_of_ble_eq_true rfl) ing9 tyok9 nm9 rfl rfl rfl rfl rfl mw_281 d_Scene_init_24 (fun H locs hS => ?_)
  obtain ⟨G3, eG3⟩ : ∃ q, q = (uI G2 k0 2 ((k0 + 3) : Nat)) := ⟨_, rfl⟩
  replace hS : St0 b C (k0 + 4) G3 M s H locs := by rw [eG3]; exact hS
  refine lv_aload_n F.1.hx F.1.hb d_Scene_init_27 rfl (lv_at hl 0 rfl) ?_
  refine r_bipush F.1.hx F.1.hb d_Scene_init_28 rfl ?_
  refine r0_newa (a := 0) (N := 8) (ty := .int) (atype := .int) F hS (Scene_f3 hk0).1 (Scene_f3 hk0).2.1 (by decide) rfl rfl rfl rfl mw_86 rfl (by decide) (by decide) (Nat.le_of_ble_eq_true rfl) (Nat.le_of_ble_eq_true rfl) d_Scene_init_30 (fun H hS => ?_)
  replace hS : St0 b C (k0 + 5) G3 M s _ _ := hS
  refine r0_putR (t := (k0 + 4)) (N := 7) (T := T9) (j := 3) F hin hS (by omega) (Scene_sh hk0) (Scene_N hk0) rfl (Nat.le_of_ble_eq_true rfl) ing9 tyok9 nm9 rfl rfl rfl rfl rfl mw_283 d_Scene_init_32 (fun H locs hS => ?_)
  obtain ⟨G4, eG4⟩ : ∃ q, q = (uI G3 k0 3 ((k0 + 4) : Nat)) := ⟨_, rfl⟩
  replace hS : St0 b C (k0 + 5) G4 M s H locs := by rw [eG4]; exact hS
  subst eG1 eG2 eG3 eG4
  exact r0_ret F hlk hr hS d_Scene_init_35
theorem d_Chronicle_init_0 : decode b_Chronicle_init 0 = .ok (.aload_n 0, 1) := dc_42 (by decide +kernel)
theorem d_Chronicle_init_1 : decode b_Chronicle_init 1 = .ok (.invokespecial 3, 3) := dc_183 (by decide +kernel)
theorem d_Chronicle_init_4 : decode b_Chronicle_init 4 = .ok (.aload_n 0, 1) := dc_42 (by decide +kernel)
theorem d_Chronicle_init_5 : decode b_Chronicle_init 5 = .ok (.bipush 99, 2) := dc_16 (by decide +kernel)
theorem d_Chronicle_init_7 : decode b_Chronicle_init 7 = .ok (.newarray .int, 2) := by decide +kernel
theorem d_Chronicle_init_9 : decode b_Chronicle_init 9 = .ok (.putfield 9, 3) := dc_181 (by decide +kernel)
theorem d_Chronicle_init_12 : decode b_Chronicle_init 12 = .ok (.aload_n 0, 1) := dc_42 (by decide +kernel)
theorem d_Chronicle_init_13 : decode b_Chronicle_init 13 = .ok (.bipush 99, 2) := dc_16 (by decide +kernel)
theorem d_Chronicle_init_15 : decode b_Chronicle_init 15 = .ok (.newarray .int, 2) := by decide +kernel
theorem d_Chronicle_init_17 : decode b_Chronicle_init 17 = .ok (.putfield 15, 3) := dc_181 (by decide +kernel)
theorem d_Chronicle_init_20 : decode b_Chronicle_init 20 = .ok (.aload_n 0, 1) := dc_42 (by decide +kernel)
theorem d_Chronicle_init_21 : decode b_Chronicle_init 21 = .ok (.bipush 99, 2) := dc_16 (by decide +kernel)
theorem d_Chronicle_init_23 : decode b_Chronicle_init 23 = .ok (.newarray .int, 2) := by decide +kernel
theorem d_Chronicle_init_25 : decode b_Chronicle_init 25 = .ok (.putfield 18, 3) := dc_181 (by decide +kernel)
theorem d_Chronicle_init_28 : decode b_Chronicle_init 28 = .ok (.return_, 1) := dc_177 (by decide +kernel)
def gc_Chronicle (k0 : Nat) (G : Nat → Int → Int) : Nat → Int → Int := (uI (uI (uI G k0 0 ((k0 + 1) : Nat)) k0 1 ((k0 + 2) : Nat)) k0 2 ((k0 + 3) : Nat))
set_option maxHeartbeats 8000000 in
set_option maxRecDepth 100000 in
theorem cc_Chronicle (l : Launch) {b : Nat} {C : CT} (k0 : Nat) (hk0 : isChronicle k0) (G : Nat → Int → Int) (M : Mem) : CC l b C 1 3 297 y_Chronicle_init b_Chronicle_init 1 [.ref (b + k0)] (k0 + 1) G M (Q0 b C (k0 + 4) (gc_Chronicle k0 G) M) := by
  refine CC.of (ow := "WardFalls$Chronicle") (by decide) rfl rfl (Nat.le_of_ble_eq_true rfl) (fun p e s m below meth c F hlk hr hin hS ls hl => ?_)
  have hl : lv_has ls 1 [(0, .ref (b + k0))] := hl
  refine lv_aload_n F.1.hx F.1.hb d_Chronicle_init_0 rfl (lv_at hl 0 rfl) ?_
  refine W.objInit F.1.hx F.1.hb F.1.hown (F.1.hts mw_313) (F.1.hts mw_33) (F.1.hts mw_34) rfl (by rw [F.1.hml]; exact hl.1) rfl d_Chronicle_init_1 (Nat.le_of_ble_eq_true rfl) (Nat.le_of_ble_eq_true rfl) ?_
  refine W.eq (g2 := F0 m 4 ls []) rfl ?_
  refine lv_aload_n F.1.hx F.1.hb d_Chronicle_init_4 rfl (lv_at hl 0 rfl) ?_
  refine r_bipush F.1.hx F.1.hb d_Chronicle_init_5 rfl ?_
  refine r0_newa (a := 0) (N := 99) (ty := .int) (atype := .int) F hS (Chronicle_f0 hk0).1 (Chronicle_f0 hk0).2.1 (by decide) rfl rfl rfl rfl mw_86 rfl (by decide) (by decide) (Nat.le_of_ble_eq_true rfl) (Nat.le_of_ble_eq_true rfl) d_Chronicle_init_7 (fun H hS => ?_)
  replace hS : St0 b C (k0 + 2) G M s _ _ := hS
  refine r0_putR (t := (k0 + 1)) (N := 6) (T := T2) (j := 0) F hin hS (by omega) (Chronicle_sh hk0) (Chronicle_N hk0) rfl (Nat.le_of_ble_eq_true rfl) ing2 tyok2 nm2 rfl rfl rfl rfl rfl mw_314 d_Chronicle_init_9 (fun H locs hS => ?_)
  obtain ⟨G1, eG1⟩ : ∃ q, q = (uI G k0 0 ((k0 + 1) : Nat)) := ⟨_, rfl⟩
  replace hS : St0 b C (k0 + 2) G1 M s H locs := by rw [eG1]; exact hS
  refine lv_aload_n F.1.hx F.1.hb d_Chronicle_init_12 rfl (lv_at hl 0 rfl) ?_
  refine r_bipush F.1.hx F.1.hb d_Chronicle_init_13 rfl ?_
  refine r0_newa (a := 0) (N := 99) (ty := .int) (atype := .int) F hS (Chronicle_f1 hk0).1 (Chronicle_f1 hk0).2.1 (by decide) rfl rfl rfl rfl mw_86 rfl (by decide) (by decide) (Nat.le_of_ble_eq_true rfl) (Nat.le_of_ble_eq_true rfl) d_Chronicle_init_15 (fun H hS => ?_)
  replace hS : St0 b C (k0 + 3) G1 M s _ _ := hS
  refine r0_putR (t := (k0 + 2)) (N := 6) (T := T2) (j := 1) F hin hS (by omega) (Chronicle_sh hk0) (Chronicle_N hk0) rfl (Nat.le_of_ble_eq_true rfl) ing2 tyok2 nm2 rfl rfl rfl rfl rfl mw_316 d_Chronicle_init_17 (fun H locs hS => ?_)
  obtain ⟨G2, eG2⟩ : ∃ q, q = (uI G1 k0 1 ((k0 + 2) : Nat)) := ⟨_, rfl⟩
  replace hS : St0 b C (k0 + 3) G2 M s H locs := by rw [eG2]; exact hS
  refine lv_aload_n F.1.hx F.1.hb d_Chronicle_init_20 rfl (lv_at hl 0 rfl) ?_
  refine r_bipush F.1.hx F.1.hb d_Chronicle_init_21 rfl ?_
  refine r0_newa (a := 0) (N := 99) (ty := .int) (atype := .int) F hS (Chronicle_f2 hk0).1 (Chronicle_f2 hk0).2.1 (by decide) rfl rfl rfl rfl mw_86 rfl (by decide) (by decide) (Nat.le_of_ble_eq_true rfl) (Nat.le_of_ble_eq_true rfl) d_Chronicle_init_23 (fun H hS => ?_)
  replace hS : St0 b C (k0 + 4) G2 M s _ _ := hS
  refine r0_putR (t := (k0 + 3)) (N := 6) (T := T2) (j := 2) F hin hS (by omega) (Chronicle_sh hk0) (Chronicle_N hk0) rfl (Nat.le_of_ble_eq_true rfl) ing2 tyok2 nm2 rfl rfl rfl rfl rfl mw_318 d_Chronicle_init_25 (fun H locs hS => ?_)
  obtain ⟨G3, eG3⟩ : ∃ q, q = (uI G2 k0 2 ((k0 + 3) : Nat)) := ⟨_, rfl⟩
  replace hS : St0 b C (k0 + 4) G3 M s H locs := by rw [eG3]; exact hS
  subst eG1 eG2 eG3
  exact r0_ret F hlk hr hS d_Chronicle_init_28
theorem d_Notes_init_0 : decode b_Notes_init 0 = .ok (.aload_n 0, 1) := dc_42 (by decide +kernel)
theorem d_Notes_init_1 : decode b_Notes_init 1 = .ok (.invokespecial 3, 3) := dc_183 (by decide +kernel)
theorem d_Notes_init_4 : decode b_Notes_init 4 = .ok (.aload_n 0, 1) := dc_42 (by decide +kernel)
theorem d_Notes_init_5 : decode b_Notes_init 5 = .ok (.bipush 24, 2) := dc_16 (by decide +kernel)
theorem d_Notes_init_7 : decode b_Notes_init 7 = .ok (.newarray .int, 2) := by decide +kernel
theorem d_Notes_init_9 : decode b_Notes_init 9 = .ok (.putfield 9, 3) := dc_181 (by decide +kernel)
theorem d_Notes_init_12 : decode b_Notes_init 12 = .ok (.aload_n 0, 1) := dc_42 (by decide +kernel)
theorem d_Notes_init_13 : decode b_Notes_init 13 = .ok (.bipush 24, 2) := dc_16 (by decide +kernel)
theorem d_Notes_init_15 : decode b_Notes_init 15 = .ok (.newarray .int, 2) := by decide +kernel
theorem d_Notes_init_17 : decode b_Notes_init 17 = .ok (.putfield 15, 3) := dc_181 (by decide +kernel)
theorem d_Notes_init_20 : decode b_Notes_init 20 = .ok (.aload_n 0, 1) := dc_42 (by decide +kernel)
theorem d_Notes_init_21 : decode b_Notes_init 21 = .ok (.bipush 24, 2) := dc_16 (by decide +kernel)
theorem d_Notes_init_23 : decode b_Notes_init 23 = .ok (.newarray .int, 2) := by decide +kernel
theorem d_Notes_init_25 : decode b_Notes_init 25 = .ok (.putfield 18, 3) := dc_181 (by decide +kernel)
theorem d_Notes_init_28 : decode b_Notes_init 28 = .ok (.aload_n 0, 1) := dc_42 (by decide +kernel)
theorem d_Notes_init_29 : decode b_Notes_init 29 = .ok (.iconst 4, 1) := dc_7 (by decide +kernel)
theorem d_Notes_init_30 : decode b_Notes_init 30 = .ok (.newarray .int, 2) := by decide +kernel
theorem d_Notes_init_32 : decode b_Notes_init 32 = .ok (.putfield 21, 3) := dc_181 (by decide +kernel)
theorem d_Notes_init_35 : decode b_Notes_init 35 = .ok (.return_, 1) := dc_177 (by decide +kernel)
def gc_Notes (G : Nat → Int → Int) : Nat → Int → Int := (uI (uI (uI (uI G 172 0 (173 : Nat)) 172 1 (174 : Nat)) 172 2 (175 : Nat)) 172 3 (176 : Nat))
set_option maxHeartbeats 8000000 in
set_option maxRecDepth 100000 in
theorem cc_Notes (l : Launch) {b : Nat} {C : CT} (G : Nat → Int → Int) (M : Mem) : CC l b C 1 4 76 y_Notes_init b_Notes_init 1 [.ref (b + 172)] 173 G M (Q0 b C 177 (gc_Notes G) M) := by
  refine CC.of (ow := "WardFalls$Notes") (by decide) rfl rfl (Nat.le_of_ble_eq_true rfl) (fun p e s m below meth c F hlk hr hin hS ls hl => ?_)
  have hl : lv_has ls 1 [(0, .ref (b + 172))] := hl
  refine lv_aload_n F.1.hx F.1.hb d_Notes_init_0 rfl (lv_at hl 0 rfl) ?_
  refine W.objInit F.1.hx F.1.hb F.1.hown (F.1.hts mw_363) (F.1.hts mw_33) (F.1.hts mw_34) rfl (by rw [F.1.hml]; exact hl.1) rfl d_Notes_init_1 (Nat.le_of_ble_eq_true rfl) (Nat.le_of_ble_eq_true rfl) ?_
  refine W.eq (g2 := F0 m 4 ls []) rfl ?_
  refine lv_aload_n F.1.hx F.1.hb d_Notes_init_4 rfl (lv_at hl 0 rfl) ?_
  refine r_bipush F.1.hx F.1.hb d_Notes_init_5 rfl ?_
  refine r0_newa (a := 0) (N := 24) (ty := .int) (atype := .int) F hS rfl rfl (by decide) rfl rfl rfl rfl mw_86 rfl (by decide) (by decide) (Nat.le_of_ble_eq_true rfl) (Nat.le_of_ble_eq_true rfl) d_Notes_init_7 (fun H hS => ?_)
  replace hS : St0 b C 174 G M s _ _ := hS
  refine r0_putR (t := 173) (N := 7) (T := T5) (j := 0) F hin hS (show 172 < 174 by decide) rfl rfl rfl (Nat.le_of_ble_eq_true rfl) ing5 tyok5 nm5 rfl rfl rfl rfl rfl mw_364 d_Notes_init_9 (fun H locs hS => ?_)
  obtain ⟨G1, eG1⟩ : ∃ q, q = (uI G 172 0 (173 : Nat)) := ⟨_, rfl⟩
  replace hS : St0 b C 174 G1 M s H locs := by rw [eG1]; exact hS
  refine lv_aload_n F.1.hx F.1.hb d_Notes_init_12 rfl (lv_at hl 0 rfl) ?_
  refine r_bipush F.1.hx F.1.hb d_Notes_init_13 rfl ?_
  refine r0_newa (a := 0) (N := 24) (ty := .int) (atype := .int) F hS rfl rfl (by decide) rfl rfl rfl rfl mw_86 rfl (by decide) (by decide) (Nat.le_of_ble_eq_true rfl) (Nat.le_of_ble_eq_true rfl) d_Notes_init_15 (fun H hS => ?_)
  replace hS : St0 b C 175 G1 M s _ _ := hS
  refine r0_putR (t := 174) (N := 7) (T := T5) (j := 1) F hin hS (show 172 < 175 by decide) rfl rfl rfl (Nat.le_of_ble_eq_true rfl) ing5 tyok5 nm5 rfl rfl rfl rfl rfl mw_365 d_Notes_init_17 (fun H locs hS => ?_)
  obtain ⟨G2, eG2⟩ : ∃ q, q = (uI G1 172 1 (174 : Nat)) := ⟨_, rfl⟩
  replace hS : St0 b C 175 G2 M s H locs := by rw [eG2]; exact hS
  refine lv_aload_n F.1.hx F.1.hb d_Notes_init_20 rfl (lv_at hl 0 rfl) ?_
  refine r_bipush F.1.hx F.1.hb d_Notes_init_21 rfl ?_
  refine r0_newa (a := 0) (N := 24) (ty := .int) (atype := .int) F hS rfl rfl (by decide) rfl rfl rfl rfl mw_86 rfl (by decide) (by decide) (Nat.le_of_ble_eq_true rfl) (Nat.le_of_ble_eq_true rfl) d_Notes_init_23 (fun H hS => ?_)
  replace hS : St0 b C 176 G2 M s _ _ := hS
  refine r0_putR (t := 175) (N := 7) (T := T5) (j := 2) F hin hS (show 172 < 176 by decide) rfl rfl rfl (Nat.le_of_ble_eq_true rfl) ing5 tyok5 nm5 rfl rfl rfl rfl rfl mw_366 d_Notes_init_25 (fun H locs hS => ?_)
  obtain ⟨G3, eG3⟩ : ∃ q, q = (uI G2 172 2 (175 : Nat)) := ⟨_, rfl⟩
  replace hS : St0 b C 176 G3 M s H locs := by rw [eG3]; exact hS
  refine lv_aload_n F.1.hx F.1.hb d_Notes_init_28 rfl (lv_at hl 0 rfl) ?_
  refine r_iconst F.1.hx F.1.hb d_Notes_init_29 ?_
  refine r0_newa (a := 0) (N := 4) (ty := .int) (atype := .int) F hS rfl rfl (by decide) rfl rfl rfl rfl mw_86 rfl (by decide) (by decide) (Nat.le_of_ble_eq_true rfl) (Nat.le_of_ble_eq_true rfl) d_Notes_init_30 (fun H hS => ?_)
  replace hS : St0 b C 177 G3 M s _ _ := hS
  refine r0_putR (t := 176) (N := 7) (T := T5) (j := 3) F hin hS (show 172 < 177 by decide) rfl rfl rfl (Nat.le_of_ble_eq_true rfl) ing5 tyok5 nm5 rfl rfl rfl rfl rfl mw_367 d_Notes_init_32 (fun H locs hS => ?_)
  obtain ⟨G4, eG4⟩ : ∃ q, q = (uI G3 172 3 (176 : Nat)) := ⟨_, rfl⟩
  replace hS : St0 b C 177 G4 M s H locs := by rw [eG4]; exact hS
  subst eG1 eG2 eG3 eG4
  exact r0_ret F hlk hr hS d_Notes_init_35
theorem d_Trail_init_0 : decode b_Trail_init 0 = .ok (.aload_n 0, 1) := dc_42 (by decide +kernel)
theorem d_Trail_init_1 : decode b_Trail_init 1 = .ok (.invokespecial 3, 3) := dc_183 (by decide +kernel)
theorem d_Trail_init_4 : decode b_Trail_init 4 = .ok (.aload_n 0, 1) := dc_42 (by decide +kernel)
theorem d_Trail_init_5 : decode b_Trail_init 5 = .ok (.bipush 48, 2) := dc_16 (by decide +kernel)
theorem d_Trail_init_7 : decode b_Trail_init 7 = .ok (.newarray .int, 2) := by decide +kernel
theorem d_Trail_init_9 : decode b_Trail_init 9 = .ok (.putfield 9, 3) := dc_181 (by decide +kernel)
theorem d_Trail_init_12 : decode b_Trail_init 12 = .ok (.return_, 1) := dc_177 (by decide +kernel)
def gc_Trail (k0 : Nat) (G : Nat → Int → Int) : Nat → Int → Int := (uI G k0 0 ((k0 + 1) : Nat))
set_option maxHeartbeats 8000000 in
set_option maxRecDepth 100000 in
theorem cc_Trail (l : Launch) {b : Nat} {C : CT} (k0 : Nat) (hk0 : isTrail k0) (G : Nat → Int → Int) (M : Mem) : CC l b C 1 1 48 y_Trail_init b_Trail_init 1 [.ref (b + k0)] (k0 + 1) G M (Q0 b C (k0 + 2) (gc_Trail k0 G) M) := by
  refine CC.of (ow := "WardFalls$Trail") (by decide) rfl rfl (Nat.le_of_ble_eq_true rfl) (fun p e s m below meth c F hlk hr hin hS ls hl => ?_)
  have hl : lv_has ls 1 [(0, .ref (b + k0))] := hl
  refine lv_aload_n F.1.hx F.1.hb d_Trail_init_0 rfl (lv_at hl 0 rfl) ?_
  refine W.objInit F.1.hx F.1.hb F.1.hown (F.1.hts mw_401) (F.1.hts mw_33) (F.1.hts mw_34) rfl (by rw [F.1.hml]; exact hl.1) rfl d_Trail_init_1 (Nat.le_of_ble_eq_true rfl) (Nat.le_of_ble_eq_true rfl) ?_
  refine W.eq (g2 := F0 m 4 ls []) rfl ?_
  refine lv_aload_n F.1.hx F.1.hb d_Trail_init_4 rfl (lv_at hl 0 rfl) ?_
  refine r_bipush F.1.hx F.1.hb d_Trail_init_5 rfl ?_
  refine r0_newa (a := 0) (N := 48) (ty := .int) (atype := .int) F hS (Trail_f0 hk0).1 (Trail_f0 hk0).2.1 (by decide) rfl rfl rfl rfl mw_86 rfl (by decide) (by decide) (Nat.le_of_ble_eq_true rfl) (Nat.le_of_ble_eq_true rfl) d_Trail_init_7 (fun H hS => ?_)
  replace hS : St0 b C (k0 + 2) G M s _ _ := hS
  refine r0_putR (t := (k0 + 1)) (N := 9) (T := T12) (j := 0) F hin hS (by omega) (Trail_sh hk0) (Trail_N hk0) rfl (Nat.le_of_ble_eq_true rfl) ing12 tyok12 nm12 rfl rfl rfl rfl rfl mw_402 d_Trail_init_9 (fun H locs hS => ?_)
  obtain ⟨G1, eG1⟩ : ∃ q, q = (uI G k0 0 ((k0 + 1) : Nat)) := ⟨_, rfl⟩
  replace hS : St0 b C (k0 + 2) G1 M s H locs := by rw [eG1]; exact hS
  subst eG1
  exact r0_ret F hlk hr hS d_Trail_init_12
theorem d_Paths_init_0 : decode b_Paths_init 0 = .ok (.aload_n 0, 1) := dc_42 (by decide +kernel)
theorem d_Paths_init_1 : decode b_Paths_init 1 = .ok (.invokespecial 3, 3) := dc_183 (by decide +kernel)
theorem d_Paths_init_4 : decode b_Paths_init 4 = .ok (.aload_n 0, 1) := dc_42 (by decide +kernel)
theorem d_Paths_init_5 : decode b_Paths_init 5 = .ok (.sipush 192, 3) := dc_17 (by decide +kernel)
theorem d_Paths_init_8 : decode b_Paths_init 8 = .ok (.newarray .int, 2) := by decide +kernel
theorem d_Paths_init_10 : decode b_Paths_init 10 = .ok (.putfield 9, 3) := dc_181 (by decide +kernel)
theorem d_Paths_init_13 : decode b_Paths_init 13 = .ok (.aload_n 0, 1) := dc_42 (by decide +kernel)
theorem d_Paths_init_14 : decode b_Paths_init 14 = .ok (.bipush 48, 2) := dc_16 (by decide +kernel)
theorem d_Paths_init_16 : decode b_Paths_init 16 = .ok (.newarray .int, 2) := by decide +kernel
theorem d_Paths_init_18 : decode b_Paths_init 18 = .ok (.putfield 15, 3) := dc_181 (by decide +kernel)
theorem d_Paths_init_21 : decode b_Paths_init 21 = .ok (.aload_n 0, 1) := dc_42 (by decide +kernel)
theorem d_Paths_init_22 : decode b_Paths_init 22 = .ok (.bipush 48, 2) := dc_16 (by decide +kernel)
theorem d_Paths_init_24 : decode b_Paths_init 24 = .ok (.newarray .int, 2) := by decide +kernel
theorem d_Paths_init_26 : decode b_Paths_init 26 = .ok (.putfield 18, 3) := dc_181 (by decide +kernel)
theorem d_Paths_init_29 : decode b_Paths_init 29 = .ok (.return_, 1) := dc_177 (by decide +kernel)
def gc_Paths (G : Nat → Int → Int) : Nat → Int → Int := (uI (uI (uI G 185 0 (186 : Nat)) 185 1 (187 : Nat)) 185 2 (188 : Nat))
set_option maxHeartbeats 8000000 in
set_option maxRecDepth 100000 in
theorem cc_Paths (l : Launch) {b : Nat} {C : CT} (G : Nat → Int → Int) (M : Mem) : CC l b C 1 3 288 y_Paths_init b_Paths_init 1 [.ref (b + 185)] 186 G M (Q0 b C 189 (gc_Paths G) M) := by
  refine CC.of (ow := "WardFalls$Paths") (by decide) rfl rfl (Nat.le_of_ble_eq_true rfl) (fun p e s m below meth c F hlk hr hin hS ls hl => ?_)
  have hl : lv_has ls 1 [(0, .ref (b + 185))] := hl
  refine lv_aload_n F.1.hx F.1.hb d_Paths_init_0 rfl (lv_at hl 0 rfl) ?_
  refine W.objInit F.1.hx F.1.hb F.1.hown (F.1.hts mw_473) (F.1.hts mw_33) (F.1.hts mw_34) rfl (by rw [F.1.hml]; exact hl.1) rfl d_Paths_init_1 (Nat.le_of_ble_eq_true rfl) (Nat.le_of_ble_eq_true rfl) ?_
  refine W.eq (g2 := F0 m 4 ls []) rfl ?_
  refine lv_aload_n F.1.hx F.1.hb d_Paths_init_4 rfl (lv_at hl 0 rfl) ?_
  refine r_sipush F.1.hx F.1.hb d_Paths_init_5 rfl ?_
  refine r0_newa (a := 0) (N := 192) (ty := .int) (atype := .int) F hS rfl rfl (by decide) rfl rfl rfl rfl mw_86 rfl (by decide) (by decide) (Nat.le_of_ble_eq_true rfl) (Nat.le_of_ble_eq_true rfl) d_Paths_init_8 (fun H hS => ?_)
  replace hS : St0 b C 187 G M s _ _ := hS
  refine r0_putR (t := 186) (N := 5) (T := T7) (j := 0) F hin hS (show 185 < 187 by decide) rfl rfl rfl (Nat.le_of_ble_eq_true rfl) ing7 tyok7 nm7 rfl rfl rfl rfl rfl mw_474 d_Paths_init_10 (fun H locs hS => ?_)
  obtain ⟨G1, eG1⟩ : ∃ q, q = (uI G 185 0 (186 : Nat)) := ⟨_, rfl⟩
  replace hS : St0 b C 187 G1 M s H locs := by rw [eG1]; exact hS
  refine lv_aload_n F.1.hx F.1.hb d_Paths_init_13 rfl (lv_at hl 0 rfl) ?_
  refine r_bipush F.1.hx F.1.hb d_Paths_init_14 rfl ?_
  refine r0_newa (a := 0) (N := 48) (ty := .int) (atype := .int) F hS rfl rfl (by decide) rfl rfl rfl rfl mw_86 rfl (by decide) (by decide) (Nat.le_of_ble_eq_true rfl) (Nat.le_of_ble_eq_true rfl) d_Paths_init_16 (fun H hS => ?_)
  replace hS : St0 b C 188 G1 M s _ _ := hS
  refine r0_putR (t := 187) (N := 5) (T := T7) (j := 1) F hin hS (show 185 < 188 by decide) rfl rfl rfl (Nat.le_of_ble_eq_true rfl) ing7 tyok7 nm7 rfl rfl rfl rfl rfl mw_476 d_Paths_init_18 (fun H locs hS => ?_)
  obtain ⟨G2, eG2⟩ : ∃ q, q = (uI G1 185 1 (187 : Nat)) := ⟨_, rfl⟩
  replace hS : St0 b C 188 G2 M s H locs := by rw [eG2]; exact hS
  refine lv_aload_n F.1.hx F.1.hb d_Paths_init_21 rfl (lv_at hl 0 rfl) ?_
  refine r_bipush F.1.hx F.1.hb d_Paths_init_22 rfl ?_
  refine r0_newa (a := 0) (N := 48) (ty := .int) (atype := .int) F hS rfl rfl (by decide) rfl rfl rfl rfl mw_86 rfl (by decide) (by decide) (Nat.le_of_ble_eq_true rfl) (Nat.le_of_ble_eq_true rfl) d_Paths_init_24 (fun H hS => ?_)
  replace hS : St0 b C 189 G2 M s _ _ := hS
  refine r0_putR (t := 188) (N := 5) (T := T7) (j := 2) F hin hS (show 185 < 189 by decide) rfl rfl rfl (Nat.le_of_ble_eq_true rfl) ing7 tyok7 nm7 rfl rfl rfl rfl rfl mw_477 d_Paths_init_26 (fun H locs hS => ?_)
  obtain ⟨G3, eG3⟩ : ∃ q, q = (uI G2 185 2 (188 : Nat)) := ⟨_, rfl⟩
  replace hS : St0 b C 189 G3 M s H locs := by rw [eG3]; exact hS
  subst eG1 eG2 eG3
  exact r0_ret F hlk hr hS d_Paths_init_29
theorem d_Town_init_0 : decode b_Town_init 0 = .ok (.aload_n 0, 1) := dc_42 (by decide +kernel)
theorem d_Town_init_1 : decode b_Town_init 1 = .ok (.invokespecial 3, 3) := dc_183 (by decide +kernel)
theorem d_Town_init_4 : decode b_Town_init 4 = .ok (.aload_n 0, 1) := dc_42 (by decide +kernel)
theorem d_Town_init_5 : decode b_Town_init 5 = .ok (.iconst 4, 1) := dc_7 (by decide +kernel)
theorem d_Town_init_6 : decode b_Town_init 6 = .ok (.newarray .int, 2) := by decide +kernel
theorem d_Town_init_8 : decode b_Town_init 8 = .ok (.putfield 9, 3) := dc_181 (by decide +kernel)
theorem d_Town_init_11 : decode b_Town_init 11 = .ok (.aload_n 0, 1) := dc_42 (by decide +kernel)
theorem d_Town_init_12 : decode b_Town_init 12 = .ok (.iconst 4, 1) := dc_7 (by decide +kernel)
theorem d_Town_init_13 : decode b_Town_init 13 = .ok (.newarray .int, 2) := by decide +kernel
theorem d_Town_init_15 : decode b_Town_init 15 = .ok (.putfield 15, 3) := dc_181 (by decide +kernel)
theorem d_Town_init_18 : decode b_Town_init 18 = .ok (.aload_n 0, 1) := dc_42 (by decide +kernel)
theorem d_Town_init_19 : decode b_Town_init 19 = .ok (.iconst 4, 1) := dc_7 (by decide +kernel)
theorem d_Town_init_20 : decode b_Town_init 20 = .ok (.newarray .int, 2) := by decide +kernel
theorem d_Town_init_22 : decode b_Town_init 22 = .ok (.putfield 18, 3) := dc_181 (by decide +kernel)
theorem d_Town_init_25 : decode b_Town_init 25 = .ok (.aload_n 0, 1) := dc_42 (by decide +kernel)
theorem d_Town_init_26 : decode b_Town_init 26 = .ok (.iconst 4, 1) := dc_7 (by decide +kernel)
theorem d_Town_init_27 : decode b_Town_init 27 = .ok (.newarray .int, 2) := by decide +kernel
theorem d_Town_init_29 : decode b_Town_init 29 = .ok (.putfield 21, 3) := dc_181 (by decide +kernel)
theorem d_Town_init_32 : decode b_Town_init 32 = .ok (.aload_n 0, 1) := dc_42 (by decide +kernel)
theorem d_Town_init_33 : decode b_Town_init 33 = .ok (.bipush 8, 2) := dc_16 (by decide +kernel)
theorem d_Town_init_35 : decode b_Town_init 35 = .ok (.newarray .int, 2) := by decide +kernel
theorem d_Town_init_37 : decode b_Town_init 37 = .ok (.putfield 24, 3) := dc_181 (by decide +kernel)
theorem d_Town_init_40 : decode b_Town_init 40 = .ok (.aload_n 0, 1) := dc_42 (by decide +kernel)
theorem d_Town_init_41 : decode b_Town_init 41 = .ok (.bipush 8, 2) := dc_16 (by decide +kernel)
theorem d_Town_init_43 : decode b_Town_init 43 = .ok (.newarray .int, 2) := by decide +kernel
theorem d_Town_init_45 : decode b_Town_init 45 = .ok (.putfield 27, 3) := dc_181 (by decide +kernel)
theorem d_Town_init_48 : decode b_Town_init 48 = .ok (.aload_n 0, 1) := dc_42 (by decide +kernel)
theorem d_Town_init_49 : decode b_Town_init 49 = .ok (.bipush 8, 2) := dc_16 (by decide +kernel)
theorem d_Town_init_51 : decode b_Town_init 51 = .ok (.newarray .int, 2) := by decide +kernel
theorem d_Town_init_53 : decode b_Town_init 53 = .ok (.putfield 30, 3) := dc_181 (by decide +kernel)
theorem d_Town_init_56 : decode b_Town_init 56 = .ok (.aload_n 0, 1) := dc_42 (by decide +kernel)
theorem d_Town_init_57 : decode b_Town_init 57 = .ok (.bipush 48, 2) := dc_16 (by decide +kernel)
theorem d_Town_init_59 : decode b_Town_init 59 = .ok (.newarray .int, 2) := by decide +kernel
theorem d_Town_init_61 : decode b_Town_init 61 = .ok (.putfield 33, 3) := dc_181 (by decide +kernel)
theorem d_Town_init_64 : decode b_Town_init 64 = .ok (.aload_n 0, 1) := dc_42 (by decide +kernel)
theorem d_Town_init_65 : decode b_Town_init 65 = .ok (.sipush 192, 3) := dc_17 (by decide +kernel)
theorem d_Town_init_68 : decode b_Town_init 68 = .ok (.newarray .int, 2) := by decide +kernel
theorem d_Town_init_70 : decode b_Town_init 70 = .ok (.putfield 36, 3) := dc_181 (by decide +kernel)
theorem d_Town_init_73 : decode b_Town_init 73 = .ok (.aload_n 0, 1) := dc_42 (by decide +kernel)
theorem d_Town_init_74 : decode b_Town_init 74 = .ok (.new 39, 3) := dc_187 (by decide +kernel)
theorem d_Town_init_77 : decode b_Town_init 77 = .ok (.dup, 1) := dc_89 (by decide +kernel)
theorem d_Town_init_78 : decode b_Town_init 78 = .ok (.invokespecial 41, 3) := dc_183 (by decide +kernel)
theorem d_Town_init_81 : decode b_Town_init 81 = .ok (.putfield 42, 3) := dc_181 (by decide +kernel)
theorem d_Town_init_84 : decode b_Town_init 84 = .ok (.aload_n 0, 1) := dc_42 (by decide +kernel)
theorem d_Town_init_85 : decode b_Town_init 85 = .ok (.new 39, 3) := dc_187 (by decide +kernel)
theorem d_Town_init_88 : decode b_Town_init 88 = .ok (.dup, 1) := dc_89 (by decide +kernel)
theorem d_Town_init_89 : decode b_Town_init 89 = .ok (.invokespecial 41, 3) := dc_183 (by decide +kernel)
theorem d_Town_init_92 : decode b_Town_init 92 = .ok (.putfield 46, 3) := dc_181 (by decide +kernel)
theorem d_Town_init_95 : decode b_Town_init 95 = .ok (.return_, 1) := dc_177 (by decide +kernel)
def gc_Town (k0 : Nat) (G : Nat → Int → Int) : Nat → Int → Int := (uI (gc_Formula (k0 + 15) (uI (gc_Formula (k0 + 10) (uI (uI (uI (uI (uI (uI (uI (uI (uI G k0 0 ((k0 + 1) : Nat)) k0 1 ((k0 + 2) : Nat)) k0 2 ((k0 + 3) : Nat)) k0 3 ((k0 + 4) : Nat)) k0 4 ((k0 + 5) : Nat)) k0 5 ((k0 + 6) : Nat)) k0 6 ((k0 + 7) : Nat)) k0 7 ((k0 + 8) : Nat)) k0 8 ((k0 + 9) : Nat))) k0 9 ((k0 + 10) : Nat))) k0 10 ((k0 + 15) : Nat))
set_option maxHeartbeats 8000000 in
set_option maxRecDepth 100000 in
theorem cc_Town (l : Launch) {b : Nat} {C : CT} (k0 : Nat) (hk0 : isTown k0) (G : Nat → Int → Int) (M : Mem) : CC l b C 2 19 832 y_Town_init b_Town_init 1 [.ref (b + k0)] (k0 + 1) G M (Q0 b C (k0 + 20) (gc_Town k0 G) M) := by
  refine CC.of (ow := "WardFalls$Town") (by decide) rfl rfl (Nat.le_of_ble_eq_true rfl) (fun p e s m below meth c F hlk hr hin hS ls hl => ?_)
  have hl : lv_has ls 1 [(0, .ref (b + k0))] := hl
  refine lv_aload_n F.1.hx F.1.hb d_Town_init_0 rfl (lv_at hl 0 rfl) ?_
  refine W.objInit F.1.hx F.1.hb F.1.hown (F.1.hts mw_40) (F.1.hts mw_33) (F.1.hts mw_34) rfl (by rw [F.1.hml]; exact hl.1) rfl d_Town_init_1 (Nat.le_of_ble_eq_true rfl) (Nat.le_of_ble_eq_true rfl) ?_
  refine W.eq (g2 := F0 m 4 ls []) rfl ?_
  refine lv_aload_n F.1.hx F.1.hb d_Town_init_4 rfl (lv_at hl 0 rfl) ?_
  refine r_iconst F.1.hx F.1.hb d_Town_init_5 ?_
  refine r0_newa (a := 0) (N := 4) (ty := .int) (atype := .int) F hS (Town_f0 hk0).1 (Town_f0 hk0).2.1 (by decide) rfl rfl rfl rfl mw_86 rfl (by decide) (by decide) (Nat.le_of_ble_eq_true rfl) (Nat.le_of_ble_eq_true rfl) d_Town_init_6 (fun H hS => ?_)
  replace hS : St0 b C (k0 + 2) G M s _ _ := hS
  refine r0_putR (t := (k0 + 1)) (N := 20) (T := T11) (j := 0) F hin hS (by omega) (Town_sh hk0) (Town_N hk0) rfl (Nat.le_of_ble_eq_true rfl) ing11 tyok11 nm11 rfl rfl rfl rfl rfl mw_88 d_Town_init_8 (fun H locs hS => ?_)
  obtain ⟨G1, eG1⟩ : ∃ q, q = (uI G k0 0 ((k0 + 1) : Nat)) := ⟨_, rfl⟩
  replace hS : St0 b C (k0 + 2) G1 M s H locs := by rw [eG1]; exact hS
  refine lv_aload_n F.1.hx F.1.hb d_Town_init_11 rfl (lv_at hl 0 rfl) ?_
  refine r_iconst F.1.hx F.1.hb d_Town_init_12 ?_
  refine r0_newa (a := 0) (N := 4) (ty := .int) (atype := .int) F hS (Town_f1 hk0).1 (Town_f1 hk0).2.1 (by decide) rfl rfl rfl rfl mw_86 rfl (by decide) (by decide) (Nat.le_of_ble_eq_true rfl) (Nat.le_of_ble_eq_true rfl) d_Town_init_13 (fun H hS => ?_)
  replace hS : St0 b C (k0 + 3) G1 M s _ _ := hS
  refine r0_putR (t := (k0 + 2)) (N := 20) (T := T11) (j := 1) F hin hS (by omega) (Town_sh hk0) (Town_N hk0) rfl (Nat.le_of_ble_eq_true rfl) ing11 tyok11 nm11 rfl rfl rfl rfl rfl mw_91 d_Town_init_15 (fun H locs hS => ?_)
  obtain ⟨G2, eG2⟩ : ∃ q, q = (uI G1 k0 1 ((k0 + 2) : Nat)) := ⟨_, rfl⟩
  replace hS : St0 b C (k0 + 3) G2 M s H locs := by rw [eG2]; exact hS
  refine lv_aload_n F.1.hx F.1.hb d_Town_init_18 rfl (lv_at hl 0 rfl) ?_
  refine r_iconst F.1.hx F.1.hb d_Town_init_19 ?_
  refine r0_newa (a := 0) (N := 4) (ty := .int) (atype := .int) F hS (Town_f2 hk0).1 (Town_f2 hk0).2.1 (by decide) rfl rfl rfl rfl mw_86 rfl (by decide) (by decide) (Nat.le_of_ble_eq_true rfl) (Nat.le_of_ble_eq_true rfl) d_Town_init_20 (fun H hS => ?_)
  replace hS : St0 b C (k0 + 4) G2 M s _ _ := hS
  refine r0_putR (t := (k0 + 3)) (N := 20) (T := T11) (j := 2) F hin hS (by omega) (Town_sh hk0) (Town_N hk0) rfl (Nat.le_of_ble_eq_true rfl) ing11 tyok11 nm11 rfl rfl rfl rfl rfl mw_94 d_Town_init_22 (fun H locs hS => ?_)
  obtain ⟨G3, eG3⟩ : ∃ q, q = (uI G2 k0 2 ((k0 + 3) : Nat)) := ⟨_, rfl⟩
  replace hS : St0 b C (k0 + 4) G3 M s H locs := by rw [eG3]; exact hS
  refine lv_aload_n F.1.hx F.1.hb d_Town_init_25 rfl (lv_at hl 0 rfl) ?_
  refine r_iconst F.1.hx F.1.hb d_Town_init_26 ?_
  refine r0_newa (a := 0) (N := 4) (ty := .int) (atype := .int) F hS (Town_f3 hk0).1 (Town_f3 hk0).2.1 (by decide) rfl rfl rfl rfl mw_86 rfl (by decide) (by decide) (Nat.le_of_ble_eq_true rfl) (Nat.le_of_ble_eq_true rfl) d_Town_init_27 (fun H hS => ?_)
  replace hS : St0 b C (k0 + 5) G3 M s _ _ := hS
  refine r0_putR (t := (k0 + 4)) (N := 20) (T := T11) (j := 3) F hin hS (by omega) (Town_sh hk0) (Town_N hk0) rfl (Nat.le_of_ble_eq_true rfl) ing11 tyok11 nm11 rfl rfl rfl rfl rfl mw_98 d_Town_init_29 (fun H locs hS => ?_)
  obtain ⟨G4, eG4⟩ : ∃ q, q = (uI G3 k0 3 ((k0 + 4) : Nat)) := ⟨_, rfl⟩
  replace hS : St0 b C (k0 + 5) G4 M s H locs := by rw [eG4]; exact hS
  refine lv_aload_n F.1.hx F.1.hb d_Town_init_32 rfl (lv_at hl 0 rfl) ?_
  refine r_bipush F.1.hx F.1.hb d_Town_init_33 rfl ?_
  refine r0_newa (a := 0) (N := 8) (ty := .int) (atype := .int) F hS (Town_f4 hk0).1 (Town_f4 hk0).2.1 (by decide) rfl rfl rfl rfl mw_86 rfl (by decide) (by decide) (Nat.le_of_ble_eq_true rfl) (Nat.le_of_ble_eq_true rfl) d_Town_init_35 (fun H hS => ?_)
  replace hS : St0 b C (k0 + 6) G4 M s _ _ := hS
  refine r0_putR (t := (k0 + 5)) (N := 20) (T := T11) (j := 4) F hin hS (by omega) (Town_sh hk0) (Town_N hk0) rfl (Nat.le_of_ble_eq_true rfl) ing11 tyok11 nm11 rfl rfl rfl rfl rfl mw_101 d_Town_init_37 (fun H locs hS => ?_)
  obtain ⟨G5, eG5⟩ : ∃ q, q = (uI G4 k0 4 ((k0 + 5) : Nat)) := ⟨_, rfl⟩
  replace hS : St0 b C (k0 + 6) G5 M s H locs := by rw [eG5]; exact hS
  refine lv_aload_n F.1.hx F.1.hb d_Town_init_40 rfl (lv_at hl 0 rfl) ?_
  refine r_bipush F.1.hx F.1.hb d_Town_init_41 rfl ?_
  refine r0_newa (a := 0) (N := 8) (ty := .int) (atype := .int) F hS (Town_f5 hk0).1 (Town_f5 hk0).2.1 (by decide) rfl rfl rfl rfl mw_86 rfl (by decide) (by decide) (Nat.le_of_ble_eq_true rfl) (Nat.le_of_ble_eq_true rfl) d_Town_init_43 (fun H hS => ?_)
  replace hS : St0 b C (k0 + 7) G5 M s _ _ := hS
  refine r0_putR (t := (k0 + 6)) (N := 20) (T := T11) (j := 5) F hin hS (by omega) (Town_sh hk0) (Town_N hk0) rfl (Nat.le_of_ble_eq_true rfl) ing11 tyok11 nm11 rfl rfl rfl rfl rfl mw_104 d_Town_init_45 (fun H locs hS => ?_)
  obtain ⟨G6, eG6⟩ : ∃ q, q = (uI G5 k0 5 ((k0 + 6) : Nat)) := ⟨_, rfl⟩
  replace hS : St0 b C (k0 + 7) G6 M s H locs := by rw [eG6]; exact hS
  refine lv_aload_n F.1.hx F.1.hb d_Town_init_48 rfl (lv_at hl 0 rfl) ?_
  refine r_bipush F.1.hx F.1.hb d_Town_init_49 rfl ?_
  refine r0_newa (a := 0) (N := 8) (ty := .int) (atype := .int) F hS (Town_f6 hk0).1 (Town_f6 hk0).2.1 (by decide) rfl rfl rfl rfl mw_86 rfl (by decide) (by decide) (Nat.le_of_ble_eq_true rfl) (Nat.le_of_ble_eq_true rfl) d_Town_init_51 (fun H hS => ?_)
  replace hS : St0 b C (k0 + 8) G6 M s _ _ := hS
  refine r0_putR (t := (k0 + 7)) (N := 20) (T := T11) (j := 6) F hin hS (by omega) (Town_sh hk0) (Town_N hk0) rfl (Nat.le_of_ble_eq_true rfl) ing11 tyok11 nm11 rfl rfl rfl rfl rfl mw_108 d_Town_init_53 (fun H locs hS => ?_)
  obtain ⟨G7, eG7⟩ : ∃ q, q = (uI G6 k0 6 ((k0 + 7) : Nat)) := ⟨_, rfl⟩
  replace hS : St0 b C (k0 + 8) G7 M s H locs := by rw [eG7]; exact hS
  refine lv_aload_n F.1.hx F.1.hb d_Town_init_56 rfl (lv_at hl 0 rfl) ?_
  refine r_bipush F.1.hx F.1.hb d_Town_init_57 rfl ?_
  refine r0_newa (a := 0) (N := 48) (ty := .int) (atype := .int) F hS (Town_f7 hk0).1 (Town_f7 hk0).2.1 (by decide) rfl rfl rfl rfl mw_86 rfl (by decide) (by decide) (Nat.le_of_ble_eq_true rfl) (Nat.le_of_ble_eq_true rfl) d_Town_init_59 (fun H hS => ?_)
  replace hS : St0 b C (k0 + 9) G7 M s _ _ := hS
  refine r0_putR (t := (k0 + 8)) (N := 20) (T := T11) (j := 7) F hin hS (by omega) (Town_sh hk0) (Town_N hk0) rfl (Nat.le_of_ble_eq_true rfl) ing11 tyok11 nm11 rfl rfl rfl rfl rfl mw_111 d_Town_init_61 (fun H locs hS => ?_)
  obtain ⟨G8, eG8⟩ : ∃ q, q = (uI G7 k0 7 ((k0 + 8) : Nat)) := ⟨_, rfl⟩
  replace hS : St0 b C (k0 + 9) G8 M s H locs := by rw [eG8]; exact hS
  refine lv_aload_n F.1.hx F.1.hb d_Town_init_64 rfl (lv_at hl 0 rfl) ?_
  refine r_sipush F.1.hx F.1.hb d_Town_init_65 rfl ?_
  refine r0_newa (a := 0) (N := 192) (ty := .int) (atype := .int) F hS (Town_f8 hk0).1 (Town_f8 hk0).2.1 (by decide) rfl rfl rfl rfl mw_86 rfl (by decide) (by decide) (Nat.le_of_ble_eq_true rfl) (Nat.le_of_ble_eq_true rfl) d_Town_init_68 (fun H hS => ?_)
  replace hS : St0 b C (k0 + 10) G8 M s _ _ := hS
  refine r0_putR (t := (k0 + 9)) (N := 20) (T := T11) (j := 8) F hin hS (by omega) (Town_sh hk0) (Town_N hk0) rfl (Nat.le_of_ble_eq_true rfl) ing11 tyok11 nm11 rfl rfl rfl rfl rfl mw_114 d_Town_init_70 (fun H locs hS => ?_)
  obtain ⟨G9, eG9⟩ : ∃ q, q = (uI G8 k0 8 ((k0 + 9) : Nat)) := ⟨_, rfl⟩
  replace hS : St0 b C (k0 + 10) G9 M s H locs := by rw [eG9]; exact hS
  refine lv_aload_n F.1.hx F.1.hb d_Town_init_73 rfl (lv_at hl 0 rfl) ?_
  refine r0_new (ci := 3) (N := 12) (T := T3) F hS (Formula_sh (Town_f9 hk0)) (Formula_N (Town_f9 hk0)) rfl ing3 tyok3 (nfm_Formula (Town_f9 hk0)) mw_41 mw_42 mw_3 (Nat.le_of_ble_eq_true rfl) (Nat.le_of_ble_eq_true rfl) d_Town_init_74 (fun H hS => ?_)
  replace hS : St0 b C (k0 + 11) G9 M s _ _ := hS
  refine lv_dup F.1.hx F.1.hb d_Town_init_77 rfl ?_
  refine r0_back hS (r0_runIN (k := (k0 + 10)) (mc := 4) (ms := 264) F hS (cc_Formula l (k0 + 10) (Town_f9 hk0) G9 M) mw_45 mw_44 mw_3 gs_Town_41 rfl hd_Formula_init ⟨Nat.le_of_ble_eq_true rfl, Nat.le_of_ble_eq_true rfl⟩ hl.1 (Nat.le_of_ble_eq_true rfl) ⟨Nat.le_of_ble_eq_true rfl, Nat.le_of_ble_eq_true rfl⟩ d_Town_init_78) (fun H locs hS => ?_)
  obtain ⟨G10, eG10⟩ : ∃ q, q = (gc_Formula (k0 + 10) G9) := ⟨_, rfl⟩
  replace hS : St0 b C (k0 + 15) G10 M s H locs := by rw [eG10]; exact hS
  refine r0_putR (t := (k0 + 10)) (N := 20) (T := T11) (j := 9) F hin hS (by omega) (Town_sh hk0) (Town_N hk0) rfl (Nat.le_of_ble_eq_true rfl) ing11 tyok11 nm11 rfl rfl rfl rfl rfl mw_115 d_Town_init_81 (fun H locs hS => ?_)
  obtain ⟨G11, eG11⟩ : ∃ q, q = (uI G10 k0 9 ((k0 + 10) : Nat)) := ⟨_, rfl⟩
  replace hS : St0 b C (k0 + 15) G11 M s H locs := by rw [eG11]; exact hS
  refine lv_aload_n F.1.hx F.1.hb d_Town_init_84 rfl (lv_at hl 0 rfl) ?_
  refine r0_new (ci := 3) (N := 12) (T := T3) F hS (Formula_sh (Town_f10 hk0)) (Formula_N (Town_f10 hk0)) rfl ing3 tyok3 (nfm_Formula (Town_f10 hk0)) mw_41 mw_42 mw_3 (Nat.le_of_ble_eq_true rfl) (Nat.le_of_ble_eq_true rfl) d_Town_init_85 (fun H hS => ?_)
  replace hS : St0 b C (k0 + 16) G11 M s _ _ := hS
  refine lv_dup F.1.hx F.1.hb d_Town_init_88 rfl ?_
  refine r0_back hS (r0_runIN (k := (k0 + 15)) (mc := 4) (ms := 264) F hS (cc_Formula l (k0 + 15) (Town_f10 hk0) G11 M) mw_45 mw_44 mw_3 gs_Town_41 rfl hd_Formula_init ⟨Nat.le_of_ble_eq_true rfl, Nat.le_of_ble_eq_true rfl⟩ hl.1 (Nat.le_of_ble_eq_true rfl) ⟨Nat.le_of_ble_eq_true rfl, Nat.le_of_ble_eq_true rfl⟩ d_Town_init_89) (fun H locs hS => ?_)
  obtain ⟨G12, eG12⟩ : ∃ q, q = (gc_Formula (k0 + 15) G11) := ⟨_, rfl⟩
  replace hS : St0 b C (k0 + 20) G12 M s H locs := by rw [eG12]; exact hS
  refine r0_putR (t := (k0 + 15)) (N := 20) (T := T11) (j := 10) F hin hS (by omega) (Town_sh hk0) (Town_N hk0) rfl (Nat.le_of_ble_eq_true rfl) ing11 tyok11 nm11 rfl rfl rfl rfl rfl mw_118 d_Town_init_92 (fun H locs hS => ?_)
  obtain ⟨G13, eG13⟩ : ∃ q, q = (uI G12 k0 10 ((k0 + 15) : Nat)) := ⟨_, rfl⟩
  replace hS : St0 b C (k0 + 20) G13 M s H locs := by rw [eG13]; exact hS
  subst eG1 eG2 eG3 eG4 eG5 eG6 eG7 eG8 eG9 eG10 eG11 eG12 eG13
  exact r0_ret F hlk hr hS d_Town_init_95
theorem d_Laws_init_0 : decode b_Laws_init 0 = .ok (.aload_n 0, 1) := dc_42 (by decide +kernel)
theorem d_Laws_init_1 : decode b_Laws_init 1 = .ok (.invokespecial 3, 3) := dc_183 (by decide +kernel)
theorem d_Laws_init_4 : decode b_Laws_init 4 = .ok (.aload_n 0, 1) := dc_42 (by decide +kernel)
theorem d_Laws_init_5 : decode b_Laws_init 5 = .ok (.bipush 7, 2) := dc_16 (by decide +kernel)
theorem d_Laws_init_7 : decode b_Laws_init 7 = .ok (.newarray .long, 2) := by decide +kernel
theorem d_Laws_init_9 : decode b_Laws_init 9 = .ok (.putfield 9, 3) := dc_181 (by decide +kernel)
theorem d_Laws_init_12 : decode b_Laws_init 12 = .ok (.aload_n 0, 1) := dc_42 (by decide +kernel)
theorem d_Laws_init_13 : decode b_Laws_init 13 = .ok (.iconst 4, 1) := dc_7 (by decide +kernel)
theorem d_Laws_init_14 : decode b_Laws_init 14 = .ok (.newarray .int, 2) := by decide +kernel
theorem d_Laws_init_16 : decode b_Laws_init 16 = .ok (.putfield 15, 3) := dc_181 (by decide +kernel)
theorem d_Laws_init_19 : decode b_Laws_init 19 = .ok (.aload_n 0, 1) := dc_42 (by decide +kernel)
theorem d_Laws_init_20 : decode b_Laws_init 20 = .ok (.iconst 4, 1) := dc_7 (by decide +kernel)
theorem d_Laws_init_21 : decode b_Laws_init 21 = .ok (.newarray .int, 2) := by decide +kernel
theorem d_Laws_init_23 : decode b_Laws_init 23 = .ok (.putfield 19, 3) := dc_181 (by decide +kernel)
theorem d_Laws_init_26 : decode b_Laws_init 26 = .ok (.aload_n 0, 1) := dc_42 (by decide +kernel)
theorem d_Laws_init_27 : decode b_Laws_init 27 = .ok (.iconst 4, 1) := dc_7 (by decide +kernel)
theorem d_Laws_init_28 : decode b_Laws_init 28 = .ok (.newarray .int, 2) := by decide +kernel
theorem d_Laws_init_30 : decode b_Laws_init 30 = .ok (.putfield 22, 3) := dc_181 (by decide +kernel)
theorem d_Laws_init_33 : decode b_Laws_init 33 = .ok (.aload_n 0, 1) := dc_42 (by decide +kernel)
theorem d_Laws_init_34 : decode b_Laws_init 34 = .ok (.new 25, 3) := dc_187 (by decide +kernel)
theorem d_Laws_init_37 : decode b_Laws_init 37 = .ok (.dup, 1) := dc_89 (by decide +kernel)
theorem d_Laws_init_38 : decode b_Laws_init 38 = .ok (.invokespecial 27, 3) := dc_183 (by decide +kernel)
theorem d_Laws_init_41 : decode b_Laws_init 41 = .ok (.putfield 28, 3) := dc_181 (by decide +kernel)
theorem d_Laws_init_44 : decode b_Laws_init 44 = .ok (.aload_n 0, 1) := dc_42 (by decide +kernel)
theorem d_Laws_init_45 : decode b_Laws_init 45 = .ok (.sipush 1024, 3) := dc_17 (by decide +kernel)
theorem d_Laws_init_48 : decode b_Laws_init 48 = .ok (.newarray .int, 2) := by decide +kernel
theorem d_Laws_init_50 : decode b_Laws_init 50 = .ok (.putfield 32, 3) := dc_181 (by decide +kernel)
theorem d_Laws_init_53 : decode b_Laws_init 53 = .ok (.return_, 1) := dc_177 (by decide +kernel)
def gc_Laws (G : Nat → Int → Int) : Nat → Int → Int := (uI (uI (gc_Trail 182 (uI (uI (uI (uI G 177 0 (178 : Nat)) 177 1 (179 : Nat)) 177 2 (180 : Nat)) 177 3 (181 : Nat))) 177 4 (182 : Nat)) 177 5 (184 : Nat))
set_option maxHeartbeats 8000000 in
set_option maxRecDepth 100000 in
theorem cc_Laws (l : Launch) {b : Nat} {C : CT} (G : Nat → Int → Int) (M : Mem) : CC l b C 2 7 1100 y_Laws_init b_Laws_init 1 [.ref (b + 177)] 178 G M (Q0 b C 185 (gc_Laws G) M) := by
  refine CC.of (ow := "WardFalls$Laws") (by decide) rfl rfl (Nat.le_of_ble_eq_true rfl) (fun p e s m below meth c F hlk hr hin hS ls hl => ?_)
  have hl : lv_has ls 1 [(0, .ref (b + 177))] := hl
  refine lv_aload_n F.1.hx F.1.hb d_Laws_init_0 rfl (lv_at hl 0 rfl) ?_
  refine W.objInit F.1.hx F.1.hb F.1.hown (F.1.hts mw_395) (F.1.hts mw_33) (F.1.hts mw_34) rfl (by rw [F.1.hml]; exact hl.1) rfl d_Laws_init_1 (Nat.le_of_ble_eq_true rfl) (Nat.le_of_ble_eq_true rfl) ?_
  refine W.eq (g2 := F0 m 4 ls []) rfl ?_
  refine lv_aload_n F.1.hx F.1.hb d_Laws_init_4 rfl (lv_at hl 0 rfl) ?_
  refine r_bipush F.1.hx F.1.hb d_Laws_init_5 rfl ?_
  refine r0_newa (a := 2) (N := 7) (ty := .long) (atype := .long) F hS rfl rfl (by decide) rfl rfl rfl rfl mw_87 rfl (by decide) (by decide) (Nat.le_of_ble_eq_true rfl) (Nat.le_of_ble_eq_true rfl) d_Laws_init_7 (fun H hS => ?_)
  replace hS : St0 b C 179 G M s _ _ := hS
  refine r0_putR (t := 178) (N := 9) (T := T4) (j := 0) F hin hS (show 177 < 179 by decide) rfl rfl rfl (Nat.le_of_ble_eq_true rfl) ing4 tyok4 nm4 rfl rfl rfl rfl rfl mw_438 d_Laws_init_9 (fun H locs hS => ?_)
  obtain ⟨G1, eG1⟩ : ∃ q, q = (uI G 177 0 (178 : Nat)) := ⟨_, rfl⟩
  replace hS : St0 b C 179 G1 M s H locs := by rw [eG1]; exact hS
  refine lv_aload_n F.1.hx F.1.hb d_Laws_init_12 rfl (lv_at hl 0 rfl) ?_
  refine r_iconst F.1.hx F.1.hb d_Laws_init_13 ?_
  refine r0_newa (a := 0) (N := 4) (ty := .int) (atype := .int) F hS rfl rfl (by decide) rfl rfl rfl rfl mw_86 rfl (by decide) (by decide) (Nat.le_of_ble_eq_true rfl) (Nat.le_of_ble_eq_true rfl) d_Laws_init_14 (fun H hS => ?_)
  replace hS : St0 b C 180 G1 M s _ _ := hS
  refine r0_putR (t := 179) (N := 9) (T := T4) (j := 1) F hin hS (show 177 < 180 by decide) rfl rfl rfl (Nat.le_of_ble_eq_true rfl) ing4 tyok4 nm4 rfl rfl rfl rfl rfl mw_439 d_Laws_init_16 (fun H locs hS => ?_)
  obtain ⟨G2, eG2⟩ : ∃ q, q = (uI G1 177 1 (179 : Nat)) := ⟨_, rfl⟩
  replace hS : St0 b C 180 G2 M s H locs := by rw [eG2]; exact hS
  refine lv_aload_n F.1.hx F.1.hb d_Laws_init_19 rfl (lv_at hl 0 rfl) ?_
  refine r_iconst F.1.hx F.1.hb d_Laws_init_20 ?_
  refine r0_newa (a := 0) (N := 4) (ty := .int) (atype := .int) F hS rfl rfl (by decide) rfl rfl rfl rfl mw_86 rfl (by decide) (by decide) (Nat.le_of_ble_eq_true rfl) (Nat.le_of_ble_eq_true rfl) d_Laws_init_21 (fun H hS => ?_)
  replace hS : St0 b C 181 G2 M s _ _ := hS
  refine r0_putR (t := 180) (N := 9) (T := T4) (j := 2) F hin hS (show 177 < 181 by decide) rfl rfl rfl (Nat.le_of_ble_eq_true rfl) ing4 tyok4 nm4 rfl rfl rfl rfl rfl mw_440 d_Laws_init_23 (fun H locs hS => ?_)
  obtain ⟨G3, eG3⟩ : ∃ q, q = (uI G2 177 2 (180 : Nat)) := ⟨_, rfl⟩
  replace hS : St0 b C 181 G3 M s H locs := by rw [eG3]; exact hS
  refine lv_aload_n F.1.hx F.1.hb d_Laws_init_26 rfl (lv_at hl 0 rfl) ?_
  refine r_iconst F.1.hx F.1.hb d_Laws_init_27 ?_
  refine r0_newa (a := 0) (N := 4) (ty := .int) (atype := .int) F hS rfl rfl (by decide) rfl rfl rfl rfl mw_86 rfl (by decide) (by decide) (Nat.le_of_ble_eq_true rfl) (Nat.le_of_ble_eq_true rfl) d_Laws_init_28 (fun H hS => ?_)
  replace hS : St0 b C 182 G3 M s _ _ := hS
  refine r0_putR (t := 181) (N := 9) (T := T4) (j := 3) F hin hS (show 177 < 182 by decide) rfl rfl rfl (Nat.le_of_ble_eq_true rfl) ing4 tyok4 nm4 rfl rfl rfl rfl rfl mw_441 d_Laws_init_30 (fun H locs hS => ?_)
  obtain ⟨G4, eG4⟩ : ∃ q, q = (uI G3 177 3 (181 : Nat)) := ⟨_, rfl⟩
  replace hS : St0 b C 182 G4 M s H locs := by rw [eG4]; exact hS
  refine lv_aload_n F.1.hx F.1.hb d_Laws_init_33 rfl (lv_at hl 0 rfl) ?_
  refine r0_new (ci := 12) (N := 9) (T := T12) F hS rfl rfl rfl ing12 tyok12 nf_Trail_182 mw_396 mw_397 mw_11 (Nat.le_of_ble_eq_true rfl) (Nat.le_of_ble_eq_true rfl) d_Laws_init_34 (fun H hS => ?_)
  replace hS : St0 b C 183 G4 M s _ _ := hS
  refine lv_dup F.1.hx F.1.hb d_Laws_init_37 rfl ?_
  refine r0_back hS (r0_runIN (k := 182) (mc := 1) (ms := 48) F hS (cc_Trail l 182 (by decide : isTrail 182) G4 M) mw_400 mw_399 mw_11 gs_Laws_27 rfl hd_Trail_init ⟨Nat.le_of_ble_eq_true rfl, Nat.le_of_ble_eq_true rfl⟩ hl.1 (Nat.le_of_ble_eq_true rfl) ⟨Nat.le_of_ble_eq_true rfl, Nat.le_of_ble_eq_true rfl⟩ d_Laws_init_38) (fun H locs hS => ?_)
  obtain ⟨G5, eG5⟩ : ∃ q, q = (gc_Trail 182 G4) := ⟨_, rfl⟩
  replace hS : St0 b C 184 G5 M s H locs := by rw [eG5]; exact hS
  refine r0_putR (t := 182) (N := 9) (T := T4) (j := 4) F hin hS (show 177 < 184 by decide) rfl rfl rfl (Nat.le_of_ble_eq_true rfl) ing4 tyok4 nm4 rfl rfl rfl rfl rfl mw_442 d_Laws_init_41 (fun H locs hS => ?_)
  obtain ⟨G6, eG6⟩ : ∃ q, q = (uI G5 177 4 (182 : Nat)) := ⟨_, rfl⟩
  replace hS : St0 b C 184 G6 M s H locs := by rw [eG6]; exact hS
  refine lv_aload_n F.1.hx F.1.hb d_Laws_init_44 rfl (lv_at hl 0 rfl) ?_
  refine r_sipush F.1.hx F.1.hb d_Laws_init_45 rfl ?_
  refine r0_newa (a := 0) (N := 1024) (ty := .int) (atype := .int) F hS rfl rfl (by decide) rfl rfl rfl rfl mw_86 rfl (by decide) (by decide) (Nat.le_of_ble_eq_true rfl) (Nat.le_of_ble_eq_true rfl) d_Laws_init_48 (fun H hS => ?_)
  replace hS : St0 b C 185 G6 M s _ _ := hS
  refine r0_putR (t := 184) (N := 9) (T := T4) (j := 5) F hin hS (show 177 < 185 by decide) rfl rfl rfl (Nat.le_of_ble_eq_true rfl) ing4 tyok4 nm4 rfl rfl rfl rfl rfl mw_443 d_Laws_init_50 (fun H locs hS => ?_)
  obtain ⟨G7, eG7⟩ : ∃ q, q = (uI G6 177 5 (184 : Nat)) := ⟨_, rfl⟩
  replace hS : St0 b C 185 G7 M s H locs := by rw [eG7]; exact hS
  subst eG1 eG2 eG3 eG4 eG5 eG6 eG7
  exact r0_ret F hlk hr hS d_Laws_init_53
theorem d_Past_init_0 : decode b_Past_init 0 = .ok (.aload_n 0, 1) := dc_42 (by decide +kernel)
theorem d_Past_init_1 : decode b_Past_init 1 = .ok (.invokespecial 3, 3) := dc_183 (by decide +kernel)
theorem d_Past_init_4 : decode b_Past_init 4 = .ok (.aload_n 0, 1) := dc_42 (by decide +kernel)
theorem d_Past_init_5 : decode b_Past_init 5 = .ok (.bipush 20, 2) := dc_16 (by decide +kernel)
theorem d_Past_init_7 : decode b_Past_init 7 = .ok (.anewarray 9, 3) := dc_189 (by decide +kernel)
theorem d_Past_init_10 : decode b_Past_init 10 = .ok (.putfield 11, 3) := dc_181 (by decide +kernel)
theorem d_Past_init_13 : decode b_Past_init 13 = .ok (.iconst 0, 1) := dc_3 (by decide +kernel)
theorem d_Past_init_14 : decode b_Past_init 14 = .ok (.istore_n 1, 1) := dc_60 (by decide +kernel)
theorem d_Past_init_15 : decode b_Past_init 15 = .ok (.iload_n 1, 1) := dc_27 (by decide +kernel)
theorem d_Past_init_16 : decode b_Past_init 16 = .ok (.aload_n 0, 1) := dc_42 (by decide +kernel)
theorem d_Past_init_17 : decode b_Past_init 17 = .ok (.getfield 11, 3) := dc_180 (by decide +kernel)
theorem d_Past_init_20 : decode b_Past_init 20 = .ok (.arraylength, 1) := dc_190 (by decide +kernel)
theorem d_Past_init_21 : decode b_Past_init 21 = .ok (.if_icmp .ge 22, 3) := dc_162 (by decide +kernel)
theorem d_Past_init_24 : decode b_Past_init 24 = .ok (.aload_n 0, 1) := dc_42 (by decide +kernel)
theorem d_Past_init_25 : decode b_Past_init 25 = .ok (.getfield 11, 3) := dc_180 (by decide +kernel)
theorem d_Past_init_28 : decode b_Past_init 28 = .ok (.iload_n 1, 1) := dc_27 (by decide +kernel)
theorem d_Past_init_29 : decode b_Past_init 29 = .ok (.new 9, 3) := dc_187 (by decide +kernel)
theorem d_Past_init_32 : decode b_Past_init 32 = .ok (.dup, 1) := dc_89 (by decide +kernel)
theorem d_Past_init_33 : decode b_Past_init 33 = .ok (.invokespecial 17, 3) := dc_183 (by decide +kernel)
theorem d_Past_init_36 : decode b_Past_init 36 = .ok (.aastore, 1) := dc_83 (by decide +kernel)
theorem d_Past_init_37 : decode b_Past_init 37 = .ok (.iinc 1 1, 3) := dc_132 (by decide +kernel)
theorem d_Past_init_40 : decode b_Past_init 40 = .ok (.goto (-25), 3) := dc_167 (by decide +kernel)
theorem d_Past_init_43 : decode b_Past_init 43 = .ok (.return_, 1) := dc_177 (by decide +kernel)
def gc_Past (G : Nat → Int → Int) : Nat → Int → Int := (uI (gc_Scene 167 (uI (gc_Scene 162 (uI (gc_Scene 157 (uI (gc_Scene 152 (uI (gc_Scene 147 (uI (gc_Scene 142 (uI (gc_Scene 137 (uI (gc_Scene 132 (uI (gc_Scene 127 (uI (gc_Scene 122 (uI (gc_Scene 117 (uI (gc_Scene 112 (uI (gc_Scene 107 (uI (gc_Scene 102 (uI (gc_Scene 97 (uI (gc_Scene 92 (uI (gc_Scene 87 (uI (gc_Scene 82 (uI (gc_Scene 77 (uI (gc_Scene 72 (uI G 70 0 (71 : Nat))) 71 0 (72 : Nat))) 71 1 (77 : Nat))) 71 2 (82 : Nat))) 71 3 (87 : Nat))) 71 4 (92 : Nat))) 71 5 (97 : Nat))) 71 6 (102 : Nat))) 71 7 (107 : Nat))) 71 8 (112 : Nat))) 71 9 (117 : Nat))) 71 10 (122 : Nat))) 71 11 (127 : Nat))) 71 12 (132 : Nat))) 71 13 (137 : Nat))) 71 14 (142 : Nat))) 71 15 (147 : Nat))) 71 16 (152 : Nat))) 71 17 (157 : Nat))) 71 18 (162 : Nat))) 71 19 (167 : Nat))
set_option maxHeartbeats 8000000 in
set_option maxRecDepth 100000 in
theorem cc_Past (l : Launch) {b : Nat} {C : CT} (G : Nat → Int → Int) (M : Mem) : CC l b C 2 101 720 y_Past_init b_Past_init 2 [.ref (b + 70)] 71 G M (Q0 b C 172 (gc_Past G) M) := by
  refine CC.of (ow := "WardFalls$Past") (by decide) rfl rfl (Nat.le_of_ble_eq_true rfl) (fun p e s m below meth c F hlk hr hin hS ls hl => ?_)
  have hl : lv_has ls 2 [(0, .ref (b + 70))] := hl
  refine lv_aload_n F.1.hx F.1.hb d_Past_init_0 rfl (lv_at hl 0 rfl) ?_
  refine W.objInit F.1.hx F.1.hb F.1.hown (F.1.hts mw_343) (F.1.hts mw_33) (F.1.hts mw_34) rfl (by rw [F.1.hml]; exact hl.1) rfl d_Past_init_1 (Nat.le_of_ble_eq_true rfl) (Nat.le_of_ble_eq_true rfl) ?_
  refine W.eq (g2 := F0 m 4 ls []) rfl ?_
  refine lv_aload_n F.1.hx F.1.hb d_Past_init_4 rfl (lv_at hl 0 rfl) ?_
  refine r_bipush F.1.hx F.1.hb d_Past_init_5 rfl ?_
  refine r0_newq (N := 20) F hS rfl rfl rfl (by decide) mw_344 (Nat.le_of_ble_eq_true rfl) (Nat.le_of_ble_eq_true rfl) d_Past_init_7 (fun H hS => ?_)
  replace hS : St0 b C 72 G M s _ _ := hS
  refine r0_putR (t := 71) (N := 3) (T := T6) (j := 0) F hin hS (show 70 < 72 by decide) rfl rfl rfl (Nat.le_of_ble_eq_true rfl) ing6 tyok6 nm6 rfl rfl rfl rfl rfl mw_347 d_Past_init_10 (fun H locs hS => ?_)
  obtain ⟨G1, eG1⟩ : ∃ q, q = (uI G 70 0 (71 : Nat)) := ⟨_, rfl⟩
  replace hS : St0 b C 72 G1 M s H locs := by rw [eG1]; exact hS
  have hg : G1 70 0 = 71 := by rw [eG1]; exact uI_self _ _ _ _
  refine r_iconst F.1.hx F.1.hb d_Past_init_13 ?_
  refine lv_istore_n (lv' := [(1, vI 0), (0, .ref (b + 70))]) F.1.hx F.1.hb d_Past_init_14 rfl hl (Nat.le_of_ble_eq_true rfl) rfl (fun ls hl => ?_)
  refine lv_iload_n F.1.hx F.1.hb d_Past_init_15 rfl (lv_at hl 0 rfl) ?_
  refine lv_aload_n F.1.hx F.1.hb d_Past_init_16 rfl (lv_at hl 1 rfl) ?_
  refine r0_get (v := .ref (b + 71)) (N := 3) (T := T6) (j := 0) F hS (show 70 < 72 by decide) rfl rfl rfl (Nat.le_of_ble_eq_true rfl) ing6 mw_347 ((fv_ref rfl).trans (rv_pos 71 hg)) d_Past_init_17 ?_
  refine r0_alen3 F hS (show 71 < 72 by decide) rfl (N := 20) rfl d_Past_init_20 rfl ?_
  refine r_icmp_ge (tgt := 43) F.1.hx F.1.hb (inr_c rfl) (inr_c rfl) d_Past_init_21 (by decide) (fun c => absurd c (by decide)) (fun _ => ?_)
  refine lv_aload_n F.1.hx F.1.hb d_Past_init_24 rfl (lv_at hl 1 rfl) ?_
  refine r0_get (v := .ref (b + 71)) (N := 3) (T := T6) (j := 0) F hS (show 70 < 72 by decide) rfl rfl rfl (Nat.le_of_ble_eq_true rfl) ing6 mw_347 ((fv_ref rfl).trans (rv_pos 71 hg)) d_Past_init_25 ?_
  refine lv_iload_n F.1.hx F.1.hb d_Past_init_28 rfl (lv_at hl 0 rfl) ?_
  refine r0_new (ci := 9) (N := 7) (T := T9) F hS rfl rfl rfl ing9 tyok9 nf_Scene_72 mw_344 mw_267 mw_6 (Nat.le_of_ble_eq_true rfl) (Nat.le_of_ble_eq_true rfl) d_Past_init_29 (fun H hS => ?_)
  replace hS : St0 b C 73 G1 M s _ _ := hS
  refine lv_dup F.1.hx F.1.hb d_Past_init_32 rfl ?_
  refine r0_back hS (r0_runIN (k := 72) (mc := 4) (ms := 28) F hS (cc_Scene l 72 (by decide : isScene 72) G1 M) mw_270 mw_269 mw_6 gs_Past_17 rfl hd_Scene_init ⟨Nat.le_of_ble_eq_true rfl, Nat.le_of_ble_eq_true rfl⟩ hl.1 (Nat.le_of_ble_eq_true rfl) ⟨Nat.le_of_ble_eq_true rfl, Nat.le_of_ble_eq_true rfl⟩ d_Past_init_33) (fun H locs hS => ?_)
  obtain ⟨G2, eG2⟩ : ∃ q, q = (gc_Scene 72 G1) := ⟨_, rfl⟩
  replace hS : St0 b C 77 G2 M s H locs := by rw [eG2]; exact hS
  replace hg : G2 70 0 = 71 := by rw [eG2]; exact (gc_Scene_ne (by decide)).trans hg
  refine r0_aast (N := 20) (t := 72) F hS (show 71 < 77 by decide) (show 72 < 77 by decide) rfl rfl rfl (inr_c rfl) (by decide) (by decide) d_Past_init_36 (fun H locs hS => ?_)
  obtain ⟨G3, eG3⟩ : ∃ q, q = (uI G2 71 0 (72 : Nat)) := ⟨_, rfl⟩
  replace hS : St0 b C 77 G3 M s H locs := by rw [eG3]; exact hS
  replace hg : G3 70 0 = 71 := by rw [eG3]; exact (uI_ne _ _ (by decide)).trans hg
  refine lv_iinc (v := Int32.ofInt 1) (lv' := [(1, vI 1), (0, .ref (b + 70))]) F.1.hx F.1.hb d_Past_init_37 hl (k := 0) rfl (by decide) (Nat.le_of_ble_eq_true rfl) rfl (fun ls hl => ?_)
  refine lv_goto (tgt := 15) F.1.hx F.1.hb d_Past_init_40 (by decide) ?_
  refine lv_iload_n F.1.hx F.1.hb d_Past_init_15 rfl (lv_at hl 0 rfl) ?_
  refine lv_aload_n F.1.hx F.1.hb d_Past_init_16 rfl (lv_at hl 1 rfl) ?_
  refine r0_get (v := .ref (b + 71)) (N := 3) (T := T6) (j := 0) F hS (show 70 < 77 by decide) rfl rfl rfl (Nat.le_of_ble_eq_true rfl) ing6 mw_347 ((fv_ref rfl).trans (rv_pos 71 hg)) d_Past_init_17 ?_
  refine r0_alen3 F hS (show 71 < 77 by decide) rfl (N := 20) rfl d_Past_init_20 rfl ?_
  refine r_icmp_ge (tgt := 43) F.1.hx F.1.hb (inr_c rfl) (inr_c rfl) d_Past_init_21 (by decide) (fun c => absurd c (by decide)) (fun _ => ?_)
  refine lv_aload_n F.1.hx F.1.hb d_Past_init_24 rfl (lv_at hl 1 rfl) ?_
  refine r0_get (v := .ref (b + 71)) (N := 3) (T := T6) (j := 0) F hS (show 70 < 77 by decide) rfl rfl rfl (Nat.le_of_ble_eq_true rfl) ing6 mw_347 ((fv_ref rfl).trans (rv_pos 71 hg)) d_Past_init_25 ?_
  refine lv_iload_n F.1.hx F.1.hb d_Past_init_28 rfl (lv_at hl 0 rfl) ?_
  refine r0_new (ci := 9) (N := 7) (T := T9) F hS rfl rfl rfl ing9 tyok9 nf_Scene_77 mw_344 mw_267 mw_6 (Nat.le_of_ble_eq_true rfl) (Nat.le_of_ble_eq_true rfl) d_Past_init_29 (fun H hS => ?_)
  replace hS : St0 b C 78 G3 M s _ _ := hS
  refine lv_dup F.1.hx F.1.hb d_Past_init_32 rfl ?_
  refine r0_back hS (r0_runIN (k := 77) (mc := 4) (ms := 28) F hS (cc_Scene l 77 (by decide : isScene 77) G3 M) mw_270 mw_269 mw_6 gs_Past_17 rfl hd_Scene_init ⟨Nat.le_of_ble_eq_true rfl, Nat.le_of_ble_eq_true rfl⟩ hl.1 (Nat.le_of_ble_eq_true rfl) ⟨Nat.le_of_ble_eq_true rfl, Nat.le_of_ble_eq_true rfl⟩ d_Past_init_33) (fun H locs hS => ?_)
  obtain ⟨G4, eG4⟩ : ∃ q, q = (gc_Scene 77 G3) := ⟨_, rfl⟩
  replace hS : St0 b C 82 G4 M s H locs := by rw [eG4]; exact hS
  replace hg : G4 70 0 = 71 := by rw [eG4]; exact (gc_Scene_ne (by decide)).trans hg
  refine r0_aast (N := 20) (t := 77) F hS (show 71 < 82 by decide) (show 77 < 82 by decide) rfl rfl rfl (inr_c rfl) (by decide) (by decide) d_Past_init_36 (fun H locs hS => ?_)
  obtain ⟨G5, eG5⟩ : ∃ q, q = (uI G4 71 1 (77 : Nat)) := ⟨_, rfl⟩
  replace hS : St0 b C 82 G5 M s H locs := by rw [eG5]; exact hS
  replace hg : G5 70 0 = 71 := by rw [eG5]; exact (uI_ne _ _ (by decide)).trans hg
  refine lv_iinc (v := Int32.ofInt 2) (lv' := [(1, vI 2), (0, .ref (b + 70))]) F.1.hx F.1.hb d_Past_init_37 hl (k := 0) rfl (by decide) (Nat.le_of_ble_eq_true rfl) rfl (fun ls hl => ?_)
  refine lv_goto (tgt := 15) F.1.hx F.1.hb d_Past_init_40 (by decide) ?_
  refine lv_iload_n F.1.hx F.1.hb d_Past_init_15 rfl (lv_at hl 0 rfl) ?_
  refine lv_aload_n F.1.hx F.1.hb d_Past_init_16 rfl (lv_at hl 1 rfl) ?_
  refine r0_get (v := .ref (b + 71)) (N := 3) (T := T6) (j := 0) F hS (show 70 < 82 by decide) rfl rfl rfl (Nat.le_of_ble_eq_true rfl) ing6 mw_347 ((fv_ref rfl).trans (rv_pos 71 hg)) d_Past_init_17 ?_
  refine r0_alen3 F hS (show 71 < 82 by decide) rfl (N := 20) rfl d_Past_init_20 rfl ?_
  refine r_icmp_ge (tgt := 43) F.1.hx F.1.hb (inr_c rfl) (inr_c rfl) d_Past_init_21 (by decide) (fun c => absurd c (by decide)) (fun _ => ?_)
  refine lv_aload_n F.1.hx F.1.hb d_Past_init_24 rfl (lv_at hl 1 rfl) ?_
  refine r0_get (v := .ref (b + 71)) (N := 3) (T := T6) (j := 0) F hS (show 70 < 82 by decide) rfl rfl rfl (Nat.le_of_ble_eq_true rfl) ing6 mw_347 ((fv_ref rfl).trans (rv_pos 71 hg)) d_Past_init_25 ?_
  refine lv_iload_n F.1.hx F.1.hb d_Past_init_28 rfl (lv_at hl 0 rfl) ?_
  refine r0_new (ci := 9) (N := 7) (T := T9) F hS rfl rfl rfl ing9 tyok9 nf_Scene_82 mw_344 mw_267 mw_6 (Nat.le_of_ble_eq_true rfl) (Nat.le_of_ble_eq_true rfl) d_Past_init_29 (fun H hS => ?_)
  replace hS : St0 b C 83 G5 M s _ _ := hS
  refine lv_dup F.1.hx F.1.hb d_Past_init_32 rfl ?_
  refine r0_back hS (r0_runIN (k := 82) (mc := 4) (ms := 28) F hS (cc_Scene l 82 (by decide : isScene 82) G5 M) mw_270 mw_269 mw_6 gs_Past_17 rfl hd_Scene_init ⟨Nat.le_of_ble_eq_true rfl, Nat.le_of_ble_eq_true rfl⟩ hl.1 (Nat.le_of_ble_eq_true rfl) ⟨Nat.le_of_ble_eq_true rfl, Nat.le_of_ble_eq_true rfl⟩ d_Past_init_33) (fun H locs hS => ?_)
  obtain ⟨G6, eG6⟩ : ∃ q, q = (gc_Scene 82 G5) := ⟨_, rfl⟩
  replace hS : St0 b C 87 G6 M s H locs := by rw [eG6]; exact hS
  replace hg : G6 70 0 = 71 := by rw [eG6]; exact (gc_Scene_ne (by decide)).trans hg
  refine r0_aast (N := 20) (t := 82) F hS (show 71 < 87 by decide) (show 82 < 87 by decide) rfl rfl rfl (inr_c rfl) (by decide) (by decide) d_Past_init_36 (fun H locs hS => ?_)
  obtain ⟨G7, eG7⟩ : ∃ q, q = (uI G6 71 2 (82 : Nat)) := ⟨_, rfl⟩
  replace hS : St0 b C 87 G7 M s H locs := by rw [eG7]; exact hS
  replace hg : G7 70 0 = 71 := by rw [eG7]; exact (uI_ne _ _ (by decide)).trans hg
  refine lv_iinc (v := Int32.ofInt 3) (lv' := [(1, vI 3), (0, .ref (b + 70))]) F.1.hx F.1.hb d_Past_init_37 hl (k := 0) rfl (by decide) (Nat.le_of_ble_eq_true rfl) rfl (fun ls hl => ?_)
  refine lv_goto (tgt := 15) F.1.hx F.1.hb d_Past_init_40 (by decide) ?_
  refine lv_iload_n F.1.hx F.1.hb d_Past_init_15 rfl (lv_at hl 0 rfl) ?_
  refine lv_aload_n F.1.hx F.1.hb d_Past_init_16 rfl (lv_at hl 1 rfl) ?_
  refine r0_get (v := .ref (b + 71)) (N := 3) (T := T6) (j := 0) F hS (show 70 < 87 by decide) rfl rfl rfl (Nat.le_of_ble_eq_true rfl) ing6 mw_347 ((fv_ref rfl).trans (rv_pos 71 hg)) d_Past_init_17 ?_
  refine r0_alen3 F hS (show 71 < 87 by decide) rfl (N := 20) rfl d_Past_init_20 rfl ?_
  refine r_icmp_ge (tgt := 43) F.1.hx F.1.hb (inr_c rfl) (inr_c rfl) d_Past_init_21 (by decide) (fun c => absurd c (by decide)) (fun _ => ?_)
  refine lv_aload_n F.1.hx F.1.hb d_Past_init_24 rfl (lv_at hl 1 rfl) ?_
  refine r0_get (v := .ref (b + 71)) (N := 3) (T := T6) (j := 0) F hS (show 70 < 87 by decide) rfl rfl rfl (Nat.le_of_ble_eq_true rfl) ing6 mw_347 ((fv_ref rfl).trans (rv_pos 71 hg)) d_Past_init_25 ?_
  refine lv_iload_n F.1.hx F.1.hb d_Past_init_28 rfl (lv_at hl 0 rfl) ?_
  refine r0_new (ci := 9) (N := 7) (T := T9) F hS rfl rfl rfl ing9 tyok9 nf_Scene_87 mw_344 mw_267 mw_6 (Nat.le_of_ble_eq_true rfl) (Nat.le_of_ble_eq_true rfl) d_Past_init_29 (fun H hS => ?_)
  replace hS : St0 b C 88 G7 M s _ _ := hS
  refine lv_dup F.1.hx F.1.hb d_Past_init_32 rfl ?_
  refine r0_back hS (r0_runIN (k := 87) (mc := 4) (ms := 28) F hS (cc_Scene l 87 (by decide : isScene 87) G7 M) mw_270 mw_269 mw_6 gs_Past_17 rfl hd_Scene_init ⟨Nat.le_of_ble_eq_true rfl, Nat.le_of_ble_eq_true rfl⟩ hl.1 (Nat.le_of_ble_eq_true rfl) ⟨Nat.le_of_ble_eq_true rfl, Nat.le_of_ble_eq_true rfl⟩ d_Past_init_33) (fun H locs hS => ?_)
  obtain ⟨G8, eG8⟩ : ∃ q, q = (gc_Scene 87 G7) := ⟨_, rfl⟩
  replace hS : St0 b C 92 G8 M s H locs := by rw [eG8]; exact hS
  replace hg : G8 70 0 = 71 := by rw [eG8]; exact (gc_Scene_ne (by decide)).trans hg
  refine r0_aast (N := 20) (t := 87) F hS (show 71 < 92 by decide) (show 87 < 92 by decide) rfl rfl rfl (inr_c rfl) (by decide) (by decide) d_Past_init_36 (fun H locs hS => ?_)
  obtain ⟨G9, eG9⟩ : ∃ q, q = (uI G8 71 3 (87 : Nat)) := ⟨_, rfl⟩
  replace hS : St0 b C 92 G9 M s H locs := by rw [eG9]; exact hS
  replace hg : G9 70 0 = 71 := by rw [eG9]; exact (uI_ne _ _ (by decide)).trans hg
  refine lv_iinc (v := Int32.ofInt 4) (lv' := [(1, vI 4), (0, .ref (b + 70))]) F.1.hx F.1.hb d_Past_init_37 hl (k := 0) rfl (by decide) (Nat.le_of_ble_eq_true rfl) rfl (fun ls hl => ?_)
  refine lv_goto (tgt := 15) F.1.hx F.1.hb d_Past_init_40 (by decide) ?_
  refine lv_iload_n F.1.hx F.1.hb d_Past_init_15 rfl (lv_at hl 0 rfl) ?_
  refine lv_aload_n F.1.hx F.1.hb d_Past_init_16 rfl (lv_at hl 1 rfl) ?_
  refine r0_get (v := .ref (b + 71)) (N := 3) (T := T6) (j := 0) F hS (show 70 < 92 by decide) rfl rfl rfl (Nat.le_of_ble_eq_true rfl) ing6 mw_347 ((fv_ref rfl).trans (rv_pos 71 hg)) d_Past_init_17 ?_
  refine r0_alen3 F hS (show 71 < 92 by decide) rfl (N := 20) rfl d_Past_init_20 rfl ?_
  refine r_icmp_ge (tgt := 43) F.1.hx F.1.hb (inr_c rfl) (inr_c rfl) d_Past_init_21 (by decide) (fun c => absurd c (by decide)) (fun _ => ?_)
  refine lv_aload_n F.1.hx F.1.hb d_Past_init_24 rfl (lv_at hl 1 rfl) ?_
  refine r0_get (v := .ref (b + 71)) (N := 3) (T := T6) (j := 0) F hS (show 70 < 92 by decide) rfl rfl rfl (Nat.le_of_ble_eq_true rfl) ing6 mw_347 ((fv_ref rfl).trans (rv_pos 71 hg)) d_Past_init_25 ?_
  refine lv_iload_n F.1.hx F.1.hb d_Past_init_28 rfl (lv_at hl 0 rfl) ?_
  refine r0_new (ci := 9) (N := 7) (T := T9) F hS rfl rfl rfl ing9 tyok9 nf_Scene_92 mw_344 mw_267 mw_6 (Nat.le_of_ble_eq_true rfl) (Nat.le_of_ble_eq_true rfl) d_Past_init_29 (fun H hS => ?_)
  replace hS : St0 b C 93 G9 M s _ _ := hS
  refine lv_dup F.1.hx F.1.hb d_Past_init_32 rfl ?_
  refine r0_back hS (r0_runIN (k := 92) (mc := 4) (ms := 28) F hS (cc_Scene l 92 (by decide : isScene 92) G9 M) mw_270 mw_269 mw_6 gs_Past_17 rfl hd_Scene_init ⟨Nat.le_of_ble_eq_true rfl, Nat.le_of_ble_eq_true rfl⟩ hl.1 (Nat.le_of_ble_eq_true rfl) ⟨Nat.le_of_ble_eq_true rfl, Nat.le_of_ble_eq_true rfl⟩ d_Past_init_33) (fun H locs hS => ?_)
  obtain ⟨G10, eG10⟩ : ∃ q, q = (gc_Scene 92 G9) := ⟨_, rfl⟩
  replace hS : St0 b C 97 G10 M s H locs := by rw [eG10]; exact hS
  replace hg : G10 70 0 = 71 := by rw [eG10]; exact (gc_Scene_ne (by decide)).trans hg
  refine r0_aast (N := 20) (t := 92) F hS (show 71 < 97 by decide) (show 92 < 97 by decide) rfl rfl rfl (inr_c rfl) (by decide) (by decide) d_Past_init_36 (fun H locs hS => ?_)
  obtain ⟨G11, eG11⟩ : ∃ q, q = (uI G10 71 4 (92 : Nat)) := ⟨_, rfl⟩
  replace hS : St0 b C 97 G11 M s H locs := by rw [eG11]; exact hS
  replace hg : G11 70 0 = 71 := by rw [eG11]; exact (uI_ne _ _ (by decide)).trans hg
  refine lv_iinc (v := Int32.ofInt 5) (lv' := [(1, vI 5), (0, .ref (b + 70))]) F.1.hx F.1.hb d_Past_init_37 hl (k := 0) rfl (by decide) (Nat.le_of_ble_eq_true rfl) rfl (fun ls hl => ?_)
  refine lv_goto (tgt := 15) F.1.hx F.1.hb d_Past_init_40 (by decide) ?_
  refine lv_iload_n F.1.hx F.1.hb d_Past_init_15 rfl (lv_at hl 0 rfl) ?_
  refine lv_aload_n F.1.hx F.1.hb d_Past_init_16 rfl (lv_at hl 1 rfl) ?_
  refine r0_get (v := .ref (b + 71)) (N := 3) (T := T6) (j := 0) F hS (show 70 < 97 by decide) rfl rfl rfl (Nat.le_of_ble_eq_true rfl) ing6 mw_347 ((fv_ref rfl).trans (rv_pos 71 hg)) d_Past_init_17 ?_
  refine r0_alen3 F hS (show 71 < 97 by decide) rfl (N := 20) rfl d_Past_init_20 rfl ?_
  refine r_icmp_ge (tgt := 43) F.1.hx F.1.hb (inr_c rfl) (inr_c rfl) d_Past_init_21 (by decide) (fun c => absurd c (by decide)) (fun _ => ?_)
  refine lv_aload_n F.1.hx F.1.hb d_Past_init_24 rfl (lv_at hl 1 rfl) ?_
  refine r0_get (v := .ref (b + 71)) (N := 3) (T := T6) (j := 0) F hS (show 70 < 97 by decide) rfl rfl rfl (Nat.le_of_ble_eq_true rfl) ing6 mw_347 ((fv_ref rfl).trans (rv_pos 71 hg)) d_Past_init_25 ?_
  refine lv_iload_n F.1.hx F.1.hb d_Past_init_28 rfl (lv_at hl 0 rfl) ?_
  refine r0_new (ci := 9) (N := 7) (T := T9) F hS rfl rfl rfl ing9 tyok9 nf_Scene_97 mw_344 mw_267 mw_6 (Nat.le_of_ble_eq_true rfl) (Nat.le_of_ble_eq_true rfl) d_Past_init_29 (fun H hS => ?_)
  replace hS : St0 b C 98 G11 M s _ _ := hS
  refine lv_dup F.1.hx F.1.hb d_Past_init_32 rfl ?_
  refine r0_back hS (r0_runIN (k := 97) (mc := 4) (ms := 28) F hS (cc_Scene l 97 (by decide : isScene 97) G11 M) mw_270 mw_269 mw_6 gs_Past_17 rfl hd_Scene_init ⟨Nat.le_of_ble_eq_true rfl, Nat.le_of_ble_eq_true rfl⟩ hl.1 (Nat.le_of_ble_eq_true rfl) ⟨Nat.le_of_ble_eq_true rfl, Nat.le_of_ble_eq_true rfl⟩ d_Past_init_33) (fun H locs hS => ?_)
  obtain ⟨G12, eG12⟩ : ∃ q, q = (gc_Scene 97 G11) := ⟨_, rfl⟩
  replace hS : St0 b C 102 G12 M s H locs := by rw [eG12]; exact hS
  replace hg : G12 70 0 = 71 := by rw [eG12]; exact (gc_Scene_ne (by decide)).trans hg
  refine r0_aast (N := 20) (t := 97) F hS (show 71 < 102 by decide) (show 97 < 102 by decide) rfl rfl rfl (inr_c rfl) (by decide) (by decide) d_Past_init_36 (fun H locs hS => ?_)
  obtain ⟨G13, eG13⟩ : ∃ q, q = (uI G12 71 5 (97 : Nat)) := ⟨_, rfl⟩
  replace hS : St0 b C 102 G13 M s H locs := by rw [eG13]; exact hS
  replace hg : G13 70 0 = 71 := by rw [eG13]; exact (uI_ne _ _ (by decide)).trans hg
  refine lv_iinc (v := Int32.ofInt 6) (lv' := [(1, vI 6), (0, .ref (b + 70))]) F.1.hx F.1.hb d_Past_init_37 hl (k := 0) rfl (by decide) (Nat.le_of_ble_eq_true rfl) rfl (fun ls hl => ?_)
  refine lv_goto (tgt := 15) F.1.hx F.1.hb d_Past_init_40 (by decide) ?_
  refine lv_iload_n F.1.hx F.1.hb d_Past_init_15 rfl (lv_at hl 0 rfl) ?_
  refine lv_aload_n F.1.hx F.1.hb d_Past_init_16 rfl (lv_at hl 1 rfl) ?_
  refine r0_get (v := .ref (b + 71)) (N := 3) (T := T6) (j := 0) F hS (show 70 < 102 by decide) rfl rfl rfl (Nat.le_of_ble_eq_true rfl) ing6 mw_347 ((fv_ref rfl).trans (rv_pos 71 hg)) d_Past_init_17 ?_
  refine r0_alen3 F hS (show 71 < 102 by decide) rfl (N := 20) rfl d_Past_init_20 rfl ?_
  refine r_icmp_ge (tgt := 43) F.1.hx F.1.hb (inr_c rfl) (inr_c rfl) d_Past_init_21 (by decide) (fun c => absurd c (by decide)) (fun _ => ?_)
  refine lv_aload_n F.1.hx F.1.hb d_Past_init_24 rfl (lv_at hl 1 rfl) ?_
  refine r0_get (v := .ref (b + 71)) (N := 3) (T := T6) (j := 0) F hS (show 70 < 102 by decide) rfl rfl rfl (Nat.le_of_ble_eq_true rfl) ing6 mw_347 ((fv_ref rfl).trans (rv_pos 71 hg)) d_Past_init_25 ?_
  refine lv_iload_n F.1.hx F.1.hb d_Past_init_28 rfl (lv_at hl 0 rfl) ?_
  refine r0_new (ci := 9) (N := 7) (T := T9) F hS rfl rfl rfl ing9 tyok9 nf_Scene_102 mw_344 mw_267 mw_6 (Nat.le_of_ble_eq_true rfl) (Nat.le_of_ble_eq_true rfl) d_Past_init_29 (fun H hS => ?_)
  replace hS : St0 b C 103 G13 M s _ _ := hS
  refine lv_dup F.1.hx F.1.hb d_Past_init_32 rfl ?_
  refine r0_back hS (r0_runIN (k := 102) (mc := 4) (ms := 28) F hS (cc_Scene l 102 (by decide : isScene 102) G13 M) mw_270 mw_269 mw_6 gs_Past_17 rfl hd_Scene_init ⟨Nat.le_of_ble_eq_true rfl, Nat.le_of_ble_eq_true rfl⟩ hl.1 (Nat.le_of_ble_eq_true rfl) ⟨Nat.le_of_ble_eq_true rfl, Nat.le_of_ble_eq_true rfl⟩ d_Past_init_33) (fun H locs hS => ?_)
  obtain ⟨G14, eG14⟩ : ∃ q, q = (gc_Scene 102 G13) := ⟨_, rfl⟩
  replace hS : St0 b C 107 G14 M s H locs := by rw [eG14]; exact hS
  replace hg : G14 70 0 = 71 := by rw [eG14]; exact (gc_Scene_ne (by decide)).trans hg
  refine r0_aast (N := 20) (t := 102) F hS (show 71 < 107 by decide) (show 102 < 107 by decide) rfl rfl rfl (inr_c rfl) (by decide) (by decide) d_Past_init_36 (fun H locs hS => ?_)
  obtain ⟨G15, eG15⟩ : ∃ q, q = (uI G14 71 6 (102 : Nat)) := ⟨_, rfl⟩
  replace hS : St0 b C 107 G15 M s H locs := by rw [eG15]; exact hS
  replace hg : G15 70 0 = 71 := by rw [eG15]; exact (uI_ne _ _ (by decide)).trans hg
  refine lv_iinc (v := Int32.ofInt 7) (lv' := [(1, vI 7), (0, .ref (b + 70))]) F.1.hx F.1.hb d_Past_init_37 hl (k := 0) rfl (by decide) (Nat.le_of_ble_eq_true rfl) rfl (fun ls hl => ?_)
  refine lv_goto (tgt := 15) F.1.hx F.1.hb d_Past_init_40 (by decide) ?_
  refine lv_iload_n F.1.hx F.1.hb d_Past_init_15 rfl (lv_at hl 0 rfl) ?_
  refine lv_aload_n F.1.hx F.1.hb d_Past_init_16 rfl (lv_at hl 1 rfl) ?_
  refine r0_get (v := .ref (b + 71)) (N := 3) (T := T6) (j := 0) F hS (show 70 < 107 by decide) rfl rfl rfl (Nat.le_of_ble_eq_true rfl) ing6 mw_347 ((fv_ref rfl).trans (rv_pos 71 hg)) d_Past_init_17 ?_
  refine r0_alen3 F hS (show 71 < 107 by decide) rfl (N := 20) rfl d_Past_init_20 rfl ?_
  refine r_icmp_ge (tgt := 43) F.1.hx F.1.hb (inr_c rfl) (inr_c rfl) d_Past_init_21 (by decide) (fun c => absurd c (by decide)) (fun _ => ?_)
  refine lv_aload_n F.1.hx F.1.hb d_Past_init_24 rfl (lv_at hl 1 rfl) ?_
  refine r0_get (v := .ref (b + 71)) (N := 3) (T := T6) (j := 0) F hS (show 70 < 107 by decide) rfl rfl rfl (Nat.le_of_ble_eq_true rfl) ing6 mw_347 ((fv_ref rfl).trans (rv_pos 71 hg)) d_Past_init_25 ?_
  refine lv_iload_n F.1.hx F.1.hb d_Past_init_28 rfl (lv_at hl 0 rfl) ?_
  refine r0_new (ci := 9) (N := 7) (T := T9) F hS rfl rfl rfl ing9 tyok9 nf_Scene_107 mw_344 mw_267 mw_6 (Nat.le_of_ble_eq_true rfl) (Nat.le_of_ble_eq_true rfl) d_Past_init_29 (fun H hS => ?_)
  replace hS : St0 b C 108 G15 M s _ _ := hS
  refine lv_dup F.1.hx F.1.hb d_Past_init_32 rfl ?_
  refine r0_back hS (r0_runIN (k := 107) (mc := 4) (ms := 28) F hS (cc_Scene l 107 (by decide : isScene 107) G15 M) mw_270 mw_269 mw_6 gs_Past_17 rfl hd_Scene_init ⟨Nat.le_of_ble_eq_true rfl, Nat.le_of_ble_eq_true rfl⟩ hl.1 (Nat.le_of_ble_eq_true rfl) ⟨Nat.le_of_ble_eq_true rfl, Nat.le_of_ble_eq_true rfl⟩ d_Past_init_33) (fun H locs hS => ?_)
  obtain ⟨G16, eG16⟩ : ∃ q, q = (gc_Scene 107 G15) := ⟨_, rfl⟩
  replace hS : St0 b C 112 G16 M s H locs := by rw [eG16]; exact hS
  replace hg : G16 70 0 = 71 := by rw [eG16]; exact (gc_Scene_ne (by decide)).trans hg
  refine r0_aast (N := 20) (t := 107) F hS (show 71 < 112 by decide) (show 107 < 112 by decide) rfl rfl rfl (inr_c rfl) (by decide) (by decide) d_Past_init_36 (fun H locs hS => ?_)
  obtain ⟨G17, eG17⟩ : ∃ q, q = (uI G16 71 7 (107 : Nat)) := ⟨_, rfl⟩
  replace hS : St0 b C 112 G17 M s H locs := by rw [eG17]; exact hS
  replace hg : G17 70 0 = 71 := by rw [eG17]; exact (uI_ne _ _ (by decide)).trans hg
  refine lv_iinc (v := Int32.ofInt 8) (lv' := [(1, vI 8), (0, .ref (b + 70))]) F.1.hx F.1.hb d_Past_init_37 hl (k := 0) rfl (by decide) (Nat.le_of_ble_eq_true rfl) rfl (fun ls hl => ?_)
  refine lv_goto (tgt := 15) F.1.hx F.1.hb d_Past_init_40 (by decide) ?_
  refine lv_iload_n F.1.hx F.1.hb d_Past_init_15 rfl (lv_at hl 0 rfl) ?_
  refine lv_aload_n F.1.hx F.1.hb d_Past_init_16 rfl (lv_at hl 1 rfl) ?_
  refine r0_get (v := .ref (b + 71)) (N := 3) (T := T6) (j := 0) F hS (show 70 < 112 by decide) rfl rfl rfl (Nat.le_of_ble_eq_true rfl) ing6 mw_347 ((fv_ref rfl).trans (rv_pos 71 hg)) d_Past_init_17 ?_
  refine r0_alen3 F hS (show 71 < 112 by decide) rfl (N := 20) rfl d_Past_init_20 rfl ?_
  refine r_icmp_ge (tgt := 43) F.1.hx F.1.hb (inr_c rfl) (inr_c rfl) d_Past_init_21 (by decide) (fun c => absurd c (by decide)) (fun _ => ?_)
  refine lv_aload_n F.1.hx F.1.hb d_Past_init_24 rfl (lv_at hl 1 rfl) ?_
  refine r0_get (v := .ref (b + 71)) (N := 3) (T := T6) (j := 0) F hS (show 70 < 112 by decide) rfl rfl rfl (Nat.le_of_ble_eq_true rfl) ing6 mw_347 ((fv_ref rfl).trans (rv_pos 71 hg)) d_Past_init_25 ?_
  refine lv_iload_n F.1.hx F.1.hb d_Past_init_28 rfl (lv_at hl 0 rfl) ?_
  refine r0_new (ci := 9) (N := 7) (T := T9) F hS rfl rfl rfl ing9 tyok9 nf_Scene_112 mw_344 mw_267 mw_6 (Nat.le_of_ble_eq_true rfl) (Nat.le_of_ble_eq_true rfl) d_Past_init_29 (fun H hS => ?_)
  replace hS : St0 b C 113 G17 M s _ _ := hS
  refine lv_dup F.1.hx F.1.hb d_Past_init_32 rfl ?_
  refine r0_back hS (r0_runIN (k := 112) (mc := 4) (ms := 28) F hS (cc_Scene l 112 (by decide : isScene 112) G17 M) mw_270 mw_269 mw_6 gs_Past_17 rfl hd_Scene_init ⟨Nat.le_of_ble_eq_true rfl, Nat.le_of_ble_eq_true rfl⟩ hl.1 (Nat.le_of_ble_eq_true rfl) ⟨Nat.le_of_ble_eq_true rfl, Nat.le_of_ble_eq_true rfl⟩ d_Past_init_33) (fun H locs hS => ?_)
  obtain ⟨G18, eG18⟩ : ∃ q, q = (gc_Scene 112 G17) := ⟨_, rfl⟩
  replace hS : St0 b C 117 G18 M s H locs := by rw [eG18]; exact hS
  replace hg : G18 70 0 = 71 := by rw [eG18]; exact (gc_Scene_ne (by decide)).trans hg
  refine r0_aast (N := 20) (t := 112) F hS (show 71 < 117 by decide) (show 112 < 117 by decide) rfl rfl rfl (inr_c rfl) (by decide) (by decide) d_Past_init_36 (fun H locs hS => ?_)
  obtain ⟨G19, eG19⟩ : ∃ q, q = (uI G18 71 8 (112 : Nat)) := ⟨_, rfl⟩
  replace hS : St0 b C 117 G19 M s H locs := by rw [eG19]; exact hS
  replace hg : G19 70 0 = 71 := by rw [eG19]; exact (uI_ne _ _ (by decide)).trans hg
  refine lv_iinc (v := Int32.ofInt 9) (lv' := [(1, vI 9), (0, .ref (b + 70))]) F.1.hx F.1.hb d_Past_init_37 hl (k := 0) rfl (by decide) (Nat.le_of_ble_eq_true rfl) rfl (fun ls hl => ?_)
  refine lv_goto (tgt := 15) F.1.hx F.1.hb d_Past_init_40 (by decide) ?_
  refine lv_iload_n F.1.hx F.1.hb d_Past_init_15 rfl (lv_at hl 0 rfl) ?_
  refine lv_aload_n F.1.hx F.1.hb d_Past_init_16 rfl (lv_at hl 1 rfl) ?_
  refine r0_get (v := .ref (b + 71)) (N := 3) (T := T6) (j := 0) F hS (show 70 < 117 by decide) rfl rfl rfl (Nat.le_of_ble_eq_true rfl) ing6 mw_347 ((fv_ref rfl).trans (rv_pos 71 hg)) d_Past_init_17 ?_
  refine r0_alen3 F hS (show 71 < 117 by decide) rfl (N := 20) rfl d_Past_init_20 rfl ?_
  refine r_icmp_ge (tgt := 43) F.1.hx F.1.hb (inr_c rfl) (inr_c rfl) d_Past_init_21 (by decide) (fun c => absurd c (by decide)) (fun _ => ?_)
  refine lv_aload_n F.1.hx F.1.hb d_Past_init_24 rfl (lv_at hl 1 rfl) ?_
  refine r0_get (v := .ref (b + 71)) (N := 3) (T := T6) (j := 0) F hS (show 70 < 117 by decide) rfl rfl rfl (Nat.le_of_ble_eq_true rfl) ing6 mw_347 ((fv_ref rfl).trans (rv_pos 71 hg)) d_Past_init_25 ?_
  refine lv_iload_n F.1.hx F.1.hb d_Past_init_28 rfl (lv_at hl 0 rfl) ?_
  refine r0_new (ci := 9) (N := 7) (T := T9) F hS rfl rfl rfl ing9 tyok9 nf_Scene_117 mw_344 mw_267 mw_6 (Nat.le_of_ble_eq_true rfl) (Nat.le_of_ble_eq_true rfl) d_Past_init_29 (fun H hS => ?_)
  replace hS : St0 b C 118 G19 M s _ _ := hS
  refine lv_dup F.1.hx F.1.hb d_Past_init_32 rfl ?_
  refine r0_back hS (r0_runIN (k := 117) (mc := 4) (ms := 28) F hS (cc_Scene l 117 (by decide : isScene 117) G19 M) mw_270 mw_269 mw_6 gs_Past_17 rfl hd_Scene_init ⟨Nat.le_of_ble_eq_true rfl, Nat.le_of_ble_eq_true rfl⟩ hl.1 (Nat.le_of_ble_eq_true rfl) ⟨Nat.le_of_ble_eq_true rfl, Nat.le_of_ble_eq_true rfl⟩ d_Past_init_33) (fun H locs hS => ?_)
  obtain ⟨G20, eG20⟩ : ∃ q, q = (gc_Scene 117 G19) := ⟨_, rfl⟩
  replace hS : St0 b C 122 G20 M s H locs := by rw [eG20]; exact hS
  replace hg : G20 70 0 = 71 := by rw [eG20]; exact (gc_Scene_ne (by decide)).trans hg
  refine r0_aast (N := 20) (t := 117) F hS (show 71 < 122 by decide) (show 117 < 122 by decide) rfl rfl rfl (inr_c rfl) (by decide) (by decide) d_Past_init_36 (fun H locs hS => ?_)
  obtain ⟨G21, eG21⟩ : ∃ q, q = (uI G20 71 9 (117 : Nat)) := ⟨_, rfl⟩
  replace hS : St0 b C 122 G21 M s H locs := by rw [eG21]; exact hS
  replace hg : G21 70 0 = 71 := by rw [eG21]; exact (uI_ne _ _ (by decide)).trans hg
  refine lv_iinc (v := Int32.ofInt 10) (lv' := [(1, vI 10), (0, .ref (b + 70))]) F.1.hx F.1.hb d_Past_init_37 hl (k := 0) rfl (by decide) (Nat.le_of_ble_eq_true rfl) rfl (fun ls hl => ?_)
  refine lv_goto (tgt := 15) F.1.hx F.1.hb d_Past_init_40 (by decide) ?_
  refine lv_iload_n F.1.hx F.1.hb d_Past_init_15 rfl (lv_at hl 0 rfl) ?_
  refine lv_aload_n F.1.hx F.1.hb d_Past_init_16 rfl (lv_at hl 1 rfl) ?_
  refine r0_get (v := .ref (b + 71)) (N := 3) (T := T6) (j := 0) F hS (show 70 < 122 by decide) rfl rfl rfl (Nat.le_of_ble_eq_true rfl) ing6 mw_347 ((fv_ref rfl).trans (rv_pos 71 hg)) d_Past_init_17 ?_
  refine r0_alen3 F hS (show 71 < 122 by decide) rfl (N := 20) rfl d_Past_init_20 rfl ?_
  refine r_icmp_ge (tgt := 43) F.1.hx F.1.hb (inr_c rfl) (inr_c rfl) d_Past_init_21 (by decide) (fun c => absurd c (by decide)) (fun _ => ?_)
  refine lv_aload_n F.1.hx F.1.hb d_Past_init_24 rfl (lv_at hl 1 rfl) ?_
  refine r0_get (v := .ref (b + 71)) (N := 3) (T := T6) (j := 0) F hS (show 70 < 122 by decide) rfl rfl rfl (Nat.le_of_ble_eq_true rfl) ing6 mw_347 ((fv_ref rfl).trans (rv_pos 71 hg)) d_Past_init_25 ?_
  refine lv_iload_n F.1.hx F.1.hb d_Past_init_28 rfl (lv_at hl 0 rfl) ?_
  refine r0_new (ci := 9) (N := 7) (T := T9) F hS rfl rfl rfl ing9 tyok9 nf_Scene_122 mw_344 mw_267 mw_6 (Nat.le_of_ble_eq_true rfl) (Nat.le_of_ble_eq_true rfl) d_Past_init_29 (fun H hS => ?_)
  replace hS : St0 b C 123 G21 M s _ _ := hS
  refine lv_dup F.1.hx F.1.hb d_Past_init_32 rfl ?_
  refine r0_back hS (r0_runIN (k := 122) (mc := 4) (ms := 28) F hS (cc_Scene l 122 (by decide : isScene 122) G21 M) mw_270 mw_269 mw_6 gs_Past_17 rfl hd_Scene_init ⟨Nat.le_of_ble_eq_true rfl, Nat.le_of_ble_eq_true rfl⟩ hl.1 (Nat.le_of_ble_eq_true rfl) ⟨Nat.le_of_ble_eq_true rfl, Nat.le_of_ble_eq_true rfl⟩ d_Past_init_33) (fun H locs hS => ?_)
  obtain ⟨G22, eG22⟩ : ∃ q, q = (gc_Scene 122 G21) := ⟨_, rfl⟩
  replace hS : St0 b C 127 G22 M s H locs := by rw [eG22]; exact hS
  replace hg : G22 70 0 = 71 := by rw [eG22]; exact (gc_Scene_ne (by decide)).trans hg
  refine r0_aast (N := 20) (t := 122) F hS (show 71 < 127 by decide) (show 122 < 127 by decide) rfl rfl rfl (inr_c rfl) (by decide) (by decide) d_Past_init_36 (fun H locs hS => ?_)
  obtain ⟨G23, eG23⟩ : ∃ q, q = (uI G22 71 10 (122 : Nat)) := ⟨_, rfl⟩
  replace hS : St0 b C 127 G23 M s H locs := by rw [eG23]; exact hS
  replace hg : G23 70 0 = 71 := by rw [eG23]; exact (uI_ne _ _ (by decide)).trans hg
  refine lv_iinc (v := Int32.ofInt 11) (lv' := [(1, vI 11), (0, .ref (b + 70))]) F.1.hx F.1.hb d_Past_init_37 hl (k := 0) rfl (by decide) (Nat.le_of_ble_eq_true rfl) rfl (fun ls hl => ?_)
  refine lv_goto (tgt := 15) F.1.hx F.1.hb d_Past_init_40 (by decide) ?_
  refine lv_iload_n F.1.hx F.1.hb d_Past_init_15 rfl (lv_at hl 0 rfl) ?_
  refine lv_aload_n F.1.hx F.1.hb d_Past_init_16 rfl (lv_at hl 1 rfl) ?_
  refine r0_get (v := .ref (b + 71)) (N := 3) (T := T6) (j := 0) F hS (show 70 < 127 by decide) rfl rfl rfl (Nat.le_of_ble_eq_true rfl) ing6 mw_347 ((fv_ref rfl).trans (rv_pos 71 hg)) d_Past_init_17 ?_
  refine r0_alen3 F hS (show 71 < 127 by decide) rfl (N := 20) rfl d_Past_init_20 rfl ?_
  refine r_icmp_ge (tgt := 43) F.1.hx F.1.hb (inr_c rfl) (inr_c rfl) d_Past_init_21 (by decide) (fun c => absurd c (by decide)) (fun _ => ?_)
  refine lv_aload_n F.1.hx F.1.hb d_Past_init_24 rfl (lv_at hl 1 rfl) ?_
  refine r0_get (v := .ref (b + 71)) (N := 3) (T := T6) (j := 0) F hS (show 70 < 127 by decide) rfl rfl rfl (Nat.le_of_ble_eq_true rfl) ing6 mw_347 ((fv_ref rfl).trans (rv_pos 71 hg)) d_Past_init_25 ?_
  refine lv_iload_n F.1.hx F.1.hb d_Past_init_28 rfl (lv_at hl 0 rfl) ?_
  refine r0_new (ci := 9) (N := 7) (T := T9) F hS rfl rfl rfl ing9 tyok9 nf_Scene_127 mw_344 mw_267 mw_6 (Nat.le_of_ble_eq_true rfl) (Nat.le_of_ble_eq_true rfl) d_Past_init_29 (fun H hS => ?_)
  replace hS : St0 b C 128 G23 M s _ _ := hS
  refine lv_dup F.1.hx F.1.hb d_Past_init_32 rfl ?_
  refine r0_back hS (r0_runIN (k := 127) (mc := 4) (ms := 28) F hS (cc_Scene l 127 (by decide : isScene 127) G23 M) mw_270 mw_269 mw_6 gs_Past_17 rfl hd_Scene_init ⟨Nat.le_of_ble_eq_true rfl, Nat.le_of_ble_eq_true rfl⟩ hl.1 (Nat.le_of_ble_eq_true rfl) ⟨Nat.le_of_ble_eq_true rfl, Nat.le_of_ble_eq_true rfl⟩ d_Past_init_33) (fun H locs hS => ?_)
  obtain ⟨G24, eG24⟩ : ∃ q, q = (gc_Scene 127 G23) := ⟨_, rfl⟩
  replace hS : St0 b C 132 G24 M s H locs := by rw [eG24]; exact hS
  replace hg : G24 70 0 = 71 := by rw [eG24]; exact (gc_Scene_ne (by decide)).trans hg
  refine r0_aast (N := 20) (t := 127) F hS (show 71 < 132 by decide) (show 127 < 132 by decide) rfl rfl rfl (inr_c rfl) (by decide) (by decide) d_Past_init_36 (fun H locs hS => ?_)
  obtain ⟨G25, eG25⟩ : ∃ q, q = (uI G24 71 11 (127 : Nat)) := ⟨_, rfl⟩
  replace hS : St0 b C 132 G25 M s H locs := by rw [eG25]; exact hS
  replace hg : G25 70 0 = 71 := by rw [eG25]; exact (uI_ne _ _ (by decide)).trans hg
  refine lv_iinc (v := Int32.ofInt 12) (lv' := [(1, vI 12), (0, .ref (b + 70))]) F.1.hx F.1.hb d_Past_init_37 hl (k := 0) rfl (by decide) (Nat.le_of_ble_eq_true rfl) rfl (fun ls hl => ?_)
  refine lv_goto (tgt := 15) F.1.hx F.1.hb d_Past_init_40 (by decide) ?_
  refine lv_iload_n F.1.hx F.1.hb d_Past_init_15 rfl (lv_at hl 0 rfl) ?_
  refine lv_aload_n F.1.hx F.1.hb d_Past_init_16 rfl (lv_at hl 1 rfl) ?_
  refine r0_get (v := .ref (b + 71)) (N := 3) (T := T6) (j := 0) F hS (show 70 < 132 by decide) rfl rfl rfl (Nat.le_of_ble_eq_true rfl) ing6 mw_347 ((fv_ref rfl).trans (rv_pos 71 hg)) d_Past_init_17 ?_
  refine r0_alen3 F hS (show 71 < 132 by decide) rfl (N := 20) rfl d_Past_init_20 rfl ?_
  refine r_icmp_ge (tgt := 43) F.1.hx F.1.hb (inr_c rfl) (inr_c rfl) d_Past_init_21 (by decide) (fun c => absurd c (by decide)) (fun _ => ?_)
  refine lv_aload_n F.1.hx F.1.hb d_Past_init_24 rfl (lv_at hl 1 rfl) ?_
  refine r0_get (v := .ref (b + 71)) (N := 3) (T := T6) (j := 0) F hS (show 70 < 132 by decide) rfl rfl rfl (Nat.le_of_ble_eq_true rfl) ing6 mw_347 ((fv_ref rfl).trans (rv_pos 71 hg)) d_Past_init_25 ?_
  refine lv_iload_n F.1.hx F.1.hb d_Past_init_28 rfl (lv_at hl 0 rfl) ?_
  refine r0_new (ci := 9) (N := 7) (T := T9) F hS rfl rfl rfl ing9 tyok9 nf_Scene_132 mw_344 mw_267 mw_6 (Nat.le_of_ble_eq_true rfl) (Nat.le_of_ble_eq_true rfl) d_Past_init_29 (fun H hS => ?_)
  replace hS : St0 b C 133 G25 M s _ _ := hS
  refine lv_dup F.1.hx F.1.hb d_Past_init_32 rfl ?_
  refine r0_back hS (r0_runIN (k := 132) (mc := 4) (ms := 28) F hS (cc_Scene l 132 (by decide : isScene 132) G25 M) mw_270 mw_269 mw_6 gs_Past_17 rfl hd_Scene_init ⟨Nat.le_of_ble_eq_true rfl, Nat.le_of_ble_eq_true rfl⟩ hl.1 (Nat.le_of_ble_eq_true rfl) ⟨Nat.le_of_ble_eq_true rfl, Nat.le_of_ble_eq_true rfl⟩ d_Past_init_33) (fun H locs hS => ?_)
  obtain ⟨G26, eG26⟩ : ∃ q, q = (gc_Scene 132 G25) := ⟨_, rfl⟩
  replace hS : St0 b C 137 G26 M s H locs := by rw [eG26]; exact hS
  replace hg : G26 70 0 = 71 := by rw [eG26]; exact (gc_Scene_ne (by decide)).trans hg
  refine r0_aast (N := 20) (t := 132) F hS (show 71 < 137 by decide) (show 132 < 137 by decide) rfl rfl rfl (inr_c rfl) (by decide) (by decide) d_Past_init_36 (fun H locs hS => ?_)
  obtain ⟨G27, eG27⟩ : ∃ q, q = (uI G26 71 12 (132 : Nat)) := ⟨_, rfl⟩
  replace hS : St0 b C 137 G27 M s H locs := by rw [eG27]; exact hS
  replace hg : G27 70 0 = 71 := by rw [eG27]; exact (uI_ne _ _ (by decide)).trans hg
  refine lv_iinc (v := Int32.ofInt 13) (lv' := [(1, vI 13), (0, .ref (b + 70))]) F.1.hx F.1.hb d_Past_init_37 hl (k := 0) rfl (by decide) (Nat.le_of_ble_eq_true rfl) rfl (fun ls hl => ?_)
  refine lv_goto (tgt := 15) F.1.hx F.1.hb d_Past_init_40 (by decide) ?_
  refine lv_iload_n F.1.hx F.1.hb d_Past_init_15 rfl (lv_at hl 0 rfl) ?_
  refine lv_aload_n F.1.hx F.1.hb d_Past_init_16 rfl (lv_at hl 1 rfl) ?_
  refine r0_get (v := .ref (b + 71)) (N := 3) (T := T6) (j := 0) F hS (show 70 < 137 by decide) rfl rfl rfl (Nat.le_of_ble_eq_true rfl) ing6 mw_347 ((fv_ref rfl).trans (rv_pos 71 hg)) d_Past_init_17 ?_
  refine r0_alen3 F hS (show 71 < 137 by decide) rfl (N := 20) rfl d_Past_init_20 rfl ?_
  refine r_icmp_ge (tgt := 43) F.1.hx F.1.hb (inr_c rfl) (inr_c rfl) d_Past_init_21 (by decide) (fun c => absurd c (by decide)) (fun _ => ?_)
  refine lv_aload_n F.1.hx F.1.hb d_Past_init_24 rfl (lv_at hl 1 rfl) ?_
  refine r0_get (v := .ref (b + 71)) (N := 3) (T := T6) (j := 0) F hS (show 70 < 137 by decide) rfl rfl rfl (Nat.le_of_ble_eq_true rfl) ing6 mw_347 ((fv_ref rfl).trans (rv_pos 71 hg)) d_Past_init_25 ?_
  refine lv_iload_n F.1.hx F.1.hb d_Past_init_28 rfl (lv_at hl 0 rfl) ?_
  refine r0_new (ci := 9) (N := 7) (T := T9) F hS rfl rfl rfl ing9 tyok9 nf_Scene_137 mw_344 mw_267 mw_6 (Nat.le_of_ble_eq_true rfl) (Nat.le_of_ble_eq_true rfl) d_Past_init_29 (fun H hS => ?_)
  replace hS : St0 b C 138 G27 M s _ _ := hS
  refine lv_dup F.1.hx F.1.hb d_Past_init_32 rfl ?_
  refine r0_back hS (r0_runIN (k := 137) (mc := 4) (ms := 28) F hS (cc_Scene l 137 (by decide : isScene 137) G27 M) mw_270 mw_269 mw_6 gs_Past_17 rfl hd_Scene_init ⟨Nat.le_of_ble_eq_true rfl, Nat.le_of_ble_eq_true rfl⟩ hl.1 (Nat.le_of_ble_eq_true rfl) ⟨Nat.le_of_ble_eq_true rfl, Nat.le_of_ble_eq_true rfl⟩ d_Past_init_33) (fun H locs hS => ?_)
  obtain ⟨G28, eG28⟩ : ∃ q, q = (gc_Scene 137 G27) := ⟨_, rfl⟩
  replace hS : St0 b C 142 G28 M s H locs := by rw [eG28]; exact hS
  replace hg : G28 70 0 = 71 := by rw [eG28]; exact (gc_Scene_ne (by decide)).trans hg
  refine r0_aast (N := 20) (t := 137) F hS (show 71 < 142 by decide) (show 137 < 142 by decide) rfl rfl rfl (inr_c rfl) (by decide) (by decide) d_Past_init_36 (fun H locs hS => ?_)
  obtain ⟨G29, eG29⟩ : ∃ q, q = (uI G28 71 13 (137 : Nat)) := ⟨_, rfl⟩
  replace hS : St0 b C 142 G29 M s H locs := by rw [eG29]; exact hS
  replace hg : G29 70 0 = 71 := by rw [eG29]; exact (uI_ne _ _ (by decide)).trans hg
  refine lv_iinc (v := Int32.ofInt 14) (lv' := [(1, vI 14), (0, .ref (b + 70))]) F.1.hx F.1.hb d_Past_init_37 hl (k := 0) rfl (by decide) (Nat.le_of_ble_eq_true rfl) rfl (fun ls hl => ?_)
  refine lv_goto (tgt := 15) F.1.hx F.1.hb d_Past_init_40 (by decide) ?_
  refine lv_iload_n F.1.hx F.1.hb d_Past_init_15 rfl (lv_at hl 0 rfl) ?_
  refine lv_aload_n F.1.hx F.1.hb d_Past_init_16 rfl (lv_at hl 1 rfl) ?_
  refine r0_get (v := .ref (b + 71)) (N := 3) (T := T6) (j := 0) F hS (show 70 < 142 by decide) rfl rfl rfl (Nat.le_of_ble_eq_true rfl) ing6 mw_347 ((fv_ref rfl).trans (rv_pos 71 hg)) d_Past_init_17 ?_
  refine r0_alen3 F hS (show 71 < 142 by decide) rfl (N := 20) rfl d_Past_init_20 rfl ?_
  refine r_icmp_ge (tgt := 43) F.1.hx F.1.hb (inr_c rfl) (inr_c rfl) d_Past_init_21 (by decide) (fun c => absurd c (by decide)) (fun _ => ?_)
  refine lv_aload_n F.1.hx F.1.hb d_Past_init_24 rfl (lv_at hl 1 rfl) ?_
  refine r0_get (v := .ref (b + 71)) (N := 3) (T := T6) (j := 0) F hS (show 70 < 142 by decide) rfl rfl rfl (Nat.le_of_ble_eq_true rfl) ing6 mw_347 ((fv_ref rfl).trans (rv_pos 71 hg)) d_Past_init_25 ?_
  refine lv_iload_n F.1.hx F.1.hb d_Past_init_28 rfl (lv_at hl 0 rfl) ?_
  refine r0_new (ci := 9) (N := 7) (T := T9) F hS rfl rfl rfl ing9 tyok9 nf_Scene_142 mw_344 mw_267 mw_6 (Nat.le_of_ble_eq_true rfl) (Nat.le_of_ble_eq_true rfl) d_Past_init_29 (fun H hS => ?_)
  replace hS : St0 b C 143 G29 M s _ _ := hS
  refine lv_dup F.1.hx F.1.hb d_Past_init_32 rfl ?_
  refine r0_back hS (r0_runIN (k := 142) (mc := 4) (ms := 28) F hS (cc_Scene l 142 (by decide : isScene 142) G29 M) mw_270 mw_269 mw_6 gs_Past_17 rfl hd_Scene_init ⟨Nat.le_of_ble_eq_true rfl, Nat.le_of_ble_eq_true rfl⟩ hl.1 (Nat.le_of_ble_eq_true rfl) ⟨Nat.le_of_ble_eq_true rfl, Nat.le_of_ble_eq_true rfl⟩ d_Past_init_33) (fun H locs hS => ?_)
  obtain ⟨G30, eG30⟩ : ∃ q, q = (gc_Scene 142 G29) := ⟨_, rfl⟩
  replace hS : St0 b C 147 G30 M s H locs := by rw [eG30]; exact hS
  replace hg : G30 70 0 = 71 := by rw [eG30]; exact (gc_Scene_ne (by decide)).trans hg
  refine r0_aast (N := 20) (t := 142) F hS (show 71 < 147 by decide) (show 142 < 147 by decide) rfl rfl rfl (inr_c rfl) (by decide) (by decide) d_Past_init_36 (fun H locs hS => ?_)
  obtain ⟨G31, eG31⟩ : ∃ q, q = (uI G30 71 14 (142 : Nat)) := ⟨_, rfl⟩
  replace hS : St0 b C 147 G31 M s H locs := by rw [eG31]; exact hS
  replace hg : G31 70 0 = 71 := by rw [eG31]; exact (uI_ne _ _ (by decide)).trans hg
  refine lv_iinc (v := Int32.ofInt 15) (lv' := [(1, vI 15), (0, .ref (b + 70))]) F.1.hx F.1.hb d_Past_init_37 hl (k := 0) rfl (by decide) (Nat.le_of_ble_eq_true rfl) rfl (fun ls hl => ?_)
  refine lv_goto (tgt := 15) F.1.hx F.1.hb d_Past_init_40 (by decide) ?_
  refine lv_iload_n F.1.hx F.1.hb d_Past_init_15 rfl (lv_at hl 0 rfl) ?_
  refine lv_aload_n F.1.hx F.1.hb d_Past_init_16 rfl (lv_at hl 1 rfl) ?_
  refine r0_get (v := .ref (b + 71)) (N := 3) (T := T6) (j := 0) F hS (show 70 < 147 by decide) rfl rfl rfl (Nat.le_of_ble_eq_true rfl) ing6 mw_347 ((fv_ref rfl).trans (rv_pos 71 hg)) d_Past_init_17 ?_
  refine r0_alen3 F hS (show 71 < 147 by decide) rfl (N := 20) rfl d_Past_init_20 rfl ?_
  refine r_icmp_ge (tgt := 43) F.1.hx F.1.hb (inr_c rfl) (inr_c rfl) d_Past_init_21 (by decide) (fun c => absurd c (by decide)) (fun _ => ?_)
  refine lv_aload_n F.1.hx F.1.hb d_Past_init_24 rfl (lv_at hl 1 rfl) ?_
  refine r0_get (v := .ref (b + 71)) (N := 3) (T := T6) (j := 0) F hS (show 70 < 147 by decide) rfl rfl rfl (Nat.le_of_ble_eq_true rfl) ing6 mw_347 ((fv_ref rfl).trans (rv_pos 71 hg)) d_Past_init_25 ?_
  refine lv_iload_n F.1.hx F.1.hb d_Past_init_28 rfl (lv_at hl 0 rfl) ?_
  refine r0_new (ci := 9) (N := 7) (T := T9) F hS rfl rfl rfl ing9 tyok9 nf_Scene_147 mw_344 mw_267 mw_6 (Nat.le_of_ble_eq_true rfl) (Nat.le_of_ble_eq_true rfl) d_Past_init_29 (fun H hS => ?_)
  replace hS : St0 b C 148 G31 M s _ _ := hS
  refine lv_dup F.1.hx F.1.hb d_Past_init_32 rfl ?_
  refine r0_back hS (r0_runIN (k := 147) (mc := 4) (ms := 28) F hS (cc_Scene l 147 (by decide : isScene 147) G31 M) mw_270 mw_269 mw_6 gs_Past_17 rfl hd_Scene_init ⟨Nat.le_of_ble_eq_true rfl, Nat.le_of_ble_eq_true rfl⟩ hl.1 (Nat.le_of_ble_eq_true rfl) ⟨Nat.le_of_ble_eq_true rfl, Nat.le_of_ble_eq_true rfl⟩ d_Past_init_33) (fun H locs hS => ?_)
  obtain ⟨G32, eG32⟩ : ∃ q, q = (gc_Scene 147 G31) := ⟨_, rfl⟩
  replace hS : St0 b C 152 G32 M s H locs := by rw [eG32]; exact hS
  replace hg : G32 70 0 = 71 := by rw [eG32]; exact (gc_Scene_ne (by decide)).trans hg
  refine r0_aast (N := 20) (t := 147) F hS (show 71 < 152 by decide) (show 147 < 152 by decide) rfl rfl rfl (inr_c rfl) (by decide) (by decide) d_Past_init_36 (fun H locs hS => ?_)
  obtain ⟨G33, eG33⟩ : ∃ q, q = (uI G32 71 15 (147 : Nat)) := ⟨_, rfl⟩
  replace hS : St0 b C 152 G33 M s H locs := by rw [eG33]; exact hS
  replace hg : G33 70 0 = 71 := by rw [eG33]; exact (uI_ne _ _ (by decide)).trans hg
  refine lv_iinc (v := Int32.ofInt 16) (lv' := [(1, vI 16), (0, .ref (b + 70))]) F.1.hx F.1.hb d_Past_init_37 hl (k := 0) rfl (by decide) (Nat.le_of_ble_eq_true rfl) rfl (fun ls hl => ?_)
  refine lv_goto (tgt := 15) F.1.hx F.1.hb d_Past_init_40 (by decide) ?_
  refine lv_iload_n F.1.hx F.1.hb d_Past_init_15 rfl (lv_at hl 0 rfl) ?_
  refine lv_aload_n F.1.hx F.1.hb d_Past_init_16 rfl (lv_at hl 1 rfl) ?_
  refine r0_get (v := .ref (b + 71)) (N := 3) (T := T6) (j := 0) F hS (show 70 < 152 by decide) rfl rfl rfl (Nat.le_of_ble_eq_true rfl) ing6 mw_347 ((fv_ref rfl).trans (rv_pos 71 hg)) d_Past_init_17 ?_
  refine r0_alen3 F hS (show 71 < 152 by decide) rfl (N := 20) rfl d_Past_init_20 rfl ?_
  refine r_icmp_ge (tgt := 43) F.1.hx F.1.hb (inr_c rfl) (inr_c rfl) d_Past_init_21 (by decide) (fun c => absurd c (by decide)) (fun _ => ?_)
  refine lv_aload_n F.1.hx F.1.hb d_Past_init_24 rfl (lv_at hl 1 rfl) ?_
  refine r0_get (v := .ref (b + 71)) (N := 3) (T := T6) (j := 0) F hS (show 70 < 152 by decide) rfl rfl rfl (Nat.le_of_ble_eq_true rfl) ing6 mw_347 ((fv_ref rfl).trans (rv_pos 71 hg)) d_Past_init_25 ?_
  refine lv_iload_n F.1.hx F.1.hb d_Past_init_28 rfl (lv_at hl 0 rfl) ?_
  refine r0_new (ci := 9) (N := 7) (T := T9) F hS rfl rfl rfl ing9 tyok9 nf_Scene_152 mw_344 mw_267 mw_6 (Nat.le_of_ble_eq_true rfl) (Nat.le_of_ble_eq_true rfl) d_Past_init_29 (fun H hS => ?_)
  replace hS : St0 b C 153 G33 M s _ _ := hS
  refine lv_dup F.1.hx F.1.hb d_Past_init_32 rfl ?_
  refine r0_back hS (r0_runIN (k := 152) (mc := 4) (ms := 28) F hS (cc_Scene l 152 (by decide : isScene 152) G33 M) mw_270 mw_269 mw_6 gs_Past_17 rfl hd_Scene_init ⟨Nat.le_of_ble_eq_true rfl, Nat.le_of_ble_eq_true rfl⟩ hl.1 (Nat.le_of_ble_eq_true rfl) ⟨Nat.le_of_ble_eq_true rfl, Nat.le_of_ble_eq_true rfl⟩ d_Past_init_33) (fun H locs hS => ?_)
  obtain ⟨G34, eG34⟩ : ∃ q, q = (gc_Scene 152 G33) := ⟨_, rfl⟩
  replace hS : St0 b C 157 G34 M s H locs := by rw [eG34]; exact hS
  replace hg : G34 70 0 = 71 := by rw [eG34]; exact (gc_Scene_ne (by decide)).trans hg
  refine r0_aast (N := 20) (t := 152) F hS (show 71 < 157 by decide) (show 152 < 157 by decide) rfl rfl rfl (inr_c rfl) (by decide) (by decide) d_Past_init_36 (fun H locs hS => ?_)
  obtain ⟨G35, eG35⟩ : ∃ q, q = (uI G34 71 16 (152 : Nat)) := ⟨_, rfl⟩
  replace hS : St0 b C 157 G35 M s H locs := by rw [eG35]; exact hS
  replace hg : G35 70 0 = 71 := by rw [eG35]; exact (uI_ne _ _ (by decide)).trans hg
  refine lv_iinc (v := Int32.ofInt 17) (lv' := [(1, vI 17), (0, .ref (b + 70))]) F.1.hx F.1.hb d_Past_init_37 hl (k := 0) rfl (by decide) (Nat.le_of_ble_eq_true rfl) rfl (fun ls hl => ?_)
  refine lv_goto (tgt := 15) F.1.hx F.1.hb d_Past_init_40 (by decide) ?_
  refine lv_iload_n F.1.hx F.1.hb d_Past_init_15 rfl (lv_at hl 0 rfl) ?_
  refine lv_aload_n F.1.hx F.1.hb d_Past_init_16 rfl (lv_at hl 1 rfl) ?_
  refine r0_get (v := .ref (b + 71)) (N := 3) (T := T6) (j := 0) F hS (show 70 < 157 by decide) rfl rfl rfl (Nat.le_of_ble_eq_true rfl) ing6 mw_347 ((fv_ref rfl).trans (rv_pos 71 hg)) d_Past_init_17 ?_
  refine r0_alen3 F hS (show 71 < 157 by decide) rfl (N := 20) rfl d_Past_init_20 rfl ?_
  refine r_icmp_ge (tgt := 43) F.1.hx F.1.hb (inr_c rfl) (inr_c rfl) d_Past_init_21 (by decide) (fun c => absurd c (by decide)) (fun _ => ?_)
  refine lv_aload_n F.1.hx F.1.hb d_Past_init_24 rfl (lv_at hl 1 rfl) ?_
  refine r0_get (v := .ref (b + 71)) (N := 3) (T := T6) (j := 0) F hS (show 70 < 157 by decide) rfl rfl rfl (Nat.le_of_ble_eq_true rfl) ing6 mw_347 ((fv_ref rfl).trans (rv_pos 71 hg)) d_Past_init_25 ?_
  refine lv_iload_n F.1.hx F.1.hb d_Past_init_28 rfl (lv_at hl 0 rfl) ?_
  refine r0_new (ci := 9) (N := 7) (T := T9) F hS rfl rfl rfl ing9 tyok9 nf_Scene_157 mw_344 mw_267 mw_6 (Nat.le_of_ble_eq_true rfl) (Nat.le_of_ble_eq_true rfl) d_Past_init_29 (fun H hS => ?_)
  replace hS : St0 b C 158 G35 M s _ _ := hS
  refine lv_dup F.1.hx F.1.hb d_Past_init_32 rfl ?_
  refine r0_back hS (r0_runIN (k := 157) (mc := 4) (ms := 28) F hS (cc_Scene l 157 (by decide : isScene 157) G35 M) mw_270 mw_269 mw_6 gs_Past_17 rfl hd_Scene_init ⟨Nat.le_of_ble_eq_true rfl, Nat.le_of_ble_eq_true rfl⟩ hl.1 (Nat.le_of_ble_eq_true rfl) ⟨Nat.le_of_ble_eq_true rfl, Nat.le_of_ble_eq_true rfl⟩ d_Past_init_33) (fun H locs hS => ?_)
  obtain ⟨G36, eG36⟩ : ∃ q, q = (gc_Scene 157 G35) := ⟨_, rfl⟩
  replace hS : St0 b C 162 G36 M s H locs := by rw [eG36]; exact hS
  replace hg : G36 70 0 = 71 := by rw [eG36]; exact (gc_Scene_ne (by decide)).trans hg
  refine r0_aast (N := 20) (t := 157) F hS (show 71 < 162 by decide) (show 157 < 162 by decide) rfl rfl rfl (inr_c rfl) (by decide) (by decide) d_Past_init_36 (fun H locs hS => ?_)
  obtain ⟨G37, eG37⟩ : ∃ q, q = (uI G36 71 17 (157 : Nat)) := ⟨_, rfl⟩
  replace hS : St0 b C 162 G37 M s H locs := by rw [eG37]; exact hS
  replace hg : G37 70 0 = 71 := by rw [eG37]; exact (uI_ne _ _ (by decide)).trans hg
  refine lv_iinc (v := Int32.ofInt 18) (lv' := [(1, vI 18), (0, .ref (b + 70))]) F.1.hx F.1.hb d_Past_init_37 hl (k := 0) rfl (by decide) (Nat.le_of_ble_eq_true rfl) rfl (fun ls hl => ?_)
  refine lv_goto (tgt := 15) F.1.hx F.1.hb d_Past_init_40 (by decide) ?_
  refine lv_iload_n F.1.hx F.1.hb d_Past_init_15 rfl (lv_at hl 0 rfl) ?_
  refine lv_aload_n F.1.hx F.1.hb d_Past_init_16 rfl (lv_at hl 1 rfl) ?_
  refine r0_get (v := .ref (b + 71)) (N := 3) (T := T6) (j := 0) F hS (show 70 < 162 by decide) rfl rfl rfl (Nat.le_of_ble_eq_true rfl) ing6 mw_347 ((fv_ref rfl).trans (rv_pos 71 hg)) d_Past_init_17 ?_
  refine r0_alen3 F hS (show 71 < 162 by decide) rfl (N := 20) rfl d_Past_init_20 rfl ?_
  refine r_icmp_ge (tgt := 43) F.1.hx F.1.hb (inr_c rfl) (inr_c rfl) d_Past_init_21 (by decide) (fun c => absurd c (by decide)) (fun _ => ?_)
  refine lv_aload_n F.1.hx F.1.hb d_Past_init_24 rfl (lv_at hl 1 rfl) ?_
  refine r0_get (v := .ref (b + 71)) (N := 3) (T := T6) (j := 0) F hS (show 70 < 162 by decide) rfl rfl rfl (Nat.le_of_ble_eq_true rfl) ing6 mw_347 ((fv_ref rfl).trans (rv_pos 71 hg)) d_Past_init_25 ?_
  refine lv_iload_n F.1.hx F.1.hb d_Past_init_28 rfl (lv_at hl 0 rfl) ?_
  refine r0_new (ci := 9) (N := 7) (T := T9) F hS rfl rfl rfl ing9 tyok9 nf_Scene_162 mw_344 mw_267 mw_6 (Nat.le_of_ble_eq_true rfl) (Nat.le_of_ble_eq_true rfl) d_Past_init_29 (fun H hS => ?_)
  replace hS : St0 b C 163 G37 M s _ _ := hS
  refine lv_dup F.1.hx F.1.hb d_Past_init_32 rfl ?_
  refine r0_back hS (r0_runIN (k := 162) (mc := 4) (ms := 28) F hS (cc_Scene l 162 (by decide : isScene 162) G37 M) mw_270 mw_269 mw_6 gs_Past_17 rfl hd_Scene_init ⟨Nat.le_of_ble_eq_true rfl, Nat.le_of_ble_eq_true rfl⟩ hl.1 (Nat.le_of_ble_eq_true rfl) ⟨Nat.le_of_ble_eq_true rfl, Nat.le_of_ble_eq_true rfl⟩ d_Past_init_33) (fun H locs hS => ?_)
  obtain ⟨G38, eG38⟩ : ∃ q, q = (gc_Scene 162 G37) := ⟨_, rfl⟩
  replace hS : St0 b C 167 G38 M s H locs := by rw [eG38]; exact hS
  replace hg : G38 70 0 = 71 := by rw [eG38]; exact (gc_Scene_ne (by decide)).trans hg
  refine r0_aast (N := 20) (t := 162) F hS (show 71 < 167 by decide) (show 162 < 167 by decide) rfl rfl rfl (inr_c rfl) (by decide) (by decide) d_Past_init_36 (fun H locs hS => ?_)
  obtain ⟨G39, eG39⟩ : ∃ q, q = (uI G38 71 18 (162 : Nat)) := ⟨_, rfl⟩
  replace hS : St0 b C 167 G39 M s H locs := by rw [eG39]; exact hS
  replace hg : G39 70 0 = 71 := by rw [eG39]; exact (uI_ne _ _ (by decide)).trans hg
  refine lv_iinc (v := Int32.ofInt 19) (lv' := [(1, vI 19), (0, .ref (b + 70))]) F.1.hx F.1.hb d_Past_init_37 hl (k := 0) rfl (by decide) (Nat.le_of_ble_eq_true rfl) rfl (fun ls hl => ?_)
  refine lv_goto (tgt := 15) F.1.hx F.1.hb d_Past_init_40 (by decide) ?_
  refine lv_iload_n F.1.hx F.1.hb d_Past_init_15 rfl (lv_at hl 0 rfl) ?_
  refine lv_aload_n F.1.hx F.1.hb d_Past_init_16 rfl (lv_at hl 1 rfl) ?_
  refine r0_get (v := .ref (b + 71)) (N := 3) (T := T6) (j := 0) F hS (show 70 < 167 by decide) rfl rfl rfl (Nat.le_of_ble_eq_true rfl) ing6 mw_347 ((fv_ref rfl).trans (rv_pos 71 hg)) d_Past_init_17 ?_
  refine r0_alen3 F hS (show 71 < 167 by decide) rfl (N := 20) rfl d_Past_init_20 rfl ?_
  refine r_icmp_ge (tgt := 43) F.1.hx F.1.hb (inr_c rfl) (inr_c rfl) d_Past_init_21 (by decide) (fun c => absurd c (by decide)) (fun _ => ?_)
  refine lv_aload_n F.1.hx F.1.hb d_Past_init_24 rfl (lv_at hl 1 rfl) ?_
  refine r0_get (v := .ref (b + 71)) (N := 3) (T := T6) (j := 0) F hS (show 70 < 167 by decide) rfl rfl rfl (Nat.le_of_ble_eq_true rfl) ing6 mw_347 ((fv_ref rfl).trans (rv_pos 71 hg)) d_Past_init_25 ?_
  refine lv_iload_n F.1.hx F.1.hb d_Past_init_28 rfl (lv_at hl 0 rfl) ?_
  refine r0_new (ci := 9) (N := 7) (T := T9) F hS rfl rfl rfl ing9 tyok9 nf_Scene_167 mw_344 mw_267 mw_6 (Nat.le_of_ble_eq_true rfl) (Nat.le_of_ble_eq_true rfl) d_Past_init_29 (fun H hS => ?_)
  replace hS : St0 b C 168 G39 M s _ _ := hS
  refine lv_dup F.1.hx F.1.hb d_Past_init_32 rfl ?_
  refine r0_back hS (r0_runIN (k := 167) (mc := 4) (ms := 28) F hS (cc_Scene l 167 (by decide : isScene 167) G39 M) mw_270 mw_269 mw_6 gs_Past_17 rfl hd_Scene_init ⟨Nat.le_of_ble_eq_true rfl, Nat.le_of_ble_eq_true rfl⟩ hl.1 (Nat.le_of_ble_eq_true rfl) ⟨Nat.le_of_ble_eq_true rfl, Nat.le_of_ble_eq_true rfl⟩ d_Past_init_33) (fun H locs hS => ?_)
  obtain ⟨G40, eG40⟩ : ∃ q, q = (gc_Scene 167 G39) := ⟨_, rfl⟩
  replace hS : St0 b C 172 G40 M s H locs := by rw [eG40]; exact hS
  replace hg : G40 70 0 = 71 := by rw [eG40]; exact (gc_Scene_ne (by decide)).trans hg
  refine r0_aast (N := 20) (t := 167) F hS (show 71 < 172 by decide) (show 167 < 172 by decide) rfl rfl rfl (inr_c rfl) (by decide) (by decide) d_Past_init_36 (fun H locs hS => ?_)
  obtain ⟨G41, eG41⟩ : ∃ q, q = (uI G40 71 19 (167 : Nat)) := ⟨_, rfl⟩
  replace hS : St0 b C 172 G41 M s H locs := by rw [eG41]; exact hS
  replace hg : G41 70 0 = 71 := by rw [eG41]; exact (uI_ne _ _ (by decide)).trans hg
  refine lv_iinc (v := Int32.ofInt 20) (lv' := [(1, vI 20), (0, .ref (b + 70))]) F.1.hx F.1.hb d_Past_init_37 hl (k := 0) rfl (by decide) (Nat.le_of_ble_eq_true rfl) rfl (fun ls hl => ?_)
  refine lv_goto (tgt := 15) F.1.hx F.1.hb d_Past_init_40 (by decide) ?_
  refine lv_iload_n F.1.hx F.1.hb d_Past_init_15 rfl (lv_at hl 0 rfl) ?_
  refine lv_aload_n F.1.hx F.1.hb d_Past_init_16 rfl (lv_at hl 1 rfl) ?_
  refine r0_get (v := .ref (b + 71)) (N := 3) (T := T6) (j := 0) F hS (show 70 < 172 by decide) rfl rfl rfl (Nat.le_of_ble_eq_true rfl) ing6 mw_347 ((fv_ref rfl).trans (rv_pos 71 hg)) d_Past_init_17 ?_
  refine r0_alen3 F hS (show 71 < 172 by decide) rfl (N := 20) rfl d_Past_init_20 rfl ?_
  refine r_icmp_ge (tgt := 43) F.1.hx F.1.hb (inr_c rfl) (inr_c rfl) d_Past_init_21 (by decide) (fun _ => ?_) (fun c => absurd (by decide) c)
  subst eG1 eG2 eG3 eG4 eG5 eG6 eG7 eG8 eG9 eG10 eG11 eG12 eG13 eG14 eG15 eG16 eG17 eG18 eG19 eG20 eG21 eG22 eG23 eG24 eG25 eG26 eG27 eG28 eG29 eG30 eG31 eG32 eG33 eG34 eG35 eG36 eG37 eG38 eG39 eG40 eG41
  exact r0_ret F hlk hr hS d_Past_init_43
theorem wn_WF_init_0 : ∀ i, i < 8 → bA b_WF_init (0 + i) = wB [42, 183, 0, 3, 42, 17, 2, 188] i := wB_of (by decide +kernel)
theorem d_WF_init_0 : decode b_WF_init 0 = .ok (.aload_n 0, 1) := dc_42 (q0_win (r := 0) wn_WF_init_0 (by decide +kernel))
theorem d_WF_init_1 : decode b_WF_init 1 = .ok (.invokespecial 3, 3) := dc_183 (qU2_win (r := 1) wn_WF_init_0 (by decide +kernel))
theorem d_WF_init_4 : decode b_WF_init 4 = .ok (.aload_n 0, 1) := dc_42 (q0_win (r := 4) wn_WF_init_0 (by decide +kernel))
theorem d_WF_init_5 : decode b_WF_init 5 = .ok (.sipush 700, 3) := dc_17 (qS2_win (r := 5) wn_WF_init_0 (by decide +kernel))
theorem d_WF_init_8 : decode b_WF_init 8 = .ok (.newarray .int, 2) := by decide +kernel
theorem wn_WF_init_10 : ∀ i, i < 96 → bA b_WF_init (10 + i) = wB [181, 0, 11, 42, 2, 181, 0, 15, 42, 187, 0, 19, 89, 183, 0, 21, 181, 0, 22, 42, 187, 0, 19, 89, 183, 0, 21, 181, 0, 26, 42, 187, 0, 29, 89, 183, 0, 31, 181, 0, 32, 42, 187, 0, 36, 89, 183, 0, 38, 181, 0, 39, 42, 187, 0, 43, 89, 183, 0, 45, 181, 0, 46, 42, 187, 0, 43, 89, 183, 0, 45, 181, 0, 50, 42, 187, 0, 43, 89, 183, 0, 45, 181, 0, 53, 42, 187, 0, 56, 89, 183, 0, 58, 181, 0, 59] i := wB_of (by decide +kernel)
theorem d_WF_init_10 : decode b_WF_init 10 = .ok (.putfield 11, 3) := dc_181 (qU2_win (r := 0) wn_WF_init_10 (by decide +kernel))
theorem d_WF_init_13 : decode b_WF_init 13 = .ok (.aload_n 0, 1) := dc_42 (q0_win (r := 3) wn_WF_init_10 (by decide +kernel))
theorem d_WF_init_14 : decode b_WF_init 14 = .ok (.iconst (-1), 1) := dc_2 (q0_win (r := 4) wn_WF_init_10 (by decide +kernel))
theorem d_WF_init_15 : decode b_WF_init 15 = .ok (.putfield 15, 3) := dc_181 (qU2_win (r := 5) wn_WF_init_10 (by decide +kernel))
theorem d_WF_init_18 : decode b_WF_init 18 = .ok (.aload_n 0, 1) := dc_42 (q0_win (r := 8) wn_WF_init_10 (by decide +kernel))
theorem d_WF_init_19 : decode b_WF_init 19 = .ok (.new 19, 3) := dc_187 (qU2_win (r := 9) wn_WF_init_10 (by decide +kernel))
theorem d_WF_init_22 : decode b_WF_init 22 = .ok (.dup, 1) := dc_89 (q0_win (r := 12) wn_WF_init_10 (by decide +kernel))
theorem d_WF_init_23 : decode b_WF_init 23 = .ok (.invokespecial 21, 3) := dc_183 (qU2_win (r := 13) wn_WF_init_10 (by decide +kernel))
theorem d_WF_init_26 : decode b_WF_init 26 = .ok (.putfield 22, 3) := dc_181 (qU2_win (r := 16) wn_WF_init_10 (by decide +kernel))
theorem d_WF_init_29 : decode b_WF_init 29 = .ok (.aload_n 0, 1) := dc_42 (q0_win (r := 19) wn_WF_init_10 (by decide +kernel))
theorem d_WF_init_30 : decode b_WF_init 30 = .ok (.new 19, 3) := dc_187 (qU2_win (r := 20) wn_WF_init_10 (by decide +kernel))
theorem d_WF_init_33 : decode b_WF_init 33 = .ok (.dup, 1) := dc_89 (q0_win (r := 23) wn_WF_init_10 (by decide +kernel))
theorem d_WF_init_34 : decode b_WF_init 34 = .ok (.invokespecial 21, 3) := dc_183 (qU2_win (r := 24) wn_WF_init_10 (by decide +kernel))
theorem d_WF_init_37 : decode b_WF_init 37 = .ok (.putfield 26, 3) := dc_181 (qU2_win (r := 27) wn_WF_init_10 (by decide +kernel))
theorem d_WF_init_40 : decode b_WF_init 40 = .ok (.aload_n 0, 1) := dc_42 (q0_win (r := 30) wn_WF_init_10 (by decide +kernel))
theorem d_WF_init_41 : decode b_WF_init 41 = .ok (.new 29, 3) := dc_187 (qU2_win (r := 31) wn_WF_init_10 (by decide +kernel))
theorem d_WF_init_44 : decode b_WF_init 44 = .ok (.dup, 1) := dc_89 (q0_win (r := 34) wn_WF_init_10 (by decide +kernel))
theorem d_WF_init_45 : decode b_WF_init 45 = .ok (.invokespecial 31, 3) := dc_183 (qU2_win (r := 35) wn_WF_init_10 (by decide +kernel))
theorem d_WF_init_48 : decode b_WF_init 48 = .ok (.putfield 32, 3) := dc_181 (qU2_win (r := 38) wn_WF_init_10 (by decide +kernel))
theorem d_WF_init_51 : decode b_WF_init 51 = .ok (.aload_n 0, 1) := dc_42 (q0_win (r := 41) wn_WF_init_10 (by decide +kernel))
theorem d_WF_init_52 : decode b_WF_init 52 = .ok (.new 36, 3) := dc_187 (qU2_win (r := 42) wn_WF_init_10 (by decide +kernel))
theorem d_WF_init_55 : decode b_WF_init 55 = .ok (.dup, 1) := dc_89 (q0_win (r := 45) wn_WF_init_10 (by decide +kernel))
theorem d_WF_init_56 : decode b_WF_init 56 = .ok (.invokespecial 38, 3) := dc_183 (qU2_win (r := 46) wn_WF_init_10 (by decide +kernel))
theorem d_WF_init_59 : decode b_WF_init 59 = .ok (.putfield 39, 3) := dc_181 (qU2_win (r := 49) wn_WF_init_10 (by decide +kernel))
theorem d_WF_init_62 : decode b_WF_init 62 = .ok (.aload_n 0, 1) := dc_42 (q0_win (r := 52) wn_WF_init_10 (by decide +kernel))
theorem d_WF_init_63 : decode b_WF_init 63 = .ok (.new 43, 3) := dc_187 (qU2_win (r := 53) wn_WF_init_10 (by decide +kernel))
theorem d_WF_init_66 : decode b_WF_init 66 = .ok (.dup, 1) := dc_89 (q0_win (r := 56) wn_WF_init_10 (by decide +kernel))
theorem d_WF_init_67 : decode b_WF_init 67 = .ok (.invokespecial 45, 3) := dc_183 (qU2_win (r := 57) wn_WF_init_10 (by decide +kernel))
theorem d_WF_init_70 : decode b_WF_init 70 = .ok (.putfield 46, 3) := dc_181 (qU2_win (r := 60) wn_WF_init_10 (by decide +kernel))
theorem d_WF_init_73 : decode b_WF_init 73 = .ok (.aload_n 0, 1) := dc_42 (q0_win (r := 63) wn_WF_init_10 (by decide +kernel))
theorem d_WF_init_74 : decode b_WF_init 74 = .ok (.new 43, 3) := dc_187 (qU2_win (r := 64) wn_WF_init_10 (by decide +kernel))
theorem d_WF_init_77 : decode b_WF_init 77 = .ok (.dup, 1) := dc_89 (q0_win (r := 67) wn_WF_init_10 (by decide +kernel))
theorem d_WF_init_78 : decode b_WF_init 78 = .ok (.invokespecial 45, 3) := dc_183 (qU2_win (r := 68) wn_WF_init_10 (by decide +kernel))
theorem d_WF_init_81 : decode b_WF_init 81 = .ok (.putfield 50, 3) := dc_181 (qU2_win (r := 71) wn_WF_init_10 (by decide +kernel))
theorem d_WF_init_84 : decode b_WF_init 84 = .ok (.aload_n 0, 1) := dc_42 (q0_win (r := 74) wn_WF_init_10 (by decide +kernel))
theorem d_WF_init_85 : decode b_WF_init 85 = .ok (.new 43, 3) := dc_187 (qU2_win (r := 75) wn_WF_init_10 (by decide +kernel))
theorem d_WF_init_88 : decode b_WF_init 88 = .ok (.dup, 1) := dc_89 (q0_win (r := 78) wn_WF_init_10 (by decide +kernel))
theorem d_WF_init_89 : decode b_WF_init 89 = .ok (.invokespecial 45, 3) := dc_183 (qU2_win (r := 79) wn_WF_init_10 (by decide +kernel))
theorem d_WF_init_92 : decode b_WF_init 92 = .ok (.putfield 53, 3) := dc_181 (qU2_win (r := 82) wn_WF_init_10 (by decide +kernel))
theorem d_WF_init_95 : decode b_WF_init 95 = .ok (.aload_n 0, 1) := dc_42 (q0_win (r := 85) wn_WF_init_10 (by decide +kernel))
theorem d_WF_init_96 : decode b_WF_init 96 = .ok (.new 56, 3) := dc_187 (qU2_win (r := 86) wn_WF_init_10 (by decide +kernel))
theorem d_WF_init_99 : decode b_WF_init 99 = .ok (.dup, 1) := dc_89 (q0_win (r := 89) wn_WF_init_10 (by decide +kernel))
theorem d_WF_init_100 : decode b_WF_init 100 = .ok (.invokespecial 58, 3) := dc_183 (qU2_win (r := 90) wn_WF_init_10 (by decide +kernel))
theorem d_WF_init_103 : decode b_WF_init 103 = .ok (.putfield 59, 3) := dc_181 (qU2_win (r := 93) wn_WF_init_10 (by decide +kernel))
theorem wn_WF_init_106 : ∀ i, i < 85 → bA b_WF_init (106 + i) = wB [42, 187, 0, 56, 89, 183, 0, 58, 181, 0, 63, 42, 187, 0, 66, 89, 183, 0, 68, 181, 0, 69, 42, 187, 0, 73, 89, 183, 0, 75, 181, 0, 76, 42, 187, 0, 80, 89, 183, 0, 82, 181, 0, 83, 42, 187, 0, 87, 89, 183, 0, 89, 181, 0, 90, 42, 187, 0, 94, 89, 183, 0, 96, 181, 0, 97, 42, 180, 0, 22, 182, 0, 101, 42, 180, 0, 22, 182, 0, 104, 42, 182, 0, 107, 177] i := wB_of (by decide +kernel)
theorem d_WF_init_106 : decode b_WF_init 106 = .ok (.aload_n 0, 1) := dc_42 (q0_win (r := 0) wn_WF_init_106 (by decide +kernel))
theorem d_WF_init_107 : decode b_WF_init 107 = .ok (.new 56, 3) := dc_187 (qU2_win (r := 1) wn_WF_init_106 (by decide +kernel))
theorem d_WF_init_110 : decode b_WF_init 110 = .ok (.dup, 1) := dc_89 (q0_win (r := 4) wn_WF_init_106 (by decide +kernel))
theorem d_WF_init_111 : decode b_WF_init 111 = .ok (.invokespecial 58, 3) := dc_183 (qU2_win (r := 5) wn_WF_init_106 (by decide +kernel))
theorem d_WF_init_114 : decode b_WF_init 114 = .ok (.putfield 63, 3) := dc_181 (qU2_win (r := 8) wn_WF_init_106 (by decide +kernel))
theorem d_WF_init_117 : decode b_WF_init 117 = .ok (.aload_n 0, 1) := dc_42 (q0_win (r := 11) wn_WF_init_106 (by decide +kernel))
theorem d_WF_init_118 : decode b_WF_init 118 = .ok (.new 66, 3) := dc_187 (qU2_win (r := 12) wn_WF_init_106 (by decide +kernel))
theorem d_WF_init_121 : decode b_WF_init 121 = .ok (.dup, 1) := dc_89 (q0_win (r := 15) wn_WF_init_106 (by decide +kernel))
theorem d_WF_init_122 : decode b_WF_init 122 = .ok (.invokespecial 68, 3) := dc_183 (qU2_win (r := 16) wn_WF_init_106 (by decide +kernel))
theorem d_WF_init_125 : decode b_WF_init 125 = .ok (.putfield 69, 3) := dc_181 (qU2_win (r := 19) wn_WF_init_106 (by decide +kernel))
theorem d_WF_init_128 : decode b_WF_init 128 = .ok (.aload_n 0, 1) := dc_42 (q0_win (r := 22) wn_WF_init_106 (by decide +kernel))
theorem d_WF_init_129 : decode b_WF_init 129 = .ok (.new 73, 3) := dc_187 (qU2_win (r := 23) wn_WF_init_106 (by decide +kernel))
theorem d_WF_init_132 : decode b_WF_init 132 = .ok (.dup, 1) := dc_89 (q0_win (r := 26) wn_WF_init_106 (by decide +kernel))
theorem d_WF_init_133 : decode b_WF_init 133 = .ok (.invokespecial 75, 3) := dc_183 (qU2_win (r := 27) wn_WF_init_106 (by decide +kernel))
theorem d_WF_init_136 : decode b_WF_init 136 = .ok (.putfield 76, 3) := dc_181 (qU2_win (r := 30) wn_WF_init_106 (by decide +kernel))
theorem d_WF_init_139 : decode b_WF_init 139 = .ok (.aload_n 0, 1) := dc_42 (q0_win (r := 33) wn_WF_init_106 (by decide +kernel))
theorem d_WF_init_140 : decode b_WF_init 140 = .ok (.new 80, 3) := dc_187 (qU2_win (r := 34) wn_WF_init_106 (by decide +kernel))
theorem d_WF_init_143 : decode b_WF_init 143 = .ok (.dup, 1) := dc_89 (q0_win (r := 37) wn_WF_init_106 (by decide +kernel))
theorem d_WF_init_144 : decode b_WF_init 144 = .ok (.invokespecial 82, 3) := dc_183 (qU2_win (r := 38) wn_WF_init_106 (by decide +kernel))
theorem d_WF_init_147 : decode b_WF_init 147 = .ok (.putfield 83, 3) := dc_181 (qU2_win (r := 41) wn_WF_init_106 (by decide +kernel))
theorem d_WF_init_150 : decode b_WF_init 150 = .ok (.aload_n 0, 1) := dc_42 (q0_win (r := 44) wn_WF_init_106 (by decide +kernel))
theorem d_WF_init_151 : decode b_WF_init 151 = .ok (.new 87, 3) := dc_187 (qU2_win (r := 45) wn_WF_init_106 (by decide +kernel))
theorem d_WF_init_154 : decode b_WF_init 154 = .ok (.dup, 1) := dc_89 (q0_win (r := 48) wn_WF_init_106 (by decide +kernel))
theorem d_WF_init_155 : decode b_WF_init 155 = .ok (.invokespecial 89, 3) := dc_183 (qU2_win (r := 49) wn_WF_init_106 (by decide +kernel))
theorem d_WF_init_158 : decode b_WF_init 158 = .ok (.putfield 90, 3) := dc_181 (qU2_win (r := 52) wn_WF_init_106 (by decide +kernel))
theorem d_WF_init_161 : decode b_WF_init 161 = .ok (.aload_n 0, 1) := dc_42 (q0_win (r := 55) wn_WF_init_106 (by decide +kernel))
theorem d_WF_init_162 : decode b_WF_init 162 = .ok (.new 94, 3) := dc_187 (qU2_win (r := 56) wn_WF_init_106 (by decide +kernel))
theorem d_WF_init_165 : decode b_WF_init 165 = .ok (.dup, 1) := dc_89 (q0_win (r := 59) wn_WF_init_106 (by decide +kernel))
theorem d_WF_init_166 : decode b_WF_init 166 = .ok (.invokespecial 96, 3) := dc_183 (qU2_win (r := 60) wn_WF_init_106 (by decide +kernel))
theorem d_WF_init_169 : decode b_WF_init 169 = .ok (.putfield 97, 3) := dc_181 (qU2_win (r := 63) wn_WF_init_106 (by decide +kernel))
theorem d_WF_init_172 : decode b_WF_init 172 = .ok (.aload_n 0, 1) := dc_42 (q0_win (r := 66) wn_WF_init_106 (by decide +kernel))
theorem d_WF_init_173 : decode b_WF_init 173 = .ok (.getfield 22, 3) := dc_180 (qU2_win (r := 67) wn_WF_init_106 (by decide +kernel))
theorem d_WF_init_176 : decode b_WF_init 176 = .ok (.invokevirtual 101, 3) := dc_182 (qU2_win (r := 70) wn_WF_init_106 (by decide +kernel))
theorem d_WF_init_179 : decode b_WF_init 179 = .ok (.aload_n 0, 1) := dc_42 (q0_win (r := 73) wn_WF_init_106 (by decide +kernel))
theorem d_WF_init_180 : decode b_WF_init 180 = .ok (.getfield 22, 3) := dc_180 (qU2_win (r := 74) wn_WF_init_106 (by decide +kernel))
theorem d_WF_init_183 : decode b_WF_init 183 = .ok (.invokevirtual 104, 3) := dc_182 (qU2_win (r := 77) wn_WF_init_106 (by decide +kernel))
theorem d_WF_init_186 : decode b_WF_init 186 = .ok (.aload_n 0, 1) := dc_42 (q0_win (r := 80) wn_WF_init_106 (by decide +kernel))
theorem d_WF_init_187 : decode b_WF_init 187 = .ok (.invokevirtual 107, 3) := dc_182 (qU2_win (r := 81) wn_WF_init_106 (by decide +kernel))
theorem d_WF_init_190 : decode b_WF_init 190 = .ok (.return_, 1) := dc_177 (q0_win (r := 84) wn_WF_init_106 (by decide +kernel))
def gc_WF (G : Nat → Int → Int) : Nat → Int → Int := (uI (gc_Trail 189 (uI (gc_Paths (uI (gc_Laws (uI (gc_Notes (uI (gc_Past (uI (gc_Chronicle 66 (uI (gc_Chronicle 62 (uI (gc_Scene 57 (uI (gc_Scene 52 (uI (gc_Scene 47 (uI (gc_Reader (uI (gc_Tokens (uI (gc_Town 22 (uI (gc_Town 2 (uI G 0 0 (1 : Nat))) 0 4 (2 : Nat))) 0 5 (22 : Nat))) 0 6 (42 : Nat))) 0 7 (46 : Nat))) 0 8 (47 : Nat))) 0 9 (52 : Nat))) 0 10 (57 : Nat))) 0 11 (62 : Nat))) 0 12 (66 : Nat))) 0 14 (70 : Nat))) 0 15 (172 : Nat))) 0 16 (177 : Nat))) 0 17 (185 : Nat))) 0 18 (189 : Nat))
set_option maxHeartbeats 8000000 in
set_option maxRecDepth 100000 in
def t_WF_init (M : Mem) : Option (Mem) := (qlet (setI M 0 3 (-1)) fun M1 => (obind (t_Town_clear M1 ((M1.1 0 4).toNat)) fun q502 => (obind (t_Town_settle q502 ((q502.1 0 4).toNat)) fun q505 => (obind (t_WF_startAnew q505) fun q507 => (some q507)))))
theorem wf_G : ∀ k, k < 191 → ∀ j, j < 68 → refS k j = true → GM (setI Mz 0 3 (-1)) k (j : Int) = gc_WF Gz k (j : Int) := by decide +kernel
set_option maxHeartbeats 16000000 in
set_option maxRecDepth 100000 in
theorem cc_WF (l : Launch) {b : Nat} {C : CT} (res : Mem) (hT : t_WF_init Mz = some res) : CC l b C 5 190 7498 y_WF_init b_WF_init 1 [.ref (b + 0)] 1 Gz Mz (QV b C 191 res) := by
  refine CC.of (ow := "WardFalls") (by decide) rfl rfl (Nat.le_of_ble_eq_true rfl) (fun p e s m below meth c F hlk hr hin hS ls hl => ?_)
  have hl : lv_has ls 1 [(0, .ref (b + 0))] := hl
  unfold t_WF_init at hT
  obtain ⟨G, eG⟩ : ∃ q, q = Gz := ⟨_, rfl⟩
  obtain ⟨M, eM⟩ : ∃ q, q = Mz := ⟨_, rfl⟩
  rw [← eG, ← eM] at hS
  rw [← eM] at hT
  refine lv_aload_n F.1.hx F.1.hb d_WF_init_0 rfl (lv_at hl 0 rfl) ?_
  refine W.objInit F.1.hx F.1.hb F.1.hown (F.1.hts mw_32) (F.1.hts mw_33) (F.1.hts mw_34) rfl (by rw [F.1.hml]; exact hl.1) rfl d_WF_init_1 (Nat.le_of_ble_eq_true rfl) (Nat.le_of_ble_eq_true rfl) ?_
  refine W.eq (g2 := F0 m 4 ls []) rfl ?_
  refine lv_aload_n F.1.hx F.1.hb d_WF_init_4 rfl (lv_at hl 0 rfl) ?_
  refine r_sipush F.1.hx F.1.hb d_WF_init_5 rfl ?_
  refine r0_newa (a := 0) (N := 700) (ty := .int) (atype := .int) F hS rfl rfl (by decide) rfl rfl rfl rfl mw_86 rfl (by decide) (by decide) (Nat.le_of_ble_eq_true rfl) (Nat.le_of_ble_eq_true rfl) d_WF_init_8 (fun H hS => ?_)
  replace hS : St0 b C 2 G M s _ _ := hS
  refine r0_putR (t := 1) (N := 19) (T := T0) (j := 0) F hin hS (show 0 < 2 by decide) rfl rfl rfl (Nat.le_of_ble_eq_true rfl) ing0 tyok0 nm0 rfl rfl rfl rfl rfl mw_550 d_WF_init_10 (fun H locs hS => ?_)
  obtain ⟨G1, eG1⟩ : ∃ q, q = (uI G 0 0 (1 : Nat)) := ⟨_, rfl⟩
  replace hS : St0 b C 2 G1 M s H locs := by rw [eG1]; exact hS
  refine lv_aload_n F.1.hx F.1.hb d_WF_init_13 rfl (lv_at hl 0 rfl) ?_
  refine r_iconst F.1.hx F.1.hb d_WF_init_14 ?_
  refine r0_putI (v := (-1)) (N := 19) (T := T0) (j := 3) F hin hS (show 0 < 2 by decide) rfl rfl rfl (Nat.le_of_ble_eq_true rfl) ing0 tyok0 nm0 rfl rfl rfl rfl rfl rfl (inr_c rfl) mw_553 d_WF_init_15 (fun H locs hS => ?_)
  obtain ⟨M1, eM1⟩ : ∃ q, q = (setI M 0 3 (-1)) := ⟨_, rfl⟩
  replace hS : St0 b C 2 G1 M1 s H locs := by rw [eM1]; exact hS
  replace hT := qlet_eq hT eM1
  refine lv_aload_n F.1.hx F.1.hb d_WF_init_18 rfl (lv_at hl 0 rfl) ?_
  refine r0_new (ci := 11) (N := 20) (T := T11) F hS rfl rfl rfl ing11 tyok11 nf_Town_2 mw_35 mw_36 mw_2 (Nat.le_of_ble_eq_true rfl) (Nat.le_of_ble_eq_true rfl) d_WF_init_19 (fun H hS => ?_)
  replace hS : St0 b C 3 G1 M1 s _ _ := hS
  refine lv_dup F.1.hx F.1.hb d_WF_init_22 rfl ?_
  refine r0_back hS (r0_runIN (k := 2) (mc := 19) (ms := 832) F hS (cc_Town l 2 (by decide : isTown 2) G1 M1) mw_39 mw_38 mw_2 gs_WF_21 rfl hd_Town_init ⟨Nat.le_of_ble_eq_true rfl, Nat.le_of_ble_eq_true rfl⟩ hl.1 (Nat.le_of_ble_eq_true rfl) ⟨Nat.le_of_ble_eq_true rfl, Nat.le_of_ble_eq_true rfl⟩ d_WF_init_23) (fun H locs hS => ?_)
  obtain ⟨G2, eG2⟩ : ∃ q, q = (gc_Town 2 G1) := ⟨_, rfl⟩
  replace hS : St0 b C 22 G2 M1 s H locs := by rw [eG2]; exact hS
  refine r0_putR (t := 2) (N := 19) (T := T0) (j := 4) F hin hS (show 0 < 22 by decide) rfl rfl rfl (Nat.le_of_ble_eq_true rfl) ing0 tyok0 nm0 rfl rfl rfl rfl rfl mw_554 d_WF_init_26 (fun H locs hS => ?_)
  obtain ⟨G3, eG3⟩ : ∃ q, q = (uI G2 0 4 (2 : Nat)) := ⟨_, rfl⟩
  replace hS : St0 b C 22 G3 M1 s H locs := by rw [eG3]; exact hS
  refine lv_aload_n F.1.hx F.1.hb d_WF_init_29 rfl (lv_at hl 0 rfl) ?_
  refine r0_new (ci := 11) (N := 20) (T := T11) F hS rfl rfl rfl ing11 tyok11 nf_Town_22 mw_35 mw_36 mw_2 (Nat.le_of_ble_eq_true rfl) (Nat.le_of_ble_eq_true rfl) d_WF_init_30 (fun H hS => ?_)
  replace hS : St0 b C 23 G3 M1 s _ _ := hS
  refine lv_dup F.1.hx F.1.hb d_WF_init_33 rfl ?_
  refine r0_back hS (r0_runIN (k := 22) (mc := 19) (ms := 832) F hS (cc_Town l 22 (by decide : isTown 22) G3 M1) mw_39 mw_38 mw_2 gs_WF_21 rfl hd_Town_init ⟨Nat.le_of_ble_eq_true rfl, Nat.le_of_ble_eq_true rfl⟩ hl.1 (Nat.le_of_ble_eq_true rfl) ⟨Nat.le_of_ble_eq_true rfl, Nat.le_of_ble_eq_true rfl⟩ d_WF_init_34) (fun H locs hS => ?_)
  obtain ⟨G4, eG4⟩ : ∃ q, q = (gc_Town 22 G3) := ⟨_, rfl⟩
  replace hS : St0 b C 42 G4 M1 s H locs := by rw [eG4]; exact hS
  refine r0_putR (t := 22) (N := 19) (T := T0) (j := 5) F hin hS (show 0 < 42 by decide) rfl rfl rfl (Nat.le_of_ble_eq_true rfl) ing0 tyok0 nm0 rfl rfl rfl rfl rfl mw_555 d_WF_init_37 (fun H locs hS => ?_)
  obtain ⟨G5, eG5⟩ : ∃ q, q = (uI G4 0 5 (22 : Nat)) := ⟨_, rfl⟩
  replace hS : St0 b C 42 G5 M1 s H locs := by rw [eG5]; exact hS
  refine lv_aload_n F.1.hx F.1.hb d_WF_init_40 rfl (lv_at hl 0 rfl) ?_
  refine r0_new (ci := 10) (N := 4) (T := T10) F hS rfl rfl rfl ing10 tyok10 nf_Tokens_42 mw_200 mw_201 mw_4 (Nat.le_of_ble_eq_true rfl) (Nat.le_of_ble_eq_true rfl) d_WF_init_41 (fun H hS => ?_)
  replace hS : St0 b C 43 G5 M1 s _ _ := hS
  refine lv_dup F.1.hx F.1.hb d_WF_init_44 rfl ?_
  refine r0_back hS (r0_runIN (k := 42) (mc := 3) (ms := 2103) F hS (cc_Tokens l  G5 M1) mw_204 mw_203 mw_4 gs_WF_31 rfl hd_Tokens_init ⟨Nat.le_of_ble_eq_true rfl, Nat.le_of_ble_eq_true rfl⟩ hl.1 (Nat.le_of_ble_eq_true rfl) ⟨Nat.le_of_ble_eq_true rfl, Nat.le_of_ble_eq_true rfl⟩ d_WF_init_45) (fun H locs hS => ?_)
  obtain ⟨G6, eG6⟩ : ∃ q, q = (gc_Tokens G5) := ⟨_, rfl⟩
  replace hS : St0 b C 46 G6 M1 s H locs := by rw [eG6]; exact hS
  refine r0_putR (t := 42) (N := 19) (T := T0) (j := 6) F hin hS (show 0 < 46 by decide) rfl rfl rfl (Nat.le_of_ble_eq_true rfl) ing0 tyok0 nm0 rfl rfl rfl rfl rfl mw_556 d_WF_init_48 (fun H locs hS => ?_)
  obtain ⟨G7, eG7⟩ : ∃ q, q = (uI G6 0 6 (42 : Nat)) := ⟨_, rfl⟩
  replace hS : St0 b C 46 G7 M1 s H locs := by rw [eG7]; exact hS
  refine lv_aload_n F.1.hx F.1.hb d_WF_init_51 rfl (lv_at hl 0 rfl) ?_
  refine r0_new (ci := 8) (N := 11) (T := T8) F hS rfl rfl rfl ing8 tyok8 nf_Reader_46 mw_224 mw_225 mw_5 (Nat.le_of_ble_eq_true rfl) (Nat.le_of_ble_eq_true rfl) d_WF_init_52 (fun H hS => ?_)
  replace hS : St0 b C 47 G7 M1 s _ _ := hS
  refine lv_dup F.1.hx F.1.hb d_WF_init_55 rfl ?_
  refine r0_back hS (r0_runIN (k := 46) (mc := 0) (ms := 0) F hS (cc_Reader l  G7 M1) mw_228 mw_227 mw_5 gs_WF_38 rfl hd_Reader_init ⟨Nat.le_of_ble_eq_true rfl, Nat.le_of_ble_eq_true rfl⟩ hl.1 (Nat.le_of_ble_eq_true rfl) ⟨Nat.le_of_ble_eq_true rfl, Nat.le_of_ble_eq_true rfl⟩ d_WF_init_56) (fun H locs hS => ?_)
  obtain ⟨G8, eG8⟩ : ∃ q, q = (gc_Reader G7) := ⟨_, rfl⟩
  replace hS : St0 b C 47 G8 M1 s H locs := by rw [eG8]; exact hS
  refine r0_putR (t := 46) (N := 19) (T := T0) (j := 7) F hin hS (show 0 < 47 by decide) rfl rfl rfl (Nat.le_of_ble_eq_true rfl) ing0 tyok0 nm0 rfl rfl rfl rfl rfl mw_557 d_WF_init_59 (fun H locs hS => ?_)
  obtain ⟨G9, eG9⟩ : ∃ q, q = (uI G8 0 7 (46 : Nat)) := ⟨_, rfl⟩
  replace hS : St0 b C 47 G9 M1 s H locs := by rw [eG9]; exact hS
  refine lv_aload_n F.1.hx F.1.hb d_WF_init_62 rfl (lv_at hl 0 rfl) ?_
  refine r0_new (ci := 9) (N := 7) (T := T9) F hS rfl rfl rfl ing9 tyok9 nf_Scene_47 mw_266 mw_267 mw_6 (Nat.le_of_ble_eq_true rfl) (Nat.le_of_ble_eq_true rfl) d_WF_init_63 (fun H hS => ?_)
  replace hS : St0 b C 48 G9 M1 s _ _ := hS
  refine lv_dup F.1.hx F.1.hb d_WF_init_66 rfl ?_
  refine r0_back hS (r0_runIN (k := 47) (mc := 4) (ms := 28) F hS (cc_Scene l 47 (by decide : isScene 47) G9 M1) mw_270 mw_269 mw_6 gs_WF_45 rfl hd_Scene_init ⟨Nat.le_of_ble_eq_true rfl, Nat.le_of_ble_eq_true rfl⟩ hl.1 (Nat.le_of_ble_eq_true rfl) ⟨Nat.le_of_ble_eq_true rfl, Nat.le_of_ble_eq_true rfl⟩ d_WF_init_67) (fun H locs hS => ?_)
  obtain ⟨G10, eG10⟩ : ∃ q, q = (gc_Scene 47 G9) := ⟨_, rfl⟩
  replace hS : St0 b C 52 G10 M1 s H locs := by rw [eG10]; exact hS
  refine r0_putR (t := 47) (N := 19) (T := T0) (j := 8) F hin hS (show 0 < 52 by decide) rfl rfl rfl (Nat.le_of_ble_eq_true rfl) ing0 tyok0 nm0 rfl rfl rfl rfl rfl mw_558 d_WF_init_70 (fun H locs hS => ?_)
  obtain ⟨G11, eG11⟩ : ∃ q, q = (uI G10 0 8 (47 : Nat)) := ⟨_, rfl⟩
  replace hS : St0 b C 52 G11 M1 s H locs := by rw [eG11]; exact hS
  refine lv_aload_n F.1.hx F.1.hb d_WF_init_73 rfl (lv_at hl 0 rfl) ?_
  refine r0_new (ci := 9) (N := 7) (T := T9) F hS rfl rfl rfl ing9 tyok9 nf_Scene_52 mw_266 mw_267 mw_6 (Nat.le_of_ble_eq_true rfl) (Nat.le_of_ble_eq_true rfl) d_WF_init_74 (fun H hS => ?_)
  replace hS : St0 b C 53 G11 M1 s _ _ := hS
  refine lv_dup F.1.hx F.1.hb d_WF_init_77 rfl ?_
  refine r0_back hS (r0_runIN (k := 52) (mc := 4) (ms := 28) F hS (cc_Scene l 52 (by decide : isScene 52) G11 M1) mw_270 mw_269 mw_6 gs_WF_45 rfl hd_Scene_init ⟨Nat.le_of_ble_eq_true rfl, Nat.le_of_ble_eq_true rfl⟩ hl.1 (Nat.le_of_ble_eq_true rfl) ⟨Nat.le_of_ble_eq_true rfl, Nat.le_of_ble_eq_true rfl⟩ d_WF_init_78) (fun H locs hS => ?_)
  obtain ⟨G12, eG12⟩ : ∃ q, q = (gc_Scene 52 G11) := ⟨_, rfl⟩
  replace hS : St0 b C 57 G12 M1 s H locs := by rw [eG12]; exact hS
  refine r0_putR (t := 52) (N := 19) (T := T0) (j := 9) F hin hS (show 0 < 57 by decide) rfl rfl rfl (Nat.le_of_ble_eq_true rfl) ing0 tyok0 nm0 rfl rfl rfl rfl rfl mw_559 d_WF_init_81 (fun H locs hS => ?_)
  obtain ⟨G13, eG13⟩ : ∃ q, q = (uI G12 0 9 (52 : Nat)) := ⟨_, rfl⟩
  replace hS : St0 b C 57 G13 M1 s H locs := by rw [eG13]; exact hS
  refine lv_aload_n F.1.hx F.1.hb d_WF_init_84 rfl (lv_at hl 0 rfl) ?_
  refine r0_new (ci := 9) (N := 7) (T := T9) F hS rfl rfl rfl ing9 tyok9 nf_Scene_57 mw_266 mw_267 mw_6 (Nat.le_of_ble_eq_true rfl) (Nat.le_of_ble_eq_true rfl) d_WF_init_85 (fun H hS => ?_)
  replace hS : St0 b C 58 G13 M1 s _ _ := hS
  refine lv_dup F.1.hx F.1.hb d_WF_init_88 rfl ?_
  refine r0_back hS (r0_runIN (k := 57) (mc := 4) (ms := 28) F hS (cc_Scene l 57 (by decide : isScene 57) G13 M1) mw_270 mw_269 mw_6 gs_WF_45 rfl hd_Scene_init ⟨Nat.le_of_ble_eq_true rfl, Nat.le_of_ble_eq_true rfl⟩ hl.1 (Nat.le_of_ble_eq_true rfl) ⟨Nat.le_of_ble_eq_true rfl, Nat.le_of_ble_eq_true rfl⟩ d_WF_init_89) (fun H locs hS => ?_)
  obtain ⟨G14, eG14⟩ : ∃ q, q = (gc_Scene 57 G13) := ⟨_, rfl⟩
  replace hS : St0 b C 62 G14 M1 s H locs := by rw [eG14]; exact hS
  refine r0_putR (t := 57) (N := 19) (T := T0) (j := 10) F hin hS (show 0 < 62 by decide) rfl rfl rfl (Nat.le_of_ble_eq_true rfl) ing0 tyok0 nm0 rfl rfl rfl rfl rfl mw_560 d_WF_init_92 (fun H locs hS => ?_)
  obtain ⟨G15, eG15⟩ : ∃ q, q = (uI G14 0 10 (57 : Nat)) := ⟨_, rfl⟩
  replace hS : St0 b C 62 G15 M1 s H locs := by rw [eG15]; exact hS
  refine lv_aload_n F.1.hx F.1.hb d_WF_init_95 rfl (lv_at hl 0 rfl) ?_
  refine r0_new (ci := 2) (N := 6) (T := T2) F hS rfl rfl rfl ing2 tyok2 nf_Chronicle_62 mw_308 mw_309 mw_7 (Nat.le_of_ble_eq_true rfl) (Nat.le_of_ble_eq_true rfl) d_WF_init_96 (fun H hS => ?_)
  replace hS : St0 b C 63 G15 M1 s _ _ := hS
  refine lv_dup F.1.hx F.1.hb d_WF_init_99 rfl ?_
  refine r0_back hS (r0_runIN (k := 62) (mc := 3) (ms := 297) F hS (cc_Chronicle l 62 (by decide : isChronicle 62) G15 M1) mw_312 mw_311 mw_7 gs_WF_58 rfl hd_Chronicle_init ⟨Nat.le_of_ble_eq_true rfl, Nat.le_of_ble_eq_true rfl⟩ hl.1 (Nat.le_of_ble_eq_true rfl) ⟨Nat.le_of_ble_eq_true rfl, Nat.le_of_ble_eq_true rfl⟩ d_WF_init_100) (fun H locs hS => ?_)
  obtain ⟨G16, eG16⟩ : ∃ q, q = (gc_Chronicle 62 G15) := ⟨_, rfl⟩
  replace hS : St0 b C 66 G16 M1 s H locs := by rw [eG16]; exact hS
  refine r0_putR (t := 62) (N := 19) (T := T0) (j := 11) F hin hS (show 0 < 66 by decide) rfl rfl rfl (Nat.le_of_ble_eq_true rfl) ing0 tyok0 nm0 rfl rfl rfl rfl rfl mw_561 d_WF_init_103 (fun H locs hS => ?_)
  obtain ⟨G17, eG17⟩ : ∃ q, q = (uI G16 0 11 (62 : Nat)) := ⟨_, rfl⟩
  replace hS : St0 b C 66 G17 M1 s H locs := by rw [eG17]; exact hS
  refine lv_aload_n F.1.hx F.1.hb d_WF_init_106 rfl (lv_at hl 0 rfl) ?_
  refine r0_new (ci := 2) (N := 6) (T := T2) F hS rfl rfl rfl ing2 tyok2 nf_Chronicle_66 mw_308 mw_309 mw_7 (Nat.le_of_ble_eq_true rfl) (Nat.le_of_ble_eq_true rfl) d_WF_init_107 (fun H hS => ?_)
  replace hS : St0 b C 67 G17 M1 s _ _ := hS
  refine lv_dup F.1.hx F.1.hb d_WF_init_110 rfl ?_
  refine r0_back hS (r0_runIN (k := 66) (mc := 3) (ms := 297) F hS (cc_Chronicle l 66 (by decide : isChronicle 66) G17 M1) mw_312 mw_311 mw_7 gs_WF_58 rfl hd_Chronicle_init ⟨Nat.le_of_ble_eq_true rfl, Nat.le_of_ble_eq_true rfl⟩ hl.1 (Nat.le_of_ble_eq_true rfl) ⟨Nat.le_of_ble_eq_true rfl, Nat.le_of_ble_eq_true rfl⟩ d_WF_init_111) (fun H locs hS => ?_)
  obtain ⟨G18, eG18⟩ : ∃ q, q = (gc_Chronicle 66 G17) := ⟨_, rfl⟩
  replace hS : St0 b C 70 G18 M1 s H locs := by rw [eG18]; exact hS
  refine r0_putR (t := 66) (N := 19) (T := T0) (j := 12) F hin hS (show 0 < 70 by decide) rfl rfl rfl (Nat.le_of_ble_eq_true rfl) ing0 tyok0 nm0 rfl rfl rfl rfl rfl mw_562 d_WF_init_114 (fun H locs hS => ?_)
  obtain ⟨G19, eG19⟩ : ∃ q, q = (uI G18 0 12 (66 : Nat)) := ⟨_, rfl⟩
  replace hS : St0 b C 70 G19 M1 s H locs := by rw [eG19]; exact hS
  refine lv_aload_n F.1.hx F.1.hb d_WF_init_117 rfl (lv_at hl 0 rfl) ?_
  refine r0_new (ci := 6) (N := 3) (T := T6) F hS rfl rfl rfl ing6 tyok6 nf_Past_70 mw_338 mw_339 mw_8 (Nat.le_of_ble_eq_true rfl) (Nat.le_of_ble_eq_true rfl) d_WF_init_118 (fun H hS => ?_)
  replace hS : St0 b C 71 G19 M1 s _ _ := hS
  refine lv_dup F.1.hx F.1.hb d_WF_init_121 rfl ?_
  refine r0_back hS (r0_runI (k := 70) (mc := 101) (ms := 720) F hS (cc_Past l  G19 M1) mw_342 mw_340 mw_341 mw_8 rfl hd_Past_init ⟨Nat.le_of_ble_eq_true rfl, Nat.le_of_ble_eq_true rfl⟩ hl.1 (Nat.le_of_ble_eq_true rfl) ⟨Nat.le_of_ble_eq_true rfl, Nat.le_of_ble_eq_true rfl⟩ d_WF_init_122) (fun H locs hS => ?_)
  obtain ⟨G20, eG20⟩ : ∃ q, q = (gc_Past G19) := ⟨_, rfl⟩
  replace hS : St0 b C 172 G20 M1 s H locs := by rw [eG20]; exact hS
  refine r0_putR (t := 70) (N := 19) (T := T0) (j := 14) F hin hS (show 0 < 172 by decide) rfl rfl rfl (Nat.le_of_ble_eq_true rfl) ing0 tyok0 nm0 rfl rfl rfl rfl rfl mw_564 d_WF_init_125 (fun H locs hS => ?_)
  obtain ⟨G21, eG21⟩ : ∃ q, q = (uI G20 0 14 (70 : Nat)) := ⟨_, rfl⟩
  replace hS : St0 b C 172 G21 M1 s H locs := by rw [eG21]; exact hS
  refine lv_aload_n F.1.hx F.1.hb d_WF_init_128 rfl (lv_at hl 0 rfl) ?_
  refine r0_new (ci := 5) (N := 7) (T := T5) F hS rfl rfl rfl ing5 tyok5 nf_Notes_172 mw_358 mw_359 mw_9 (Nat.le_of_ble_eq_true rfl) (Nat.le_of_ble_eq_true rfl) d_WF_init_129 (fun H hS => ?_)
  replace hS : St0 b C 173 G21 M1 s _ _ := hS
  refine lv_dup F.1.hx F.1.hb d_WF_init_132 rfl ?_
  refine r0_back hS (r0_runIN (k := 172) (mc := 4) (ms := 76) F hS (cc_Notes l  G21 M1) mw_362 mw_361 mw_9 gs_WF_75 rfl hd_Notes_init ⟨Nat.le_of_ble_eq_true rfl, Nat.le_of_ble_eq_true rfl⟩ hl.1 (Nat.le_of_ble_eq_true rfl) ⟨Nat.le_of_ble_eq_true rfl, Nat.le_of_ble_eq_true rfl⟩ d_WF_init_133) (fun H locs hS => ?_)
  obtain ⟨G22, eG22⟩ : ∃ q, q = (gc_Notes G21) := ⟨_, rfl⟩
  replace hS : St0 b C 177 G22 M1 s H locs := by rw [eG22]; exact hS
  refine r0_putR (t := 172) (N := 19) (T := T0) (j := 15) F hin hS (show 0 < 177 by decide) rfl rfl rfl (Nat.le_of_ble_eq_true rfl) ing0 tyok0 nm0 rfl rfl rfl rfl rfl mw_565 d_WF_init_136 (fun H locs hS => ?_)
  obtain ⟨G23, eG23⟩ : ∃ q, q = (uI G22 0 15 (172 : Nat)) := ⟨_, rfl⟩
  replace hS : St0 b C 177 G23 M1 s H locs := by rw [eG23]; exact hS
  refine lv_aload_n F.1.hx F.1.hb d_WF_init_139 rfl (lv_at hl 0 rfl) ?_
  refine r0_new (ci := 4) (N := 9) (T := T4) F hS rfl rfl rfl ing4 tyok4 nf_Laws_177 mw_390 mw_391 mw_10 (Nat.le_of_ble_eq_true rfl) (Nat.le_of_ble_eq_true rfl) d_WF_init_140 (fun H hS => ?_)
  replace hS : St0 b C 178 G23 M1 s _ _ := hS
  refine lv_dup F.1.hx F.1.hb d_WF_init_143 rfl ?_
  refine r0_back hS (r0_runIN (k := 177) (mc := 7) (ms := 1100) F hS (cc_Laws l  G23 M1) mw_394 mw_393 mw_10 gs_WF_82 rfl hd_Laws_init ⟨Nat.le_of_ble_eq_true rfl, Nat.le_of_ble_eq_true rfl⟩ hl.1 (Nat.le_of_ble_eq_true rfl) ⟨Nat.le_of_ble_eq_true rfl, Nat.le_of_ble_eq_true rfl⟩ d_WF_init_144) (fun H locs hS => ?_)
  obtain ⟨G24, eG24⟩ : ∃ q, q = (gc_Laws G23) := ⟨_, rfl⟩
  replace hS : St0 b C 185 G24 M1 s H locs := by rw [eG24]; exact hS
  refine r0_putR (t := 177) (N := 19) (T := T0) (j := 16) F hin hS (show 0 < 185 by decide) rfl rfl rfl (Nat.le_of_ble_eq_true rfl) ing0 tyok0 nm0 rfl rfl rfl rfl rfl mw_566 d_WF_init_147 (fun H locs hS => ?_)
  obtain ⟨G25, eG25⟩ : ∃ q, q = (uI G24 0 16 (177 : Nat)) := ⟨_, rfl⟩
  replace hS : St0 b C 185 G25 M1 s H locs := by rw [eG25]; exact hS
  refine lv_aload_n F.1.hx F.1.hb d_WF_init_150 rfl (lv_at hl 0 rfl) ?_
  refine r0_new (ci := 7) (N := 5) (T := T7) F hS rfl rfl rfl ing7 tyok7 nf_Paths_185 mw_468 mw_469 mw_12 (Nat.le_of_ble_eq_true rfl) (Nat.le_of_ble_eq_true rfl) d_WF_init_151 (fun H hS => ?_)
  replace hS : St0 b C 186 G25 M1 s _ _ := hS
  refine lv_dup F.1.hx F.1.hb d_WF_init_154 rfl ?_
  refine r0_back hS (r0_runIN (k := 185) (mc := 3) (ms := 288) F hS (cc_Paths l  G25 M1) mw_472 mw_471 mw_12 gs_WF_89 rfl hd_Paths_init ⟨Nat.le_of_ble_eq_true rfl, Nat.le_of_ble_eq_true rfl⟩ hl.1 (Nat.le_of_ble_eq_true rfl) ⟨Nat.le_of_ble_eq_true rfl, Nat.le_of_ble_eq_true rfl⟩ d_WF_init_155) (fun H locs hS => ?_)
  obtain ⟨G26, eG26⟩ : ∃ q, q = (gc_Paths G25) := ⟨_, rfl⟩
  replace hS : St0 b C 189 G26 M1 s H locs := by rw [eG26]; exact hS
  refine r0_putR (t := 185) (N := 19) (T := T0) (j := 17) F hin hS (show 0 < 189 by decide) rfl rfl rfl (Nat.le_of_ble_eq_true rfl) ing0 tyok0 nm0 rfl rfl rfl rfl rfl mw_567 d_WF_init_158 (fun H locs hS => ?_)
  obtain ⟨G27, eG27⟩ : ∃ q, q = (uI G26 0 17 (185 : Nat)) := ⟨_, rfl⟩
  replace hS : St0 b C 189 G27 M1 s H locs := by rw [eG27]; exact hS
  refine lv_aload_n F.1.hx F.1.hb d_WF_init_161 rfl (lv_at hl 0 rfl) ?_
  refine r0_new (ci := 12) (N := 9) (T := T12) F hS rfl rfl rfl ing12 tyok12 nf_Trail_189 mw_493 mw_397 mw_11 (Nat.le_of_ble_eq_true rfl) (Nat.le_of_ble_eq_true rfl) d_WF_init_162 (fun H hS => ?_)
  replace hS : St0 b C 190 G27 M1 s _ _ := hS
  refine lv_dup F.1.hx F.1.hb d_WF_init_165 rfl ?_
  refine r0_back hS (r0_runIN (k := 189) (mc := 1) (ms := 48) F hS (cc_Trail l 189 (by decide : isTrail 189) G27 M1) mw_400 mw_399 mw_11 gs_WF_96 rfl hd_Trail_init ⟨Nat.le_of_ble_eq_true rfl, Nat.le_of_ble_eq_true rfl⟩ hl.1 (Nat.le_of_ble_eq_true rfl) ⟨Nat.le_of_ble_eq_true rfl, Nat.le_of_ble_eq_true rfl⟩ d_WF_init_166) (fun H locs hS => ?_)
  obtain ⟨G28, eG28⟩ : ∃ q, q = (gc_Trail 189 G27) := ⟨_, rfl⟩
  replace hS : St0 b C 191 G28 M1 s H locs := by rw [eG28]; exact hS
  refine r0_putR (t := 189) (N := 19) (T := T0) (j := 18) F hin hS (show 0 < 191 by decide) rfl rfl rfl (Nat.le_of_ble_eq_true rfl) ing0 tyok0 nm0 rfl rfl rfl rfl rfl mw_568 d_WF_init_169 (fun H locs hS => ?_)
  obtain ⟨G29, eG29⟩ : ∃ q, q = (uI G28 0 18 (189 : Nat)) := ⟨_, rfl⟩
  replace hS : St0 b C 191 G29 M1 s H locs := by rw [eG29]; exact hS
  subst eM1 eG1 eG2 eG3 eG4 eG5 eG6 eG7 eG8 eG9 eG10 eG11 eG12 eG13 eG14 eG15 eG16 eG17 eG18 eG19 eG20 eG21 eG22 eG23 eG24 eG25 eG26 eG27 eG28 eG29 eG eM
  have hS : St b C 191 (setI Mz 0 3 (-1)) s H locs := hS.toSt2 wf_G
  obtain ⟨M1, eM1⟩ : ∃ q, q = setI Mz 0 3 (-1) := ⟨_, rfl⟩
  rw [← eM1] at hS hT
  have F : Cx b p m c b_WF_init 1 s ([.ref (b + 0)] : List Value).toArray "WardFalls" C 191 191 := ⟨F.1.1, F.1.2.1, Nat.le_refl _, F.1.2.2.2⟩
  have hlo : 191 ≤ 191 := Nat.le_refl _
  refine lv_aload_n F.hx F.hb d_WF_init_172 rfl (lv_at hl 0 rfl) ?_
  have h501 := St_town hS
  refine r_get (v := .ref (b + ((M1.1 0 4).toNat))) (N := 19) (T := T0) (j := 4) F hS (show 0 < 191 by decide) (show shK 0 = 4 from rfl) (show shN 0 = 19 from rfl) rfl (Nat.le_of_ble_eq_true rfl) ing0 mw_554 (fv_town hS) d_WF_init_173 ?_
  obtain ⟨q502, hq502, hT⟩ := q_obind hT
  refine r_backV F hS (r_runV (k := ((M1.1 0 4).toNat)) (N := 20) (T := T11) (As := []) F hS (Town_lt h501) (Town_sh h501) rfl (c_Town_clear l F.2.2.1 M1 ((M1.1 0 4).toNat) h501 _ hq502) gs_WF_101 hd_Town_clear ⟨Nat.le_of_ble_eq_true rfl, Nat.le_of_ble_eq_true rfl⟩ rfl hl.1 (Nat.le_of_ble_eq_true rfl) ⟨Nat.le_of_ble_eq_true rfl, Nat.le_of_ble_eq_true rfl⟩ rfl d_WF_init_176) (fun H locs hS => ?_)
  refine lv_aload_n F.hx F.hb d_WF_init_179 rfl (lv_at hl 0 rfl) ?_
  have h504 := St_town hS
  refine r_get (v := .ref (b + ((q502.1 0 4).toNat))) (N := 19) (T := T0) (j := 4) F hS (show 0 < 191 by decide) (show shK 0 = 4 from rfl) (show shN 0 = 19 from rfl) rfl (Nat.le_of_ble_eq_true rfl) ing0 mw_554 (fv_town hS) d_WF_init_180 ?_
  obtain ⟨q505, hq505, hT⟩ := q_obind hT
  refine r_backV F hS (r_runV (k := ((q502.1 0 4).toNat)) (N := 20) (T := T11) (As := []) F hS (Town_lt h504) (Town_sh h504) rfl (c_Town_settle l F.2.2.1 q502 ((q502.1 0 4).toNat) h504 _ hq505) gs_WF_104 hd_Town_settle ⟨Nat.le_of_ble_eq_true rfl, Nat.le_of_ble_eq_true rfl⟩ rfl hl.1 (Nat.le_of_ble_eq_true rfl) ⟨Nat.le_of_ble_eq_true rfl, Nat.le_of_ble_eq_true rfl⟩ rfl d_WF_init_183) (fun H locs hS => ?_)
  refine lv_aload_n F.hx F.hb d_WF_init_186 rfl (lv_at hl 0 rfl) ?_
  obtain ⟨q507, hq507, hT⟩ := q_obind hT
  refine r_backV F hS (r_runV (k := 0) (N := 19) (T := T0) (As := []) F hS (show 0 < 191 by decide) (show shK 0 = 4 from rfl) rfl (c_WF_startAnew l F.2.2.1 q505 _ hq507) gs_WF_107 hd_WF_startAnew ⟨Nat.le_of_ble_eq_true rfl, Nat.le_of_ble_eq_true rfl⟩ rfl hl.1 (Nat.le_of_ble_eq_true rfl) ⟨Nat.le_of_ble_eq_true rfl, Nat.le_of_ble_eq_true rfl⟩ rfl d_WF_init_187) (fun H locs hS => ?_)
  cases hT
  exact r_vret F hlk hr hS d_WF_init_190
theorem wn_MO_init_0 : ∀ i, i < 8 → bA b_MO_init (0 + i) = wB [42, 183, 0, 1, 42, 17, 2, 188] i := wB_of (by decide +kernel)
theorem d_MO_init_0 : decode b_MO_init 0 = .ok (.aload_n 0, 1) := dc_42 (q0_win (r := 0) wn_MO_init_0 (by decide +kernel))
theorem d_MO_init_1 : decode b_MO_init 1 = .ok (.invokespecial 1, 3) := dc_183 (qU2_win (r := 1) wn_MO_init_0 (by decide +kernel))
theorem d_MO_init_4 : decode b_MO_init 4 = .ok (.aload_n 0, 1) := dc_42 (q0_win (r := 4) wn_MO_init_0 (by decide +kernel))
theorem d_MO_init_5 : decode b_MO_init 5 = .ok (.sipush 700, 3) := dc_17 (qS2_win (r := 5) wn_MO_init_0 (by decide +kernel))
theorem d_MO_init_8 : decode b_MO_init 8 = .ok (.newarray .int, 2) := by decide +kernel
theorem wn_MO_init_10 : ∀ i, i < 6 → bA b_MO_init (10 + i) = wB [181, 0, 7, 42, 16, 18] i := wB_of (by decide +kernel)
theorem d_MO_init_10 : decode b_MO_init 10 = .ok (.putfield 7, 3) := dc_181 (qU2_win (r := 0) wn_MO_init_10 (by decide +kernel))
theorem d_MO_init_13 : decode b_MO_init 13 = .ok (.aload_n 0, 1) := dc_42 (q0_win (r := 3) wn_MO_init_10 (by decide +kernel))
theorem d_MO_init_14 : decode b_MO_init 14 = .ok (.bipush 18, 2) := dc_16 (qS1_win (r := 4) wn_MO_init_10 (by decide +kernel))
theorem d_MO_init_16 : decode b_MO_init 16 = .ok (.newarray .int, 2) := by decide +kernel
theorem wn_MO_init_18 : ∀ i, i < 90 → bA b_MO_init (18 + i) = wB [89, 3, 7, 79, 89, 4, 7, 79, 89, 5, 3, 79, 89, 6, 3, 79, 89, 7, 3, 79, 89, 8, 3, 79, 89, 16, 6, 3, 79, 89, 16, 7, 3, 79, 89, 16, 8, 3, 79, 89, 16, 9, 7, 79, 89, 16, 10, 7, 79, 89, 16, 11, 3, 79, 89, 16, 12, 3, 79, 89, 16, 13, 3, 79, 89, 16, 14, 3, 79, 89, 16, 15, 3, 79, 89, 16, 16, 3, 79, 89, 16, 17, 3, 79, 181, 0, 13, 42, 16, 8] i := wB_of (by decide +kernel)
theorem d_MO_init_18 : decode b_MO_init 18 = .ok (.dup, 1) := dc_89 (q0_win (r := 0) wn_MO_init_18 (by decide +kernel))
theorem d_MO_init_19 : decode b_MO_init 19 = .ok (.iconst 0, 1) := dc_3 (q0_win (r := 1) wn_MO_init_18 (by decide +kernel))
theorem d_MO_init_20 : decode b_MO_init 20 = .ok (.iconst 4, 1) := dc_7 (q0_win (r := 2) wn_MO_init_18 (by decide +kernel))
theorem d_MO_init_21 : decode b_MO_init 21 = .ok (.iastore, 1) := dc_79 (q0_win (r := 3) wn_MO_init_18 (by decide +kernel))
theorem d_MO_init_22 : decode b_MO_init 22 = .ok (.dup, 1) := dc_89 (q0_win (r := 4) wn_MO_init_18 (by decide +kernel))
theorem d_MO_init_23 : decode b_MO_init 23 = .ok (.iconst 1, 1) := dc_4 (q0_win (r := 5) wn_MO_init_18 (by decide +kernel))
theorem d_MO_init_24 : decode b_MO_init 24 = .ok (.iconst 4, 1) := dc_7 (q0_win (r := 6) wn_MO_init_18 (by decide +kernel))
theorem d_MO_init_25 : decode b_MO_init 25 = .ok (.iastore, 1) := dc_79 (q0_win (r := 7) wn_MO_init_18 (by decide +kernel))
theorem d_MO_init_26 : decode b_MO_init 26 = .ok (.dup, 1) := dc_89 (q0_win (r := 8) wn_MO_init_18 (by decide +kernel))
theorem d_MO_init_27 : decode b_MO_init 27 = .ok (.iconst 2, 1) := dc_5 (q0_win (r := 9) wn_MO_init_18 (by decide +kernel))
theorem d_MO_init_28 : decode b_MO_init 28 = .ok (.iconst 0, 1) := dc_3 (q0_win (r := 10) wn_MO_init_18 (by decide +kernel))
theorem d_MO_init_29 : decode b_MO_init 29 = .ok (.iastore, 1) := dc_79 (q0_win (r := 11) wn_MO_init_18 (by decide +kernel))
theorem d_MO_init_30 : decode b_MO_init 30 = .ok (.dup, 1) := dc_89 (q0_win (r := 12) wn_MO_init_18 (by decide +kernel))
theorem d_MO_init_31 : decode b_MO_init 31 = .ok (.iconst 3, 1) := dc_6 (q0_win (r := 13) wn_MO_init_18 (by decide +kernel))
theorem d_MO_init_32 : decode b_MO_init 32 = .ok (.iconst 0, 1) := dc_3 (q0_win (r := 14) wn_MO_init_18 (by decide +kernel))
theorem d_MO_init_33 : decode b_MO_init 33 = .ok (.iastore, 1) := dc_79 (q0_win (r := 15) wn_MO_init_18 (by decide +kernel))
theorem d_MO_init_34 : decode b_MO_init 34 = .ok (.dup, 1) := dc_89 (q0_win (r := 16) wn_MO_init_18 (by decide +kernel))
theorem d_MO_init_35 : decode b_MO_init 35 = .ok (.iconst 4, 1) := dc_7 (q0_win (r := 17) wn_MO_init_18 (by decide +kernel))
theorem d_MO_init_36 : decode b_MO_init 36 = .ok (.iconst 0, 1) := dc_3 (q0_win (r := 18) wn_MO_init_18 (by decide +kernel))
theorem d_MO_init_37 : decode b_MO_init 37 = .ok (.iastore, 1) := dc_79 (q0_win (r := 19) wn_MO_init_18 (by decide +kernel))
theorem d_MO_init_38 : decode b_MO_init 38 = .ok (.dup, 1) := dc_89 (q0_win (r := 20) wn_MO_init_18 (by decide +kernel))
theorem d_MO_init_39 : decode b_MO_init 39 = .ok (.iconst 5, 1) := dc_8 (q0_win (r := 21) wn_MO_init_18 (by decide +kernel))
theorem d_MO_init_40 : decode b_MO_init 40 = .ok (.iconst 0, 1) := dc_3 (q0_win (r := 22) wn_MO_init_18 (by decide +kernel))
theorem d_MO_init_41 : decode b_MO_init 41 = .ok (.iastore, 1) := dc_79 (q0_win (r := 23) wn_MO_init_18 (by decide +kernel))
theorem d_MO_init_42 : decode b_MO_init 42 = .ok (.dup, 1) := dc_89 (q0_win (r := 24) wn_MO_init_18 (by decide +kernel))
theorem d_MO_init_43 : decode b_MO_init 43 = .ok (.bipush 6, 2) := dc_16 (qS1_win (r := 25) wn_MO_init_18 (by decide +kernel))
theorem d_MO_init_45 : decode b_MO_init 45 = .ok (.iconst 0, 1) := dc_3 (q0_win (r := 27) wn_MO_init_18 (by decide +kernel))
theorem d_MO_init_46 : decode b_MO_init 46 = .ok (.iastore, 1) := dc_79 (q0_win (r := 28) wn_MO_init_18 (by decide +kernel))
theorem d_MO_init_47 : decode b_MO_init 47 = .ok (.dup, 1) := dc_89 (q0_win (r := 29) wn_MO_init_18 (by decide +kernel))
theorem d_MO_init_48 : decode b_MO_init 48 = .ok (.bipush 7, 2) := dc_16 (qS1_win (r := 30) wn_MO_init_18 (by decide +kernel))
theorem d_MO_init_50 : decode b_MO_init 50 = .ok (.iconst 0, 1) := dc_3 (q0_win (r := 32) wn_MO_init_18 (by decide +kernel))
theorem d_MO_init_51 : decode b_MO_init 51 = .ok (.iastore, 1) := dc_79 (q0_win (r := 33) wn_MO_init_18 (by decide +kernel))
theorem d_MO_init_52 : decode b_MO_init 52 = .ok (.dup, 1) := dc_89 (q0_win (r := 34) wn_MO_init_18 (by decide +kernel))
theorem d_MO_init_53 : decode b_MO_init 53 = .ok (.bipush 8, 2) := dc_16 (qS1_win (r := 35) wn_MO_init_18 (by decide +kernel))
theorem d_MO_init_55 : decode b_MO_init 55 = .ok (.iconst 0, 1) := dc_3 (q0_win (r := 37) wn_MO_init_18 (by decide +kernel))
theorem d_MO_init_56 : decode b_MO_init 56 = .ok (.iastore, 1) := dc_79 (q0_win (r := 38) wn_MO_init_18 (by decide +kernel))
theorem d_MO_init_57 : decode b_MO_init 57 = .ok (.dup, 1) := dc_89 (q0_win (r := 39) wn_MO_init_18 (by decide +kernel))
theorem d_MO_init_58 : decode b_MO_init 58 = .ok (.bipush 9, 2) := dc_16 (qS1_win (r := 40) wn_MO_init_18 (by decide +kernel))
theorem d_MO_init_60 : decode b_MO_init 60 = .ok (.iconst 4, 1) := dc_7 (q0_win (r := 42) wn_MO_init_18 (by decide +kernel))
theorem d_MO_init_61 : decode b_MO_init 61 = .ok (.iastore, 1) := dc_79 (q0_win (r := 43) wn_MO_init_18 (by decide +kernel))
theorem d_MO_init_62 : decode b_MO_init 62 = .ok (.dup, 1) := dc_89 (q0_win (r := 44) wn_MO_init_18 (by decide +kernel))
theorem d_MO_init_63 : decode b_MO_init 63 = .ok (.bipush 10, 2) := dc_16 (qS1_win (r := 45) wn_MO_init_18 (by decide +kernel))
theorem d_MO_init_65 : decode b_MO_init 65 = .ok (.iconst 4, 1) := dc_7 (q0_win (r := 47) wn_MO_init_18 (by decide +kernel))
theorem d_MO_init_66 : decode b_MO_init 66 = .ok (.iastore, 1) := dc_79 (q0_win (r := 48) wn_MO_init_18 (by decide +kernel))
theorem d_MO_init_67 : decode b_MO_init 67 = .ok (.dup, 1) := dc_89 (q0_win (r := 49) wn_MO_init_18 (by decide +kernel))
theorem d_MO_init_68 : decode b_MO_init 68 = .ok (.bipush 11, 2) := dc_16 (qS1_win (r := 50) wn_MO_init_18 (by decide +kernel))
theorem d_MO_init_70 : decode b_MO_init 70 = .ok (.iconst 0, 1) := dc_3 (q0_win (r := 52) wn_MO_init_18 (by decide +kernel))
theorem d_MO_init_71 : decode b_MO_init 71 = .ok (.iastore, 1) := dc_79 (q0_win (r := 53) wn_MO_init_18 (by decide +kernel))
theorem d_MO_init_72 : decode b_MO_init 72 = .ok (.dup, 1) := dc_89 (q0_win (r := 54) wn_MO_init_18 (by decide +kernel))
theorem d_MO_init_73 : decode b_MO_init 73 = .ok (.bipush 12, 2) := dc_16 (qS1_win (r := 55) wn_MO_init_18 (by decide +kernel))
theorem d_MO_init_75 : decode b_MO_init 75 = .ok (.iconst 0, 1) := dc_3 (q0_win (r := 57) wn_MO_init_18 (by decide +kernel))
theorem d_MO_init_76 : decode b_MO_init 76 = .ok (.iastore, 1) := dc_79 (q0_win (r := 58) wn_MO_init_18 (by decide +kernel))
theorem d_MO_init_77 : decode b_MO_init 77 = .ok (.dup, 1) := dc_89 (q0_win (r := 59) wn_MO_init_18 (by decide +kernel))
theorem d_MO_init_78 : decode b_MO_init 78 = .ok (.bipush 13, 2) := dc_16 (qS1_win (r := 60) wn_MO_init_18 (by decide +kernel))
theorem d_MO_init_80 : decode b_MO_init 80 = .ok (.iconst 0, 1) := dc_3 (q0_win (r := 62) wn_MO_init_18 (by decide +kernel))
theorem d_MO_init_81 : decode b_MO_init 81 = .ok (.iastore, 1) := dc_79 (q0_win (r := 63) wn_MO_init_18 (by decide +kernel))
theorem d_MO_init_82 : decode b_MO_init 82 = .ok (.dup, 1) := dc_89 (q0_win (r := 64) wn_MO_init_18 (by decide +kernel))
theorem d_MO_init_83 : decode b_MO_init 83 = .ok (.bipush 14, 2) := dc_16 (qS1_win (r := 65) wn_MO_init_18 (by decide +kernel))
theorem d_MO_init_85 : decode b_MO_init 85 = .ok (.iconst 0, 1) := dc_3 (q0_win (r := 67) wn_MO_init_18 (by decide +kernel))
theorem d_MO_init_86 : decode b_MO_init 86 = .ok (.iastore, 1) := dc_79 (q0_win (r := 68) wn_MO_init_18 (by decide +kernel))
theorem d_MO_init_87 : decode b_MO_init 87 = .ok (.dup, 1) := dc_89 (q0_win (r := 69) wn_MO_init_18 (by decide +kernel))
theorem d_MO_init_88 : decode b_MO_init 88 = .ok (.bipush 15, 2) := dc_16 (qS1_win (r := 70) wn_MO_init_18 (by decide +kernel))
theorem d_MO_init_90 : decode b_MO_init 90 = .ok (.iconst 0, 1) := dc_3 (q0_win (r := 72) wn_MO_init_18 (by decide +kernel))
theorem d_MO_init_91 : decode b_MO_init 91 = .ok (.iastore, 1) := dc_79 (q0_win (r := 73) wn_MO_init_18 (by decide +kernel))
theorem d_MO_init_92 : decode b_MO_init 92 = .ok (.dup, 1) := dc_89 (q0_win (r := 74) wn_MO_init_18 (by decide +kernel))
theorem d_MO_init_93 : decode b_MO_init 93 = .ok (.bipush 16, 2) := dc_16 (qS1_win (r := 75) wn_MO_init_18 (by decide +kernel))
theorem d_MO_init_95 : decode b_MO_init 95 = .ok (.iconst 0, 1) := dc_3 (q0_win (r := 77) wn_MO_init_18 (by decide +kernel))
theorem d_MO_init_96 : decode b_MO_init 96 = .ok (.iastore, 1) := dc_79 (q0_win (r := 78) wn_MO_init_18 (by decide +kernel))
theorem d_MO_init_97 : decode b_MO_init 97 = .ok (.dup, 1) := dc_89 (q0_win (r := 79) wn_MO_init_18 (by decide +kernel))
theorem d_MO_init_98 : decode b_MO_init 98 = .ok (.bipush 17, 2) := dc_16 (qS1_win (r := 80) wn_MO_init_18 (by decide +kernel))
theorem d_MO_init_100 : decode b_MO_init 100 = .ok (.iconst 0, 1) := dc_3 (q0_win (r := 82) wn_MO_init_18 (by decide +kernel))
theorem d_MO_init_101 : decode b_MO_init 101 = .ok (.iastore, 1) := dc_79 (q0_win (r := 83) wn_MO_init_18 (by decide +kernel))
theorem d_MO_init_102 : decode b_MO_init 102 = .ok (.putfield 13, 3) := dc_181 (qU2_win (r := 84) wn_MO_init_18 (by decide +kernel))
theorem d_MO_init_105 : decode b_MO_init 105 = .ok (.aload_n 0, 1) := dc_42 (q0_win (r := 87) wn_MO_init_18 (by decide +kernel))
theorem d_MO_init_106 : decode b_MO_init 106 = .ok (.bipush 8, 2) := dc_16 (qS1_win (r := 88) wn_MO_init_18 (by decide +kernel))
theorem d_MO_init_108 : decode b_MO_init 108 = .ok (.newarray .int, 2) := by decide +kernel
theorem wn_MO_init_110 : ∀ i, i < 6 → bA b_MO_init (110 + i) = wB [181, 0, 16, 42, 16, 8] i := wB_of (by decide +kernel)
theorem d_MO_init_110 : decode b_MO_init 110 = .ok (.putfield 16, 3) := dc_181 (qU2_win (r := 0) wn_MO_init_110 (by decide +kernel))
theorem d_MO_init_113 : decode b_MO_init 113 = .ok (.aload_n 0, 1) := dc_42 (q0_win (r := 3) wn_MO_init_110 (by decide +kernel))
theorem d_MO_init_114 : decode b_MO_init 114 = .ok (.bipush 8, 2) := dc_16 (qS1_win (r := 4) wn_MO_init_110 (by decide +kernel))
theorem d_MO_init_116 : decode b_MO_init 116 = .ok (.newarray .int, 2) := by decide +kernel
theorem wn_MO_init_118 : ∀ i, i < 6 → bA b_MO_init (118 + i) = wB [181, 0, 19, 42, 16, 8] i := wB_of (by decide +kernel)
theorem d_MO_init_118 : decode b_MO_init 118 = .ok (.putfield 19, 3) := dc_181 (qU2_win (r := 0) wn_MO_init_118 (by decide +kernel))
theorem d_MO_init_121 : decode b_MO_init 121 = .ok (.aload_n 0, 1) := dc_42 (q0_win (r := 3) wn_MO_init_118 (by decide +kernel))
theorem d_MO_init_122 : decode b_MO_init 122 = .ok (.bipush 8, 2) := dc_16 (qS1_win (r := 4) wn_MO_init_118 (by decide +kernel))
theorem d_MO_init_124 : decode b_MO_init 124 = .ok (.newarray .int, 2) := by decide +kernel
theorem wn_MO_init_126 : ∀ i, i < 6 → bA b_MO_init (126 + i) = wB [181, 0, 22, 42, 16, 96] i := wB_of (by decide +kernel)
theorem d_MO_init_126 : decode b_MO_init 126 = .ok (.putfield 22, 3) := dc_181 (qU2_win (r := 0) wn_MO_init_126 (by decide +kernel))
theorem d_MO_init_129 : decode b_MO_init 129 = .ok (.aload_n 0, 1) := dc_42 (q0_win (r := 3) wn_MO_init_126 (by decide +kernel))
theorem d_MO_init_130 : decode b_MO_init 130 = .ok (.bipush 96, 2) := dc_16 (qS1_win (r := 4) wn_MO_init_126 (by decide +kernel))
theorem d_MO_init_132 : decode b_MO_init 132 = .ok (.newarray .int, 2) := by decide +kernel
theorem wn_MO_init_134 : ∀ i, i < 6 → bA b_MO_init (134 + i) = wB [181, 0, 25, 42, 16, 96] i := wB_of (by decide +kernel)
theorem d_MO_init_134 : decode b_MO_init 134 = .ok (.putfield 25, 3) := dc_181 (qU2_win (r := 0) wn_MO_init_134 (by decide +kernel))
theorem d_MO_init_137 : decode b_MO_init 137 = .ok (.aload_n 0, 1) := dc_42 (q0_win (r := 3) wn_MO_init_134 (by decide +kernel))
theorem d_MO_init_138 : decode b_MO_init 138 = .ok (.bipush 96, 2) := dc_16 (qS1_win (r := 4) wn_MO_init_134 (by decide +kernel))
theorem d_MO_init_140 : decode b_MO_init 140 = .ok (.newarray .boolean, 2) := by decide +kernel
theorem wn_MO_init_142 : ∀ i, i < 6 → bA b_MO_init (142 + i) = wB [181, 0, 28, 42, 16, 96] i := wB_of (by decide +kernel)
theorem d_MO_init_142 : decode b_MO_init 142 = .ok (.putfield 28, 3) := dc_181 (qU2_win (r := 0) wn_MO_init_142 (by decide +kernel))
theorem d_MO_init_145 : decode b_MO_init 145 = .ok (.aload_n 0, 1) := dc_42 (q0_win (r := 3) wn_MO_init_142 (by decide +kernel))
theorem d_MO_init_146 : decode b_MO_init 146 = .ok (.bipush 96, 2) := dc_16 (qS1_win (r := 4) wn_MO_init_142 (by decide +kernel))
theorem d_MO_init_148 : decode b_MO_init 148 = .ok (.newarray .boolean, 2) := by decide +kernel
theorem wn_MO_init_150 : ∀ i, i < 6 → bA b_MO_init (150 + i) = wB [181, 0, 32, 42, 16, 16] i := wB_of (by decide +kernel)
theorem d_MO_init_150 : decode b_MO_init 150 = .ok (.putfield 32, 3) := dc_181 (qU2_win (r := 0) wn_MO_init_150 (by decide +kernel))
theorem d_MO_init_153 : decode b_MO_init 153 = .ok (.aload_n 0, 1) := dc_42 (q0_win (r := 3) wn_MO_init_150 (by decide +kernel))
theorem d_MO_init_154 : decode b_MO_init 154 = .ok (.bipush 16, 2) := dc_16 (qS1_win (r := 4) wn_MO_init_150 (by decide +kernel))
theorem d_MO_init_156 : decode b_MO_init 156 = .ok (.newarray .int, 2) := by decide +kernel
theorem wn_MO_init_158 : ∀ i, i < 6 → bA b_MO_init (158 + i) = wB [181, 0, 35, 42, 16, 16] i := wB_of (by decide +kernel)
theorem d_MO_init_158 : decode b_MO_init 158 = .ok (.putfield 35, 3) := dc_181 (qU2_win (r := 0) wn_MO_init_158 (by decide +kernel))
theorem d_MO_init_161 : decode b_MO_init 161 = .ok (.aload_n 0, 1) := dc_42 (q0_win (r := 3) wn_MO_init_158 (by decide +kernel))
theorem d_MO_init_162 : decode b_MO_init 162 = .ok (.bipush 16, 2) := dc_16 (qS1_win (r := 4) wn_MO_init_158 (by decide +kernel))
theorem d_MO_init_164 : decode b_MO_init 164 = .ok (.newarray .int, 2) := by decide +kernel
theorem wn_MO_init_166 : ∀ i, i < 6 → bA b_MO_init (166 + i) = wB [181, 0, 38, 42, 16, 16] i := wB_of (by decide +kernel)
theorem d_MO_init_166 : decode b_MO_init 166 = .ok (.putfield 38, 3) := dc_181 (qU2_win (r := 0) wn_MO_init_166 (by decide +kernel))
theorem d_MO_init_169 : decode b_MO_init 169 = .ok (.aload_n 0, 1) := dc_42 (q0_win (r := 3) wn_MO_init_166 (by decide +kernel))
theorem d_MO_init_170 : decode b_MO_init 170 = .ok (.bipush 16, 2) := dc_16 (qS1_win (r := 4) wn_MO_init_166 (by decide +kernel))
theorem d_MO_init_172 : decode b_MO_init 172 = .ok (.newarray .int, 2) := by decide +kernel
theorem wn_MO_init_174 : ∀ i, i < 5 → bA b_MO_init (174 + i) = wB [181, 0, 41, 42, 7] i := wB_of (by decide +kernel)
theorem d_MO_init_174 : decode b_MO_init 174 = .ok (.putfield 41, 3) := dc_181 (qU2_win (r := 0) wn_MO_init_174 (by decide +kernel))
theorem d_MO_init_177 : decode b_MO_init 177 = .ok (.aload_n 0, 1) := dc_42 (q0_win (r := 3) wn_MO_init_174 (by decide +kernel))
theorem d_MO_init_178 : decode b_MO_init 178 = .ok (.iconst 4, 1) := dc_7 (q0_win (r := 4) wn_MO_init_174 (by decide +kernel))
theorem d_MO_init_179 : decode b_MO_init 179 = .ok (.newarray .int, 2) := by decide +kernel
theorem wn_MO_init_181 : ∀ i, i < 5 → bA b_MO_init (181 + i) = wB [181, 0, 44, 42, 7] i := wB_of (by decide +kernel)
theorem d_MO_init_181 : decode b_MO_init 181 = .ok (.putfield 44, 3) := dc_181 (qU2_win (r := 0) wn_MO_init_181 (by decide +kernel))
theorem d_MO_init_184 : decode b_MO_init 184 = .ok (.aload_n 0, 1) := dc_42 (q0_win (r := 3) wn_MO_init_181 (by decide +kernel))
theorem d_MO_init_185 : decode b_MO_init 185 = .ok (.iconst 4, 1) := dc_7 (q0_win (r := 4) wn_MO_init_181 (by decide +kernel))
theorem d_MO_init_186 : decode b_MO_init 186 = .ok (.newarray .int, 2) := by decide +kernel
theorem wn_MO_init_188 : ∀ i, i < 7 → bA b_MO_init (188 + i) = wB [181, 0, 47, 42, 17, 0, 128] i := wB_of (by decide +kernel)
theorem d_MO_init_188 : decode b_MO_init 188 = .ok (.putfield 47, 3) := dc_181 (qU2_win (r := 0) wn_MO_init_188 (by decide +kernel))
theorem d_MO_init_191 : decode b_MO_init 191 = .ok (.aload_n 0, 1) := dc_42 (q0_win (r := 3) wn_MO_init_188 (by decide +kernel))
theorem d_MO_init_192 : decode b_MO_init 192 = .ok (.sipush 128, 3) := dc_17 (qS2_win (r := 4) wn_MO_init_188 (by decide +kernel))
theorem d_MO_init_195 : decode b_MO_init 195 = .ok (.newarray .int, 2) := by decide +kernel
theorem wn_MO_init_197 : ∀ i, i < 7 → bA b_MO_init (197 + i) = wB [181, 0, 50, 42, 17, 0, 128] i := wB_of (by decide +kernel)
theorem d_MO_init_197 : decode b_MO_init 197 = .ok (.putfield 50, 3) := dc_181 (qU2_win (r := 0) wn_MO_init_197 (by decide +kernel))
theorem d_MO_init_200 : decode b_MO_init 200 = .ok (.aload_n 0, 1) := dc_42 (q0_win (r := 3) wn_MO_init_197 (by decide +kernel))
theorem d_MO_init_201 : decode b_MO_init 201 = .ok (.sipush 128, 3) := dc_17 (qS2_win (r := 4) wn_MO_init_197 (by decide +kernel))
theorem d_MO_init_204 : decode b_MO_init 204 = .ok (.newarray .int, 2) := by decide +kernel
theorem wn_MO_init_206 : ∀ i, i < 11 → bA b_MO_init (206 + i) = wB [181, 0, 53, 42, 2, 181, 0, 56, 42, 16, 23] i := wB_of (by decide +kernel)
theorem d_MO_init_206 : decode b_MO_init 206 = .ok (.putfield 53, 3) := dc_181 (qU2_win (r := 0) wn_MO_init_206 (by decide +kernel))
theorem d_MO_init_209 : decode b_MO_init 209 = .ok (.aload_n 0, 1) := dc_42 (q0_win (r := 3) wn_MO_init_206 (by decide +kernel))
theorem d_MO_init_210 : decode b_MO_init 210 = .ok (.iconst (-1), 1) := dc_2 (q0_win (r := 4) wn_MO_init_206 (by decide +kernel))
theorem d_MO_init_211 : decode b_MO_init 211 = .ok (.putfield 56, 3) := dc_181 (qU2_win (r := 5) wn_MO_init_206 (by decide +kernel))
theorem d_MO_init_214 : decode b_MO_init 214 = .ok (.aload_n 0, 1) := dc_42 (q0_win (r := 8) wn_MO_init_206 (by decide +kernel))
theorem d_MO_init_215 : decode b_MO_init 215 = .ok (.bipush 23, 2) := dc_16 (qS1_win (r := 9) wn_MO_init_206 (by decide +kernel))
theorem d_MO_init_217 : decode b_MO_init 217 = .ok (.newarray .int, 2) := by decide +kernel
theorem wn_MO_init_219 : ∀ i, i < 6 → bA b_MO_init (219 + i) = wB [181, 0, 60, 42, 16, 23] i := wB_of (by decide +kernel)
theorem d_MO_init_219 : decode b_MO_init 219 = .ok (.putfield 60, 3) := dc_181 (qU2_win (r := 0) wn_MO_init_219 (by decide +kernel))
theorem d_MO_init_222 : decode b_MO_init 222 = .ok (.aload_n 0, 1) := dc_42 (q0_win (r := 3) wn_MO_init_219 (by decide +kernel))
theorem d_MO_init_223 : decode b_MO_init 223 = .ok (.bipush 23, 2) := dc_16 (qS1_win (r := 4) wn_MO_init_219 (by decide +kernel))
theorem d_MO_init_225 : decode b_MO_init 225 = .ok (.newarray .int, 2) := by decide +kernel
theorem wn_MO_init_227 : ∀ i, i < 6 → bA b_MO_init (227 + i) = wB [181, 0, 63, 42, 16, 23] i := wB_of (by decide +kernel)
theorem d_MO_init_227 : decode b_MO_init 227 = .ok (.putfield 63, 3) := dc_181 (qU2_win (r := 0) wn_MO_init_227 (by decide +kernel))
theorem d_MO_init_230 : decode b_MO_init 230 = .ok (.aload_n 0, 1) := dc_42 (q0_win (r := 3) wn_MO_init_227 (by decide +kernel))
theorem d_MO_init_231 : decode b_MO_init 231 = .ok (.bipush 23, 2) := dc_16 (qS1_win (r := 4) wn_MO_init_227 (by decide +kernel))
theorem d_MO_init_233 : decode b_MO_init 233 = .ok (.newarray .int, 2) := by decide +kernel
theorem wn_MO_init_235 : ∀ i, i < 6 → bA b_MO_init (235 + i) = wB [181, 0, 66, 42, 16, 23] i := wB_of (by decide +kernel)
theorem d_MO_init_235 : decode b_MO_init 235 = .ok (.putfield 66, 3) := dc_181 (qU2_win (r := 0) wn_MO_init_235 (by decide +kernel))
theorem d_MO_init_238 : decode b_MO_init 238 = .ok (.aload_n 0, 1) := dc_42 (q0_win (r := 3) wn_MO_init_235 (by decide +kernel))
theorem d_MO_init_239 : decode b_MO_init 239 = .ok (.bipush 23, 2) := dc_16 (qS1_win (r := 4) wn_MO_init_235 (by decide +kernel))
theorem d_MO_init_241 : decode b_MO_init 241 = .ok (.newarray .long, 2) := by decide +kernel
theorem wn_MO_init_243 : ∀ i, i < 6 → bA b_MO_init (243 + i) = wB [181, 0, 69, 42, 16, 23] i := wB_of (by decide +kernel)
theorem d_MO_init_243 : decode b_MO_init 243 = .ok (.putfield 69, 3) := dc_181 (qU2_win (r := 0) wn_MO_init_243 (by decide +kernel))
theorem d_MO_init_246 : decode b_MO_init 246 = .ok (.aload_n 0, 1) := dc_42 (q0_win (r := 3) wn_MO_init_243 (by decide +kernel))
theorem d_MO_init_247 : decode b_MO_init 247 = .ok (.bipush 23, 2) := dc_16 (qS1_win (r := 4) wn_MO_init_243 (by decide +kernel))
theorem d_MO_init_249 : decode b_MO_init 249 = .ok (.newarray .long, 2) := by decide +kernel
theorem wn_MO_init_251 : ∀ i, i < 6 → bA b_MO_init (251 + i) = wB [181, 0, 73, 42, 16, 92] i := wB_of (by decide +kernel)
theorem d_MO_init_251 : decode b_MO_init 251 = .ok (.putfield 73, 3) := dc_181 (qU2_win (r := 0) wn_MO_init_251 (by decide +kernel))
theorem d_MO_init_254 : decode b_MO_init 254 = .ok (.aload_n 0, 1) := dc_42 (q0_win (r := 3) wn_MO_init_251 (by decide +kernel))
theorem d_MO_init_255 : decode b_MO_init 255 = .ok (.bipush 92, 2) := dc_16 (qS1_win (r := 4) wn_MO_init_251 (by decide +kernel))
theorem d_MO_init_257 : decode b_MO_init 257 = .ok (.newarray .int, 2) := by decide +kernel
theorem wn_MO_init_259 : ∀ i, i < 7 → bA b_MO_init (259 + i) = wB [181, 0, 76, 42, 17, 0, 184] i := wB_of (by decide +kernel)
theorem d_MO_init_259 : decode b_MO_init 259 = .ok (.putfield 76, 3) := dc_181 (qU2_win (r := 0) wn_MO_init_259 (by decide +kernel))
theorem d_MO_init_262 : decode b_MO_init 262 = .ok (.aload_n 0, 1) := dc_42 (q0_win (r := 3) wn_MO_init_259 (by decide +kernel))
theorem d_MO_init_263 : decode b_MO_init 263 = .ok (.sipush 184, 3) := dc_17 (qS2_win (r := 4) wn_MO_init_259 (by decide +kernel))
theorem d_MO_init_266 : decode b_MO_init 266 = .ok (.newarray .int, 2) := by decide +kernel
theorem wn_MO_init_268 : ∀ i, i < 7 → bA b_MO_init (268 + i) = wB [181, 0, 79, 42, 17, 0, 184] i := wB_of (by decide +kernel)
theorem d_MO_init_268 : decode b_MO_init 268 = .ok (.putfield 79, 3) := dc_181 (qU2_win (r := 0) wn_MO_init_268 (by decide +kernel))
theorem d_MO_init_271 : decode b_MO_init 271 = .ok (.aload_n 0, 1) := dc_42 (q0_win (r := 3) wn_MO_init_268 (by decide +kernel))
theorem d_MO_init_272 : decode b_MO_init 272 = .ok (.sipush 184, 3) := dc_17 (qS2_win (r := 4) wn_MO_init_268 (by decide +kernel))
theorem d_MO_init_275 : decode b_MO_init 275 = .ok (.newarray .int, 2) := by decide +kernel
theorem wn_MO_init_277 : ∀ i, i < 7 → bA b_MO_init (277 + i) = wB [181, 0, 82, 42, 17, 0, 184] i := wB_of (by decide +kernel)
theorem d_MO_init_277 : decode b_MO_init 277 = .ok (.putfield 82, 3) := dc_181 (qU2_win (r := 0) wn_MO_init_277 (by decide +kernel))
theorem d_MO_init_280 : decode b_MO_init 280 = .ok (.aload_n 0, 1) := dc_42 (q0_win (r := 3) wn_MO_init_277 (by decide +kernel))
theorem d_MO_init_281 : decode b_MO_init 281 = .ok (.sipush 184, 3) := dc_17 (qS2_win (r := 4) wn_MO_init_277 (by decide +kernel))
theorem d_MO_init_284 : decode b_MO_init 284 = .ok (.newarray .int, 2) := by decide +kernel
theorem wn_MO_init_286 : ∀ i, i < 7 → bA b_MO_init (286 + i) = wB [181, 0, 85, 42, 17, 1, 44] i := wB_of (by decide +kernel)
theorem d_MO_init_286 : decode b_MO_init 286 = .ok (.putfield 85, 3) := dc_181 (qU2_win (r := 0) wn_MO_init_286 (by decide +kernel))
theorem d_MO_init_289 : decode b_MO_init 289 = .ok (.aload_n 0, 1) := dc_42 (q0_win (r := 3) wn_MO_init_286 (by decide +kernel))
theorem d_MO_init_290 : decode b_MO_init 290 = .ok (.sipush 300, 3) := dc_17 (qS2_win (r := 4) wn_MO_init_286 (by decide +kernel))
theorem d_MO_init_293 : decode b_MO_init 293 = .ok (.newarray .int, 2) := by decide +kernel
theorem wn_MO_init_295 : ∀ i, i < 7 → bA b_MO_init (295 + i) = wB [181, 0, 88, 42, 17, 1, 44] i := wB_of (by decide +kernel)
theorem d_MO_init_295 : decode b_MO_init 295 = .ok (.putfield 88, 3) := dc_181 (qU2_win (r := 0) wn_MO_init_295 (by decide +kernel))
theorem d_MO_init_298 : decode b_MO_init 298 = .ok (.aload_n 0, 1) := dc_42 (q0_win (r := 3) wn_MO_init_295 (by decide +kernel))
theorem d_MO_init_299 : decode b_MO_init 299 = .ok (.sipush 300, 3) := dc_17 (qS2_win (r := 4) wn_MO_init_295 (by decide +kernel))
theorem d_MO_init_302 : decode b_MO_init 302 = .ok (.newarray .int, 2) := by decide +kernel
theorem wn_MO_init_304 : ∀ i, i < 7 → bA b_MO_init (304 + i) = wB [181, 0, 91, 42, 17, 1, 44] i := wB_of (by decide +kernel)
theorem d_MO_init_304 : decode b_MO_init 304 = .ok (.putfield 91, 3) := dc_181 (qU2_win (r := 0) wn_MO_init_304 (by decide +kernel))
theorem d_MO_init_307 : decode b_MO_init 307 = .ok (.aload_n 0, 1) := dc_42 (q0_win (r := 3) wn_MO_init_304 (by decide +kernel))
theorem d_MO_init_308 : decode b_MO_init 308 = .ok (.sipush 300, 3) := dc_17 (qS2_win (r := 4) wn_MO_init_304 (by decide +kernel))
theorem d_MO_init_311 : decode b_MO_init 311 = .ok (.newarray .int, 2) := by decide +kernel
theorem wn_MO_init_313 : ∀ i, i < 16 → bA b_MO_init (313 + i) = wB [181, 0, 94, 42, 2, 181, 0, 97, 42, 2, 181, 0, 100, 42, 16, 48] i := wB_of (by decide +kernel)
theorem d_MO_init_313 : decode b_MO_init 313 = .ok (.putfield 94, 3) := dc_181 (qU2_win (r := 0) wn_MO_init_313 (by decide +kernel))
theorem d_MO_init_316 : decode b_MO_init 316 = .ok (.aload_n 0, 1) := dc_42 (q0_win (r := 3) wn_MO_init_313 (by decide +kernel))
theorem d_MO_init_317 : decode b_MO_init 317 = .ok (.iconst (-1), 1) := dc_2 (q0_win (r := 4) wn_MO_init_313 (by decide +kernel))
theorem d_MO_init_318 : decode b_MO_init 318 = .ok (.putfield 97, 3) := dc_181 (qU2_win (r := 5) wn_MO_init_313 (by decide +kernel))
theorem d_MO_init_321 : decode b_MO_init 321 = .ok (.aload_n 0, 1) := dc_42 (q0_win (r := 8) wn_MO_init_313 (by decide +kernel))
theorem d_MO_init_322 : decode b_MO_init 322 = .ok (.iconst (-1), 1) := dc_2 (q0_win (r := 9) wn_MO_init_313 (by decide +kernel))
theorem d_MO_init_323 : decode b_MO_init 323 = .ok (.putfield 100, 3) := dc_181 (qU2_win (r := 10) wn_MO_init_313 (by decide +kernel))
theorem d_MO_init_326 : decode b_MO_init 326 = .ok (.aload_n 0, 1) := dc_42 (q0_win (r := 13) wn_MO_init_313 (by decide +kernel))
theorem d_MO_init_327 : decode b_MO_init 327 = .ok (.bipush 48, 2) := dc_16 (qS1_win (r := 14) wn_MO_init_313 (by decide +kernel))
theorem d_MO_init_329 : decode b_MO_init 329 = .ok (.newarray .int, 2) := by decide +kernel
theorem wn_MO_init_331 : ∀ i, i < 6 → bA b_MO_init (331 + i) = wB [181, 0, 103, 42, 16, 7] i := wB_of (by decide +kernel)
theorem d_MO_init_331 : decode b_MO_init 331 = .ok (.putfield 103, 3) := dc_181 (qU2_win (r := 0) wn_MO_init_331 (by decide +kernel))
theorem d_MO_init_334 : decode b_MO_init 334 = .ok (.aload_n 0, 1) := dc_42 (q0_win (r := 3) wn_MO_init_331 (by decide +kernel))
theorem d_MO_init_335 : decode b_MO_init 335 = .ok (.bipush 7, 2) := dc_16 (qS1_win (r := 4) wn_MO_init_331 (by decide +kernel))
theorem d_MO_init_337 : decode b_MO_init 337 = .ok (.newarray .long, 2) := by decide +kernel
theorem wn_MO_init_339 : ∀ i, i < 6 → bA b_MO_init (339 + i) = wB [181, 0, 106, 42, 16, 64] i := wB_of (by decide +kernel)
theorem d_MO_init_339 : decode b_MO_init 339 = .ok (.putfield 106, 3) := dc_181 (qU2_win (r := 0) wn_MO_init_339 (by decide +kernel))
theorem d_MO_init_342 : decode b_MO_init 342 = .ok (.aload_n 0, 1) := dc_42 (q0_win (r := 3) wn_MO_init_339 (by decide +kernel))
theorem d_MO_init_343 : decode b_MO_init 343 = .ok (.bipush 64, 2) := dc_16 (qS1_win (r := 4) wn_MO_init_339 (by decide +kernel))
theorem d_MO_init_345 : decode b_MO_init 345 = .ok (.newarray .long, 2) := by decide +kernel
theorem wn_MO_init_347 : ∀ i, i < 6 → bA b_MO_init (347 + i) = wB [181, 0, 109, 42, 16, 48] i := wB_of (by decide +kernel)
theorem d_MO_init_347 : decode b_MO_init 347 = .ok (.putfield 109, 3) := dc_181 (qU2_win (r := 0) wn_MO_init_347 (by decide +kernel))
theorem d_MO_init_350 : decode b_MO_init 350 = .ok (.aload_n 0, 1) := dc_42 (q0_win (r := 3) wn_MO_init_347 (by decide +kernel))
theorem d_MO_init_351 : decode b_MO_init 351 = .ok (.bipush 48, 2) := dc_16 (qS1_win (r := 4) wn_MO_init_347 (by decide +kernel))
theorem d_MO_init_353 : decode b_MO_init 353 = .ok (.newarray .int, 2) := by decide +kernel
theorem wn_MO_init_355 : ∀ i, i < 6 → bA b_MO_init (355 + i) = wB [181, 0, 112, 42, 16, 48] i := wB_of (by decide +kernel)
theorem d_MO_init_355 : decode b_MO_init 355 = .ok (.putfield 112, 3) := dc_181 (qU2_win (r := 0) wn_MO_init_355 (by decide +kernel))
theorem d_MO_init_358 : decode b_MO_init 358 = .ok (.aload_n 0, 1) := dc_42 (q0_win (r := 3) wn_MO_init_355 (by decide +kernel))
theorem d_MO_init_359 : decode b_MO_init 359 = .ok (.bipush 48, 2) := dc_16 (qS1_win (r := 4) wn_MO_init_355 (by decide +kernel))
theorem d_MO_init_361 : decode b_MO_init 361 = .ok (.newarray .int, 2) := by decide +kernel
theorem wn_MO_init_363 : ∀ i, i < 7 → bA b_MO_init (363 + i) = wB [181, 0, 115, 42, 17, 4, 0] i := wB_of (by decide +kernel)
theorem d_MO_init_363 : decode b_MO_init 363 = .ok (.putfield 115, 3) := dc_181 (qU2_win (r := 0) wn_MO_init_363 (by decide +kernel))
theorem d_MO_init_366 : decode b_MO_init 366 = .ok (.aload_n 0, 1) := dc_42 (q0_win (r := 3) wn_MO_init_363 (by decide +kernel))
theorem d_MO_init_367 : decode b_MO_init 367 = .ok (.sipush 1024, 3) := dc_17 (qS2_win (r := 4) wn_MO_init_363 (by decide +kernel))
theorem d_MO_init_370 : decode b_MO_init 370 = .ok (.newarray .int, 2) := by decide +kernel
theorem wn_MO_init_372 : ∀ i, i < 5 → bA b_MO_init (372 + i) = wB [181, 0, 118, 42, 7] i := wB_of (by decide +kernel)
theorem d_MO_init_372 : decode b_MO_init 372 = .ok (.putfield 118, 3) := dc_181 (qU2_win (r := 0) wn_MO_init_372 (by decide +kernel))
theorem d_MO_init_375 : decode b_MO_init 375 = .ok (.aload_n 0, 1) := dc_42 (q0_win (r := 3) wn_MO_init_372 (by decide +kernel))
theorem d_MO_init_376 : decode b_MO_init 376 = .ok (.iconst 4, 1) := dc_7 (q0_win (r := 4) wn_MO_init_372 (by decide +kernel))
theorem d_MO_init_377 : decode b_MO_init 377 = .ok (.newarray .int, 2) := by decide +kernel
theorem wn_MO_init_379 : ∀ i, i < 11 → bA b_MO_init (379 + i) = wB [181, 0, 121, 42, 2, 181, 0, 124, 42, 16, 24] i := wB_of (by decide +kernel)
theorem d_MO_init_379 : decode b_MO_init 379 = .ok (.putfield 121, 3) := dc_181 (qU2_win (r := 0) wn_MO_init_379 (by decide +kernel))
theorem d_MO_init_382 : decode b_MO_init 382 = .ok (.aload_n 0, 1) := dc_42 (q0_win (r := 3) wn_MO_init_379 (by decide +kernel))
theorem d_MO_init_383 : decode b_MO_init 383 = .ok (.iconst (-1), 1) := dc_2 (q0_win (r := 4) wn_MO_init_379 (by decide +kernel))
theorem d_MO_init_384 : decode b_MO_init 384 = .ok (.putfield 124, 3) := dc_181 (qU2_win (r := 5) wn_MO_init_379 (by decide +kernel))
theorem d_MO_init_387 : decode b_MO_init 387 = .ok (.aload_n 0, 1) := dc_42 (q0_win (r := 8) wn_MO_init_379 (by decide +kernel))
theorem d_MO_init_388 : decode b_MO_init 388 = .ok (.bipush 24, 2) := dc_16 (qS1_win (r := 9) wn_MO_init_379 (by decide +kernel))
theorem d_MO_init_390 : decode b_MO_init 390 = .ok (.newarray .int, 2) := by decide +kernel
theorem wn_MO_init_392 : ∀ i, i < 6 → bA b_MO_init (392 + i) = wB [181, 0, 127, 42, 16, 24] i := wB_of (by decide +kernel)
theorem d_MO_init_392 : decode b_MO_init 392 = .ok (.putfield 127, 3) := dc_181 (qU2_win (r := 0) wn_MO_init_392 (by decide +kernel))
theorem d_MO_init_395 : decode b_MO_init 395 = .ok (.aload_n 0, 1) := dc_42 (q0_win (r := 3) wn_MO_init_392 (by decide +kernel))
theorem d_MO_init_396 : decode b_MO_init 396 = .ok (.bipush 24, 2) := dc_16 (qS1_win (r := 4) wn_MO_init_392 (by decide +kernel))
theorem d_MO_init_398 : decode b_MO_init 398 = .ok (.newarray .int, 2) := by decide +kernel
theorem wn_MO_init_400 : ∀ i, i < 6 → bA b_MO_init (400 + i) = wB [181, 0, 130, 42, 16, 24] i := wB_of (by decide +kernel)
theorem d_MO_init_400 : decode b_MO_init 400 = .ok (.putfield 130, 3) := dc_181 (qU2_win (r := 0) wn_MO_init_400 (by decide +kernel))
theorem d_MO_init_403 : decode b_MO_init 403 = .ok (.aload_n 0, 1) := dc_42 (q0_win (r := 3) wn_MO_init_400 (by decide +kernel))
theorem d_MO_init_404 : decode b_MO_init 404 = .ok (.bipush 24, 2) := dc_16 (qS1_win (r := 4) wn_MO_init_400 (by decide +kernel))
theorem d_MO_init_406 : decode b_MO_init 406 = .ok (.newarray .boolean, 2) := by decide +kernel
theorem wn_MO_init_408 : ∀ i, i < 6 → bA b_MO_init (408 + i) = wB [181, 0, 133, 42, 16, 24] i := wB_of (by decide +kernel)
theorem d_MO_init_408 : decode b_MO_init 408 = .ok (.putfield 133, 3) := dc_181 (qU2_win (r := 0) wn_MO_init_408 (by decide +kernel))
theorem d_MO_init_411 : decode b_MO_init 411 = .ok (.aload_n 0, 1) := dc_42 (q0_win (r := 3) wn_MO_init_408 (by decide +kernel))
theorem d_MO_init_412 : decode b_MO_init 412 = .ok (.bipush 24, 2) := dc_16 (qS1_win (r := 4) wn_MO_init_408 (by decide +kernel))
theorem d_MO_init_414 : decode b_MO_init 414 = .ok (.newarray .boolean, 2) := by decide +kernel
theorem wn_MO_init_416 : ∀ i, i < 5 → bA b_MO_init (416 + i) = wB [181, 0, 136, 42, 7] i := wB_of (by decide +kernel)
theorem d_MO_init_416 : decode b_MO_init 416 = .ok (.putfield 136, 3) := dc_181 (qU2_win (r := 0) wn_MO_init_416 (by decide +kernel))
theorem d_MO_init_419 : decode b_MO_init 419 = .ok (.aload_n 0, 1) := dc_42 (q0_win (r := 3) wn_MO_init_416 (by decide +kernel))
theorem d_MO_init_420 : decode b_MO_init 420 = .ok (.iconst 4, 1) := dc_7 (q0_win (r := 4) wn_MO_init_416 (by decide +kernel))
theorem d_MO_init_421 : decode b_MO_init 421 = .ok (.newarray .int, 2) := by decide +kernel
theorem wn_MO_init_423 : ∀ i, i < 8 → bA b_MO_init (423 + i) = wB [181, 0, 139, 42, 182, 0, 142, 177] i := wB_of (by decide +kernel)
theorem d_MO_init_423 : decode b_MO_init 423 = .ok (.putfield 139, 3) := dc_181 (qU2_win (r := 0) wn_MO_init_423 (by decide +kernel))
theorem d_MO_init_426 : decode b_MO_init 426 = .ok (.aload_n 0, 1) := dc_42 (q0_win (r := 3) wn_MO_init_423 (by decide +kernel))
theorem d_MO_init_427 : decode b_MO_init 427 = .ok (.invokevirtual 142, 3) := dc_182 (qU2_win (r := 4) wn_MO_init_423 (by decide +kernel))
theorem d_MO_init_430 : decode b_MO_init 430 = .ok (.return_, 1) := dc_177 (q0_win (r := 7) wn_MO_init_423 (by decide +kernel))
def gc_MO (G : Nat → Int → Int) : Nat → Int → Int := (uI (uI (uI (uI (uI (uI (uI (uI (uI (uI (uI (uI (uI (uI (uI (uI (uI (uI (uI (uI (uI (uI (uI (uI (uI (uI (uI (uI (uI (uI (uI (uI (uI (uI (uI (uI (uI (uI (uI G 191 1 (192 : Nat)) 191 3 (193 : Nat)) 191 4 (194 : Nat)) 191 5 (195 : Nat)) 191 6 (196 : Nat)) 191 7 (197 : Nat)) 191 8 (198 : Nat)) 191 9 (199 : Nat)) 191 10 (200 : Nat)) 191 11 (201 : Nat)) 191 12 (202 : Nat)) 191 13 (203 : Nat)) 191 14 (204 : Nat)) 191 15 (205 : Nat)) 191 16 (206 : Nat)) 191 30 (207 : Nat)) 191 31 (208 : Nat)) 191 32 (209 : Nat)) 191 33 (210 : Nat)) 191 34 (211 : Nat)) 191 35 (212 : Nat)) 191 36 (213 : Nat)) 191 37 (214 : Nat)) 191 38 (215 : Nat)) 191 39 (216 : Nat)) 191 40 (217 : Nat)) 191 41 (218 : Nat)) 191 51 (219 : Nat)) 191 52 (220 : Nat)) 191 53 (221 : Nat)) 191 55 (222 : Nat)) 191 56 (223 : Nat)) 191 58 (224 : Nat)) 191 59 (225 : Nat)) 191 62 (226 : Nat)) 191 63 (227 : Nat)) 191 64 (228 : Nat)) 191 65 (229 : Nat)) 191 67 (230 : Nat))
set_option maxHeartbeats 8000000 in
set_option maxRecDepth 100000 in
def t_MO_init (M : Mem) : Option (Mem) := (qlet (setI M 193 0 4) fun M1 => (qlet (setI M1 193 1 4) fun M2 => (qlet (setI M2 193 2 0) fun M3 => (qlet (setI M3 193 3 0) fun M4 => (qlet (setI M4 193 4 0) fun M5 => (qlet (setI M5 193 5 0) fun M6 => (qlet (setI M6 193 6 0) fun M7 => (qlet (setI M7 193 7 0) fun M8 => (qlet (setI M8 193 8 0) fun M9 => (qlet (setI M9 193 9 4) fun M10 => (qlet (setI M10 193 10 4) fun M11 => (qlet (setI M11 193 11 0) fun M12 => (qlet (setI M12 193 12 0) fun M13 => (qlet (setI M13 193 13 0) fun M14 => (qlet (setI M14 193 14 0) fun M15 => (qlet (setI M15 193 15 0) fun M16 => (qlet (setI M16 193 16 0) fun M17 => (qlet (setI M17 193 17 0) fun M18 => (qlet (setI M18 191 27 (-1)) fun M19 => (qlet (setI M19 191 44 (-1)) fun M20 => (qlet (setI M20 191 45 (-1)) fun M21 => (qlet (setI M21 191 61 (-1)) fun M22 => (obind (t_MO_begins M22) fun q501 => (some q501))))))))))))))))))))))))
def moSl : List Nat := [1, 3, 4, 5, 6, 7, 8, 9, 10, 11, 12, 13, 14, 15, 16, 30, 31, 32, 33, 34, 35, 36, 37, 38, 39, 40, 41, 51, 52, 53, 55, 56, 58, 59, 62, 63, 64, 65, 67]
theorem mo_G1 (G : Nat → Int → Int) : ∀ j ∈ moSl, GF 191 (j : Int) = gc_MO G 191 (j : Int) := List.forall_mem_cons.mpr ⟨rfl, List.forall_mem_cons.mpr ⟨rfl, List.forall_mem_cons.mpr ⟨rfl, List.forall_mem_cons.mpr ⟨rfl, List.forall_mem_cons.mpr ⟨rfl, List.forall_mem_cons.mpr ⟨rfl, List.forall_mem_cons.mpr ⟨rfl, List.forall_mem_cons.mpr ⟨rfl, List.forall_mem_cons.mpr ⟨rfl, List.forall_mem_cons.mpr ⟨rfl, List.forall_mem_cons.mpr ⟨rfl, List.forall_mem_cons.mpr ⟨rfl, List.forall_mem_cons.mpr ⟨rfl, List.forall_mem_cons.mpr ⟨rfl, List.forall_mem_cons.mpr ⟨rfl, List.forall_mem_cons.mpr ⟨rfl, List.forall_mem_cons.mpr ⟨rfl, List.forall_mem_cons.mpr ⟨rfl, List.forall_mem_cons.mpr ⟨rfl, List.forall_mem_cons.mpr ⟨rfl, List.forall_mem_cons.mpr ⟨rfl, List.forall_mem_cons.mpr ⟨rfl, List.forall_mem_cons.mpr ⟨rfl, List.forall_mem_cons.mpr ⟨rfl, List.forall_mem_cons.mpr ⟨rfl, List.forall_mem_cons.mpr ⟨rfl, List.forall_mem_cons.mpr ⟨rfl, List.forall_mem_cons.mpr ⟨rfl, List.forall_mem_cons.mpr ⟨rfl, List.forall_mem_cons.mpr ⟨rfl, List.forall_mem_cons.mpr ⟨rfl, List.forall_mem_cons.mpr ⟨rfl, List.forall_mem_cons.mpr ⟨rfl, List.forall_mem_cons.mpr ⟨rfl, List.forall_mem_cons.mpr ⟨rfl, List.forall_mem_cons.mpr ⟨rfl, List.forall_mem_cons.mpr ⟨rfl, List.forall_mem_cons.mpr ⟨rfl, List.forall_mem_cons.mpr ⟨rfl, fun _ h => absurd h List.not_mem_nil⟩⟩⟩⟩⟩⟩⟩⟩⟩⟩⟩⟩⟩⟩⟩⟩⟩⟩⟩⟩⟩⟩⟩⟩⟩⟩⟩⟩⟩⟩⟩⟩⟩⟩⟩⟩⟩⟩⟩
theorem mo_G2b : ∀ k, k < 231 → ∀ j, j < 68 → (!(decide (191 ≤ k) && refS k j) || (k == 191 && moSl.contains j)) = true := by decide +kernel
theorem mo_G2 : ∀ k, k < 231 → 191 ≤ k → ∀ j, j < 68 → refS k j = true → k = 191 ∧ j ∈ moSl := by
  intro k hk hk1 j hj hq
  have h := mo_G2b k hk j hj
  rw [decide_eq_true hk1, hq] at h
  simpa using h
theorem mo_G3 {G : Nat → Int → Int} {k : Nat} {j : Int} (h : k ≠ 191) : gc_MO G k j = G k j := by simp only [gc_MO, uI, if_neg h]
set_option maxHeartbeats 16000000 in
set_option maxRecDepth 100000 in
theorem cc_MO (l : Launch) {b : Nat} {C : CT} (G : Nat → Int → Int) (M : Mem) (hG : ∀ k, k < 191 → ∀ j, GM M k j = G k j) (res : Mem) (hT : t_MO_init M = some res) : CC l b C 1 39 4344 y_MO_init b_MO_init 1 [.ref (b + 191)] 192 G M (QV b C 231 res) := by
  refine CC.of (ow := "WardFallsModel") (by decide) rfl rfl (Nat.le_of_ble_eq_true rfl) (fun p e s m below meth c F hlk hr hin hS ls hl => ?_)
  have hl : lv_has ls 1 [(0, .ref (b + 191))] := hl
  unfold t_MO_init at hT
  refine lv_aload_n F.1.hx F.1.hb d_MO_init_0 rfl (lv_at hl 0 rfl) ?_
  refine W.objInit F.1.hx F.1.hb F.1.hown (F.1.hts mw_1384) (F.1.hts mw_33) (F.1.hts mw_34) rfl (by rw [F.1.hml]; exact hl.1) rfl d_MO_init_1 (Nat.le_of_ble_eq_true rfl) (Nat.le_of_ble_eq_true rfl) ?_
  refine W.eq (g2 := F0 m 4 ls []) rfl ?_
  refine lv_aload_n F.1.hx F.1.hb d_MO_init_4 rfl (lv_at hl 0 rfl) ?_
  refine r_sipush F.1.hx F.1.hb d_MO_init_5 rfl ?_
  refine r0_newa (a := 0) (N := 700) (ty := .int) (atype := .int) F hS rfl rfl (by decide) rfl rfl rfl rfl mw_86 rfl (by decide) (by decide) (Nat.le_of_ble_eq_true rfl) (Nat.le_of_ble_eq_true rfl) d_MO_init_8 (fun H hS => ?_)
  replace hS : St0 b C 193 G M s _ _ := hS
  refine r0_putR (t := 192) (N := 68) (T := T1) (j := 1) F hin hS (show 191 < 193 by decide) rfl rfl rfl (Nat.le_of_ble_eq_true rfl) ing1 tyok1 nm1 rfl rfl rfl rfl rfl mw_1390 d_MO_init_10 (fun H locs hS => ?_)
  obtain ⟨G1, eG1⟩ : ∃ q, q = (uI G 191 1 (192 : Nat)) := ⟨_, rfl⟩
  replace hS : St0 b C 193 G1 M s H locs := by rw [eG1]; exact hS
  refine lv_aload_n F.1.hx F.1.hb d_MO_init_13 rfl (lv_at hl 0 rfl) ?_
  refine r_bipush F.1.hx F.1.hb d_MO_init_14 rfl ?_
  refine r0_newa (a := 0) (N := 18) (ty := .int) (atype := .int) F hS rfl rfl (by decide) rfl rfl rfl rfl mw_86 rfl (by decide) (by decide) (Nat.le_of_ble_eq_true rfl) (Nat.le_of_ble_eq_true rfl) d_MO_init_16 (fun H hS => ?_)
  replace hS : St0 b C 194 G1 M s _ _ := hS
  refine lv_dup F.1.hx F.1.hb d_MO_init_18 rfl ?_
  refine r_iconst F.1.hx F.1.hb d_MO_init_19 ?_
  refine r_iconst F.1.hx F.1.hb d_MO_init_20 ?_
  refine r0_iast (N := 18) F hS (show 193 < 194 by decide) rfl rfl (inr_c rfl) (inr_c rfl) (by decide) (by decide) d_MO_init_21 (fun H locs hS => ?_)
  obtain ⟨M1, eM1⟩ : ∃ q, q = (setI M 193 0 4) := ⟨_, rfl⟩
  replace hS : St0 b C 194 G1 M1 s H locs := by rw [eM1]; exact hS
  replace hT := qlet_eq hT eM1
  refine lv_dup F.1.hx F.1.hb d_MO_init_22 rfl ?_
  refine r_iconst F.1.hx F.1.hb d_MO_init_23 ?_
  refine r_iconst F.1.hx F.1.hb d_MO_init_24 ?_
  refine r0_iast (N := 18) F hS (show 193 < 194 by decide) rfl rfl (inr_c rfl) (inr_c rfl) (by decide) (by decide) d_MO_init_25 (fun H locs hS => ?_)
  obtain ⟨M2, eM2⟩ : ∃ q, q = (setI M1 193 1 4) := ⟨_, rfl⟩
  replace hS : St0 b C 194 G1 M2 s H locs := by rw [eM2]; exact hS
  replace hT := qlet_eq hT eM2
  refine lv_dup F.1.hx F.1.hb d_MO_init_26 rfl ?_
  refine r_iconst F.1.hx F.1.hb d_MO_init_27 ?_
  refine r_iconst F.1.hx F.1.hb d_MO_init_28 ?_
  refine r0_iast (N := 18) F hS (show 193 < 194 by decide) rfl rfl (inr_c rfl) (inr_c rfl) (by decide) (by decide) d_MO_init_29 (fun H locs hS => ?_)
  obtain ⟨M3, eM3⟩ : ∃ q, q = (setI M2 193 2 0) := ⟨_, rfl⟩
  replace hS : St0 b C 194 G1 M3 s H locs := by rw [eM3]; exact hS
  replace hT := qlet_eq hT eM3
  refine lv_dup F.1.hx F.1.hb d_MO_init_30 rfl ?_
  refine r_iconst F.1.hx F.1.hb d_MO_init_31 ?_
  refine r_iconst F.1.hx F.1.hb d_MO_init_32 ?_
  refine r0_iast (N := 18) F hS (show 193 < 194 by decide) rfl rfl (inr_c rfl) (inr_c rfl) (by decide) (by decide) d_MO_init_33 (fun H locs hS => ?_)
  obtain ⟨M4, eM4⟩ : ∃ q, q = (setI M3 193 3 0) := ⟨_, rfl⟩
  replace hS : St0 b C 194 G1 M4 s H locs := by rw [eM4]; exact hS
  replace hT := qlet_eq hT eM4
  refine lv_dup F.1.hx F.1.hb d_MO_init_34 rfl ?_
  refine r_iconst F.1.hx F.1.hb d_MO_init_35 ?_
  refine r_iconst F.1.hx F.1.hb d_MO_init_36 ?_
  refine r0_iast (N := 18) F hS (show 193 < 194 by decide) rfl rfl (inr_c rfl) (inr_c rfl) (by decide) (by decide) d_MO_init_37 (fun H locs hS => ?_)
  obtain ⟨M5, eM5⟩ : ∃ q, q = (setI M4 193 4 0) := ⟨_, rfl⟩
  replace hS : St0 b C 194 G1 M5 s H locs := by rw [eM5]; exact hS
  replace hT := qlet_eq hT eM5
  refine lv_dup F.1.hx F.1.hb d_MO_init_38 rfl ?_
  refine r_iconst F.1.hx F.1.hb d_MO_init_39 ?_
  refine r_iconst F.1.hx F.1.hb d_MO_init_40 ?_
  refine r0_iast (N := 18) F hS (show 193 < 194 by decide) rfl rfl (inr_c rfl) (inr_c rfl) (by decide) (by decide) d_MO_init_41 (fun H locs hS => ?_)
  obtain ⟨M6, eM6⟩ : ∃ q, q = (setI M5 193 5 0) := ⟨_, rfl⟩
  replace hS : St0 b C 194 G1 M6 s H locs := by rw [eM6]; exact hS
  replace hT := qlet_eq hT eM6
  refine lv_dup F.1.hx F.1.hb d_MO_init_42 rfl ?_
  refine r_bipush F.1.hx F.1.hb d_MO_init_43 rfl ?_
  refine r_iconst F.1.hx F.1.hb d_MO_init_45 ?_
  refine r0_iast (N := 18) F hS (show 193 < 194 by decide) rfl rfl (inr_c rfl) (inr_c rfl) (by decide) (by decide) d_MO_init_46 (fun H locs hS => ?_)
  obtain ⟨M7, eM7⟩ : ∃ q, q = (setI M6 193 6 0) := ⟨_, rfl⟩
  replace hS : St0 b C 194 G1 M7 s H locs := by rw [eM7]; exact hS
  replace hT := qlet_eq hT eM7
  refine lv_dup F.1.hx F.1.hb d_MO_init_47 rfl ?_
  refine r_bipush F.1.hx F.1.hb d_MO_init_48 rfl ?_
  refine r_iconst F.1.hx F.1.hb d_MO_init_50 ?_
  refine r0_iast (N := 18) F hS (show 193 < 194 by decide) rfl rfl (inr_c rfl) (inr_c rfl) (by decide) (by decide) d_MO_init_51 (fun H locs hS => ?_)
  obtain ⟨M8, eM8⟩ : ∃ q, q = (setI M7 193 7 0) := ⟨_, rfl⟩
  replace hS : St0 b C 194 G1 M8 s H locs := by rw [eM8]; exact hS
  replace hT := qlet_eq hT eM8
  refine lv_dup F.1.hx F.1.hb d_MO_init_52 rfl ?_
  refine r_bipush F.1.hx F.1.hb d_MO_init_53 rfl ?_
  refine r_iconst F.1.hx F.1.hb d_MO_init_55 ?_
  refine r0_iast (N := 18) F hS (show 193 < 194 by decide) rfl rfl (inr_c rfl) (inr_c rfl) (by decide) (by decide) d_MO_init_56 (fun H locs hS => ?_)
  obtain ⟨M9, eM9⟩ : ∃ q, q = (setI M8 193 8 0) := ⟨_, rfl⟩
  replace hS : St0 b C 194 G1 M9 s H locs := by rw [eM9]; exact hS
  replace hT := qlet_eq hT eM9
  refine lv_dup F.1.hx F.1.hb d_MO_init_57 rfl ?_
  refine r_bipush F.1.hx F.1.hb d_MO_init_58 rfl ?_
  refine r_iconst F.1.hx F.1.hb d_MO_init_60 ?_
  refine r0_iast (N := 18) F hS (show 193 < 194 by decide) rfl rfl (inr_c rfl) (inr_c rfl) (by decide) (by decide) d_MO_init_61 (fun H locs hS => ?_)
  obtain ⟨M10, eM10⟩ : ∃ q, q = (setI M9 193 9 4) := ⟨_, rfl⟩
  replace hS : St0 b C 194 G1 M10 s H locs := by rw [eM10]; exact hS
  replace hT := qlet_eq hT eM10
  refine lv_dup F.1.hx F.1.hb d_MO_init_62 rfl ?_
  refine r_bipush F.1.hx F.1.hb d_MO_init_63 rfl ?_
  refine r_iconst F.1.hx F.1.hb d_MO_init_65 ?_
  refine r0_iast (N := 18) F hS (show 193 < 194 by decide) rfl rfl (inr_c rfl) (inr_c rfl) (by decide) (by decide) d_MO_init_66 (fun H locs hS => ?_)
  obtain ⟨M11, eM11⟩ : ∃ q, q = (setI M10 193 10 4) := ⟨_, rfl⟩
  replace hS : St0 b C 194 G1 M11 s H locs := by rw [eM11]; exact hS
  replace hT := qlet_eq hT eM11
  refine lv_dup F.1.hx F.1.hb d_MO_init_67 rfl ?_
  refine r_bipush F.1.hx F.1.hb d_MO_init_68 rfl ?_
  refine r_iconst F.1.hx F.1.hb d_MO_init_70 ?_
  refine r0_iast (N := 18) F hS (show 193 < 194 by decide) rfl rfl (inr_c rfl) (inr_c rfl) (by decide) (by decide) d_MO_init_71 (fun H locs hS => ?_)
  obtain ⟨M12, eM12⟩ : ∃ q, q = (setI M11 193 11 0) := ⟨_, rfl⟩
  replace hS : St0 b C 194 G1 M12 s H locs := by rw [eM12]; exact hS
  replace hT := qlet_eq hT eM12
  refine lv_dup F.1.hx F.1.hb d_MO_init_72 rfl ?_
  refine r_bipush F.1.hx F.1.hb d_MO_init_73 rfl ?_
  refine r_iconst F.1.hx F.1.hb d_MO_init_75 ?_
  refine r0_iast (N := 18) F hS (show 193 < 194 by decide) rfl rfl (inr_c rfl) (inr_c rfl) (by decide) (by decide) d_MO_init_76 (fun H locs hS => ?_)
  obtain ⟨M13, eM13⟩ : ∃ q, q = (setI M12 193 12 0) := ⟨_, rfl⟩
  replace hS : St0 b C 194 G1 M13 s H locs := by rw [eM13]; exact hS
  replace hT := qlet_eq hT eM13
  refine lv_dup F.1.hx F.1.hb d_MO_init_77 rfl ?_
  refine r_bipush F.1.hx F.1.hb d_MO_init_78 rfl ?_
  refine r_iconst F.1.hx F.1.hb d_MO_init_80 ?_
  refine r0_iast (N := 18) F hS (show 193 < 194 by decide) rfl rfl (inr_c rfl) (inr_c rfl) (by decide) (by decide) d_MO_init_81 (fun H locs hS => ?_)
  obtain ⟨M14, eM14⟩ : ∃ q, q = (setI M13 193 13 0) := ⟨_, rfl⟩
  replace hS : St0 b C 194 G1 M14 s H locs := by rw [eM14]; exact hS
  replace hT := qlet_eq hT eM14
  refine lv_dup F.1.hx F.1.hb d_MO_init_82 rfl ?_
  refine r_bipush F.1.hx F.1.hb d_MO_init_83 rfl ?_
  refine r_iconst F.1.hx F.1.hb d_MO_init_85 ?_
  refine r0_iast (N := 18) F hS (show 193 < 194 by decide) rfl rfl (inr_c rfl) (inr_c rfl) (by decide) (by decide) d_MO_init_86 (fun H locs hS => ?_)
  obtain ⟨M15, eM15⟩ : ∃ q, q = (setI M14 193 14 0) := ⟨_, rfl⟩
  replace hS : St0 b C 194 G1 M15 s H locs := by rw [eM15]; exact hS
  replace hT := qlet_eq hT eM15
  refine lv_dup F.1.hx F.1.hb d_MO_init_87 rfl ?_
  refine r_bipush F.1.hx F.1.hb d_MO_init_88 rfl ?_
  refine r_iconst F.1.hx F.1.hb d_MO_init_90 ?_
  refine r0_iast (N := 18) F hS (show 193 < 194 by decide) rfl rfl (inr_c rfl) (inr_c rfl) (by decide) (by decide) d_MO_init_91 (fun H locs hS => ?_)
  obtain ⟨M16, eM16⟩ : ∃ q, q = (setI M15 193 15 0) := ⟨_, rfl⟩
  replace hS : St0 b C 194 G1 M16 s H locs := by rw [eM16]; exact hS
  replace hT := qlet_eq hT eM16
  refine lv_dup F.1.hx F.1.hb d_MO_init_92 rfl ?_
  refine r_bipush F.1.hx F.1.hb d_MO_init_93 rfl ?_
  refine r_iconst F.1.hx F.1.hb d_MO_init_95 ?_
  refine r0_iast (N := 18) F hS (show 193 < 194 by decide) rfl rfl (inr_c rfl) (inr_c rfl) (by decide) (by decide) d_MO_init_96 (fun H locs hS => ?_)
  obtain ⟨M17, eM17⟩ : ∃ q, q = (setI M16 193 16 0) := ⟨_, rfl⟩
  replace hS : St0 b C 194 G1 M17 s H locs := by rw [eM17]; exact hS
  replace hT := qlet_eq hT eM17
  refine lv_dup F.1.hx F.1.hb d_MO_init_97 rfl ?_
  refine r_bipush F.1.hx F.1.hb d_MO_init_98 rfl ?_
  refine r_iconst F.1.hx F.1.hb d_MO_init_100 ?_
  refine r0_iast (N := 18) F hS (show 193 < 194 by decide) rfl rfl (inr_c rfl) (inr_c rfl) (by decide) (by decide) d_MO_init_101 (fun H locs hS => ?_)
  obtain ⟨M18, eM18⟩ : ∃ q, q = (setI M17 193 17 0) := ⟨_, rfl⟩
  replace hS : St0 b C 194 G1 M18 s H locs := by rw [eM18]; exact hS
  replace hT := qlet_eq hT eM18
  refine r0_putR (t := 193) (N := 68) (T := T1) (j := 3) F hin hS (show 191 < 194 by decide) rfl rfl rfl (Nat.le_of_ble_eq_true rfl) ing1 tyok1 nm1 rfl rfl rfl rfl rfl mw_1392 d_MO_init_102 (fun H locs hS => ?_)
  obtain ⟨G2, eG2⟩ : ∃ q, q = (uI G1 191 3 (193 : Nat)) := ⟨_, rfl⟩
  replace hS : St0 b C 194 G2 M18 s H locs := by rw [eG2]; exact hS
  refine lv_aload_n F.1.hx F.1.hb d_MO_init_105 rfl (lv_at hl 0 rfl) ?_
  refine r_bipush F.1.hx F.1.hb d_MO_init_106 rfl ?_
  refine r0_newa (a := 0) (N := 8) (ty := .int) (atype := .int) F hS rfl rfl (by decide) rfl rfl rfl rfl mw_86 rfl (by decide) (by decide) (Nat.le_of_ble_eq_true rfl) (Nat.le_of_ble_eq_true rfl) d_MO_init_108 (fun H hS => ?_)
  replace hS : St0 b C 195 G2 M18 s _ _ := hS
  refine r0_putR (t := 194) (N := 68) (T := T1) (j := 4) F hin hS (show 191 < 195 by decide) rfl rfl rfl (Nat.le_of_ble_eq_true rfl) ing1 tyok1 nm1 rfl rfl rfl rfl rfl mw_1393 d_MO_init_110 (fun H locs hS => ?_)
  obtain ⟨G3, eG3⟩ : ∃ q, q = (uI G2 191 4 (194 : Nat)) := ⟨_, rfl⟩
  replace hS : St0 b C 195 G3 M18 s H locs := by rw [eG3]; exact hS
  refine lv_aload_n F.1.hx F.1.hb d_MO_init_113 rfl (lv_at hl 0 rfl) ?_
  refine r_bipush F.1.hx F.1.hb d_MO_init_114 rfl ?_
  refine r0_newa (a := 0) (N := 8) (ty := .int) (atype := .int) F hS rfl rfl (by decide) rfl rfl rfl rfl mw_86 rfl (by decide) (by decide) (Nat.le_of_ble_eq_true rfl) (Nat.le_of_ble_eq_true rfl) d_MO_init_116 (fun H hS => ?_)
  replace hS : St0 b C 196 G3 M18 s _ _ := hS
  refine r0_putR (t := 195) (N := 68) (T := T1) (j := 5) F hin hS (show 191 < 196 by decide) rfl rfl rfl (Nat.le_of_ble_eq_true rfl) ing1 tyok1 nm1 rfl rfl rfl rfl rfl mw_1394 d_MO_init_118 (fun H locs hS => ?_)
  obtain ⟨G4, eG4⟩ : ∃ q, q = (uI G3 191 5 (195 : Nat)) := ⟨_, rfl⟩
  replace hS : St0 b C 196 G4 M18 s H locs := by rw [eG4]; exact hS
  refine lv_aload_n F.1.hx F.1.hb d_MO_init_121 rfl (lv_at hl 0 rfl) ?_
  refine r_bipush F.1.hx F.1.hb d_MO_init_122 rfl ?_
  refine r0_newa (a := 0) (N := 8) (ty := .int) (atype := .int) F hS rfl rfl (by decide) rfl rfl rfl rfl mw_86 rfl (by decide) (by decide) (Nat.le_of_ble_eq_true rfl) (Nat.le_of_ble_eq_true rfl) d_MO_init_124 (fun H hS => ?_)
  replace hS : St0 b C 197 G4 M18 s _ _ := hS
  refine r0_putR (t := 196) (N := 68) (T := T1) (j := 6) F hin hS (show 191 < 197 by decide) rfl rfl rfl (Nat.le_of_ble_eq_true rfl) ing1 tyok1 nm1 rfl rfl rfl rfl rfl mw_1395 d_MO_init_126 (fun H locs hS => ?_)
  obtain ⟨G5, eG5⟩ : ∃ q, q = (uI G4 191 6 (196 : Nat)) := ⟨_, rfl⟩
  replace hS : St0 b C 197 G5 M18 s H locs := by rw [eG5]; exact hS
  refine lv_aload_n F.1.hx F.1.hb d_MO_init_129 rfl (lv_at hl 0 rfl) ?_
  refine r_bipush F.1.hx F.1.hb d_MO_init_130 rfl ?_
  refine r0_newa (a := 0) (N := 96) (ty := .int) (atype := .int) F hS rfl rfl (by decide) rfl rfl rfl rfl mw_86 rfl (by decide) (by decide) (Nat.le_of_ble_eq_true rfl) (Nat.le_of_ble_eq_true rfl) d_MO_init_132 (fun H hS => ?_)
  replace hS : St0 b C 198 G5 M18 s _ _ := hS
  refine r0_putR (t := 197) (N := 68) (T := T1) (j := 7) F hin hS (show 191 < 198 by decide) rfl rfl rfl (Nat.le_of_ble_eq_true rfl) ing1 tyok1 nm1 rfl rfl rfl rfl rfl mw_1396 d_MO_init_134 (fun H locs hS => ?_)
  obtain ⟨G6, eG6⟩ : ∃ q, q = (uI G5 191 7 (197 : Nat)) := ⟨_, rfl⟩
  replace hS : St0 b C 198 G6 M18 s H locs := by rw [eG6]; exact hS
  refine lv_aload_n F.1.hx F.1.hb d_MO_init_137 rfl (lv_at hl 0 rfl) ?_
  refine r_bipush F.1.hx F.1.hb d_MO_init_138 rfl ?_
  refine r0_newa (a := 1) (N := 96) (ty := .boolean) (atype := .boolean) F hS rfl rfl (by decide) rfl rfl rfl rfl mw_1594 rfl (by decide) (by decide) (Nat.le_of_ble_eq_true rfl) (Nat.le_of_ble_eq_true rfl) d_MO_init_140 (fun H hS => ?_)
  replace hS : St0 b C 199 G6 M18 s _ _ := hS
  refine r0_putR (t := 198) (N := 68) (T := T1) (j := 8) F hin hS (show 191 < 199 by decide) rfl rfl rfl (Nat.le_of_ble_eq_true rfl) ing1 tyok1 nm1 rfl rfl rfl rfl rfl mw_1397 d_MO_init_142 (fun H locs hS => ?_)
  obtain ⟨G7, eG7⟩ : ∃ q, q = (uI G6 191 8 (198 : Nat)) := ⟨_, rfl⟩
  replace hS : St0 b C 199 G7 M18 s H locs := by rw [eG7]; exact hS
  refine lv_aload_n F.1.hx F.1.hb d_MO_init_145 rfl (lv_at hl 0 rfl) ?_
  refine r_bipush F.1.hx F.1.hb d_MO_init_146 rfl ?_
  refine r0_newa (a := 1) (N := 96) (ty := .boolean) (atype := .boolean) F hS rfl rfl (by decide) rfl rfl rfl rfl mw_1594 rfl (by decide) (by decide) (Nat.le_of_ble_eq_true rfl) (Nat.le_of_ble_eq_true rfl) d_MO_init_148 (fun H hS => ?_)
  replace hS : St0 b C 200 G7 M18 s _ _ := hS
  refine r0_putR (t := 199) (N := 68) (T := T1) (j := 9) F hin hS (show 191 < 200 by decide) rfl rfl rfl (Nat.le_of_ble_eq_true rfl) ing1 tyok1 nm1 rfl rfl rfl rfl rfl mw_1398 d_MO_init_150 (fun H locs hS => ?_)
  obtain ⟨G8, eG8⟩ : ∃ q, q = (uI G7 191 9 (199 : Nat)) := ⟨_, rfl⟩
  replace hS : St0 b C 200 G8 M18 s H locs := by rw [eG8]; exact hS
  refine lv_aload_n F.1.hx F.1.hb d_MO_init_153 rfl (lv_at hl 0 rfl) ?_
  refine r_bipush F.1.hx F.1.hb d_MO_init_154 rfl ?_
  refine r0_newa (a := 0) (N := 16) (ty := .int) (atype := .int) F hS rfl rfl (by decide) rfl rfl rfl rfl mw_86 rfl (by decide) (by decide) (Nat.le_of_ble_eq_true rfl) (Nat.le_of_ble_eq_true rfl) d_MO_init_156 (fun H hS => ?_)
  replace hS : St0 b C 201 G8 M18 s _ _ := hS
  refine r0_putR (t := 200) (N := 68) (T := T1) (j := 10) F hin hS (show 191 < 201 by decide) rfl rfl rfl (Nat.le_of_ble_eq_true rfl) ing1 tyok1 nm1 rfl rfl rfl rfl rfl mw_1399 d_MO_init_158 (fun H locs hS => ?_)
  obtain ⟨G9, eG9⟩ : ∃ q, q = (uI G8 191 10 (200 : Nat)) := ⟨_, rfl⟩
  replace hS : St0 b C 201 G9 M18 s H locs := by rw [eG9]; exact hS
  refine lv_aload_n F.1.hx F.1.hb d_MO_init_161 rfl (lv_at hl 0 rfl) ?_
  refine r_bipush F.1.hx F.1.hb d_MO_init_162 rfl ?_
  refine r0_newa (a := 0) (N := 16) (ty := .int) (atype := .int) F hS rfl rfl (by decide) rfl rfl rfl rfl mw_86 rfl (by decide) (by decide) (Nat.le_of_ble_eq_true rfl) (Nat.le_of_ble_eq_true rfl) d_MO_init_164 (fun H hS => ?_)
  replace hS : St0 b C 202 G9 M18 s _ _ := hS
  refine r0_putR (t := 201) (N := 68) (T := T1) (j := 11) F hin hS (show 191 < 202 by decide) rfl rfl rfl (Nat.le_of_ble_eq_true rfl) ing1 tyok1 nm1 rfl rfl rfl rfl rfl mw_1400 d_MO_init_166 (fun H locs hS => ?_)
  obtain ⟨G10, eG10⟩ : ∃ q, q = (uI G9 191 11 (201 : Nat)) := ⟨_, rfl⟩
  replace hS : St0 b C 202 G10 M18 s H locs := by rw [eG10]; exact hS
  refine lv_aload_n F.1.hx F.1.hb d_MO_init_169 rfl (lv_at hl 0 rfl) ?_
  refine r_bipush F.1.hx F.1.hb d_MO_init_170 rfl ?_
  refine r0_newa (a := 0) (N := 16) (ty := .int) (atype := .int) F hS rfl rfl (by decide) rfl rfl rfl rfl mw_86 rfl (by decide) (by decide) (Nat.le_of_ble_eq_true rfl) (Nat.le_of_ble_eq_true rfl) d_MO_init_172 (fun H hS => ?_)
  replace hS : St0 b C 203 G10 M18 s _ _ := hS
  refine r0_putR (t := 202) (N := 68) (T := T1) (j := 12) F hin hS (show 191 < 203 by decide) rfl rfl rfl (Nat.le_of_ble_eq_true rfl) ing1 tyok1 nm1 rfl rfl rfl rfl rfl mw_1401 d_MO_init_174 (fun H locs hS => ?_)
  obtain ⟨G11, eG11⟩ : ∃ q, q = (uI G10 191 12 (202 : Nat)) := ⟨_, rfl⟩
  replace hS : St0 b C 203 G11 M18 s H locs := by rw [eG11]; exact hS
  refine lv_aload_n F.1.hx F.1.hb d_MO_init_177 rfl (lv_at hl 0 rfl) ?_
  refine r_iconst F.1.hx F.1.hb d_MO_init_178 ?_
  refine r0_newa (a := 0) (N := 4) (ty := .int) (atype := .int) F hS rfl rfl (by decide) rfl rfl rfl rfl mw_86 rfl (by decide) (by decide) (Nat.le_of_ble_eq_true rfl) (Nat.le_of_ble_eq_true rfl) d_MO_init_179 (fun H hS => ?_)
  replace hS : St0 b C 204 G11 M18 s _ _ := hS
  refine r0_putR (t := 203) (N := 68) (T := T1) (j := 13) F hin hS (show 191 < 204 by decide) rfl rfl rfl (Nat.le_of_ble_eq_true rfl) ing1 tyok1 nm1 rfl rfl rfl rfl rfl mw_1402 d_MO_init_181 (fun H locs hS => ?_)
  obtain ⟨G12, eG12⟩ : ∃ q, q = (uI G11 191 13 (203 : Nat)) := ⟨_, rfl⟩
  replace hS : St0 b C 204 G12 M18 s H locs := by rw [eG12]; exact hS
  refine lv_aload_n F.1.hx F.1.hb d_MO_init_184 rfl (lv_at hl 0 rfl) ?_
  refine r_iconst F.1.hx F.1.hb d_MO_init_185 ?_
  refine r0_newa (a := 0) (N := 4) (ty := .int) (atype := .int) F hS rfl rfl (by decide) rfl rfl rfl rfl mw_86 rfl (by decide) (by decide) (Nat.le_of_ble_eq_true rfl) (Nat.le_of_ble_eq_true rfl) d_MO_init_186 (fun H hS => ?_)
  replace hS : St0 b C 205 G12 M18 s _ _ := hS
  refine r0_putR (t := 204) (N := 68) (T := T1) (j := 14) F hin hS (show 191 < 205 by decide) rfl rfl rfl (Nat.le_of_ble_eq_true rfl) ing1 tyok1 nm1 rfl rfl rfl rfl rfl mw_1403 d_MO_init_188 (fun H locs hS => ?_)
  obtain ⟨G13, eG13⟩ : ∃ q, q = (uI G12 191 14 (204 : Nat)) := ⟨_, rfl⟩
  replace hS : St0 b C 205 G13 M18 s H locs := by rw [eG13]; exact hS
  refine lv_aload_n F.1.hx F.1.hb d_MO_init_191 rfl (lv_at hl 0 rfl) ?_
  refine r_sipush F.1.hx F.1.hb d_MO_init_192 rfl ?_
  refine r0_newa (a := 0) (N := 128) (ty := .int) (atype := .int) F hS rfl rfl (by decide) rfl rfl rfl rfl mw_86 rfl (by decide) (by decide) (Nat.le_of_ble_eq_true rfl) (Nat.le_of_ble_eq_true rfl) d_MO_init_195 (fun H hS => ?_)
  replace hS : St0 b C 206 G13 M18 s _ _ := hS
  refine r0_putR (t := 205) (N := 68) (T := T1) (j := 15) F hin hS (show 191 < 206 by decide) rfl rfl rfl (Nat.le_of_ble_eq_true rfl) ing1 tyok1 nm1 rfl rfl rfl rfl rfl mw_1404 d_MO_init_197 (fun H locs hS => ?_)
  obtain ⟨G14, eG14⟩ : ∃ q, q = (uI G13 191 15 (205 : Nat)) := ⟨_, rfl⟩
  replace hS : St0 b C 206 G14 M18 s H locs := by rw [eG14]; exact hS
  refine lv_aload_n F.1.hx F.1.hb d_MO_init_200 rfl (lv_at hl 0 rfl) ?_
  refine r_sipush F.1.hx F.1.hb d_MO_init_201 rfl ?_
  refine r0_newa (a := 0) (N := 128) (ty := .int) (atype := .int) F hS rfl rfl (by decide) rfl rfl rfl rfl mw_86 rfl (by decide) (by decide) (Nat.le_of_ble_eq_true rfl) (Nat.le_of_ble_eq_true rfl) d_MO_init_204 (fun H hS => ?_)
  replace hS : St0 b C 207 G14 M18 s _ _ := hS
  refine r0_putR (t := 206) (N := 68) (T := T1) (j := 16) F hin hS (show 191 < 207 by decide) rfl rfl rfl (Nat.le_of_ble_eq_true rfl) ing1 tyok1 nm1 rfl rfl rfl rfl rfl mw_1405 d_MO_init_206 (fun H locs hS => ?_)
  obtain ⟨G15, eG15⟩ : ∃ q, q = (uI G14 191 16 (206 : Nat)) := ⟨_, rfl⟩
  replace hS : St0 b C 207 G15 M18 s H locs := by rw [eG15]; exact hS
  refine lv_aload_n F.1.hx F.1.hb d_MO_init_209 rfl (lv_at hl 0 rfl) ?_
  refine r_iconst F.1.hx F.1.hb d_MO_init_210 ?_
  refine r0_putI (v := (-1)) (N := 68) (T := T1) (j := 27) F hin hS (show 191 < 207 by decide) rfl rfl rfl (Nat.le_of_ble_eq_true rfl) ing1 tyok1 nm1 rfl rfl rfl rfl rfl rfl (inr_c rfl) mw_1416 d_MO_init_211 (fun H locs hS => ?_)
  obtain ⟨M19, eM19⟩ : ∃ q, q = (setI M18 191 27 (-1)) := ⟨_, rfl⟩
  replace hS : St0 b C 207 G15 M19 s H locs := by rw [eM19]; exact hS
  replace hT := qlet_eq hT eM19
  refine lv_aload_n F.1.hx F.1.hb d_MO_init_214 rfl (lv_at hl 0 rfl) ?_
  refine r_bipush F.1.hx F.1.hb d_MO_init_215 rfl ?_
  refine r0_newa (a := 0) (N := 23) (ty := .int) (atype := .int) F hS rfl rfl (by decide) rfl rfl rfl rfl mw_86 rfl (by decide) (by decide) (Nat.le_of_ble_eq_true rfl) (Nat.le_of_ble_eq_true rfl) d_MO_init_217 (fun H hS => ?_)
  replace hS : St0 b C 208 G15 M19 s _ _ := hS
  refine r0_putR (t := 207) (N := 68) (T := T1) (j := 30) F hin hS (show 191 < 208 by decide) rfl rfl rfl (Nat.le_of_ble_eq_true rfl) ing1 tyok1 nm1 rfl rfl rfl rfl rfl mw_1419 d_MO_init_219 (fun H locs hS => ?_)
  obtain ⟨G16, eG16⟩ : ∃ q, q = (uI G15 191 30 (207 : Nat)) := ⟨_, rfl⟩
  replace hS : St0 b C 208 G16 M19 s H locs := by rw [eG16]; exact hS
  refine lv_aload_n F.1.hx F.1.hb d_MO_init_222 rfl (lv_at hl 0 rfl) ?_
  refine r_bipush F.1.hx F.1.hb d_MO_init_223 rfl ?_
  refine r0_newa (a := 0) (N := 23) (ty := .int) (atype := .int) F hS rfl rfl (by decide) rfl rfl rfl rfl mw_86 rfl (by decide) (by decide) (Nat.le_of_ble_eq_true rfl) (Nat.le_of_ble_eq_true rfl) d_MO_init_225 (fun H hS => ?_)
  replace hS : St0 b C 209 G16 M19 s _ _ := hS
  refine r0_putR (t := 208) (N := 68) (T := T1) (j := 31) F hin hS (show 191 < 209 by decide) rfl rfl rfl (Nat.le_of_ble_eq_true rfl) ing1 tyok1 nm1 rfl rfl rfl rfl rfl mw_1420 d_MO_init_227 (fun H locs hS => ?_)
  obtain ⟨G17, eG17⟩ : ∃ q, q = (uI G16 191 31 (208 : Nat)) := ⟨_, rfl⟩
  replace hS : St0 b C 209 G17 M19 s H locs := by rw [eG17]; exact hS
  refine lv_aload_n F.1.hx F.1.hb d_MO_init_230 rfl (lv_at hl 0 rfl) ?_
  refine r_bipush F.1.hx F.1.hb d_MO_init_231 rfl ?_
  refine r0_newa (a := 0) (N := 23) (ty := .int) (atype := .int) F hS rfl rfl (by decide) rfl rfl rfl rfl mw_86 rfl (by decide) (by decide) (Nat.le_of_ble_eq_true rfl) (Nat.le_of_ble_eq_true rfl) d_MO_init_233 (fun H hS => ?_)
  replace hS : St0 b C 210 G17 M19 s _ _ := hS
  refine r0_putR (t := 209) (N := 68) (T := T1) (j := 32) F hin hS (show 191 < 210 by decide) rfl rfl rfl (Nat.le_of_ble_eq_true rfl) ing1 tyok1 nm1 rfl rfl rfl rfl rfl mw_1421 d_MO_init_235 (fun H locs hS => ?_)
  obtain ⟨G18, eG18⟩ : ∃ q, q = (uI G17 191 32 (209 : Nat)) := ⟨_, rfl⟩
  replace hS : St0 b C 210 G18 M19 s H locs := by rw [eG18]; exact hS
  refine lv_aload_n F.1.hx F.1.hb d_MO_init_238 rfl (lv_at hl 0 rfl) ?_
  refine r_bipush F.1.hx F.1.hb d_MO_init_239 rfl ?_
  refine r0_newa (a := 2) (N := 23) (ty := .long) (atype := .long) F hS rfl rfl (by decide) rfl rfl rfl rfl mw_87 rfl (by decide) (by decide) (Nat.le_of_ble_eq_true rfl) (Nat.le_of_ble_eq_true rfl) d_MO_init_241 (fun H hS => ?_)
  replace hS : St0 b C 211 G18 M19 s _ _ := hS
  refine r0_putR (t := 210) (N := 68) (T := T1) (j := 33) F hin hS (show 191 < 211 by decide) rfl rfl rfl (Nat.le_of_ble_eq_true rfl) ing1 tyok1 nm1 rfl rfl rfl rfl rfl mw_1422 d_MO_init_243 (fun H locs hS => ?_)
  obtain ⟨G19, eG19⟩ : ∃ q, q = (uI G18 191 33 (210 : Nat)) := ⟨_, rfl⟩
  replace hS : St0 b C 211 G19 M19 s H locs := by rw [eG19]; exact hS
  refine lv_aload_n F.1.hx F.1.hb d_MO_init_246 rfl (lv_at hl 0 rfl) ?_
  refine r_bipush F.1.hx F.1.hb d_MO_init_247 rfl ?_
  refine r0_newa (a := 2) (N := 23) (ty := .long) (atype := .long) F hS rfl rfl (by decide) rfl rfl rfl rfl mw_87 rfl (by decide) (by decide) (Nat.le_of_ble_eq_true rfl) (Nat.le_of_ble_eq_true rfl) d_MO_init_249 (fun H hS => ?_)
  replace hS : St0 b C 212 G19 M19 s _ _ := hS
  refine r0_putR (t := 211) (N := 68) (T := T1) (j := 34) F hin hS (show 191 < 212 by decide) rfl rfl rfl (Nat.le_of_ble_eq_true rfl) ing1 tyok1 nm1 rfl rfl rfl rfl rfl mw_1423 d_MO_init_251 (fun H locs hS => ?_)
  obtain ⟨G20, eG20⟩ : ∃ q, q = (uI G19 191 34 (211 : Nat)) := ⟨_, rfl⟩
  replace hS : St0 b C 212 G20 M19 s H locs := by rw [eG20]; exact hS
  refine lv_aload_n F.1.hx F.1.hb d_MO_init_254 rfl (lv_at hl 0 rfl) ?_
  refine r_bipush F.1.hx F.1.hb d_MO_init_255 rfl ?_
  refine r0_newa (a := 0) (N := 92) (ty := .int) (atype := .int) F hS rfl rfl (by decide) rfl rfl rfl rfl mw_86 rfl (by decide) (by decide) (Nat.le_of_ble_eq_true rfl) (Nat.le_of_ble_eq_true rfl) d_MO_init_257 (fun H hS => ?_)
  replace hS : St0 b C 213 G20 M19 s _ _ := hS
  refine r0_putR (t := 212) (N := 68) (T := T1) (j := 35) F hin hS (show 191 < 213 by decide) rfl rfl rfl (Nat.le_of_ble_eq_true rfl) ing1 tyok1 nm1 rfl rfl rfl rfl rfl mw_1424 d_MO_init_259 (fun H locs hS => ?_)
  obtain ⟨G21, eG21⟩ : ∃ q, q = (uI G20 191 35 (212 : Nat)) := ⟨_, rfl⟩
  replace hS : St0 b C 213 G21 M19 s H locs := by rw [eG21]; exact hS
  refine lv_aload_n F.1.hx F.1.hb d_MO_init_262 rfl (lv_at hl 0 rfl) ?_
  refine r_sipush F.1.hx F.1.hb d_MO_init_263 rfl ?_
  refine r0_newa (a := 0) (N := 184) (ty := .int) (atype := .int) F hS rfl rfl (by decide) rfl rfl rfl rfl mw_86 rfl (by decide) (by decide) (Nat.le_of_ble_eq_true rfl) (Nat.le_of_ble_eq_true rfl) d_MO_init_266 (fun H hS => ?_)
  replace hS : St0 b C 214 G21 M19 s _ _ := hS
  refine r0_putR (t := 213) (N := 68) (T := T1) (j := 36) F hin hS (show 191 < 214 by decide) rfl rfl rfl (Nat.le_of_ble_eq_true rfl) ing1 tyok1 nm1 rfl rfl rfl rfl rfl mw_1425 d_MO_init_268 (fun H locs hS => ?_)
  obtain ⟨G22, eG22⟩ : ∃ q, q = (uI G21 191 36 (213 : Nat)) := ⟨_, rfl⟩
  replace hS : St0 b C 214 G22 M19 s H locs := by rw [eG22]; exact hS
  refine lv_aload_n F.1.hx F.1.hb d_MO_init_271 rfl (lv_at hl 0 rfl) ?_
  refine r_sipush F.1.hx F.1.hb d_MO_init_272 rfl ?_
  refine r0_newa (a := 0) (N := 184) (ty := .int) (atype := .int) F hS rfl rfl (by decide) rfl rfl rfl rfl mw_86 rfl (by decide) (by decide) (Nat.le_of_ble_eq_true rfl) (Nat.le_of_ble_eq_true rfl) d_MO_init_275 (fun H hS => ?_)
  replace hS : St0 b C 215 G22 M19 s _ _ := hS
  refine r0_putR (t := 214) (N := 68) (T := T1) (j := 37) F hin hS (show 191 < 215 by decide) rfl rfl rfl (Nat.le_of_ble_eq_true rfl) ing1 tyok1 nm1 rfl rfl rfl rfl rfl mw_1426 d_MO_init_277 (fun H locs hS => ?_)
  obtain ⟨G23, eG23⟩ : ∃ q, q = (uI G22 191 37 (214 : Nat)) := ⟨_, rfl⟩
  replace hS : St0 b C 215 G23 M19 s H locs := by rw [eG23]; exact hS
  refine lv_aload_n F.1.hx F.1.hb d_MO_init_280 rfl (lv_at hl 0 rfl) ?_
  refine r_sipush F.1.hx F.1.hb d_MO_init_281 rfl ?_
  refine r0_newa (a := 0) (N := 184) (ty := .int) (atype := .int) F hS rfl rfl (by decide) rfl rfl rfl rfl mw_86 rfl (by decide) (by decide) (Nat.le_of_ble_eq_true rfl) (Nat.le_of_ble_eq_true rfl) d_MO_init_284 (fun H hS => ?_)
  replace hS : St0 b C 216 G23 M19 s _ _ := hS
  refine r0_putR (t := 215) (N := 68) (T := T1) (j := 38) F hin hS (show 191 < 216 by decide) rfl rfl rfl (Nat.le_of_ble_eq_true rfl) ing1 tyok1 nm1 rfl rfl rfl rfl rfl mw_1427 d_MO_init_286 (fun H locs hS => ?_)
  obtain ⟨G24, eG24⟩ : ∃ q, q = (uI G23 191 38 (215 : Nat)) := ⟨_, rfl⟩
  replace hS : St0 b C 216 G24 M19 s H locs := by rw [eG24]; exact hS
  refine lv_aload_n F.1.hx F.1.hb d_MO_init_289 rfl (lv_at hl 0 rfl) ?_
  refine r_sipush F.1.hx F.1.hb d_MO_init_290 rfl ?_
  refine r0_newa (a := 0) (N := 300) (ty := .int) (atype := .int) F hS rfl rfl (by decide) rfl rfl rfl rfl mw_86 rfl (by decide) (by decide) (Nat.le_of_ble_eq_true rfl) (Nat.le_of_ble_eq_true rfl) d_MO_init_293 (fun H hS => ?_)
  replace hS : St0 b C 217 G24 M19 s _ _ := hS
  refine r0_putR (t := 216) (N := 68) (T := T1) (j := 39) F hin hS (show 191 < 217 by decide) rfl rfl rfl (Nat.le_of_ble_eq_true rfl) ing1 tyok1 nm1 rfl rfl rfl rfl rfl mw_1428 d_MO_init_295 (fun H locs hS => ?_)
  obtain ⟨G25, eG25⟩ : ∃ q, q = (uI G24 191 39 (216 : Nat)) := ⟨_, rfl⟩
  replace hS : St0 b C 217 G25 M19 s H locs := by rw [eG25]; exact hS
  refine lv_aload_n F.1.hx F.1.hb d_MO_init_298 rfl (lv_at hl 0 rfl) ?_
  refine r_sipush F.1.hx F.1.hb d_MO_init_299 rfl ?_
  refine r0_newa (a := 0) (N := 300) (ty := .int) (atype := .int) F hS rfl rfl (by decide) rfl rfl rfl rfl mw_86 rfl (by decide) (by decide) (Nat.le_of_ble_eq_true rfl) (Nat.le_of_ble_eq_true rfl) d_MO_init_302 (fun H hS => ?_)
  replace hS : St0 b C 218 G25 M19 s _ _ := hS
  refine r0_putR (t := 217) (N := 68) (T := T1) (j := 40) F hin hS (show 191 < 218 by decide) rfl rfl rfl (Nat.le_of_ble_eq_true rfl) ing1 tyok1 nm1 rfl rfl rfl rfl rfl mw_1429 d_MO_init_304 (fun H locs hS => ?_)
  obtain ⟨G26, eG26⟩ : ∃ q, q = (uI G25 191 40 (217 : Nat)) := ⟨_, rfl⟩
  replace hS : St0 b C 218 G26 M19 s H locs := by rw [eG26]; exact hS
  refine lv_aload_n F.1.hx F.1.hb d_MO_init_307 rfl (lv_at hl 0 rfl) ?_
  refine r_sipush F.1.hx F.1.hb d_MO_init_308 rfl ?_
  refine r0_newa (a := 0) (N := 300) (ty := .int) (atype := .int) F hS rfl rfl (by decide) rfl rfl rfl rfl mw_86 rfl (by decide) (by decide) (Nat.le_of_ble_eq_true rfl) (Nat.le_of_ble_eq_true rfl) d_MO_init_311 (fun H hS => ?_)
  replace hS : St0 b C 219 G26 M19 s _ _ := hS
  refine r0_putR (t := 218) (N := 68) (T := T1) (j := 41) F hin hS (show 191 < 219 by decide) rfl rfl rfl (Nat.le_of_ble_eq_true rfl) ing1 tyok1 nm1 rfl rfl rfl rfl rfl mw_1430 d_MO_init_313 (fun H locs hS => ?_)
  obtain ⟨G27, eG27⟩ : ∃ q, q = (uI G26 191 41 (218 : Nat)) := ⟨_, rfl⟩
  replace hS : St0 b C 219 G27 M19 s H locs := by rw [eG27]; exact hS
  refine lv_aload_n F.1.hx F.1.hb d_MO_init_316 rfl (lv_at hl 0 rfl) ?_
  refine r_iconst F.1.hx F.1.hb d_MO_init_317 ?_
  refine r0_putI (v := (-1)) (N := 68) (T := T1) (j := 44) F hin hS (show 191 < 219 by decide) rfl rfl rfl (Nat.le_of_ble_eq_true rfl) ing1 tyok1 nm1 rfl rfl rfl rfl rfl rfl (inr_c rfl) mw_1433 d_MO_init_318 (fun H locs hS => ?_)
  obtain ⟨M20, eM20⟩ : ∃ q, q = (setI M19 191 44 (-1)) := ⟨_, rfl⟩
  replace hS : St0 b C 219 G27 M20 s H locs := by rw [eM20]; exact hS
  replace hT := qlet_eq hT eM20
  refine lv_aload_n F.1.hx F.1.hb d_MO_init_321 rfl (lv_at hl 0 rfl) ?_
  refine r_iconst F.1.hx F.1.hb d_MO_init_322 ?_
  refine r0_putI (v := (-1)) (N := 68) (T := T1) (j := 45) F hin hS (show 191 < 219 by decide) rfl rfl rfl (Nat.le_of_ble_eq_true rfl) ing1 tyok1 nm1 rfl rfl rfl rfl rfl rfl (inr_c rfl) mw_1434 d_MO_init_323 (fun H locs hS => ?_)
  obtain ⟨M21, eM21⟩ : ∃ q, q = (setI M20 191 45 (-1)) := ⟨_, rfl⟩
  replace hS : St0 b C 219 G27 M21 s H locs := by rw [eM21]; exact hS
  replace hT := qlet_eq hT eM21
  refine lv_aload_n F.1.hx F.1.hb d_MO_init_326 rfl (lv_at hl 0 rfl) ?_
  refine r_bipush F.1.hx F.1.hb d_MO_init_327 rfl ?_
  refine r0_newa (a := 0) (N := 48) (ty := .int) (atype := .int) F hS rfl rfl (by decide) rfl rfl rfl rfl mw_86 rfl (by decide) (by decide) (Nat.le_of_ble_eq_true rfl) (Nat.le_of_ble_eq_true rfl) d_MO_init_329 (fun H hS => ?_)
  replace hS : St0 b C 220 G27 M21 s _ _ := hS
  refine r0_putR (t := 219) (N := 68) (T := T1) (j := 51) F hin hS (show 191 < 220 by decide) rfl rfl rfl (Nat.le_of_ble_eq_true rfl) ing1 tyok1 nm1 rfl rfl rfl rfl rfl mw_1440 d_MO_init_331 (fun H locs hS => ?_)
  obtain ⟨G28, eG28⟩ : ∃ q, q = (uI G27 191 51 (219 : Nat)) := ⟨_, rfl⟩
  replace hS : St0 b C 220 G28 M21 s H locs := by rw [eG28]; exact hS
  refine lv_aload_n F.1.hx F.1.hb d_MO_init_334 rfl (lv_at hl 0 rfl) ?_
  refine r_bipush F.1.hx F.1.hb d_MO_init_335 rfl ?_
  refine r0_newa (a := 2) (N := 7) (ty := .long) (atype := .long) F hS rfl rfl (by decide) rfl rfl rfl rfl mw_87 rfl (by decide) (by decide) (Nat.le_of_ble_eq_true rfl) (Nat.le_of_ble_eq_true rfl) d_MO_init_337 (fun H hS => ?_)
  replace hS : St0 b C 221 G28 M21 s _ _ := hS
  refine r0_putR (t := 220) (N := 68) (T := T1) (j := 52) F hin hS (show 191 < 221 by decide) rfl rfl rfl (Nat.le_of_ble_eq_true rfl) ing1 tyok1 nm1 rfl rfl rfl rfl rfl mw_1441 d_MO_init_339 (fun H locs hS => ?_)
  obtain ⟨G29, eG29⟩ : ∃ q, q = (uI G28 191 52 (220 : Nat)) := ⟨_, rfl⟩
  replace hS : St0 b C 221 G29 M21 s H locs := by rw [eG29]; exact hS
  refine lv_aload_n F.1.hx F.1.hb d_MO_init_342 rfl (lv_at hl 0 rfl) ?_
  refine r_bipush F.1.hx F.1.hb d_MO_init_343 rfl ?_
  refine r0_newa (a := 2) (N := 64) (ty := .long) (atype := .long) F hS rfl rfl (by decide) rfl rfl rfl rfl mw_87 rfl (by decide) (by decide) (Nat.le_of_ble_eq_true rfl) (Nat.le_of_ble_eq_true rfl) d_MO_init_345 (fun H hS => ?_)
  replace hS : St0 b C 222 G29 M21 s _ _ := hS
  refine r0_putR (t := 221) (N := 68) (T := T1) (j := 53) F hin hS (show 191 < 222 by decide) rfl rfl rfl (Nat.le_of_ble_eq_true rfl) ing1 tyok1 nm1 rfl rfl rfl rfl rfl mw_1442 d_MO_init_347 (fun H locs hS => ?_)
  obtain ⟨G30, eG30⟩ : ∃ q, q = (uI G29 191 53 (221 : Nat)) := ⟨_, rfl⟩
  replace hS : St0 b C 222 G30 M21 s H locs := by rw [eG30]; exact hS
  refine lv_aload_n F.1.hx F.1.hb d_MO_init_350 rfl (lv_at hl 0 rfl) ?_
  refine r_bipush F.1.hx F.1.hb d_MO_init_351 rfl ?_
  refine r0_newa (a := 0) (N := 48) (ty := .int) (atype := .int) F hS rfl rfl (by decide) rfl rfl rfl rfl mw_86 rfl (by decide) (by decide) (Nat.le_of_ble_eq_true rfl) (Nat.le_of_ble_eq_true rfl) d_MO_init_353 (fun H hS => ?_)
  replace hS : St0 b C 223 G30 M21 s _ _ := hS
  refine r0_putR (t := 222) (N := 68) (T := T1) (j := 55) F hin hS (show 191 < 223 by decide) rfl rfl rfl (Nat.le_of_ble_eq_true rfl) ing1 tyok1 nm1 rfl rfl rfl rfl rfl mw_1444 d_MO_init_355 (fun H locs hS => ?_)
  obtain ⟨G31, eG31⟩ : ∃ q, q = (uI G30 191 55 (222 : Nat)) := ⟨_, rfl⟩
  replace hS : St0 b C 223 G31 M21 s H locs := by rw [eG31]; exact hS
  refine lv_aload_n F.1.hx F.1.hb d_MO_init_358 rfl (lv_at hl 0 rfl) ?_
  refine r_bipush F.1.hx F.1.hb d_MO_init_359 rfl ?_
  refine r0_newa (a := 0) (N := 48) (ty := .int) (atype := .int) F hS rfl rfl (by decide) rfl rfl rfl rfl mw_86 rfl (by decide) (by decide) (Nat.le_of_ble_eq_true rfl) (Nat.le_of_ble_eq_true rfl) d_MO_init_361 (fun H hS => ?_)
  replace hS : St0 b C 224 G31 M21 s _ _ := hS
  refine r0_putR (t := 223) (N := 68) (T := T1) (j := 56) F hin hS (show 191 < 224 by decide) rfl rfl rfl (Nat.le_of_ble_eq_true rfl) ing1 tyok1 nm1 rfl rfl rfl rfl rfl mw_1445 d_MO_init_363 (fun H locs hS => ?_)
  obtain ⟨G32, eG32⟩ : ∃ q, q = (uI G31 191 56 (223 : Nat)) := ⟨_, rfl⟩
  replace hS : St0 b C 224 G32 M21 s H locs := by rw [eG32]; exact hS
  refine lv_aload_n F.1.hx F.1.hb d_MO_init_366 rfl (lv_at hl 0 rfl) ?_
  refine r_sipush F.1.hx F.1.hb d_MO_init_367 rfl ?_
  refine r0_newa (a := 0) (N := 1024) (ty := .int) (atype := .int) F hS rfl rfl (by decide) rfl rfl rfl rfl mw_86 rfl (by decide) (by decide) (Nat.le_of_ble_eq_true rfl) (Nat.le_of_ble_eq_true rfl) d_MO_init_370 (fun H hS => ?_)
  replace hS : St0 b C 225 G32 M21 s _ _ := hS
  refine r0_putR (t := 224) (N := 68) (T := T1) (j := 58) F hin hS (show 191 < 225 by decide) rfl rfl rfl (Nat.le_of_ble_eq_true rfl) ing1 tyok1 nm1 rfl rfl rfl rfl rfl mw_1447 d_MO_init_372 (fun H locs hS => ?_)
  obtain ⟨G33, eG33⟩ : ∃ q, q = (uI G32 191 58 (224 : Nat)) := ⟨_, rfl⟩
  replace hS : St0 b C 225 G33 M21 s H locs := by rw [eG33]; exact hS
  refine lv_aload_n F.1.hx F.1.hb d_MO_init_375 rfl (lv_at hl 0 rfl) ?_
  refine r_iconst F.1.hx F.1.hb d_MO_init_376 ?_
  refine r0_newa (a := 0) (N := 4) (ty := .int) (atype := .int) F hS rfl rfl (by decide) rfl rfl rfl rfl mw_86 rfl (by decide) (by decide) (Nat.le_of_ble_eq_true rfl) (Nat.le_of_ble_eq_true rfl) d_MO_init_377 (fun H hS => ?_)
  replace hS : St0 b C 226 G33 M21 s _ _ := hS
  refine r0_putR (t := 225) (N := 68) (T := T1) (j := 59) F hin hS (show 191 < 226 by decide) rfl rfl rfl (Nat.le_of_ble_eq_true rfl) ing1 tyok1 nm1 rfl rfl rfl rfl rfl mw_1448 d_MO_init_379 (fun H locs hS => ?_)
  obtain ⟨G34, eG34⟩ : ∃ q, q = (uI G33 191 59 (225 : Nat)) := ⟨_, rfl⟩
  replace hS : St0 b C 226 G34 M21 s H locs := by rw [eG34]; exact hS
  refine lv_aload_n F.1.hx F.1.hb d_MO_init_382 rfl (lv_at hl 0 rfl) ?_
  refine r_iconst F.1.hx F.1.hb d_MO_init_383 ?_
  refine r0_putI (v := (-1)) (N := 68) (T := T1) (j := 61) F hin hS (show 191 < 226 by decide) rfl rfl rfl (Nat.le_of_ble_eq_true rfl) ing1 tyok1 nm1 rfl rfl rfl rfl rfl rfl (inr_c rfl) mw_1450 d_MO_init_384 (fun H locs hS => ?_)
  obtain ⟨M22, eM22⟩ : ∃ q, q = (setI M21 191 61 (-1)) := ⟨_, rfl⟩
  replace hS : St0 b C 226 G34 M22 s H locs := by rw [eM22]; exact hS
  replace hT := qlet_eq hT eM22
  refine lv_aload_n F.1.hx F.1.hb d_MO_init_387 rfl (lv_at hl 0 rfl) ?_
  refine r_bipush F.1.hx F.1.hb d_MO_init_388 rfl ?_
  refine r0_newa (a := 0) (N := 24) (ty := .int) (atype := .int) F hS rfl rfl (by decide) rfl rfl rfl rfl mw_86 rfl (by decide) (by decide) (Nat.le_of_ble_eq_true rfl) (Nat.le_of_ble_eq_true rfl) d_MO_init_390 (fun H hS => ?_)
  replace hS : St0 b C 227 G34 M22 s _ _ := hS
  refine r0_putR (t := 226) (N := 68) (T := T1) (j := 62) F hin hS (show 191 < 227 by decide) rfl rfl rfl (Nat.le_of_ble_eq_true rfl) ing1 tyok1 nm1 rfl rfl rfl rfl rfl mw_1451 d_MO_init_392 (fun H locs hS => ?_)
  obtain ⟨G35, eG35⟩ : ∃ q, q = (uI G34 191 62 (226 : Nat)) := ⟨_, rfl⟩
  replace hS : St0 b C 227 G35 M22 s H locs := by rw [eG35]; exact hS
  refine lv_aload_n F.1.hx F.1.hb d_MO_init_395 rfl (lv_at hl 0 rfl) ?_
  refine r_bipush F.1.hx F.1.hb d_MO_init_396 rfl ?_
  refine r0_newa (a := 0) (N := 24) (ty := .int) (atype := .int) F hS rfl rfl (by decide) rfl rfl rfl rfl mw_86 rfl (by decide) (by decide) (Nat.le_of_ble_eq_true rfl) (Nat.le_of_ble_eq_true rfl) d_MO_init_398 (fun H hS => ?_)
  replace hS : St0 b C 228 G35 M22 s _ _ := hS
  refine r0_putR (t := 227) (N := 68) (T := T1) (j := 63) F hin hS (show 191 < 228 by decide) rfl rfl rfl (Nat.le_of_ble_eq_true rfl) ing1 tyok1 nm1 rfl rfl rfl rfl rfl mw_1452 d_MO_init_400 (fun H locs hS => ?_)
  obtain ⟨G36, eG36⟩ : ∃ q, q = (uI G35 191 63 (227 : Nat)) := ⟨_, rfl⟩
  replace hS : St0 b C 228 G36 M22 s H locs := by rw [eG36]; exact hS
  refine lv_aload_n F.1.hx F.1.hb d_MO_init_403 rfl (lv_at hl 0 rfl) ?_
  refine r_bipush F.1.hx F.1.hb d_MO_init_404 rfl ?_
  refine r0_newa (a := 1) (N := 24) (ty := .boolean) (atype := .boolean) F hS rfl rfl (by decide) rfl rfl rfl rfl mw_1594 rfl (by decide) (by decide) (Nat.le_of_ble_eq_true rfl) (Nat.le_of_ble_eq_true rfl) d_MO_init_406 (fun H hS => ?_)
  replace hS : St0 b C 229 G36 M22 s _ _ := hS
  refine r0_putR (t := 228) (N := 68) (T := T1) (j := 64) F hin hS (show 191 < 229 by decide) rfl rfl rfl (Nat.le_of_ble_eq_true rfl) ing1 tyok1 nm1 rfl rfl rfl rfl rfl mw_1453 d_MO_init_408 (fun H locs hS => ?_)
  obtain ⟨G37, eG37⟩ : ∃ q, q = (uI G36 191 64 (228 : Nat)) := ⟨_, rfl⟩
  replace hS : St0 b C 229 G37 M22 s H locs := by rw [eG37]; exact hS
  refine lv_aload_n F.1.hx F.1.hb d_MO_init_411 rfl (lv_at hl 0 rfl) ?_
  refine r_bipush F.1.hx F.1.hb d_MO_init_412 rfl ?_
  refine r0_newa (a := 1) (N := 24) (ty := .boolean) (atype := .boolean) F hS rfl rfl (by decide) rfl rfl rfl rfl mw_1594 rfl (by decide) (by decide) (Nat.le_of_ble_eq_true rfl) (Nat.le_of_ble_eq_true rfl) d_MO_init_414 (fun H hS => ?_)
  replace hS : St0 b C 230 G37 M22 s _ _ := hS
  refine r0_putR (t := 229) (N := 68) (T := T1) (j := 65) F hin hS (show 191 < 230 by decide) rfl rfl rfl (Nat.le_of_ble_eq_true rfl) ing1 tyok1 nm1 rfl rfl rfl rfl rfl mw_1454 d_MO_init_416 (fun H locs hS => ?_)
  obtain ⟨G38, eG38⟩ : ∃ q, q = (uI G37 191 65 (229 : Nat)) := ⟨_, rfl⟩
  replace hS : St0 b C 230 G38 M22 s H locs := by rw [eG38]; exact hS
  refine lv_aload_n F.1.hx F.1.hb d_MO_init_419 rfl (lv_at hl 0 rfl) ?_
  refine r_iconst F.1.hx F.1.hb d_MO_init_420 ?_
  refine r0_newa (a := 0) (N := 4) (ty := .int) (atype := .int) F hS rfl rfl (by decide) rfl rfl rfl rfl mw_86 rfl (by decide) (by decide) (Nat.le_of_ble_eq_true rfl) (Nat.le_of_ble_eq_true rfl) d_MO_init_421 (fun H hS => ?_)
  replace hS : St0 b C 231 G38 M22 s _ _ := hS
  refine r0_putR (t := 230) (N := 68) (T := T1) (j := 67) F hin hS (show 191 < 231 by decide) rfl rfl rfl (Nat.le_of_ble_eq_true rfl) ing1 tyok1 nm1 rfl rfl rfl rfl rfl mw_1456 d_MO_init_423 (fun H locs hS => ?_)
  obtain ⟨G39, eG39⟩ : ∃ q, q = (uI G38 191 67 (230 : Nat)) := ⟨_, rfl⟩
  replace hS : St0 b C 231 G39 M22 s H locs := by rw [eG39]; exact hS
  have hGM : GM M22 = GM M := by rw [eM22, GM_uI rfl, eM21, GM_uI rfl, eM20, GM_uI rfl, eM19, GM_uI rfl, eM18, GM_uI rfl, eM17, GM_uI rfl, eM16, GM_uI rfl, eM15, GM_uI rfl, eM14, GM_uI rfl, eM13, GM_uI rfl, eM12, GM_uI rfl, eM11, GM_uI rfl, eM10, GM_uI rfl, eM9, GM_uI rfl, eM8, GM_uI rfl, eM7, GM_uI rfl, eM6, GM_uI rfl, eM5, GM_uI rfl, eM4, GM_uI rfl, eM3, GM_uI rfl, eM2, GM_uI rfl, eM1, GM_uI rfl]
  subst eG1 eG2 eG3 eG4 eG5 eG6 eG7 eG8 eG9 eG10 eG11 eG12 eG13 eG14 eG15 eG16 eG17 eG18 eG19 eG20 eG21 eG22 eG23 eG24 eG25 eG26 eG27 eG28 eG29 eG30 eG31 eG32 eG33 eG34 eG35 eG36 eG37 eG38 eG39
  have hS : St b C 231 M22 s H locs := hS.toSt2 (fun k hk j hj hq => by
    by_cases hk1 : k < 191
    · rw [hGM, hG k hk1]; exact (mo_G3 (G := G) (by omega)).symm
    · obtain ⟨rfl, hj2⟩ := mo_G2 k hk (by omega) j hj hq
      rw [gm_st rfl]; exact mo_G1 G j hj2)
  have F : Cx b p m c b_MO_init 1 s ([.ref (b + 191)] : List Value).toArray "WardFallsModel" C 231 231 := ⟨F.1.1, F.1.2.1, Nat.le_refl _, F.1.2.2.2⟩
  have hlo : 231 ≤ 231 := Nat.le_refl _
  refine lv_aload_n F.hx F.hb d_MO_init_426 rfl (lv_at hl 0 rfl) ?_
  obtain ⟨q501, hq501, hT⟩ := q_obind hT
  refine r_backV F hS (r_runV (k := 191) (N := 68) (T := T1) (As := []) F hS (show 191 < 231 by decide) (show shK 191 = 5 from rfl) rfl (c_MO_begins l F.2.2.1 M22 _ hq501) gs_MO_142 hd_MO_begins ⟨Nat.le_of_ble_eq_true rfl, Nat.le_of_ble_eq_true rfl⟩ rfl hl.1 (Nat.le_of_ble_eq_true rfl) ⟨Nat.le_of_ble_eq_true rfl, Nat.le_of_ble_eq_true rfl⟩ rfl d_MO_init_427) (fun H locs hS => ?_)
  cases hT
  exact r_vret F hlk hr hS d_MO_init_430
