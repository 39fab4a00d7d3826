theorem gm_st {M : Mem} {k : Nat} {j : Int} (hd : dyn k j = false) : GM M k j = GF k j := by unfold GM; rw [if_neg (by rw [hd]; decide)]
theorem fv_sg {b : Nat} {M : Mem} {ci k j t : Nat} (h1 : fk ci j = 2) (h2 : dyn k j = false) (h3 : GF k j = (t : Nat)) : fv b (GM M) M ci k j = .ref (b + t) := (fv_ref h1).trans (rv_pos t ((gm_st h2).trans h3))
theorem Chronicle_lt {k : Nat} (h : isChronicle k) : k < 191 := (by decide +kernel : ∀ k, k ∈ [62, 66] → k < 191) k h
theorem Chronicle_sh {k : Nat} (h : isChronicle k) : shK k = 6 := (by decide +kernel : ∀ k, k ∈ [62, 66] → shK k = 6) k h
theorem Chronicle_N {k : Nat} (h : isChronicle k) : shN k = 6 := (by decide +kernel : ∀ k, k ∈ [62, 66] → shN k = 6) k h
theorem Chronicle_dyn {k : Nat} (h : isChronicle k) (j : Int) : dyn k j = false := by
  have q := (by decide +kernel : ∀ k, k ∈ [62, 66] → (k == 0) = false ∧ (k == 46) = false) k h
  unfold dyn
  rw [q.1, q.2]
  rfl
theorem Chronicle_f0 {k : Nat} (h : isChronicle k) : arrP 0 (k + 1) 99 191 := (by decide +kernel : ∀ k, k ∈ [62, 66] → shK (k + 1) = 0 ∧ shN (k + 1) = 99 ∧ k + 1 < 191) k h
theorem Chronicle_g0 {b k : Nat} (h : isChronicle k) (M : Mem) : fv b (GM M) M 2 k 0 = .ref (b + (k + 1)) := fv_sg rfl (Chronicle_dyn h _) ((by decide +kernel : ∀ k, k ∈ [62, 66] → GF k ((0 : Nat) : Int) = ((k + 1 : Nat) : Int)) k h)
theorem Chronicle_f1 {k : Nat} (h : isChronicle k) : arrP 0 (k + 2) 99 191 := (by decide +kernel : ∀ k, k ∈ [62, 66] → shK (k + 2) = 0 ∧ shN (k + 2) = 99 ∧ k + 2 < 191) k h
theorem Chronicle_g1 {b k : Nat} (h : isChronicle k) (M : Mem) : fv b (GM M) M 2 k 1 = .ref (b + (k + 2)) := fv_sg rfl (Chronicle_dyn h _) ((by decide +kernel : ∀ k, k ∈ [62, 66] → GF k ((1 : Nat) : Int) = ((k + 2 : Nat) : Int)) k h)
theorem Chronicle_f2 {k : Nat} (h : isChronicle k) : arrP 0 (k + 3) 99 191 := (by decide +kernel : ∀ k, k ∈ [62, 66] → shK (k + 3) = 0 ∧ shN (k + 3) = 99 ∧ k + 3 < 191) k h
theorem Chronicle_g2 {b k : Nat} (h : isChronicle k) (M : Mem) : fv b (GM M) M 2 k 2 = .ref (b + (k + 3)) := fv_sg rfl (Chronicle_dyn h _) ((by decide +kernel : ∀ k, k ∈ [62, 66] → GF k ((2 : Nat) : Int) = ((k + 3 : Nat) : Int)) k h)
theorem Formula_lt {k : Nat} (h : isFormula k) : k < 191 := (by decide +kernel : ∀ k, k ∈ [12, 17, 32, 37] → k < 191) k h
theorem Formula_sh {k : Nat} (h : isFormula k) : shK k = 7 := (by decide +kernel : ∀ k, k ∈ [12, 17, 32, 37] → shK k = 7) k h
theorem Formula_N {k : Nat} (h : isFormula k) : shN k = 12 := (by decide +kernel : ∀ k, k ∈ [12, 17, 32, 37] → shN k = 12) k h
theorem Formula_dyn {k : Nat} (h : isFormula k) (j : Int) : dyn k j = false := by
  have q := (by decide +kernel : ∀ k, k ∈ [12, 17, 32, 37] → (k == 0) = false ∧ (k == 46) = false) k h
  unfold dyn
  rw [q.1, q.2]
  rfl
theorem Formula_f0 {k : Nat} (h : isFormula k) : arrP 0 (k + 1) 64 191 := (by decide +kernel : ∀ k, k ∈ [12, 17, 32, 37] → shK (k + 1) = 0 ∧ shN (k + 1) = 64 ∧ k + 1 < 191) k h
theorem Formula_g0 {b k : Nat} (h : isFormula k) (M : Mem) : fv b (GM M) M 3 k 0 = .ref (b + (k + 1)) := fv_sg rfl (Formula_dyn h _) ((by decide +kernel : ∀ k, k ∈ [12, 17, 32, 37] → GF k ((0 : Nat) : Int) = ((k + 1 : Nat) : Int)) k h)
theorem Formula_f1 {k : Nat} (h : isFormula k) : arrP 0 (k + 2) 64 191 := (by decide +kernel : ∀ k, k ∈ [12, 17, 32, 37] → shK (k + 2) = 0 ∧ shN (k + 2) = 64 ∧ k + 2 < 191) k h
theorem Formula_g1 {b k : Nat} (h : isFormula k) (M : Mem) : fv b (GM M) M 3 k 1 = .ref (b + (k + 2)) := fv_sg rfl (Formula_dyn h _) ((by decide +kernel : ∀ k, k ∈ [12, 17, 32, 37] → GF k ((1 : Nat) : Int) = ((k + 2 : Nat) : Int)) k h)
theorem Formula_f2 {k : Nat} (h : isFormula k) : arrP 2 (k + 3) 64 191 := (by decide +kernel : ∀ k, k ∈ [12, 17, 32, 37] → shK (k + 3) = 2 ∧ shN (k + 3) = 64 ∧ k + 3 < 191) k h
theorem Formula_g2 {b k : Nat} (h : isFormula k) (M : Mem) : fv b (GM M) M 3 k 2 = .ref (b + (k + 3)) := fv_sg rfl (Formula_dyn h _) ((by decide +kernel : ∀ k, k ∈ [12, 17, 32, 37] → GF k ((2 : Nat) : Int) = ((k + 3 : Nat) : Int)) k h)
theorem Formula_f5 {k : Nat} (h : isFormula k) : arrP 0 (k + 4) 72 191 := (by decide +kernel : ∀ k, k ∈ [12, 17, 32, 37] → shK (k + 4) = 0 ∧ shN (k + 4) = 72 ∧ k + 4 < 191) k h
theorem Formula_g5 {b k : Nat} (h : isFormula k) (M : Mem) : fv b (GM M) M 3 k 5 = .ref (b + (k + 4)) := fv_sg rfl (Formula_dyn h _) ((by decide +kernel : ∀ k, k ∈ [12, 17, 32, 37] → GF k ((5 : Nat) : Int) = ((k + 4 : Nat) : Int)) k h)
theorem Scene_lt {k : Nat} (h : isScene k) : k < 191 := (by decide +kernel : ∀ k, k ∈ [47, 52, 57, 72, 77, 82, 87, 92, 97, 102, 107, 112, 117, 122, 127, 132, 137, 142, 147, 152, 157, 162, 167] → k < 191) k h
theorem Scene_sh {k : Nat} (h : isScene k) : shK k = 13 := (by decide +kernel : ∀ k, k ∈ [47, 52, 57, 72, 77, 82, 87, 92, 97, 102, 107, 112, 117, 122, 127, 132, 137, 142, 147, 152, 157, 162, 167] → shK k = 13) k h
theorem Scene_N {k : Nat} (h : isScene k) : shN k = 7 := (by decide +kernel : ∀ k, k ∈ [47, 52, 57, 72, 77, 82, 87, 92, 97, 102, 107, 112, 117, 122, 127, 132, 137, 142, 147, 152, 157, 162, 167] → shN k = 7) k h
theorem Scene_dyn {k : Nat} (h : isScene k) (j : Int) : dyn k j = false := by
  have q := (by decide +kernel : ∀ k, k ∈ [47, 52, 57, 72, 77, 82, 87, 92, 97, 102, 107, 112, 117, 122, 127, 132, 137, 142, 147, 152, 157, 162, 167] → (k == 0) = false ∧ (k == 46) = false) k h
  unfold dyn
  rw [q.1, q.2]
  rfl
theorem Scene_f0 {k : Nat} (h : isScene k) : arrP 0 (k + 1) 4 191 := (by decide +kernel : ∀ k, k ∈ [47, 52, 57, 72, 77, 82, 87, 92, 97, 102, 107, 112, 117, 122, 127, 132, 137, 142, 147, 152, 157, 162, 167] → shK (k + 1) = 0 ∧ shN (k + 1) = 4 ∧ k + 1 < 191) k h
theorem Scene_g0 {b k : Nat} (h : isScene k) (M : Mem) : fv b (GM M) M 9 k 0 = .ref (b + (k + 1)) := fv_sg rfl (Scene_dyn h _) ((by decide +kernel : ∀ k, k ∈ [47, 52, 57, 72, 77, 82, 87, 92, 97, 102, 107, 112, 117, 122, 127, 132, 137, 142, 147, 152, 157, 162, 167] → GF k ((0 : Nat) : Int) = ((k + 1 : Nat) : Int)) k h)
theorem Scene_f1 {k : Nat} (h : isScene k) : arrP 0 (k + 2) 8 191 := (by decide +kernel : ∀ k, k ∈ [47, 52, 57, 72, 77, 82, 87, 92, 97, 102, 107, 112, 117, 122, 127, 132, 137, 142, 147, 152, 157, 162, 167] → shK (k + 2) = 0 ∧ shN (k + 2) = 8 ∧ k + 2 < 191) k h
theorem Scene_g1 {b k : Nat} (h : isScene k) (M : Mem) : fv b (GM M) M 9 k 1 = .ref (b + (k + 2)) := fv_sg rfl (Scene_dyn h _) ((by decide +kernel : ∀ k, k ∈ [47, 52, 57, 72, 77, 82, 87, 92, 97, 102, 107, 112, 117, 122, 127, 132, 137, 142, 147, 152, 157, 162, 167] → GF k ((1 : Nat) : Int) = ((k + 2 : Nat) : Int)) k h)
theorem Scene_f2 {k : Nat} (h : isScene k) : arrP 0 (k + 3) 8 191 := (by decide +kernel : ∀ k, k ∈ [47, 52, 57, 72, 77, 82, 87, 92, 97, 102, 107, 112, 117, 122, 127, 132, 137, 142, 147, 152, 157, 162, 167] → shK (k + 3) = 0 ∧ shN (k + 3) = 8 ∧ k + 3 < 191) k h
theorem Scene_g2 {b k : Nat} (h : isScene k) (M : Mem) : fv b (GM M) M 9 k 2 = .ref (b + (k + 3)) := fv_sg rfl (Scene_dyn h _) ((by decide +kernel : ∀ k, k ∈ [47, 52, 57, 72, 77, 82, 87, 92, 97, 102, 107, 112, 117, 122, 127, 132, 137, 142, 147, 152, 157, 162, 167] → GF k ((2 : Nat) : Int) = ((k + 3 : Nat) : Int)) k h)
theorem Scene_f3 {k : Nat} (h : isScene k) : arrP 0 (k + 4) 8 191 := (by decide +kernel : ∀ k, k ∈ [47, 52, 57, 72, 77, 82, 87, 92, 97, 102, 107, 112, 117, 122, 127, 132, 137, 142, 147, 152, 157, 162, 167] → shK (k + 4) = 0 ∧ shN (k + 4) = 8 ∧ k + 4 < 191) k h
theorem Scene_g3 {b k : Nat} (h : isScene k) (M : Mem) : fv b (GM M) M 9 k 3 = .ref (b + (k + 4)) := fv_sg rfl (Scene_dyn h _) ((by decide +kernel : ∀ k, k ∈ [47, 52, 57, 72, 77, 82, 87, 92, 97, 102, 107, 112, 117, 122, 127, 132, 137, 142, 147, 152, 157, 162, 167] → GF k ((3 : Nat) : Int) = ((k + 4 : Nat) : Int)) k h)
theorem Town_lt {k : Nat} (h : isTown k) : k < 191 := (by decide +kernel : ∀ k, k ∈ [2, 22] → k < 191) k h
theorem Town_sh {k : Nat} (h : isTown k) : shK k = 15 := (by decide +kernel : ∀ k, k ∈ [2, 22] → shK k = 15) k h
theorem Town_N {k : Nat} (h : isTown k) : shN k = 20 := (by decide +kernel : ∀ k, k ∈ [2, 22] → shN k = 20) k h
theorem Town_dyn {k : Nat} (h : isTown k) (j : Int) : dyn k j = false := by
  have q := (by decide +kernel : ∀ k, k ∈ [2, 22] → (k == 0) = false ∧ (k == 46) = false) k h
  unfold dyn
  rw [q.1, q.2]
  rfl
theorem Town_f0 {k : Nat} (h : isTown k) : arrP 0 (k + 1) 4 191 := (by decide +kernel : ∀ k, k ∈ [2, 22] → shK (k + 1) = 0 ∧ shN (k + 1) = 4 ∧ k + 1 < 191) k h
theorem Town_g0 {b k : Nat} (h : isTown k) (M : Mem) : fv b (GM M) M 11 k 0 = .ref (b + (k + 1)) := fv_sg rfl (Town_dyn h _) ((by decide +kernel : ∀ k, k ∈ [2, 22] → GF k ((0 : Nat) : Int) = ((k + 1 : Nat) : Int)) k h)
theorem Town_f1 {k : Nat} (h : isTown k) : arrP 0 (k + 2) 4 191 := (by decide +kernel : ∀ k, k ∈ [2, 22] → shK (k + 2) = 0 ∧ shN (k + 2) = 4 ∧ k + 2 < 191) k h
theorem Town_g1 {b k : Nat} (h : isTown k) (M : Mem) : fv b (GM M) M 11 k 1 = .ref (b + (k + 2)) := fv_sg rfl (Town_dyn h _) ((by decide +kernel : ∀ k, k ∈ [2, 22] → GF k ((1 : Nat) : Int) = ((k + 2 : Nat) : Int)) k h)
theorem Town_f2 {k : Nat} (h : isTown k) : arrP 0 (k + 3) 4 191 := (by decide +kernel : ∀ k, k ∈ [2, 22] → shK (k + 3) = 0 ∧ shN (k + 3) = 4 ∧ k + 3 < 191) k h
theorem Town_g2 {b k : Nat} (h : isTown k) (M : Mem) : fv b (GM M) M 11 k 2 = .ref (b + (k + 3)) := fv_sg rfl (Town_dyn h _) ((by decide +kernel : ∀ k, k ∈ [2, 22] → GF k ((2 : Nat) : Int) = ((k + 3 : Nat) : Int)) k h)
theorem Town_f3 {k : Nat} (h : isTown k) : arrP 0 (k + 4) 4 191 := (by decide +kernel : ∀ k, k ∈ [2, 22] → shK (k + 4) = 0 ∧ shN (k + 4) = 4 ∧ k + 4 < 191) k h
theorem Town_g3 {b k : Nat} (h : isTown k) (M : Mem) : fv b (GM M) M 11 k 3 = .ref (b + (k + 4)) := fv_sg rfl (Town_dyn h _) ((by decide +kernel : ∀ k, k ∈ [2, 22] → GF k ((3 : Nat) : Int) = ((k + 4 : Nat) : Int)) k h)
theorem Town_f4 {k : Nat} (h : isTown k) : arrP 0 (k + 5) 8 191 := (by decide +kernel : ∀ k, k ∈ [2, 22] → shK (k + 5) = 0 ∧ shN (k + 5) = 8 ∧ k + 5 < 191) k h
theorem Town_g4 {b k : Nat} (h : isTown k) (M : Mem) : fv b (GM M) M 11 k 4 = .ref (b + (k + 5)) := fv_sg rfl (Town_dyn h _) ((by decide +kernel : ∀ k, k ∈ [2, 22] → GF k ((4 : Nat) : Int) = ((k + 5 : Nat) : Int)) k h)
theorem Town_f5 {k : Nat} (h : isTown k) : arrP 0 (k + 6) 8 191 := (by decide +kernel : ∀ k, k ∈ [2, 22] → shK (k + 6) = 0 ∧ shN (k + 6) = 8 ∧ k + 6 < 191) k h
theorem Town_g5 {b k : Nat} (h : isTown k) (M : Mem) : fv b (GM M) M 11 k 5 = .ref (b + (k + 6)) := fv_sg rfl (Town_dyn h _) ((by decide +kernel : ∀ k, k ∈ [2, 22] → GF k ((5 : Nat) : Int) = ((k + 6 : Nat) : Int)) k h)
theorem Town_f6 {k : Nat} (h : isTown k) : arrP 0 (k + 7) 8 191 := (by decide +kernel : ∀ k, k ∈ [2, 22] → shK (k + 7) = 0 ∧ shN (k + 7) = 8 ∧ k + 7 < 191) k h
theorem Town_g6 {b k : Nat} (h : isTown k) (M : Mem) : fv b (GM M) M 11 k 6 = .ref (b + (k + 7)) := fv_sg rfl (Town_dyn h _) ((by decide +kernel : ∀ k, k ∈ [2, 22] → GF k ((6 : Nat) : Int) = ((k + 7 : Nat) : Int)) k h)
theorem Town_f7 {k : Nat} (h : isTown k) : arrP 0 (k + 8) 48 191 := (by decide +kernel : ∀ k, k ∈ [2, 22] → shK (k + 8) = 0 ∧ shN (k + 8) = 48 ∧ k + 8 < 191) k h
theorem Town_g7 {b k : Nat} (h : isTown k) (M : Mem) : fv b (GM M) M 11 k 7 = .ref (b + (k + 8)) := fv_sg rfl (Town_dyn h _) ((by decide +kernel : ∀ k, k ∈ [2, 22] → GF k ((7 : Nat) : Int) = ((k + 8 : Nat) : Int)) k h)
theorem Town_f8 {k : Nat} (h : isTown k) : arrP 0 (k + 9) 192 191 := (by decide +kernel : ∀ k, k ∈ [2, 22] → shK (k + 9) = 0 ∧ shN (k + 9) = 192 ∧ k + 9 < 191) k h
theorem Town_g8 {b k : Nat} (h : isTown k) (M : Mem) : fv b (GM M) M 11 k 8 = .ref (b + (k + 9)) := fv_sg rfl (Town_dyn h _) ((by decide +kernel : ∀ k, k ∈ [2, 22] → GF k ((8 : Nat) : Int) = ((k + 9 : Nat) : Int)) k h)
theorem Town_f9 {k : Nat} (h : isTown k) : isFormula (k + 10) := (by decide +kernel : ∀ k, k ∈ [2, 22] → k + 10 ∈ [12, 17, 32, 37]) k h
theorem Town_g9 {b k : Nat} (h : isTown k) (M : Mem) : fv b (GM M) M 11 k 9 = .ref (b + (k + 10)) := fv_sg rfl (Town_dyn h _) ((by decide +kernel : ∀ k, k ∈ [2, 22] → GF k ((9 : Nat) : Int) = ((k + 10 : Nat) : Int)) k h)
theorem Town_f10 {k : Nat} (h : isTown k) : isFormula (k + 15) := (by decide +kernel : ∀ k, k ∈ [2, 22] → k + 15 ∈ [12, 17, 32, 37]) k h
theorem Town_g10 {b k : Nat} (h : isTown k) (M : Mem) : fv b (GM M) M 11 k 10 = .ref (b + (k + 15)) := fv_sg rfl (Town_dyn h _) ((by decide +kernel : ∀ k, k ∈ [2, 22] → GF k ((10 : Nat) : Int) = ((k + 15 : Nat) : Int)) k h)
theorem Trail_lt {k : Nat} (h : isTrail k) : k < 191 := (by decide +kernel : ∀ k, k ∈ [182, 189] → k < 191) k h
theorem Trail_sh {k : Nat} (h : isTrail k) : shK k = 16 := (by decide +kernel : ∀ k, k ∈ [182, 189] → shK k = 16) k h
theorem Trail_N {k : Nat} (h : isTrail k) : shN k = 9 := (by decide +kernel : ∀ k, k ∈ [182, 189] → shN k = 9) k h
theorem Trail_dyn {k : Nat} (h : isTrail k) (j : Int) : dyn k j = false := by
  have q := (by decide +kernel : ∀ k, k ∈ [182, 189] → (k == 0) = false ∧ (k == 46) = false) k h
  unfold dyn
  rw [q.1, q.2]
  rfl
theorem Trail_f0 {k : Nat} (h : isTrail k) : arrP 0 (k + 1) 48 191 := (by decide +kernel : ∀ k, k ∈ [182, 189] → shK (k + 1) = 0 ∧ shN (k + 1) = 48 ∧ k + 1 < 191) k h
theorem Trail_g0 {b k : Nat} (h : isTrail k) (M : Mem) : fv b (GM M) M 12 k 0 = .ref (b + (k + 1)) := fv_sg rfl (Trail_dyn h _) ((by decide +kernel : ∀ k, k ∈ [182, 189] → GF k ((0 : Nat) : Int) = ((k + 1 : Nat) : Int)) k h)

