theorem okP_0 : ∀ k : Nat, k < 16 → okP (k : Int) 0 = true := by decide +kernel
theorem okP_1 : ∀ k : Nat, k < 16 → okP (k : Int) 1 = true := by decide +kernel
theorem okP_2 : ∀ k : Nat, k < 16 → okP (k : Int) 2 = true := by decide +kernel
theorem okP_3 : ∀ k : Nat, k < 16 → okP (k : Int) 3 = true := by decide +kernel
theorem okP_4 : ∀ k : Nat, k < 16 → okP (k : Int) 4 = true := by decide +kernel
theorem okP_5 : ∀ k : Nat, k < 16 → okP (k : Int) 5 = true := by decide +kernel
theorem okP_6 : ∀ k : Nat, k < 16 → okP (k : Int) 6 = true := by decide +kernel
theorem okP_7 : ∀ k : Nat, k < 16 → okP (k : Int) 7 = true := by decide +kernel
theorem okP_8 : ∀ k : Nat, k < 16 → okP (k : Int) 8 = true := by decide +kernel
theorem okP_9 : ∀ k : Nat, k < 16 → okP (k : Int) 9 = true := by decide +kernel
theorem okP_10 : ∀ k : Nat, k < 16 → okP (k : Int) 10 = true := by decide +kernel
theorem okP_11 : ∀ k : Nat, k < 16 → okP (k : Int) 11 = true := by decide +kernel
theorem okP_12 : ∀ k : Nat, k < 16 → okP (k : Int) 12 = true := by decide +kernel
theorem okP_13 : ∀ k : Nat, k < 16 → okP (k : Int) 13 = true := by decide +kernel
theorem okP_14 : ∀ k : Nat, k < 16 → okP (k : Int) 14 = true := by decide +kernel
theorem okP_15 : ∀ k : Nat, k < 16 → okP (k : Int) 15 = true := by decide +kernel
theorem okP_all {f t : Int} (hf : 0 ≤ f ∧ f < 16) (ht : 0 ≤ t ∧ t < 16) : okP f t = true := by
  have h : t = 0 ∨ t = 1 ∨ t = 2 ∨ t = 3 ∨ t = 4 ∨ t = 5 ∨ t = 6 ∨ t = 7 ∨ t = 8 ∨ t = 9 ∨ t = 10 ∨ t = 11 ∨ t = 12 ∨ t = 13 ∨ t = 14 ∨ t = 15 := by omega
  rcases h with rfl | rfl | rfl | rfl | rfl | rfl | rfl | rfl | rfl | rfl | rfl | rfl | rfl | rfl | rfl | rfl
  · exact rngI (fun f => okP f 0 = true) 16 okP_0 hf.1 hf.2
  · exact rngI (fun f => okP f 1 = true) 16 okP_1 hf.1 hf.2
  · exact rngI (fun f => okP f 2 = true) 16 okP_2 hf.1 hf.2
  · exact rngI (fun f => okP f 3 = true) 16 okP_3 hf.1 hf.2
  · exact rngI (fun f => okP f 4 = true) 16 okP_4 hf.1 hf.2
  · exact rngI (fun f => okP f 5 = true) 16 okP_5 hf.1 hf.2
  · exact rngI (fun f => okP f 6 = true) 16 okP_6 hf.1 hf.2
  · exact rngI (fun f => okP f 7 = true) 16 okP_7 hf.1 hf.2
  · exact rngI (fun f => okP f 8 = true) 16 okP_8 hf.1 hf.2
  · exact rngI (fun f => okP f 9 = true) 16 okP_9 hf.1 hf.2
  · exact rngI (fun f => okP f 10 = true) 16 okP_10 hf.1 hf.2
  · exact rngI (fun f => okP f 11 = true) 16 okP_11 hf.1 hf.2
  · exact rngI (fun f => okP f 12 = true) 16 okP_12 hf.1 hf.2
  · exact rngI (fun f => okP f 13 = true) 16 okP_13 hf.1 hf.2
  · exact rngI (fun f => okP f 14 = true) 16 okP_14 hf.1 hf.2
  · exact rngI (fun f => okP f 15 = true) 16 okP_15 hf.1 hf.2
