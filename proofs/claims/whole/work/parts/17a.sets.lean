/-! SETS: bits. -/
set_option maxRecDepth 20000 in
theorem zbt1 : ∀ s : Nat, s < 1024 → ∀ i : Nat, i < 14 → (zand (s : Int) (zshl 1 (i : Int)) = 0 ↔ ¬ s / 2 ^ i % 2 = 1) := by decide +kernel
set_option maxRecDepth 20000 in
theorem zbt2 : ∀ s : Nat, s < 1024 → ∀ i : Nat, i < 14 → (zand (zshr (s : Int) (i : Int)) 1 = 1 ↔ s / 2 ^ i % 2 = 1) := by decide +kernel
set_option maxRecDepth 20000 in
theorem zbt3 : ∀ k : Nat, k < 11 → ∀ s : Nat, s < 2 ^ k → zand (w32 (zshl 1 (k : Int) - 1)) (s : Int) = zand (s : Int) (s : Int) := by decide +kernel
theorem zbt4 : ∀ k : Nat, k < 11 → zshl 1 (k : Int) = ((2 ^ k : Nat) : Int) := by decide +kernel
theorem zbt5 : ∀ k : Nat, k < 11 → 2 ^ k ≤ 1024 := by decide
