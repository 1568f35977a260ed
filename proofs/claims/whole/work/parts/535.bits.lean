/-! ===== bits ===== -/
set_option maxRecDepth 100000 in
theorem bit_b : ∀ a : Nat, a < 4096 → ∀ k : Nat, k < 12 → (jand (jshr (a : Int) (k : Int)) 1 = 1 ↔ Nat.testBit a k = true) := by decide +kernel
theorem shl_b : ∀ n : Nat, n < 13 → jshl 1 (n : Int) = ((2 ^ n : Nat) : Int) := by decide +kernel
