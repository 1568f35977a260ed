/-! ===== bits: one away; how many ===== -/
theorem and_low {a : Nat} {m : Int} (ha : a < 4096) : ∃ b : Nat, jand (a : Int) m = (b : Int) ∧ b ≤ a ∧ ∀ j, Nat.testBit b j = (Nat.testBit a j && Nat.testBit (BitVec.ofInt 32 m).toNat j) := by
  refine ⟨a &&& (BitVec.ofInt 32 m).toNat, ?_, Nat.and_le_left, fun j => Nat.testBit_and _ _ _⟩
  have hle : a &&& (BitVec.ofInt 32 m).toNat ≤ a := Nat.and_le_left
  have e : (BitVec.ofInt 32 (a : Int) &&& BitVec.ofInt 32 m).toNat = a &&& (BitVec.ofInt 32 m).toNat := by
    rw [BitVec.toNat_and, BitVec.ofInt_natCast, BitVec.toNat_ofNat, Nat.mod_eq_of_lt (by omega)]
  show (BitVec.ofInt 32 (a : Int) &&& BitVec.ofInt 32 m).toInt = _
  rw [BitVec.toInt_eq_toNat_of_lt (by rw [e]; omega), e]
theorem clr_b : ∀ k : Nat, k < 12 → ∀ j : Nat, j < 12 → Nat.testBit (BitVec.ofInt 32 (jxor (jshl 1 (k : Int)) (-1))).toNat j = decide (j ≠ k) := by decide +kernel
theorem and_clr {a k : Nat} (ha : a < 4096) (hk : k < 12) : ∃ b : Nat, jand (a : Int) (jxor (jshl 1 (k : Int)) (-1)) = (b : Int) ∧ b ≤ a ∧ ∀ j, j < 12 → (Nat.testBit b j = true ↔ Nat.testBit a j = true ∧ j ≠ k) := by
  obtain ⟨b, h1, h2, h3⟩ := and_low (m := jxor (jshl 1 (k : Int)) (-1)) ha
  refine ⟨b, h1, h2, fun j hj => ?_⟩
  rw [h3 j, clr_b k hk j hj, Bool.and_eq_true, decide_eq_true_iff]
def bc1 (x : Int) : Int := x - jand (jushr x 1) 1431655765
def bc2 (x : Int) : Int := jand x 858993459 + jand (jushr x 2) 858993459
def bc3 (x : Int) : Int := x + jushr x 4
def bc4 (x : Int) : Int := jand x 252645135
def bc5 (x : Int) : Int := x + jushr x 8
def bc6 (x : Int) : Int := x + jushr x 16
set_option maxRecDepth 100000 in
theorem bcs1 : ∀ a : Nat, a < 4096 → 0 ≤ bc1 (a : Int) ∧ bc1 (a : Int) ≤ 2730 := by decide +kernel
set_option maxRecDepth 100000 in
theorem bcs2 : ∀ a : Nat, a < 2731 → 0 ≤ bc2 (a : Int) ∧ bc2 (a : Int) ≤ 1638 := by decide +kernel
set_option maxRecDepth 100000 in
theorem bcs3 : ∀ a : Nat, a < 1639 → 0 ≤ bc3 (a : Int) ∧ bc3 (a : Int) ≤ 4000 := by decide +kernel
set_option maxRecDepth 100000 in
theorem bcs4 : ∀ a : Nat, a < 4001 → 0 ≤ bc4 (a : Int) ∧ bc4 (a : Int) ≤ 4001 := by decide +kernel
set_option maxRecDepth 100000 in
theorem bcs5 : ∀ a : Nat, a < 4002 → 0 ≤ bc5 (a : Int) ∧ bc5 (a : Int) ≤ 4050 := by decide +kernel
set_option maxRecDepth 100000 in
theorem bcs6 : ∀ a : Nat, a < 4051 → 0 ≤ bc6 (a : Int) ∧ bc6 (a : Int) ≤ 5000 := by decide +kernel
set_option maxRecDepth 100000 in
theorem bcs : ∀ a : Nat, a < 4096 → (2 ≤ jand (bc6 (bc5 (bc4 (bc3 (bc2 (bc1 (a : Int))))))) 63 ↔ jand (a : Int) ((a : Int) - 1) ≠ 0) := by decide +kernel
theorem eJ6_bitCount {d a : Nat} {h : jH} (ha : a < 4096) : Ex MJ6_bitCount_0f7a4 d [.inl (a : Int)] h 0 0 (fun r g => (∃ z, r = some (.inl z) ∧ (2 ≤ z ↔ jand (a : Int) ((a : Int) - 1) ≠ 0)) ∧ g = h) := by
  have n : ∀ x : Int, 0 ≤ x → ∃ y : Nat, x = (y : Int) := fun x hx => ⟨x.toNat, by omega⟩
  have h1 := bcs1 a ha
  obtain ⟨b1, e1⟩ := n _ h1.1
  have h2 := bcs2 b1 (by omega)
  rw [← e1] at h2
  obtain ⟨b2, e2⟩ := n _ h2.1
  have h3 := bcs3 b2 (by omega)
  rw [← e2] at h3
  obtain ⟨b3, e3⟩ := n _ h3.1
  have h4 := bcs4 b3 (by omega)
  rw [← e3] at h4
  obtain ⟨b4, e4⟩ := n _ h4.1
  have h5 := bcs5 b4 (by omega)
  rw [← e4] at h5
  obtain ⟨b5, e5⟩ := n _ h5.1
  have h6 := bcs6 b5 (by omega)
  rw [← e5] at h6
  clear e1 e2 e3 e4 e5
  refine Ex_of_V tJ6_bitCount_0f7a4 (Nat.le_of_ble_eq_true rfl) ?_
  apply bJ6_bitCount_0f7a4_0
  case r1 => show jR (bc1 (a : Int)); exact ⟨by omega, by omega⟩
  case r2 => show jR (bc2 (bc1 (a : Int))); exact ⟨by omega, by omega⟩
  case r3 => show jR (bc3 (bc2 (bc1 (a : Int)))); exact ⟨by omega, by omega⟩
  case r4 => show jR (bc5 (bc4 (bc3 (bc2 (bc1 (a : Int)))))); exact ⟨by omega, by omega⟩
  case r5 => show jR (bc6 (bc5 (bc4 (bc3 (bc2 (bc1 (a : Int))))))); exact ⟨by omega, by omega⟩
  case q1 => exact ⟨⟨_, rfl, bcs a ha⟩, rfl⟩
