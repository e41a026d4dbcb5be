theorem t1 (a b k : Int64) : (a - k) - (b - k) = a - b := by grind
theorem t2 (a b k : Int64) : (a - k) - (b - k) = a - b := by
  rw [← Int64.toBitVec_inj]
  simp only [Int64.toBitVec_sub]
  bv_omega
theorem t3 (b : Nat) (h : b < 8) : ¬ bitP 0 b := by
  rcases (show b = 0 ∨ b = 1 ∨ b = 2 ∨ b = 3 ∨ b = 4 ∨ b = 5 ∨ b = 6 ∨ b = 7 by omega) with rfl | rfl | rfl | rfl | rfl | rfl | rfl | rfl <;> decide
theorem t4 : ∀ a, a < 8 → ∀ b, b < 8 → (bitP ((1 : Int32) <<< (Int32.ofNat a &&& 31)) b ↔ b = a) := by decide
