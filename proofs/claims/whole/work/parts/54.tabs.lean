/-! GoodTypes.spreadServed -/
theorem tq_sb0 : ∀ k, k < 10 → ∀ s, s < 1024 → ((nI s &&& nI (2 ^ k)) = 0 ↔ s.testBit k = false) := by decide +kernel
theorem tq_sb1 : ∀ k, k < 10 → ∀ s, s < 1024 → s.testBit k = true → nI s &&& (nI (2 ^ k) ^^^ (-1)) = nI (s - 2 ^ k) ∧ 2 ^ k ≤ s ∧ (s - 2 ^ k).testBit k = false := by decide +kernel
theorem sub_minus {s m k : Nat} (h : s &&& m = s) (hk : s.testBit k = true) (h2 : 2 ^ k ≤ s) (hz : (s - 2 ^ k) &&& s = s - 2 ^ k) : (s - 2 ^ k) &&& m = s - 2 ^ k := by
  have : (s - 2 ^ k) &&& m = ((s - 2 ^ k) &&& s) &&& m := by rw [hz]
  rw [this, Nat.and_assoc, h, hz]
theorem tq_sb2 : ∀ k, k < 10 → ∀ s, s < 1024 → s.testBit k = true → (s - 2 ^ k) &&& s = s - 2 ^ k := by decide +kernel
