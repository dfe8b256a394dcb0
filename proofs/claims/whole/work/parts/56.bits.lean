/-! a set without one of its atoms; sets of atoms as numbers -/
theorem sub_bit {s k : Nat} (h : s.testBit k = true) (i : Nat) : (s - 2 ^ k).testBit i = (s.testBit i && !(decide (i = k))) := by
  have hp : 2 ^ (k + 1) = 2 * 2 ^ k := by rw [Nat.pow_succ]; omega
  have hd := Nat.div_add_mod s (2 ^ (k + 1))
  have hr : s % 2 ^ (k + 1) < 2 ^ (k + 1) := Nat.mod_lt _ (Nat.two_pow_pos _)
  have hb : (s % 2 ^ (k + 1)).testBit k = true := by rw [Nat.testBit_mod_two_pow, h]; simp
  have hge : 2 ^ k ≤ s % 2 ^ (k + 1) := Nat.ge_two_pow_of_testBit hb
  obtain ⟨l, hl⟩ : ∃ l, s % 2 ^ (k + 1) = 2 ^ k + l := ⟨s % 2 ^ (k + 1) - 2 ^ k, by omega⟩
  have hl2 : l < 2 ^ k := by omega
  have es : s = 2 ^ (k + 1) * (s / 2 ^ (k + 1)) + (2 ^ k + l) := by omega
  have em : s - 2 ^ k = 2 ^ (k + 1) * (s / 2 ^ (k + 1)) + l := by omega
  rw [em, Nat.testBit_two_pow_mul_add _ (by omega)]
  conv => rhs; rw [es]
  rw [Nat.testBit_two_pow_mul_add _ (by omega)]
  by_cases h1 : i < k + 1
  · rw [if_pos h1, if_pos h1]
    by_cases h2 : i = k
    · subst h2
      rw [Nat.testBit_lt_two_pow hl2]; simp
    · rw [Nat.testBit_two_pow_add_gt (by omega)]; simp [h2]
  · rw [if_neg h1, if_neg h1]
    have : ¬ i = k := by omega
    simp [this]
theorem sub_tb {a s : Nat} : a &&& s = a ↔ ∀ i, a.testBit i = true → s.testBit i = true := by
  constructor
  · intro h i hi
    rw [← h, Nat.testBit_and] at hi
    exact (Bool.and_eq_true_iff.mp hi).2
  · intro h
    apply Nat.eq_of_testBit_eq
    intro i
    rw [Nat.testBit_and]
    cases ha : a.testBit i with
    | false => rfl
    | true => rw [h i ha]; rfl
theorem tb_big {a i : Nat} (ha : a < 1024) (hi : 10 ≤ i) : a.testBit i = false := Nat.testBit_lt_two_pow (Nat.lt_of_lt_of_le ha (Nat.pow_le_pow_right (by decide) hi : 2 ^ 10 ≤ 2 ^ i))
/-- an int whose bits from 10 on are no -/
theorem small_of {x : Int32} (h : ∀ k, 10 ≤ k → k < 32 → bI x k = false) : ∃ n, n < 1024 ∧ x = nI n := by
  refine ⟨x.toBitVec.toNat, ?_, ?_⟩
  · apply Nat.lt_pow_two_of_testBit (n := 10)
    intro i hi
    by_cases h32 : i < 32
    · have := h i hi h32
      unfold bI at this
      rw [BitVec.testBit_toNat]; exact this
    · exact Nat.testBit_lt_two_pow (Nat.lt_of_lt_of_le x.toBitVec.isLt (Nat.pow_le_pow_right (by decide) (by omega)))
  · apply Int32.toBitVec_inj.mp
    show _ = BitVec.ofNat 32 _
    simp
/-- how a set comes to be served, when the atoms below k have been spread -/
def rel (k a s : Nat) : Prop := (∀ i, a.testBit i = true → s.testBit i = true) ∧ ∀ i, k ≤ i → a.testBit i = s.testBit i
theorem rel_0 {a s : Nat} : rel 0 a s ↔ a = s := ⟨fun h => Nat.eq_of_testBit_eq (fun i => h.2 i (Nat.zero_le _)), fun h => by subst h; exact ⟨fun _ q => q, fun _ _ => rfl⟩⟩
theorem rel_10 {a s : Nat} (ha : a < 1024) (hs : s < 1024) : rel 10 a s ↔ a &&& s = a := by
  rw [sub_tb]
  exact ⟨fun h => h.1, fun h => ⟨h, fun i hi => by rw [tb_big ha hi, tb_big hs hi]⟩⟩
theorem rel_no {k a s : Nat} (ha : a.testBit k = false) (hs : s.testBit k = false) : rel (k + 1) a s ↔ rel k a s := by
  refine ⟨fun h => ⟨h.1, fun i hi => ?_⟩, fun h => ⟨h.1, fun i hi => h.2 i (by omega)⟩⟩
  by_cases e : i = k
  · rw [e, ha, hs]
  · exact h.2 i (by omega)
theorem rel_s {k a s : Nat} : rel (k + 1) a s ↔ rel k a s ∨ (s.testBit k = true ∧ rel k a (s - 2 ^ k)) := by
  constructor
  · intro h
    cases hs : s.testBit k with
    | false =>
      left
      have ha : a.testBit k = false := by
        cases e : a.testBit k with
        | false => rfl
        | true => rw [h.1 k e] at hs; cases hs
      exact (rel_no ha hs).mp h
    | true =>
      cases ha : a.testBit k with
      | true =>
        left
        refine ⟨h.1, fun i hi => ?_⟩
        by_cases e : i = k
        · rw [e, ha, hs]
        · exact h.2 i (by omega)
      | false =>
        right
        refine ⟨rfl, fun i hi => ?_, fun i hi => ?_⟩
        · rw [sub_bit hs, h.1 i hi]
          have : ¬ i = k := fun e => by rw [e, ha] at hi; cases hi
          simp [this]
        · rw [sub_bit hs]
          by_cases e : i = k
          · rw [e, ha]; simp
          · rw [h.2 i (by omega)]; simp [e]
  · rintro (h | ⟨hs, h⟩)
    · exact ⟨h.1, fun i hi => h.2 i (by omega)⟩
    · refine ⟨fun i hi => ?_, fun i hi => ?_⟩
      · have := h.1 i hi
        rw [sub_bit hs] at this
        exact (Bool.and_eq_true_iff.mp this).1
      · have := h.2 i (by omega)
        rw [sub_bit hs] at this
        have ne : ¬ i = k := by omega
        rw [this]; simp [ne]
