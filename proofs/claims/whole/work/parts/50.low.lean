/-! the lowest bit of a word -/
theorem nz_ff {y : Int64} (h : y ≠ 0) : ff (bL y) 64 < 64 := by
  rcases Nat.lt_or_ge (ff (bL y) 64) 64 with q | q
  · exact q
  · exfalso
    apply h
    apply bL_ext
    intro k hk
    rw [bL_0]
    exact ff_no (p := bL y) (n := 64) (by omega)
theorem lo_X {X k : Nat} (hk : X.testBit k = true) (hlo : ∀ j, j < k → X.testBit j = false) : X = 2 ^ (k + 1) * (X / 2 ^ (k + 1)) + 2 ^ k := by
  have e : X % 2 ^ (k + 1) = 2 ^ k := by
    apply Nat.eq_of_testBit_eq
    intro j
    rw [Nat.testBit_mod_two_pow, Nat.testBit_two_pow]
    by_cases h : j = k
    · subst h; simp [hk]
    · by_cases h2 : j < k
      · rw [hlo j h2]; simp; omega
      · have : ¬ j < k + 1 := by omega
        simp [this]; omega
  have := Nat.div_add_mod X (2 ^ (k + 1))
  omega
theorem lo_m1 {y : Int64} (h : y ≠ 0) {j : Nat} (hj : j < 64) : bL (y - 1) j = if j < ff (bL y) 64 then true else if j = ff (bL y) 64 then false else bL y j := by
  have hk64 := nz_ff h
  have hy := ff_yes (p := bL y) hk64
  have hn : ∀ i, i < ff (bL y) 64 → bL y i = false := fun i hi => ff_no hi
  generalize ff (bL y) 64 = k at hk64 hy hn ⊢
  obtain ⟨X, hX, rfl⟩ := wb_of y
  rw [bL_lN hX] at hy
  have hlo : ∀ i, i < k → X.testBit i = false := fun i hi => by rw [← bL_lN hX]; exact hn i hi
  have e := lo_X hy hlo
  have hp : 1 ≤ 2 ^ k := Nat.one_le_two_pow
  have hp2 : 2 ^ k < 2 ^ (k + 1) := Nat.pow_lt_pow_right (by decide) (by omega)
  have e1 : X - 1 = 2 ^ (k + 1) * (X / 2 ^ (k + 1)) + (2 ^ k - 1) := by omega
  have e2 : lN X - 1 = lN (X - 1) := lN_sub (b := 1) (by omega)
  rw [e2, bL_lN (by omega), bL_lN hX, e1, Nat.testBit_two_pow_mul_add _ (by omega), Nat.testBit_two_pow_sub_one]
  by_cases h1 : j < k
  · rw [if_pos (by omega), if_pos h1]; simp [h1]
  · by_cases h2 : j = k
    · subst h2; rw [if_pos (by omega), if_neg h1, if_pos rfl]; simp
    · rw [if_neg (by omega), if_neg h1, if_neg h2]
      conv => rhs; rw [e, Nat.testBit_two_pow_mul_add _ hp2, if_neg (by omega)]
theorem lo_neg {y : Int64} {j : Nat} (hj : j < 64) : bL (-y) j = !(bL (y - 1) j) := by
  have e : -y = (y - 1) ^^^ (-1) := by
    apply Int64.toBitVec_inj.mp
    rw [Int64.toBitVec_neg, Int64.toBitVec_xor, Int64.toBitVec_sub]
    have m1 : (-1 : Int64).toBitVec = BitVec.allOnes 64 := by decide
    have o1 : (1 : Int64).toBitVec = 1#64 := by decide
    rw [m1, o1, BitVec.xor_allOnes]
    generalize y.toBitVec = x
    rw [BitVec.neg_eq_not_add]
    apply BitVec.eq_of_toNat_eq
    have := x.isLt
    simp only [BitVec.toNat_add, BitVec.toNat_not, BitVec.toNat_sub, BitVec.toNat_ofNat]
    omega
  rw [e, bL_not _ hj]
theorem lo_and {y : Int64} (h : y ≠ 0) {j : Nat} (hj : j < 64) : bL (y &&& -y) j = decide (j = ff (bL y) 64) := by
  have hk64 := nz_ff h
  have hy := ff_yes (p := bL y) hk64
  have hn : ∀ i, i < ff (bL y) 64 → bL y i = false := fun i hi => ff_no hi
  rw [bL_and, lo_neg hj, lo_m1 h hj]
  by_cases h1 : j < ff (bL y) 64
  · rw [if_pos h1, hn j h1]
    have : ¬ j = ff (bL y) 64 := by omega
    simp [this]
  · rw [if_neg h1]
    by_cases h2 : j = ff (bL y) 64
    · rw [if_pos h2]
      have : bL y j = true := by rw [h2]; exact hy
      rw [this, decide_eq_true h2]; rfl
    · rw [if_neg h2]
      cases bL y j <;> simp [h2]
theorem cnt_lt {k : Nat} : ∀ n, k ≤ n → cnt (fun j => decide (j < k)) n = k := by
  intro n
  induction n with
  | zero => intro h; have : k = 0 := by omega
            subst this; rfl
  | succ n ih =>
    intro h
    show cnt _ n + (if decide (n < k) then 1 else 0) = k
    by_cases e : k = n + 1
    · have : ∀ m, m ≤ n → cnt (fun j => decide (j < k)) m = m := by
        intro m
        induction m with
        | zero => intro _; rfl
        | succ m ihm =>
          intro hm
          show cnt _ m + (if decide (m < k) then 1 else 0) = m + 1
          rw [ihm (by omega), if_pos (decide_eq_true (by omega))]
      rw [this n (Nat.le_refl _), if_pos (decide_eq_true (by omega))]
      omega
    · rw [ih (by omega), if_neg (by simp; omega)]
      omega
theorem sp_lowestBit {y : Int64} (h : y ≠ 0) (σ : tq_S) : tq_fI st_Tn_lowestBit (0, [], [y], σ) = some (nI (ff (bL y) 64), σ) := by
  have hk64 := nz_ff h
  have hz : y &&& -y ≠ 0 := fun q => by
    have := lo_and h hk64
    rw [q, bL_0] at this
    simp at this
  have fz : ff (bL (y &&& -y)) 64 = ff (bL y) 64 := ff_of (by omega) (fun i hi => by
    rw [lo_and h (by omega)]; simp; omega) (fun _ => by rw [lo_and h hk64]; simp)
  have hc : cnt (bL ((y &&& -y) - 1)) 64 = ff (bL y) 64 := by
    rw [cnt_congr (q := fun j => decide (j < ff (bL y) 64)) (fun i hi => ?_), cnt_lt 64 (by omega)]
    rw [lo_m1 hz hi, fz]
    by_cases h1 : i < ff (bL y) 64
    · rw [if_pos h1]; exact (decide_eq_true h1).symm
    · rw [if_neg h1]
      by_cases h2 : i = ff (bL y) 64
      · rw [if_pos h2]; exact (decide_eq_false h1).symm
      · rw [if_neg h2, lo_and h hi, decide_eq_false h2, decide_eq_false h1]
  refine tq_fI_e (tq_at (by decide) ?_)
  show tq_wo (bk_Tn_lowestBit_0 [] [y] σ) _
  rw [bk_Tn_lowestBit_0]
  exact wi_o (sp_bitCountL _ σ) (wi_s (tq_wp_rt (by rw [hc])))
/-- taking the lowest bit away -/
theorem lo_rest {y : Int64} (h : y ≠ 0) {j : Nat} (hj : j < 64) : bL (y &&& (y - 1)) j = (bL y j && !(decide (j = ff (bL y) 64))) := by
  have hn : ∀ i, i < ff (bL y) 64 → bL y i = false := fun i hi => ff_no hi
  rw [bL_and, lo_m1 h hj]
  by_cases h1 : j < ff (bL y) 64
  · rw [if_pos h1, hn j h1]; rfl
  · rw [if_neg h1]
    by_cases h2 : j = ff (bL y) 64
    · rw [if_pos h2, decide_eq_true h2]; rfl
    · rw [if_neg h2, decide_eq_false h2]; cases bL y j <;> rfl
theorem cnt_rest {p q : Nat → Bool} {k : Nat} (hk : p k = true) : ∀ n, (∀ i, i < n → q i = (p i && !(decide (i = k)))) → cnt p n = cnt q n + (if k < n then 1 else 0) := by
  intro n
  induction n with
  | zero => intro _; rfl
  | succ n ih =>
    intro h
    have e := ih (fun i hi => h i (by omega))
    have hn := h n (by omega)
    show cnt p n + (if p n then 1 else 0) = cnt q n + (if q n then 1 else 0) + (if k < n + 1 then 1 else 0)
    by_cases ek : n = k
    · subst ek
      rw [hn, hk] at *
      simp at e ⊢
      omega
    · rw [hn, decide_eq_false ek, Bool.not_false, Bool.and_true]
      have : (k < n + 1) ↔ k < n := by omega
      rw [e]
      by_cases hkn : k < n
      · have c1 : (if k < n then (1 : Nat) else 0) = 1 := if_pos hkn
        have c2 : (if k < n + 1 then (1 : Nat) else 0) = 1 := if_pos (by omega)
        rw [c1, c2]; omega
      · have c1 : (if k < n then (1 : Nat) else 0) = 0 := if_neg hkn
        have c2 : (if k < n + 1 then (1 : Nat) else 0) = 0 := if_neg (by omega)
        rw [c1, c2]; omega
theorem cnt_0 {p : Nat → Bool} {n : Nat} : cnt p n = 0 ↔ ∀ i, i < n → p i = false := by
  induction n with
  | zero => exact ⟨fun _ i hi => absurd hi (Nat.not_lt_zero _), fun _ => rfl⟩
  | succ n ih =>
    show cnt p n + (if p n then 1 else 0) = 0 ↔ _
    constructor
    · intro h i hi
      by_cases e : i = n
      · subst e
        cases hp : p i with
        | false => rfl
        | true => rw [hp] at h; simp at h
      · exact ih.mp (by omega) i (by omega)
    · intro h
      rw [ih.mpr (fun i hi => h i (by omega)), h n (by omega)]; rfl
