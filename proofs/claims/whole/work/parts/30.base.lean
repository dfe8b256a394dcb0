/-! The pure side begins: rules for loops, small numbers, the first place where something holds. -/
theorem tq_at {st : tq_C → Option tq_C} {Q : tq_C → Prop} {k : Nat} {xs : List Int32} {ys : List Int64} {σ : tq_S} (hk : k ≠ 1000000) (h : tq_wo (st (k, xs, ys, σ)) (tq_wp st Q)) : tq_wp st Q (k, xs, ys, σ) := tq_wp_of hk h
theorem tq_loop {st : tq_C → Option tq_C} {Q : tq_C → Prop} {α : Type} (k : Nat) (hk : k ≠ 1000000) (g : α → List Int32 × List Int64 × tq_S) (I : α → Prop) (μ : α → Nat)
    (h : ∀ a, I a → tq_wo (st (k, g a)) (fun c => (∃ a', c = (k, g a') ∧ I a' ∧ μ a' < μ a) ∨ tq_wp st Q c)) : ∀ a, I a → tq_wp st Q (k, g a) := by
  have key : ∀ n a, μ a < n → I a → tq_wp st Q (k, g a) := by
    intro n
    induction n with
    | zero => intro a h; exact absurd h (Nat.not_lt_zero _)
    | succ n ih =>
      intro a hn hI
      obtain ⟨d, hd, hr⟩ := h a hI
      refine tq_wp_of (c := (k, g a)) hk ⟨d, hd, ?_⟩
      rcases hr with ⟨a', rfl, hI', hm⟩ | hw
      · exact ih a' (by omega) hI'
      · exact hw
  intro a hI
  exact key (μ a + 1) a (by omega) hI
theorem tq_n1 : (1 : Int32) = nI 1 := rfl
theorem tq_i0 : (0 : Int32) = nI 0 := rfl
theorem tq_inc (n : Nat) : nI n + 1 = nI (n + 1) := nI_1 n
theorem tq_lt {a b : Nat} (ha : a < 2147483648) (hb : b < 2147483648) : nI a < nI b ↔ a < b := nI_ltI (by omega) (by omega)
theorem tq_le {a b : Nat} (ha : a < 2147483648) (hb : b < 2147483648) : nI a ≤ nI b ↔ a ≤ b := nI_leI (by omega) (by omega)
theorem tq_eq {a b : Nat} (ha : a < 2147483648) (hb : b < 2147483648) : nI a = nI b ↔ a = b := nI_eq (by omega) (by omega)
theorem tq_nc {n : Nat} (h : n < 2147483648) : (nI n).toNatClampNeg = n := nI_clamp (by omega)
theorem tq_vin {n N : Nat} (h : n < N) (hN : N < 2147483648) : vp_in (nI n) N := vp_in_nI h (by omega)
theorem tq_n0 {n : Nat} (h : n < 2147483648) : ¬ nI n < 0 := nI_pos (by omega)
theorem tq_0le {n : Nat} (h : n < 2147483648) : 0 ≤ nI n := nI_pos' (by omega)
/-! the first place below n where p holds; n if there is none -/
def ff (p : Nat → Bool) : Nat → Nat
  | 0 => 0
  | n + 1 => if ff p n < n then ff p n else if p n then n else n + 1
theorem ff_le (p : Nat → Bool) : ∀ n, ff p n ≤ n := by
  intro n
  induction n with
  | zero => exact Nat.le_refl 0
  | succ n ih =>
    unfold ff
    split
    · omega
    · split <;> omega
theorem ff_no {p : Nat → Bool} : ∀ {n j : Nat}, j < ff p n → p j = false := by
  intro n
  induction n with
  | zero => intro j h; exact absurd h (Nat.not_lt_zero _)
  | succ n ih =>
    intro j h
    have hl := ff_le p n
    unfold ff at h
    split at h
    · exact ih h
    · split at h
      · exact ih (by omega)
      · next h1 h2 =>
        by_cases e : j = n
        · rw [e]; simpa using h2
        · exact ih (by omega)
theorem ff_yes {p : Nat → Bool} : ∀ {n : Nat}, ff p n < n → p (ff p n) = true := by
  intro n
  induction n with
  | zero => intro h; exact absurd h (Nat.not_lt_zero _)
  | succ n ih =>
    intro h
    have hl := ff_le p n
    unfold ff at h ⊢
    split
    · next h1 => exact ih h1
    · next h1 =>
      split
      · next h2 => exact h2
      · next h2 => rw [if_neg h1, if_neg h2] at h; omega
theorem ff_of {p : Nat → Bool} {n j : Nat} (hj : j ≤ n) (hno : ∀ i, i < j → p i = false) (hy : j < n → p j = true) : ff p n = j := by
  have hl := ff_le p n
  rcases Nat.lt_trichotomy (ff p n) j with h | h | h
  · have := ff_yes (p := p) (n := n) (by omega)
    rw [hno _ h] at this; cases this
  · exact h
  · have := ff_no h
    rw [hy (by omega)] at this; cases this
theorem ff_congr {p q : Nat → Bool} {n : Nat} (h : ∀ i, i < n → p i = q i) : ff p n = ff q n := by
  have hl := ff_le q n
  exact ff_of hl (fun i hi => by rw [h i (by omega)]; exact ff_no hi) (fun hi => by rw [h _ hi]; exact ff_yes hi)
def mtc (K F S : Nat → Int32) (k a b : Int32) (c : Nat) : Bool := decide (K c = k) && (decide (F c = a) && decide (S c = b))
theorem mtc_iff {K F S : Nat → Int32} {k a b : Int32} {c : Nat} : mtc K F S k a b c = true ↔ K c = k ∧ F c = a ∧ S c = b := by simp [mtc]
theorem mtc_f {K F S : Nat → Int32} {k a b : Int32} {c : Nat} (h : ¬ (K c = k ∧ F c = a ∧ S c = b)) : mtc K F S k a b c = false := by
  cases e : mtc K F S k a b c with
  | false => rfl
  | true => exact absurd (mtc_iff.mp e) h
/-- Concepts.find -/
theorem sp_Co_find {σ : tq_S} {n : Nat} (hn : n ≤ 80) (hc : σ.2.2 0 = nI n) (k a b : Int32) :
    tq_fI st_Co_find (0, [k, a, b], [], σ) = some (if ff (mtc (σ.1 0) (σ.1 1) (σ.1 2) k a b) n < n then nI (ff (mtc (σ.1 0) (σ.1 1) (σ.1 2) k a b) n) else -1, σ) := by
  have key : ∀ j : Nat, (j ≤ n ∧ ∀ i, i < j → mtc (σ.1 0) (σ.1 1) (σ.1 2) k a b i = false) → tq_wp st_Co_find (fun d => ∃ r σ', d = (tq_rt, [r], [], σ') ∧ (r = (if ff (mtc (σ.1 0) (σ.1 1) (σ.1 2) k a b) n < n then nI (ff (mtc (σ.1 0) (σ.1 1) (σ.1 2) k a b) n) else -1) ∧ σ' = σ)) (3, [k, a, b, nI j], [], σ) := by
    refine tq_loop 3 (by decide) (fun j => ([k, a, b, nI j], [], σ)) _ (fun j => n - j) ?_
    rintro j ⟨hj, hno⟩
    show tq_wo (bk_Co_find_3 [k, a, b, nI j] [] σ) _
    unfold bk_Co_find_3
    simp only [tq_wo_ite, tq_wo_gd, tq_wo_lj, tq_wo_some, hc, ia]
    rw [tq_le (by omega) (by omega), tq_nc (by omega), tq_inc]
    have step : ¬ n ≤ j → ¬ (σ.1 0 j = k ∧ σ.1 1 j = a ∧ σ.1 2 j = b) → ∃ a', (3, [k, a, b, nI (j + 1)], ([] : List Int64), σ) = (3, [k, a, b, nI a'], ([] : List Int64), σ) ∧ (a' ≤ n ∧ ∀ i, i < a' → mtc (σ.1 0) (σ.1 1) (σ.1 2) k a b i = false) ∧ n - a' < n - j := by
      intro h1 h2
      refine ⟨j + 1, rfl, ⟨by omega, fun i hi => ?_⟩, by omega⟩
      by_cases e : i = j
      · rw [e]; exact mtc_f h2
      · exact hno i (by omega)
    refine ⟨fun h => Or.inr (tq_wp_rt ⟨_, _, rfl, ?_, rfl⟩), fun h => ⟨tq_vin (by omega) (by omega), fun h1 => Or.inl (step h (fun q => h1 q.1)), fun h1 => ⟨tq_vin (by omega) (by omega), fun h2 => Or.inl (step h (fun q => h2 q.2.1)), fun h2 => ⟨tq_vin (by omega) (by omega), fun h3 => Or.inl (step h (fun q => h3 q.2.2)), fun h3 => Or.inr (tq_wp_rt ⟨_, _, rfl, ?_, rfl⟩)⟩⟩⟩⟩
    · have : j = n := by omega
      subst this
      rw [ff_of (Nat.le_refl j) hno (fun q => absurd q (Nat.lt_irrefl _)), if_neg (Nat.lt_irrefl _)]
    · have hy : mtc (σ.1 0) (σ.1 1) (σ.1 2) k a b j = true := mtc_iff.mpr ⟨Classical.not_not.mp h1, Classical.not_not.mp h2, Classical.not_not.mp h3⟩
      rw [ff_of (by omega) hno (fun _ => hy), if_pos (by omega)]
  obtain ⟨r, σ', h1, rfl, rfl⟩ := tq_fI_of (st := st_Co_find) (c := (0, [k, a, b], [], σ)) (P := fun r σ' => r = (if ff (mtc (σ.1 0) (σ.1 1) (σ.1 2) k a b) n < n then nI (ff (mtc (σ.1 0) (σ.1 1) (σ.1 2) k a b) n) else -1) ∧ σ' = σ) (by
    refine tq_at (by decide) ?_
    show tq_wo (bk_Co_find_0 [k, a, b] [] σ) _
    unfold bk_Co_find_0
    rw [tq_wo_some]
    exact key 0 ⟨Nat.zero_le _, fun i h => absurd h (Nat.not_lt_zero _)⟩)
  exact h1
