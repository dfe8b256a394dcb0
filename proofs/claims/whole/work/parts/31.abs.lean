/-! What the document speaks of, as plain mathematics: the table of concepts, types, good types, models. -/
def isAt (k : Nat) : Bool := k == 2 || k == 6
/-- how many atoms there are below n -/
def ac (K : Nat → Nat) : Nat → Nat
  | 0 => 0
  | n + 1 => ac K n + (if isAt (K n) then 1 else 0)
def mt (K F S : Nat → Nat) (k a b c : Nat) : Bool := K c == k && (F c == a && S c == b)
def fd (K F S : Nat → Nat) (k a b n : Nat) : Nat := ff (mt K F S k a b) n
/-- whether concept c holds by type τ, n concepts being there -/
def ve (K F S : Nat → Nat) (τ : Nat) : Nat → Nat → Bool
  | 0, _ => false
  | n + 1, c => if c = n then
      (if K n = 0 then true else if K n = 2 then τ.testBit (ac K n) else if K n = 3 then !(ve K F S τ n (F n)) else if K n = 4 then ve K F S τ n (F n) && ve K F S τ n (S n)
       else if K n = 5 then ve K F S τ n (F n) || ve K F S τ n (S n) else if K n = 6 then τ.testBit (ac K n) else if K n = 7 then !(ve K F S τ n (fd K F S 6 (F n) (fd K F S 3 (S n) 0 n) n)) else false)
    else ve K F S τ n c
theorem ac_le (K : Nat → Nat) : ∀ n, ac K n ≤ n := by
  intro n
  induction n with
  | zero => exact Nat.le_refl 0
  | succ n ih => unfold ac; split <;> omega
theorem ac_mono {K : Nat → Nat} : ∀ {n m : Nat}, n ≤ m → ac K n ≤ ac K m := by
  intro n m h
  induction m with
  | zero => rw [Nat.le_zero.mp h]; exact Nat.le_refl _
  | succ m ih =>
    by_cases e : n = m + 1
    · rw [e]; exact Nat.le_refl _
    · have := ih (by omega)
      have h2 : ac K (m + 1) = ac K m + (if isAt (K m) then 1 else 0) := rfl
      omega
theorem ac_at {K : Nat → Nat} {n m : Nat} (h : n < m) (ha : isAt (K n) = true) : ac K n < ac K m := by
  have h1 : ac K (n + 1) = ac K n + 1 := by
    show ac K n + (if isAt (K n) then 1 else 0) = _
    rw [ha]; rfl
  have := ac_mono (K := K) (show n + 1 ≤ m from h)
  omega
theorem ac_ex {K : Nat → Nat} : ∀ {n k : Nat}, k < ac K n → ∃ c, c < n ∧ isAt (K c) = true ∧ ac K c = k := by
  intro n
  induction n with
  | zero => intro k h; exact absurd h (Nat.not_lt_zero _)
  | succ n ih =>
    intro k h
    by_cases hk : k < ac K n
    · obtain ⟨c, h1, h2, h3⟩ := ih hk
      exact ⟨c, by omega, h2, h3⟩
    · have h2 : ac K (n + 1) = ac K n + (if isAt (K n) then 1 else 0) := rfl
      cases e : isAt (K n) with
      | false => rw [e] at h2; simp at h2; omega
      | true => rw [e] at h2; simp at h2; exact ⟨n, by omega, e, by omega⟩
theorem ac_inj {K : Nat → Nat} {c d : Nat} (hc : isAt (K c) = true) (hd : isAt (K d) = true) (h : ac K c = ac K d) : c = d := by
  rcases Nat.lt_trichotomy c d with q | q | q
  · have := ac_at q hc; omega
  · exact q
  · have := ac_at q hd; omega
theorem ac_congr {K K' : Nat → Nat} : ∀ {n : Nat}, (∀ i, i < n → K i = K' i) → ac K n = ac K' n := by
  intro n
  induction n with
  | zero => intro _; rfl
  | succ n ih => intro h; unfold ac; rw [ih (fun i hi => h i (by omega)), h n (by omega)]
theorem fd_congr {K F S K' F' S' : Nat → Nat} {k a b n : Nat} (h : ∀ i, i < n → K i = K' i ∧ F i = F' i ∧ S i = S' i) : fd K F S k a b n = fd K' F' S' k a b n :=
  ff_congr (fun i hi => by unfold mt; rw [(h i hi).1, (h i hi).2.1, (h i hi).2.2])
theorem ve_congr {K F S K' F' S' : Nat → Nat} {τ : Nat} : ∀ {n c : Nat}, (∀ i, i < n → K i = K' i ∧ F i = F' i ∧ S i = S' i) → ve K F S τ n c = ve K' F' S' τ n c := by
  intro n
  induction n with
  | zero => intro c _; rfl
  | succ n ih =>
    intro c h
    have hn := h n (by omega)
    have hl : ∀ i, i < n → K i = K' i ∧ F i = F' i ∧ S i = S' i := fun i hi => h i (by omega)
    unfold ve
    rw [hn.1, hn.2.1, hn.2.2, ac_congr (fun i hi => (hl i hi).1), ih hl, ih hl, ih hl, fd_congr hl, fd_congr (n := n) hl]
    simp only [ih hl]
theorem ve_old {K F S : Nat → Nat} {τ n c : Nat} (h : c < n) : ve K F S τ (n + 1) c = ve K F S τ n c := by
  conv => lhs; unfold ve
  rw [if_neg (by omega)]
theorem ve_stable {K F S : Nat → Nat} {τ c : Nat} : ∀ {n m : Nat}, c < n → n ≤ m → ve K F S τ m c = ve K F S τ n c := by
  intro n m hc h
  induction m with
  | zero => omega
  | succ m ih =>
    by_cases e : n = m + 1
    · rw [e]
    · rw [ve_old (by omega), ih (by omega)]
theorem ff_stable {p : Nat → Bool} {n m : Nat} (h : ff p n < n) (hm : n ≤ m) : ff p m = ff p n :=
  ff_of (by omega) (fun _ hi => ff_no hi) (fun _ => ff_yes h)
/-- the table is one that calls can make -/
def wf (K F S : Nat → Nat) (n : Nat) : Prop :=
  2 ≤ n ∧ n ≤ 80 ∧ ac K n ≤ 10 ∧ (K 0 = 0 ∧ F 0 = 0 ∧ S 0 = 0) ∧ (K 1 = 1 ∧ F 1 = 0 ∧ S 1 = 0) ∧
  ∀ c, 2 ≤ c → c < n → (K c = 2 ∧ F c < 10 ∧ S c = 0) ∨ (K c = 3 ∧ F c < c ∧ S c = 0) ∨ (K c = 4 ∧ F c < c ∧ S c < c) ∨ (K c = 5 ∧ F c < c ∧ S c < c) ∨ (K c = 6 ∧ F c < 4 ∧ S c < c) ∨
    (K c = 7 ∧ F c < 4 ∧ S c < c ∧ fd K F S 3 (S c) 0 c < c ∧ fd K F S 6 (F c) (fd K F S 3 (S c) 0 c) c < c)
/-! bits of words -/
def bL (x : Int64) (k : Nat) : Bool := x.toBitVec.getLsbD k
def bI (x : Int32) (k : Nat) : Bool := x.toBitVec.getLsbD k
theorem bL_and (x y : Int64) (k : Nat) : bL (x &&& y) k = (bL x k && bL y k) := by simp [bL]
theorem bL_or (x y : Int64) (k : Nat) : bL (x ||| y) k = (bL x k || bL y k) := by simp [bL]
theorem bL_not (x : Int64) {k : Nat} (h : k < 64) : bL (x ^^^ (-1)) k = !(bL x k) := by
  simp only [bL, Int64.toBitVec_xor, BitVec.getLsbD_xor]
  have : (-1 : Int64).toBitVec.getLsbD k = true := by
    have e : (-1 : Int64).toBitVec = BitVec.allOnes 64 := by decide
    rw [e, BitVec.getLsbD_allOnes]; simp [h]
  rw [this]; simp
theorem bL_m1 {k : Nat} (h : k < 64) : bL (-1) k = true := by
  have e : (-1 : Int64).toBitVec = BitVec.allOnes 64 := by decide
  rw [bL, e, BitVec.getLsbD_allOnes]; simp [h]
theorem bL_0 (k : Nat) : bL 0 k = false := by
  have e : (0 : Int64).toBitVec = 0#64 := by decide
  simp [bL, e]
theorem bL_ext {x y : Int64} (h : ∀ k, k < 64 → bL x k = bL y k) : x = y := by
  apply Int64.toBitVec_inj.mp
  apply BitVec.eq_of_getLsbD_eq
  intro i hi
  exact h i hi
theorem bI_and (x y : Int32) (k : Nat) : bI (x &&& y) k = (bI x k && bI y k) := by simp [bI]
theorem bI_or (x y : Int32) (k : Nat) : bI (x ||| y) k = (bI x k || bI y k) := by simp [bI]
theorem bI_0 (k : Nat) : bI 0 k = false := by
  have e : (0 : Int32).toBitVec = 0#32 := by decide
  simp [bI, e]
theorem bI_ext {x y : Int32} (h : ∀ k, k < 32 → bI x k = bI y k) : x = y := by
  apply Int32.toBitVec_inj.mp
  apply BitVec.eq_of_getLsbD_eq
  intro i hi
  exact h i hi
theorem bI_nI {n : Nat} (h : n < 4294967296) (k : Nat) : bI (nI n) k = n.testBit k := by
  have e : (nI n).toBitVec = BitVec.ofNat 32 n := by
    apply BitVec.eq_of_toNat_eq
    rw [pk_tn (by omega), BitVec.toNat_ofNat, Nat.mod_eq_of_lt (by omega)]
  rw [bI, e, BitVec.getLsbD_ofNat]
  by_cases hk : k < 32
  · simp [hk]
  · have : n.testBit k = false := Nat.testBit_lt_two_pow (Nat.lt_of_lt_of_le h (show 4294967296 ≤ 2 ^ k from by
      calc 4294967296 = 2 ^ 32 := by decide
        _ ≤ 2 ^ k := Nat.pow_le_pow_right (by decide) (by omega)))
    simp [hk, this]
