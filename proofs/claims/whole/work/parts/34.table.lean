/-! The class's table of concepts against the plain one: add, make. -/
def cT (K F S : Nat → Nat) (n : Nat) (σ : tq_S) : Prop :=
  σ.2.2 0 = nI n ∧ σ.2.2 1 = nI (ac K n) ∧ (∀ c, c < n → σ.1 0 c = nI (K c) ∧ σ.1 1 c = nI (F c) ∧ σ.1 2 c = nI (S c)) ∧ (∀ c, c < n → isAt (K c) = true → σ.1 3 (ac K c) = nI c) ∧
  (∀ c τ, c < n → τ < 1024 → bL (σ.2.1 0 (c * 16 + τ / 64)) (τ % 64) = ve K F S τ n c) ∧ (∀ c, c < n → K c = 6 → ∀ w, w < 16 → σ.2.1 1 (ac K c * 16 + w) = σ.2.1 0 (S c * 16 + w)) ∧
  (∀ τ, τ < 1024 → ∀ j, j < 32 → (bI (σ.1 4 τ) j = true ↔ ∃ c, c < n ∧ K c = 6 ∧ ac K c = j ∧ ve K F S τ n (S c) = true))
/-- numbers of the table are small -/
def wb (K F S : Nat → Nat) (n : Nat) : Prop := n ≤ 80 ∧ ac K n ≤ 10 ∧ ∀ c, c < n → K c < 8 ∧ F c < 100 ∧ S c < 100 ∧ (K c = 6 → S c < n)
/-- only what belongs to the concepts has changed -/
def frC (σ σ' : tq_S) : Prop := (∀ k, 5 ≤ k → σ'.1 k = σ.1 k) ∧ (∀ k, 2 ≤ k → σ'.2.1 k = σ.2.1 k) ∧ (∀ k, 2 ≤ k → σ'.2.2 k = σ.2.2 k)
theorem frC.rf (σ : tq_S) : frC σ σ := ⟨fun _ _ => rfl, fun _ _ => rfl, fun _ _ => rfl⟩
theorem frC.tr {a b c : tq_S} (h : frC a b) (h' : frC b c) : frC a c := ⟨fun k hk => (h'.1 k hk).trans (h.1 k hk), fun k hk => (h'.2.1 k hk).trans (h.2.1 k hk), fun k hk => (h'.2.2 k hk).trans (h.2.2 k hk)⟩
theorem mtc_mt {A B C : Nat → Int32} {K F S : Nat → Nat} {k a b c : Nat} (h : A c = nI (K c) ∧ B c = nI (F c) ∧ C c = nI (S c)) (h1 : K c < 2147483648) (h2 : F c < 2147483648) (h3 : S c < 2147483648) (hk : k < 2147483648) (ha : a < 2147483648) (hb : b < 2147483648) : mtc A B C (nI k) (nI a) (nI b) c = mt K F S k a b c := by
  unfold mtc mt
  rw [h.1, h.2.1, h.2.2]
  have e1 : decide (nI (K c) = nI k) = (K c == k) := by
    by_cases q : K c = k
    · rw [q]; simp
    · have : ¬ nI (K c) = nI k := fun w => q ((tq_eq h1 hk).mp w)
      simp [q, this]
  have e2 : decide (nI (F c) = nI a) = (F c == a) := by
    by_cases q : F c = a
    · rw [q]; simp
    · have : ¬ nI (F c) = nI a := fun w => q ((tq_eq h2 ha).mp w)
      simp [q, this]
  have e3 : decide (nI (S c) = nI b) = (S c == b) := by
    by_cases q : S c = b
    · rw [q]; simp
    · have : ¬ nI (S c) = nI b := fun w => q ((tq_eq h3 hb).mp w)
      simp [q, this]
  rw [e1, e2, e3]
/-- Concepts.find, in the table's words -/
theorem sp_find {K F S : Nat → Nat} {n : Nat} {σ : tq_S} (hw : wb K F S n) (h0 : σ.2.2 0 = nI n) (ht : ∀ c, c < n → σ.1 0 c = nI (K c) ∧ σ.1 1 c = nI (F c) ∧ σ.1 2 c = nI (S c)) {k a b : Nat} (hk : k < 2147483648) (ha : a < 2147483648) (hb : b < 2147483648) :
    tq_fI st_Co_find (0, [nI k, nI a, nI b], [], σ) = some (if fd K F S k a b n < n then nI (fd K F S k a b n) else -1, σ) := by
  have e : ff (mtc (σ.1 0) (σ.1 1) (σ.1 2) (nI k) (nI a) (nI b)) n = fd K F S k a b n := ff_congr (fun c hc => by
    have := hw.2.2 c hc
    exact mtc_mt (ht c hc) (by omega) (by omega) (by omega) hk ha hb)
  rw [sp_Co_find hw.1 h0, e]
theorem va_lt {f : Nat → Nat} {n v i : Nat} (h : i < n) : va_up f n v i = f i := va_up_ne f v (by omega)
/-- Concepts.addAtom(n), the concept n having been counted -/
theorem sp_addAtom {σ : tq_S} {n m b : Nat} {k : Nat} {v : Nat → Bool} (hn : n < 80) (hs : σ.2.2 0 = nI (n + 1)) (hm : σ.2.2 1 = nI m) (hm10 : m < 10) (hk : k < 8) (hK : σ.1 0 n = nI k) (hS : σ.1 2 n = nI b) (hb : k = 6 → b < n) (hr : k = 6 → ∀ τ, τ < 1024 → bL (σ.2.1 0 (b * 16 + τ / 64)) (τ % 64) = v τ) :
    ∃ σ', tq_fV st_Co_addAtom (0, [nI n], [], σ) = some ((), σ') ∧ (∀ a, a ≠ 3 → a ≠ 4 → σ'.1 a = σ.1 a) ∧ (∀ a, a ≠ 1 → σ'.2.1 a = σ.2.1 a) ∧ (∀ a, a ≠ 1 → σ'.2.2 a = σ.2.2 a) ∧ σ'.2.2 1 = nI (m + 1) ∧ σ'.1 3 = upd (σ.1 3) m (nI n) ∧
      (k ≠ 6 → σ'.1 4 = σ.1 4 ∧ σ'.2.1 1 = σ.2.1 1) ∧
      (k = 6 → (∀ j, ¬ (m * 16 ≤ j ∧ j < m * 16 + 16) → σ'.2.1 1 j = σ.2.1 1 j) ∧ (∀ w, w < 16 → σ'.2.1 1 (m * 16 + w) = σ.2.1 0 (b * 16 + w)) ∧ (∀ τ, τ < 1024 → ∀ j, j < 32 → bI (σ'.1 4 τ) j = (bI (σ.1 4 τ) j || (decide (j = m) && v τ)))) := by
  obtain ⟨σ3, h3⟩ : ∃ σ3, σ3 = fput (iput σ 3 m (nI n)) 1 (nI (m + 1)) := ⟨_, rfl⟩
  have run : ∀ (Z : tq_S → Prop), tq_wo (if ¬ σ3.1 0 n = 6 then some (tq_rt, [], [], σ3) else tq_gd (nI n) 80 (tq_ob (tq_fV st_Co_noteInner (0, [nI m, σ3.1 2 n], [], σ3)) (fun _ σ10 => some (tq_rt, [], [], σ10)))) (tq_wp st_Co_addAtom (fun d => ∃ σ, d = (tq_rt, [], [], σ) ∧ Z σ)) → ∃ σ', tq_fV st_Co_addAtom (0, [nI n], [], σ) = some ((), σ') ∧ Z σ' := by
    intro Z h
    refine tq_fV_of (tq_at (by decide) ?_)
    show tq_wo (bk_Co_addAtom_0 [nI n] [] σ) _
    rw [bk_Co_addAtom_0]
    refine wi_l ?_
    rw [hm]
    refine wi_g (tq_vin hm10 (by omega)) (wi_l (wi_l ?_))
    refine wi_g (tq_vin hn (by omega)) ?_
    have e : fput (iput σ 3 (nI m).toNatClampNeg (nI n)) 1 ((iput σ 3 (nI m).toNatClampNeg (nI n)).2.2 1 + 1) = σ3 := by
      rw [tq_nc (by omega), h3]
      show fput _ 1 (σ.2.2 1 + 1) = _
      rw [hm, tq_inc]
    rw [e]
    simp only [ia]
    rw [tq_nc (by omega)]
    exact h
  have k0 : σ3.1 0 n = nI k := by rw [h3]; exact hK
  have s0 : σ3.1 2 n = nI b := by rw [h3]; exact hS
  by_cases hk6 : k = 6
  · have hb := hb hk6
    have hr := hr hk6
    obtain ⟨σ', g1, g2, g3, g4, g5, g6, g7⟩ := sp_noteInner (σ := σ3) (n := n + 1) (k := m) (c := b) (v := v) (by omega) (by rw [h3]; exact hs) hm10 (by omega) (by rw [h3]; exact hr)
    obtain ⟨σ'', f1, rfl⟩ := run (fun z => z = σ') (wi_f (by rw [k0, hk6]; decide) (wi_g (tq_vin hn (by omega)) (wi_o (by rw [s0]; exact g1) (wi_s (tq_wp_rt ⟨_, rfl, rfl⟩)))))
    refine ⟨σ'', f1, fun a ha ha4 => ?_, fun a ha => ?_, fun a ha => ?_, ?_, ?_, fun q => absurd hk6 q, fun _ => ⟨fun j hj => ?_, fun w hw => ?_, fun τ hτ j hj => ?_⟩⟩
    · rw [g2 a ha4, h3]
      show (if a = 3 then _ else σ.1 a) = _
      rw [if_neg ha]
    · rw [g3 a ha, h3]; rfl
    · rw [g4, h3]
      show (if a = 1 then _ else σ.2.2 a) = _
      rw [if_neg ha]
    · rw [g4, h3]; rfl
    · rw [g2 3 (by decide), h3]; rfl
    · rw [g5 j hj, h3]; rfl
    · rw [g6 w hw, h3]; rfl
    · rw [g7 τ hτ j hj, h3]; rfl
  · obtain ⟨σ'', f1, rfl⟩ := run (fun z => z = σ3) (wi_t (by rw [k0]; exact fun q => hk6 ((tq_eq (b := 6) (by omega) (by omega)).mp q)) (wi_s (tq_wp_rt ⟨_, rfl, rfl⟩)))
    refine ⟨σ'', f1, fun a ha ha4 => ?_, fun a ha => ?_, fun a ha => ?_, ?_, ?_, fun q => ⟨?_, ?_⟩, fun q => absurd q hk6⟩
    · rw [h3]
      show (if a = 3 then _ else σ.1 a) = _
      rw [if_neg ha]
    · rw [h3]; rfl
    · rw [h3]
      show (if a = 1 then _ else σ.2.2 a) = _
      rw [if_neg ha]
    · rw [h3]; rfl
    · rw [h3]; rfl
    · rw [h3]; rfl
    · rw [h3]; rfl
