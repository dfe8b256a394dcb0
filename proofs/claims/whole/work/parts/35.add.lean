/-! Concepts.add -/
/-- what the new concept's left is: itself, or for ALL the SOME that it denies -/
def lf (K F S : Nat → Nat) (k a b n : Nat) : Nat := if k = 7 then fd K F S 6 a (fd K F S 3 b 0 n) n else a
theorem ve_new {K F S : Nat → Nat} {k a b n τ : Nat} (hk : k < 8) : ve (va_up K n k) (va_up F n a) (va_up S n b) τ (n + 1) n = nw (fun c τ => ve K F S τ n c) (ac K n) k (lf K F S k a b n) b τ := by
  have hc : ∀ i, i < n → va_up K n k i = K i ∧ va_up F n a i = F i ∧ va_up S n b i = S i := fun i hi => ⟨va_lt hi, va_lt hi, va_lt hi⟩
  have hv : ∀ c, ve (va_up K n k) (va_up F n a) (va_up S n b) τ n c = ve K F S τ n c := fun c => ve_congr hc
  have ha : ac (va_up K n k) n = ac K n := ac_congr (fun i hi => (hc i hi).1)
  have hf : ∀ x y z, fd (va_up K n k) (va_up F n a) (va_up S n b) x y z n = fd K F S x y z n := fun x y z => fd_congr hc
  conv => lhs; unfold ve
  rw [if_pos rfl, va_up_self, va_up_self, va_up_self, hv, hv, hv, hf, hf, ha]
  unfold nw lf
  by_cases h7 : k = 7
  · subst h7; rfl
  · simp only [h7, if_false]
theorem sp_add {K F S : Nat → Nat} {n : Nat} {σ : tq_S} (hw : wb K F S n) (hT : cT K F S n σ) {k a b : Nat} (hk : k < 8) (ha : a < 100) (hb : b < 100) (ca : k = 3 ∨ k = 4 ∨ k = 5 → a < n) (cb : k = 4 ∨ k = 5 ∨ k = 6 → b < n) (c7 : k = 7 → fd K F S 3 b 0 n < n ∧ fd K F S 6 a (fd K F S 3 b 0 n) n < n) :
    ((80 ≤ n ∨ (isAt k = true ∧ 10 ≤ ac K n)) → tq_fI st_Co_add (0, [nI k, nI a, nI b], [], σ) = some (-3, σ)) ∧
    (¬ (80 ≤ n ∨ (isAt k = true ∧ 10 ≤ ac K n)) → ∃ σ', tq_fI st_Co_add (0, [nI k, nI a, nI b], [], σ) = some (nI n, σ') ∧ cT (va_up K n k) (va_up F n a) (va_up S n b) (n + 1) σ' ∧ frC σ σ') := by
  obtain ⟨t0, t1, t2, t3, t4, t5, t6⟩ := id hT
  have hn80 := hw.1
  have hac := hw.2.1
  have is2 : (nI k = 2 ↔ k = 2) := tq_eq (b := 2) (by omega) (by omega)
  have is6 : (nI k = 6 ↔ k = 6) := tq_eq (b := 6) (by omega) (by omega)
  have is7 : (nI k = 7 ↔ k = 7) := tq_eq (b := 7) (by omega) (by omega)
  have c80 : ((80 : Int32) ≤ nI n ↔ 80 ≤ n) := tq_le (a := 80) (by omega) (by omega)
  have c10 : (nI (ac K n) < 10 ↔ ac K n < 10) := tq_lt (b := 10) (by omega) (by omega)
  have at2 : k = 2 ∨ k = 6 ↔ isAt k = true := by simp [isAt]
  have hw_ : ∀ {c : Nat}, c < n → K c = 6 → S c < n := fun {c} hc h6 => (hw.2.2 c hc).2.2.2 h6
  -- how it comes to 44, or ends with FULL
  have go : ∀ Q : tq_C → Prop, ((80 ≤ n ∨ (isAt k = true ∧ 10 ≤ ac K n)) → Q (tq_rt, [-3], [], σ)) → (¬ (80 ≤ n ∨ (isAt k = true ∧ 10 ≤ ac K n)) → tq_wp st_Co_add Q (44, [nI k, nI a, nI b, if isAt k then 1 else 0], [], σ)) → tq_wp st_Co_add Q (0, [nI k, nI a, nI b], [], σ) := by
    intro Q h1 h2
    have b11 : isAt k = true → tq_wp st_Co_add Q (11, [nI k, nI a, nI b], [], σ) := by
      intro hat
      refine tq_at (by decide) ?_
      show tq_wo (bk_Co_add_11 [nI k, nI a, nI b] [] σ) _
      rw [bk_Co_add_11, t0, t1]
      refine wi_c (fun h => wi_s (tq_wp_rt (h1 (Or.inl (c80.mp h))))) (fun h => wi_c (fun h' => wi_s ?_) (fun h' => wi_s (tq_wp_rt (h1 (Or.inr ⟨hat, ?_⟩)))))
      · have := h2 (fun q => q.elim (fun q => h (c80.mpr q)) (fun q => absurd (c10.mp h') (by omega)))
        rw [hat] at this
        exact this
      · have : ¬ ac K n < 10 := fun q => h' (c10.mpr q)
        omega
    refine tq_at (by decide) ?_
    show tq_wo (bk_Co_add_0 [nI k, nI a, nI b] [] σ) _
    rw [bk_Co_add_0, t0]
    refine wi_c (fun h => wi_s (b11 (at2.mp (Or.inl (is2.mp h))))) (fun h => wi_c (fun h' => wi_c (fun h'' => wi_s (tq_wp_rt (h1 (Or.inl (c80.mp h''))))) (fun h'' => wi_s ?_)) (fun h' => wi_s (b11 (at2.mp (Or.inr (is6.mp (Classical.not_not.mp h')))))))
    have hat : isAt k = false := by
      cases e : isAt k with
      | false => rfl
      | true => exact absurd (at2.mpr e) (fun q => q.elim (fun q => h (is2.mpr q)) (fun q => h' (is6.mpr q)))
    have := h2 (fun q => q.elim (fun q => h'' (c80.mpr q)) (fun q => by rw [hat] at q; cases q.1))
    rw [hat] at this
    exact this
  refine ⟨fun hf => tq_fI_e (go _ (fun _ => rfl) (fun h => absurd hf h)), fun hf => ?_⟩
  have hn : n < 80 := by
    rcases Nat.lt_or_ge n 80 with q | q
    · exact q
    · exact absurd (Or.inl q) hf
  obtain ⟨σ3, h3⟩ : ∃ σ3, σ3 = iput (iput (iput σ 0 n (nI k)) 1 n (nI a)) 2 n (nI b) := ⟨_, rfl⟩
  have e30 : ∀ c, σ3.1 0 c = if c = n then nI k else σ.1 0 c := fun c => by rw [h3]; rfl
  have e31 : ∀ c, σ3.1 1 c = if c = n then nI a else σ.1 1 c := fun c => by rw [h3]; rfl
  have e32 : ∀ c, σ3.1 2 c = if c = n then nI b else σ.1 2 c := fun c => by rw [h3]; rfl
  have e3o : ∀ x, x ≠ 0 → x ≠ 1 → x ≠ 2 → σ3.1 x = σ.1 x := fun x x0 x1 x2 => by
    rw [h3]
    show (if x = 2 then _ else (if x = 1 then _ else (if x = 0 then _ else σ.1 x))) = _
    rw [if_neg x2, if_neg x1, if_neg x0]
  have e3l : σ3.2.1 = σ.2.1 := by rw [h3]; rfl
  have e3f : σ3.2.2 = σ.2.2 := by rw [h3]; rfl
  have ht3 : ∀ c, c < n → σ3.1 0 c = nI (K c) ∧ σ3.1 1 c = nI (F c) ∧ σ3.1 2 c = nI (S c) := fun c hc => by
    rw [e30, e31, e32, if_neg (by omega), if_neg (by omega), if_neg (by omega)]; exact t2 c hc
  -- the loop over the words
  have hlf : lf K F S k a b n < 2147483648 := by
    unfold lf
    split
    · next h => have := (c7 h).2; omega
    · omega
  obtain ⟨I, hI⟩ : ∃ I : Nat → tq_S → Prop, I = (fun w σ' => σ'.1 = σ3.1 ∧ σ'.2.2 = σ3.2.2 ∧ (∀ x, x ≠ 0 → σ'.2.1 x = σ3.2.1 x) ∧ (∀ j, ¬ (n * 16 ≤ j ∧ j < n * 16 + 16) → σ'.2.1 0 j = σ3.2.1 0 j) ∧ ∀ u, u < w → ∀ i, i < 64 → bL (σ'.2.1 0 (n * 16 + u)) i = nw (fun c τ => ve K F S τ n c) (ac K n) k (lf K F S k a b n) b (u * 64 + i)) := ⟨_, rfl⟩
  have loop : ∀ p : Nat × tq_S, (p.1 ≤ 16 ∧ I p.1 p.2) → tq_wp st_Co_add (fun d => ∃ r σ', d = (tq_rt, [r], [], σ') ∧ (r = nI n ∧ cT (va_up K n k) (va_up F n a) (va_up S n b) (n + 1) σ' ∧ frC σ σ')) (103, [nI k, nI b, if isAt k then 1 else 0, nI n, nI (lf K F S k a b n), nI p.1], [], p.2) := by
    refine tq_ind 103 (fun p : Nat × tq_S => ([nI k, nI b, if isAt k then 1 else 0, nI n, nI (lf K F S k a b n), nI p.1], [], p.2)) (fun p => p.1 ≤ 16 ∧ I p.1 p.2) (fun p => 16 - p.1) ?_
    rintro ⟨w, σ'⟩ ⟨hw16, hi⟩ ih
    dsimp only at hw16 hi ih ⊢
    refine tq_at (by decide) ?_
    show tq_wo (bk_Co_add_103 [nI k, nI b, if isAt k then 1 else 0, nI n, nI (lf K F S k a b n), nI w] [] σ') _
    rw [bk_Co_add_103]
    rw [hI] at hi
    obtain ⟨i1, i2, i3, i4, i5⟩ := hi
    refine wi_c (fun h => wi_l ?_) (fun h => ?_)
    · have hw : w = 16 := by
        have := (tq_le (a := 16) (b := w) (by omega) (by omega)).mp h
        omega
      subst hw
      have f0 : σ'.2.2 0 + 1 = nI (n + 1) := by rw [i2, e3f, t0, tq_inc]
      rw [f0]
      obtain ⟨σ4, h4⟩ : ∃ σ4, σ4 = fput σ' 0 (nI (n + 1)) := ⟨_, rfl⟩
      rw [← h4]
      have g1 : σ4.1 = σ3.1 := by rw [h4]; exact i1
      have gl : σ4.2.1 = σ'.2.1 := by rw [h4]; rfl
      have gf : ∀ x, x ≠ 0 → σ4.2.2 x = σ.2.2 x := fun x hx => by
        rw [h4]
        show (if x = 0 then _ else σ'.2.2 x) = _
        rw [if_neg hx, i2, e3f]
      have g0 : σ4.2.2 0 = nI (n + 1) := by rw [h4]; rfl
      -- rows of old and new concepts
      have hro : ∀ c, c < n → ∀ j, j < 16 → σ4.2.1 0 (c * 16 + j) = σ.2.1 0 (c * 16 + j) := fun c hc j hj => by rw [gl, i4 _ (by omega), e3l]
      have rows : ∀ c τ, c < n + 1 → τ < 1024 → bL (σ4.2.1 0 (c * 16 + τ / 64)) (τ % 64) = ve (va_up K n k) (va_up F n a) (va_up S n b) τ (n + 1) c := by
        intro c τ hc hτ
        by_cases e : c = n
        · subst e
          rw [ve_new hk, gl, i5 (τ / 64) (by omega) (τ % 64) (by omega)]
          congr 1
          omega
        · rw [hro c (by omega) _ (by omega), t4 c τ (by omega) hτ, ve_old (by omega)]
          exact (ve_congr (fun i hi => ⟨va_lt hi, va_lt hi, va_lt hi⟩)).symm
      have tab : ∀ c, c < n + 1 → σ4.1 0 c = nI (va_up K n k c) ∧ σ4.1 1 c = nI (va_up F n a c) ∧ σ4.1 2 c = nI (va_up S n b c) := by
        intro c hc
        rw [g1, e30, e31, e32]
        by_cases e : c = n
        · subst e; simp [va_up_self]
        · rw [if_neg e, if_neg e, if_neg e, va_up_ne _ _ e, va_up_ne _ _ e, va_up_ne _ _ e]; exact t2 c (by omega)
      have acl : ∀ c, c ≤ n → ac (va_up K n k) c = ac K c := fun c hc => ac_congr (fun i hi => va_lt (by omega))
      have acn : ac (va_up K n k) (n + 1) = ac K n + (if isAt k then 1 else 0) := by
        show ac (va_up K n k) n + (if isAt (va_up K n k n) then 1 else 0) = _
        rw [acl n (Nat.le_refl n), va_up_self]
      have vel : ∀ τ c, c < n → ve (va_up K n k) (va_up F n a) (va_up S n b) τ (n + 1) c = ve K F S τ n c := fun τ c hc => by
        rw [ve_old hc]; exact ve_congr (fun i hi => ⟨va_lt hi, va_lt hi, va_lt hi⟩)
      cases hat : isAt k with
      | false =>
        refine wi_t rfl (wi_s (tq_wp_rt ⟨_, _, rfl, rfl, ⟨g0, ?_, tab, ?_, rows, ?_, ?_⟩, ?_⟩))
        · rw [gf 1 (by decide), t1, acn, hat]; rfl
        · intro c hc hat2
          by_cases e : c = n
          · subst e; rw [va_up_self, hat] at hat2; cases hat2
          · rw [va_up_ne _ _ e] at hat2
            rw [acl c (by omega), g1, e3o 3 (by decide) (by decide) (by decide)]
            exact t3 c (by omega) hat2
        · intro c hc h6 w hw
          by_cases e : c = n
          · subst e; rw [va_up_self] at h6; rw [h6] at hat; cases hat
          · rw [va_up_ne _ _ e] at h6
            have hsc : S c < n := (hw_ (c := c) (by omega) h6)
            rw [acl c (by omega), va_up_ne _ _ e, gl, i3 1 (by decide), e3l, t5 c (by omega) h6 w hw, ← gl, hro (S c) hsc w hw]
        · intro τ hτ j hj
          rw [g1, e3o 4 (by decide) (by decide) (by decide), t6 τ hτ j hj]
          constructor
          · rintro ⟨c, q1, q2, q3, q4⟩
            exact ⟨c, by omega, by rw [va_lt q1]; exact q2, by rw [acl c (by omega)]; exact q3, by rw [va_lt q1, vel τ _ (hw_ q1 q2)]; exact q4⟩
          · rintro ⟨c, q1, q2, q3, q4⟩
            by_cases e : c = n
            · subst e; rw [va_up_self] at q2; rw [q2] at hat; cases hat
            · rw [va_up_ne _ _ e] at q2 q4
              rw [acl c (by omega)] at q3
              rw [vel τ _ (hw_ (by omega) q2)] at q4
              exact ⟨c, by omega, q2, q3, q4⟩
        · exact ⟨fun x hx => by rw [g1, e3o x (by omega) (by omega) (by omega)], fun x hx => by rw [gl, i3 x (by omega), e3l], fun x hx => gf x (by omega)⟩
      | true =>
        have hm10 : ac K n < 10 := by
          rcases Nat.lt_or_ge (ac K n) 10 with z | z
          · exact z
          · exact absurd (Or.inr ⟨hat, z⟩) hf
        obtain ⟨σ5, s1, s2, s3, s4, s5, s6, s7, s8⟩ := sp_addAtom (σ := σ4) (n := n) (m := ac K n) (b := b) (k := k) (v := fun τ => ve K F S τ n b) hn g0 (by rw [gf 1 (by decide)]; exact t1) hm10 hk (by rw [g1, e30, if_pos rfl]) (by rw [g1, e32, if_pos rfl]) (fun q => cb (by omega)) (fun q τ hτ => by rw [hro b (cb (by omega)) _ (by omega)]; exact t4 b τ (cb (by omega)) hτ)
        have r5 : ∀ c, c < n + 1 → ∀ w, w < 16 → σ5.2.1 0 (c * 16 + w) = σ4.2.1 0 (c * 16 + w) := fun c hc w hw => by rw [s3 0 (by decide)]
        refine wi_f (by decide) (wi_o s1 (wi_s (tq_wp_rt ⟨_, _, rfl, rfl, ⟨?_, ?_, ?_, ?_, ?_, ?_, ?_⟩, ?_⟩)))
        · rw [s4 0 (by decide)]; exact g0
        · rw [s5, acn, hat]; rfl
        · intro c hc
          rw [s2 0 (by decide) (by decide), s2 1 (by decide) (by decide), s2 2 (by decide) (by decide)]
          exact tab c hc
        · intro c hc hat2
          by_cases e : c = n
          · subst e
            rw [acl c (Nat.le_refl c), s6, pk_us]
          · rw [va_up_ne _ _ e] at hat2
            have := ac_at (K := K) (show c < n by omega) hat2
            rw [acl c (by omega), s6, pk_un (by omega), g1, e3o 3 (by decide) (by decide) (by decide)]
            exact t3 c (by omega) hat2
        · intro c τ hc hτ
          rw [s3 0 (by decide)]
          exact rows c τ hc hτ
        · intro c hc h6 w hw16
          by_cases e : c = n
          · subst e
            rw [va_up_self] at h6
            rw [acl c (Nat.le_refl c), va_up_self, (s8 h6).2.1 w hw16, s3 0 (by decide)]
          · rw [va_up_ne _ _ e] at h6
            have hsc : S c < n := hw_ (c := c) (by omega) h6
            have hlt := ac_at (K := K) (show c < n by omega) (by rw [h6]; rfl)
            have old : σ5.2.1 1 (ac K c * 16 + w) = σ4.2.1 1 (ac K c * 16 + w) := by
              by_cases hk6 : k = 6
              · exact (s8 hk6).1 _ (by omega)
              · rw [(s7 hk6).2]
            rw [acl c (by omega), va_up_ne _ _ e, old, s3 0 (by decide), gl, i3 1 (by decide), e3l, t5 c (by omega) h6 w hw16, ← gl, hro (S c) hsc w hw16]
        · intro τ hτ j hj
          have old : bI (σ4.1 4 τ) j = true ↔ ∃ c, c < n ∧ K c = 6 ∧ ac K c = j ∧ ve K F S τ n (S c) = true := by
            rw [g1, e3o 4 (by decide) (by decide) (by decide)]; exact t6 τ hτ j hj
          have fwd : (∃ c, c < n ∧ K c = 6 ∧ ac K c = j ∧ ve K F S τ n (S c) = true) → ∃ c, c < n + 1 ∧ va_up K n k c = 6 ∧ ac (va_up K n k) c = j ∧ ve (va_up K n k) (va_up F n a) (va_up S n b) τ (n + 1) (va_up S n b c) = true := by
            rintro ⟨c, q1, q2, q3, q4⟩
            exact ⟨c, by omega, by rw [va_lt q1]; exact q2, by rw [acl c (by omega)]; exact q3, by rw [va_lt q1, vel τ _ (hw_ q1 q2)]; exact q4⟩
          by_cases hk6 : k = 6
          · rw [(s8 hk6).2.2 τ hτ j hj]
            have hbn : b < n := cb (by omega)
            constructor
            · intro q
              rcases Bool.or_eq_true_iff.mp q with q | q
              · exact fwd (old.mp q)
              · have q := Bool.and_eq_true_iff.mp q
                have q1 : j = ac K n := of_decide_eq_true q.1
                refine ⟨n, by omega, by rw [va_up_self]; exact hk6, by rw [acl n (Nat.le_refl n)]; exact q1.symm, ?_⟩
                rw [va_up_self, vel τ b hbn]; exact q.2
            · rintro ⟨c, q1, q2, q3, q4⟩
              apply Bool.or_eq_true_iff.mpr
              by_cases e : c = n
              · subst e
                rw [acl c (Nat.le_refl c)] at q3
                rw [va_up_self, vel τ b hbn] at q4
                exact Or.inr (Bool.and_eq_true_iff.mpr ⟨decide_eq_true q3.symm, q4⟩)
              · rw [va_up_ne _ _ e] at q2 q4
                rw [acl c (by omega)] at q3
                rw [vel τ _ (hw_ (by omega) q2)] at q4
                exact Or.inl (old.mpr ⟨c, by omega, q2, q3, q4⟩)
          · rw [(s7 hk6).1]
            constructor
            · exact fun q => fwd (old.mp q)
            · rintro ⟨c, q1, q2, q3, q4⟩
              by_cases e : c = n
              · subst e; rw [va_up_self] at q2; exact absurd q2 hk6
              · rw [va_up_ne _ _ e] at q2 q4
                rw [acl c (by omega)] at q3
                rw [vel τ _ (hw_ (by omega) q2)] at q4
                exact old.mpr ⟨c, by omega, q2, q3, q4⟩
        · exact ⟨fun x hx => by rw [s2 x (by omega) (by omega), g1, e3o x (by omega) (by omega) (by omega)], fun x hx => by rw [s3 x (by omega), gl, i3 x (by omega), e3l], fun x hx => by rw [s4 x (by omega)]; exact gf x (by omega)⟩
    · have hw : w < 16 := tq_nle (a := 16) (by omega) (by omega) h
      obtain ⟨y, y1, y2⟩ := sp_newWord (σ := σ') (n := n) (m := ac K n) (k := k) (a := lf K F S k a b n) (b := b) (w := w) (v := fun c τ => ve K F S τ n c) hn80 (by rw [i2, e3f]; exact t0) (by rw [i2, e3f]; exact t1) (fun c τ hc hτ => by rw [i4 _ (by omega), e3l]; exact t4 c τ hc hτ) hk (fun q => by
        have := at2.mp q
        rcases Nat.lt_or_ge (ac K n) 10 with z | z
        · exact z
        · exact absurd (Or.inr ⟨this, z⟩) hf) (fun q => by
        unfold lf
        split
        · next h7 => exact (c7 h7).2
        · next h7 => exact ca (by omega)) (fun q => cb (by omega)) hw
      refine wi_o y1 ?_
      rw [tq_m16, nI_add, tq_nc (by omega)]
      refine wi_g (tq_vin (by omega) (by omega)) (wi_l (wi_l (wi_s ?_)))
      rw [tq_inc]
      refine ih (w + 1, lput σ' 0 (n * 16 + w) y) ⟨by omega, ?_⟩ (by dsimp only; omega)
      rw [hI]
      refine ⟨i1, i2, fun x hx => ?_, fun j hj => ?_, fun u hu i hi => ?_⟩
      · show (if x = 0 then _ else σ'.2.1 x) = _
        rw [if_neg hx]; exact i3 x hx
      · show vp_updL (σ'.2.1 0) (n * 16 + w) y j = _
        rw [pk_uLn (by omega)]; exact i4 j hj
      · show bL (vp_updL (σ'.2.1 0) (n * 16 + w) y (n * 16 + u)) i = _
        by_cases e : u = w
        · rw [e, pk_uLs]; exact y2 i hi
        · rw [pk_uLn (by omega)]; exact i5 u (by omega) i hi
  obtain ⟨r, σ', h1, rfl, h2, h3'⟩ := tq_fI_of (go (fun d => ∃ r σ', d = (tq_rt, [r], [], σ') ∧ (r = nI n ∧ cT (va_up K n k) (va_up F n a) (va_up S n b) (n + 1) σ' ∧ frC σ σ')) (fun h => absurd h hf) (fun _ => by
    have start : tq_wp st_Co_add (fun d => ∃ r σ', d = (tq_rt, [r], [], σ') ∧ (r = nI n ∧ cT (va_up K n k) (va_up F n a) (va_up S n b) (n + 1) σ' ∧ frC σ σ')) (103, [nI k, nI b, if isAt k then 1 else 0, nI n, nI (lf K F S k a b n), 0], [], σ3) := loop (0, σ3) ⟨Nat.zero_le _, by
      rw [hI]
      exact ⟨rfl, rfl, fun _ _ => rfl, fun _ _ => rfl, fun u h => absurd h (Nat.not_lt_zero _)⟩⟩
    refine tq_at (by decide) ?_
    show tq_wo (bk_Co_add_44 [nI k, nI a, nI b, if isAt k then 1 else 0] [] σ) _
    rw [bk_Co_add_44]
    refine wi_l ?_
    rw [t0, tq_nc (by omega)]
    have vi := tq_vin hn (by omega)
    refine wi_g vi (wi_l (wi_g vi (wi_l (wi_g vi (wi_l ?_)))))
    rw [← h3]
    refine wi_c (fun h => wi_s ?_) (fun h => ?_)
    · have h7 : k ≠ 7 := fun q => h (is7.mpr q)
      have : lf K F S k a b n = a := by unfold lf; rw [if_neg h7]
      rw [this] at start
      exact start
    · have h7 : k = 7 := is7.mp (Classical.not_not.mp h)
      obtain ⟨q1, q2⟩ := c7 h7
      have f1 := sp_find (σ := σ3) hw (by rw [e3f]; exact t0) ht3 (k := 3) (a := b) (b := 0) (by omega) (by omega) (by omega)
      rw [if_pos q1] at f1
      have f2 := sp_find (σ := σ3) hw (by rw [e3f]; exact t0) ht3 (k := 6) (a := a) (b := fd K F S 3 b 0 n) (by omega) (by omega) (by omega)
      rw [if_pos q2] at f2
      refine wi_o f1 (wi_o f2 (wi_s ?_))
      have : lf K F S k a b n = fd K F S 6 a (fd K F S 3 b 0 n) n := by unfold lf; rw [if_pos h7]
      rw [this] at start
      exact start))
  exact ⟨σ', h1, h2, h3'⟩
