/-! Concepts.newWord, noteInner, addAtom, add, make -/
theorem tq_is {a b : Nat} (ha : a < 2147483648) (hb : b < 2147483648) : nI a = nI b ↔ a = b := tq_eq ha hb
/-- what the row of a new concept says of type τ -/
def nw (v : Nat → Nat → Bool) (m k a b τ : Nat) : Bool :=
  if k = 0 then true else if k = 2 then τ.testBit m else if k = 3 then !(v a τ) else if k = 4 then v a τ && v b τ else if k = 5 then v a τ || v b τ else if k = 6 then τ.testBit m else if k = 7 then !(v a τ) else false
theorem tq_dm {w i : Nat} (hi : i < 64) : (w * 64 + i) / 64 = w ∧ (w * 64 + i) % 64 = i := by omega
theorem sp_newWord {σ : tq_S} {n m k a b w : Nat} {v : Nat → Nat → Bool} (hn : n ≤ 80) (hs : σ.2.2 0 = nI n) (hm : σ.2.2 1 = nI m) (hr : ∀ c τ, c < n → τ < 1024 → bL (σ.2.1 0 (c * 16 + τ / 64)) (τ % 64) = v c τ)
    (hk : k < 8) (hma : k = 2 ∨ k = 6 → m < 10) (ha : k = 3 ∨ k = 4 ∨ k = 5 ∨ k = 7 → a < n) (hb : k = 4 ∨ k = 5 → b < n) (hw : w < 16) :
    ∃ y, tq_fL st_Co_newWord (0, [nI k, nI a, nI b, nI w], [], σ) = some (y, σ) ∧ ∀ i, i < 64 → bL y i = nw v m k a b (w * 64 + i) := by
  have hrow : ∀ c, c < n → ∀ i, i < 64 → bL (σ.2.1 0 (c * 16 + w)) i = v c (w * 64 + i) := fun c hc i hi => by
    have := hr c (w * 64 + i) hc (by omega)
    rw [(tq_dm hi).1, (tq_dm hi).2] at this
    exact this
  have fin : ∀ y, tq_wo (bk_Co_newWord_0 [nI k, nI a, nI b, nI w] [] σ) (tq_wp st_Co_newWord (fun d => d = (tq_rt, [], [y], σ))) → tq_fL st_Co_newWord (0, [nI k, nI a, nI b, nI w], [], σ) = some (y, σ) := fun y h => tq_fL_e (tq_at (by decide) h)
  have ne : ∀ j, j < 8 → k ≠ j → ¬ nI k = nI j := fun j hj h q => h ((tq_is (by omega) (by omega)).mp q)
  rcases (show k = 0 ∨ k = 1 ∨ k = 2 ∨ k = 3 ∨ k = 4 ∨ k = 5 ∨ k = 6 ∨ k = 7 by omega) with rfl | rfl | rfl | rfl | rfl | rfl | rfl | rfl
  · refine ⟨-1, fin _ ?_, fun i hi => by rw [bL_m1 hi]; rfl⟩
    rw [bk_Co_newWord_0]; exact wi_t rfl (wi_s (tq_wp_rt rfl))
  · refine ⟨0, fin _ ?_, fun i hi => by rw [bL_0]; rfl⟩
    rw [bk_Co_newWord_0]; exact wi_f (by decide) (wi_t rfl (wi_s (tq_wp_rt rfl)))
  · obtain ⟨y, h1, h2⟩ := sp_atomWord (hma (Or.inl rfl)) hw σ
    refine ⟨y, fin _ ?_, fun i hi => by rw [h2 i hi]; rfl⟩
    rw [bk_Co_newWord_0]; exact wi_f (by decide) (wi_f (by decide) (wi_t rfl (wi_o (by rw [hm]; exact h1) (wi_s (tq_wp_rt rfl)))))
  · refine ⟨σ.2.1 0 (a * 16 + w) ^^^ (-1), fin _ ?_, fun i hi => by rw [bL_not _ hi, hrow a (ha (by decide)) i hi]; rfl⟩
    rw [bk_Co_newWord_0]; exact wi_f (by decide) (wi_f (by decide) (wi_f (by decide) (wi_t rfl (wi_o (sp_word hn hs (ha (by decide)) hw) (wi_s (tq_wp_rt rfl))))))
  · refine ⟨σ.2.1 0 (a * 16 + w) &&& σ.2.1 0 (b * 16 + w), fin _ ?_, fun i hi => by rw [bL_and, hrow a (ha (by decide)) i hi, hrow b (hb (by decide)) i hi]; rfl⟩
    rw [bk_Co_newWord_0]; exact wi_f (by decide) (wi_f (by decide) (wi_f (by decide) (wi_f (by decide) (wi_t rfl (wi_o (sp_word hn hs (ha (by decide)) hw) (wi_o (sp_word hn hs (hb (by decide)) hw) (wi_s (tq_wp_rt rfl))))))))
  · refine ⟨σ.2.1 0 (a * 16 + w) ||| σ.2.1 0 (b * 16 + w), fin _ ?_, fun i hi => by rw [bL_or, hrow a (ha (by decide)) i hi, hrow b (hb (by decide)) i hi]; rfl⟩
    rw [bk_Co_newWord_0]; exact wi_f (by decide) (wi_f (by decide) (wi_f (by decide) (wi_f (by decide) (wi_f (by decide) (wi_t rfl (wi_o (sp_word hn hs (ha (by decide)) hw) (wi_o (sp_word hn hs (hb (by decide)) hw) (wi_s (tq_wp_rt rfl)))))))))
  · obtain ⟨y, h1, h2⟩ := sp_atomWord (hma (Or.inr rfl)) hw σ
    refine ⟨y, fin _ ?_, fun i hi => by rw [h2 i hi]; rfl⟩
    rw [bk_Co_newWord_0]; exact wi_f (by decide) (wi_f (by decide) (wi_f (by decide) (wi_f (by decide) (wi_f (by decide) (wi_f (by decide) (wi_t rfl (wi_o (by rw [hm]; exact h1) (wi_s (tq_wp_rt rfl)))))))))
  · refine ⟨σ.2.1 0 (a * 16 + w) ^^^ (-1), fin _ ?_, fun i hi => by rw [bL_not _ hi, hrow a (ha (by decide)) i hi]; rfl⟩
    rw [bk_Co_newWord_0]; exact wi_f (by decide) (wi_f (by decide) (wi_f (by decide) (wi_f (by decide) (wi_f (by decide) (wi_f (by decide) (wi_f (by decide) (wi_t rfl (wi_o (sp_word hn hs (ha (by decide)) hw) (wi_s (tq_wp_rt rfl))))))))))
theorem bI_bit : ∀ k, k < 32 → ∀ j, j < 32 → bI ((1 : Int32) <<< (nI k &&& 31)) j = decide (j = k) := by decide +kernel
/-- Concepts.noteInner(k, inner): row k of innerRows is inner's row, bit k of inners[τ] is set where inner holds -/
theorem sp_noteInner {σ : tq_S} {n k c : Nat} {v : Nat → Bool} (hn : n ≤ 80) (hs : σ.2.2 0 = nI n) (hk : k < 10) (hc : c < n) (hr : ∀ τ, τ < 1024 → bL (σ.2.1 0 (c * 16 + τ / 64)) (τ % 64) = v τ) :
    ∃ σ', tq_fV st_Co_noteInner (0, [nI k, nI c], [], σ) = some ((), σ') ∧ (∀ a, a ≠ 4 → σ'.1 a = σ.1 a) ∧ (∀ a, a ≠ 1 → σ'.2.1 a = σ.2.1 a) ∧ σ'.2.2 = σ.2.2 ∧
      (∀ j, ¬ (k * 16 ≤ j ∧ j < k * 16 + 16) → σ'.2.1 1 j = σ.2.1 1 j) ∧ (∀ w, w < 16 → σ'.2.1 1 (k * 16 + w) = σ.2.1 0 (c * 16 + w)) ∧
      (∀ τ, τ < 1024 → ∀ j, j < 32 → bI (σ'.1 4 τ) j = (bI (σ.1 4 τ) j || (decide (j = k) && v τ))) := by
  -- what holds when w words are through, and i types of the next one
  have inv : ∃ J : Nat → Nat → tq_S → Prop, J = (fun w i σ' => (∀ a, a ≠ 4 → σ'.1 a = σ.1 a) ∧ (∀ a, a ≠ 1 → σ'.2.1 a = σ.2.1 a) ∧ σ'.2.2 = σ.2.2 ∧ (∀ j, ¬ (k * 16 ≤ j ∧ j < k * 16 + 16) → σ'.2.1 1 j = σ.2.1 1 j) ∧ (∀ u, u < w → σ'.2.1 1 (k * 16 + u) = σ.2.1 0 (c * 16 + u)) ∧
      (∀ τ, τ < 64 * w + i → τ < 1024 → ∀ j, j < 32 → bI (σ'.1 4 τ) j = (bI (σ.1 4 τ) j || (decide (j = k) && v τ))) ∧ (∀ τ, 64 * w + i ≤ τ → σ'.1 4 τ = σ.1 4 τ)) := ⟨_, rfl⟩
  obtain ⟨J, hJ⟩ := inv
  obtain ⟨σ', h1, h2⟩ := tq_fV_of (st := st_Co_noteInner) (c := (0, [nI k, nI c], [], σ)) (P := fun σ' => J 16 0 σ') (by
    refine tq_at (by decide) ?_
    show tq_wo (bk_Co_noteInner_0 [nI k, nI c] [] σ) _
    unfold bk_Co_noteInner_0
    rw [tq_wo_some]
    refine tq_ind 2 (fun p : Nat × tq_S => ([nI k, nI c, nI p.1], [], p.2)) (fun p => p.1 ≤ 16 ∧ J p.1 0 p.2) (fun p => 16 - p.1) ?_ (0, σ) ⟨Nat.zero_le _, ?_⟩
    · rintro ⟨w, σ'⟩ ⟨hw, hj⟩ ihw
      dsimp only at hw hj ihw ⊢
      refine tq_at (by decide) ?_
      show tq_wo (bk_Co_noteInner_2 [nI k, nI c, nI w] [] σ') _
      rw [bk_Co_noteInner_2]
      refine wi_c (fun h => ?_) (fun h => ?_)
      · have : w = 16 := by
          have := (tq_le (a := 16) (b := w) (by omega) (by omega)).mp h
          omega
        subst this
        exact wi_s (tq_wp_rt ⟨_, rfl, hj⟩)
      · have hw : w < 16 := tq_nle (a := 16) (by omega) (by omega) h
        rw [hJ] at hj
        obtain ⟨j1, j2, j3, j4, j5, j6, j7⟩ := hj
        refine wi_o (sp_word hn (by rw [j3]; exact hs) hc hw) ?_
        rw [tq_m16, nI_add, tq_nc (by omega)]
        refine wi_g (tq_vin (by omega) (by omega)) (wi_l (wi_s ?_))
        have e0 : σ'.2.1 0 = σ.2.1 0 := j2 0 (by decide)
        rw [e0]
        refine tq_ind 32 (fun p : Nat × tq_S => ([nI k, nI c, nI w, nI p.1], [σ.2.1 0 (c * 16 + w)], p.2)) (fun p => p.1 ≤ 64 ∧ J w p.1 p.2 ∧ p.2.2.1 1 (k * 16 + w) = σ.2.1 0 (c * 16 + w)) (fun p => 64 - p.1) ?_ (0, lput σ' 1 (k * 16 + w) (σ.2.1 0 (c * 16 + w))) ⟨Nat.zero_le _, ?_, ?_⟩
        · rintro ⟨i, σ2⟩ ⟨hi, hj, hx⟩ ihi
          dsimp only at hi hj hx ihi ⊢
          refine tq_at (by decide) ?_
          show tq_wo (bk_Co_noteInner_32 [nI k, nI c, nI w, nI i] [σ.2.1 0 (c * 16 + w)] σ2) _
          rw [bk_Co_noteInner_32]
          rw [hJ] at hj
          obtain ⟨i1, i2, i3, i4, i5, i6, i7⟩ := hj
          refine wi_c (fun h => ?_) (fun h => ?_)
          · have : i = 64 := by
              have := (tq_le (a := 64) (b := i) (by omega) (by omega)).mp h
              omega
            subst this
            refine wi_l (wi_s ?_)
            rw [tq_inc]
            refine ihw (w + 1, σ2) ⟨by omega, ?_⟩ (by dsimp only; omega)
            rw [hJ]
            refine ⟨i1, i2, i3, i4, fun u hu => ?_, fun τ hτ => i6 τ (by omega), fun τ hτ => i7 τ (by omega)⟩
            by_cases e : u = w
            · rw [e]; exact hx
            · exact i5 u (by omega)
          · have hi : i < 64 := tq_nle (a := 64) (by omega) (by omega) h
            simp only [ia, tq_m64, nI_add]
            rw [tq_nc (by omega)]
            have hv : bL (σ.2.1 0 (c * 16 + w)) i = v (w * 64 + i) := by
              have := hr (w * 64 + i) (by omega)
              rw [(tq_dm hi).1, (tq_dm hi).2] at this
              exact this
            have fin : ∀ z : Int32, (∀ j, j < 32 → bI z j = (decide (j = k) && v (w * 64 + i))) → tq_wp st_Co_noteInner (fun d => ∃ σ', d = (tq_rt, [], [], σ') ∧ J 16 0 σ') (32, [nI k, nI c, nI w, nI i + 1], [σ.2.1 0 (c * 16 + w)], iput σ2 4 (w * 64 + i) (σ2.1 4 (w * 64 + i) ||| z)) := by
              intro z hz
              rw [tq_inc]
              refine ihi (i + 1, iput σ2 4 (w * 64 + i) (σ2.1 4 (w * 64 + i) ||| z)) ⟨by omega, ?_, hx⟩ (by dsimp only; omega)
              rw [hJ]
              refine ⟨fun a ha => ?_, i2, i3, i4, i5, fun τ hτ hτ2 j hj => ?_, fun τ hτ => ?_⟩
              · show (if a = 4 then _ else σ2.1 a) = _
                rw [if_neg ha]; exact i1 a ha
              · show bI (upd (σ2.1 4) (w * 64 + i) _ τ) j = _
                by_cases e : τ = w * 64 + i
                · rw [e, pk_us, bI_or, hz j hj, i7 _ (by omega)]
                · rw [pk_un e]; exact i6 τ (by omega) hτ2 j hj
              · show upd (σ2.1 4) (w * 64 + i) _ τ = _
                rw [pk_un (by omega)]; exact i7 τ (by omega)
            refine wi_g (tq_vin (by omega) (by omega)) (wi_o (sp_hasBit _ hi σ2) ?_)
            cases hvv : v (w * 64 + i) with
            | false =>
              rw [hv, hvv]
              refine wi_t rfl (wi_g (tq_vin (by omega) (by omega)) (wi_l (wi_l (wi_s ?_))))
              exact fin 0 (fun j hj => by rw [bI_0, hvv]; simp)
            | true =>
              rw [hv, hvv]
              refine wi_f (by decide) (wi_g (tq_vin (by omega) (by omega)) (wi_l (wi_l (wi_s ?_))))
              exact fin _ (fun j hj => by rw [bI_bit k (by omega) j hj, hvv]; simp)
        · rw [hJ]
          refine ⟨j1, fun a ha => ?_, j3, fun j hj => ?_, fun u hu => ?_, j6, j7⟩
          · show (if a = 1 then _ else σ'.2.1 a) = _
            rw [if_neg ha]; exact j2 a ha
          · show vp_updL (σ'.2.1 1) (k * 16 + w) _ j = _
            rw [pk_uLn (by omega)]; exact j4 j hj
          · show vp_updL (σ'.2.1 1) (k * 16 + w) _ (k * 16 + u) = _
            rw [pk_uLn (by omega)]; exact j5 u hu
        · show vp_updL (σ'.2.1 1) (k * 16 + w) _ (k * 16 + w) = _
          rw [pk_uLs]
    · rw [hJ]
      exact ⟨fun _ _ => rfl, fun _ _ => rfl, rfl, fun _ _ => rfl, fun u h => absurd h (Nat.not_lt_zero _), fun τ h => absurd h (Nat.not_lt_zero _), fun _ _ => rfl⟩)
  rw [hJ] at h2
  obtain ⟨j1, j2, j3, j4, j5, j6, j7⟩ := h2
  exact ⟨σ', h1, j1, j2, j3, j4, j5, fun τ hτ j hj => j6 τ (by omega) hτ j hj⟩
