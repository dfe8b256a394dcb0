/-! GoodTypes.findServed -/
theorem sp_inners {σ : tq_S} {u : Nat} (h : u < 1024) : tq_fI st_Co_inners (0, [nI u], [], σ) = some (σ.1 4 u, σ) := by
  refine tq_fI_e (tq_at (by decide) ?_)
  show tq_wo (bk_Co_inners_0 [nI u] [] σ) _
  rw [bk_Co_inners_0]
  simp only [ia]
  refine wi_o (sp_bf (n := 1024) (nbd h (by omega))) (wi_f (by decide) (wi_g (tq_vin h (by omega)) (wi_s (tq_wp_rt ?_))))
  rw [tq_nc (by omega)]
theorem nI_and {a b : Nat} (ha : a < 4294967296) (hb : b < 4294967296) : nI a &&& nI b = nI (a &&& b) := by
  apply bI_ext
  intro k hk
  have hab : a &&& b < 4294967296 := Nat.lt_of_le_of_lt Nat.and_le_left ha
  rw [bI_and, bI_nI ha, bI_nI hb, bI_nI hab, Nat.testBit_and]
theorem sp_served {σ : tq_S} {m r W : Nat} {ν : Nat → Nat} (hm : m ≤ 10) (h1 : σ.2.2 1 = nI m) (hr : r < 4) (hW : W < 1024) (hw : σ.1 10 r = nI W) (hν : ∀ u, u < 1024 → σ.1 4 u = nI (ν u) ∧ ν u < 1024) :
    ∃ σ', tq_fV st_Go_findServed (0, [nI r], [], σ) = some ((), σ') ∧ fr [12] [] [] σ σ' ∧ ∀ s, s < 1024 → s &&& W = s → ∀ j, j < 32 → (bI (σ'.1 12 s) j = true ↔ ∃ u, u < 2 ^ m ∧ thr σ u = true ∧ (ν u &&& W) &&& s = (ν u &&& W) ∧ (ν u).testBit j = true ∧ bI (σ.1 9 r) j = true) := by
  have hp := tq_pw1 hm
  have hp10 : 2 ^ pcw 32 W ≤ 1024 := (Nat.pow_le_pow_right (by decide) (tq_bcI W hW).2 : 2 ^ pcw 32 W ≤ 2 ^ 10)
  have hpc := (tq_bcI W hW).2
  have hW32 : W < 2 ^ 32 := by omega
  have sl : ∀ n, sE 32 W n < 1024 := fun n => Nat.lt_of_le_of_lt (sub_le (sE_sub 32 W n)) hW
  have al : ∀ u, ν u &&& W < 1024 := fun u => Nat.lt_of_le_of_lt Nat.and_le_right hW
  have as : ∀ u, (ν u &&& W) &&& W = ν u &&& W := fun u => by rw [Nat.and_assoc, Nat.and_self]
  refine tq_fV_of (tq_at (by decide) ?_)
  show tq_wo (bk_Go_findServed_0 [nI r] [] σ) _
  rw [bk_Go_findServed_0]
  simp only [ia]
  rw [tq_nc (by omega), hw]
  have w23 : nI W &&& 1023 = nI W := by
    rw [show (1023 : Int32) = nI 1023 from rfl, nI_and (by omega) (by omega)]
    congr 1
    apply Nat.eq_of_testBit_eq
    intro i
    rw [Nat.testBit_and, show (1023 : Nat) = 2 ^ 10 - 1 from rfl, Nat.testBit_two_pow_sub_one]
    by_cases hi : i < 10
    · simp [hi]
    · rw [tb_big hW (by omega)]; rfl
  refine wi_g (tq_vin hr (by omega)) (wi_l ?_)
  rw [w23]
  refine wi_o (sp_bitCountI hW σ) (wi_l (wi_s ?_))
  rw [tq_pw _ (by omega)]
  -- all is 0 at first
  refine tq_ind 24 (fun p : Nat × Int32 × tq_S => ([nI r, nI W, nI (2 ^ pcw 32 W), nI p.1, p.2.1], [], p.2.2)) (fun p => p.1 ≤ 2 ^ pcw 32 W ∧ (p.1 < 2 ^ pcw 32 W → p.2.1 = nI (sE 32 W p.1)) ∧ fr [12] [] [] σ p.2.2 ∧ ∀ i, i < p.1 → p.2.2.1 12 (sE 32 W i) = 0) (fun p => 2 ^ pcw 32 W - p.1) ?_ (0, 0, σ) ⟨Nat.zero_le _, fun _ => by show (0 : Int32) = _; rw [sE_0]; rfl, fr.rf _ _ _ σ, fun i hi => absurd hi (Nat.not_lt_zero _)⟩
  rintro ⟨n, x, σ1⟩ ⟨hn, hx, f1, d1⟩ ih
  dsimp only at hn hx f1 d1 ih ⊢
  refine tq_at (by decide) ?_
  show tq_wo (bk_Go_findServed_24 [nI r, nI W, nI (2 ^ pcw 32 W), nI n, x] [] σ1) _
  rw [bk_Go_findServed_24]
  refine wi_c (fun q => ?_) (fun q => ?_)
  · have hn2 : n = 2 ^ pcw 32 W := by
      have := (tq_le (a := 2 ^ pcw 32 W) (b := n) (by omega) (by omega)).mp q
      omega
    clear ih
    have z1 : ∀ s, s &&& W = s → σ1.1 12 s = 0 := fun s hs => by
      obtain ⟨k, k1, k2⟩ := sE_surj 32 W s hW32 hs
      rw [← k2]; exact d1 k (by omega)
    refine wi_o (sp_typeCount hm (by rw [f1.2.2 1 (by decide)]; exact h1)) (wi_s ?_)
    -- what each type brings
    refine tq_ind 64 (fun p : Nat × tq_S => ([nI r, nI W, nI (2 ^ pcw 32 W), nI (2 ^ m), nI p.1], [], p.2)) (fun p => p.1 ≤ 2 ^ m ∧ fr [12] [] [] σ p.2 ∧ ∀ s, s < 1024 → s &&& W = s → ∀ j, j < 32 → (bI (p.2.1 12 s) j = true ↔ ∃ u, u < p.1 ∧ thr σ u = true ∧ rel 0 (ν u &&& W) s ∧ (ν u).testBit j = true ∧ bI (σ.1 9 r) j = true)) (fun p => 2 ^ m - p.1) ?_ (0, σ1) ⟨Nat.zero_le _, f1, fun s hs hsW j hj => ?_⟩
    · rintro ⟨t, σ2⟩ ⟨ht, f2, g2⟩ ih2
      dsimp only at ht f2 g2 ih2 ⊢
      refine tq_at (by decide) ?_
      show tq_wo (bk_Go_findServed_64 [nI r, nI W, nI (2 ^ pcw 32 W), nI (2 ^ m), nI t] [] σ2) _
      rw [bk_Go_findServed_64]
      refine wi_c (fun q => wi_s ?_) (fun q => ?_)
      · have ht2 : t = 2 ^ m := by
          have := (tq_le (a := 2 ^ m) (b := t) (by omega) (by omega)).mp q
          omega
        subst ht2
        clear ih2
        -- spreading, atom by atom
        refine tq_ind 129 (fun p : Nat × tq_S => ([nI W, nI (2 ^ pcw 32 W), nI p.1], [], p.2)) (fun p => p.1 ≤ 10 ∧ fr [12] [] [] σ p.2 ∧ ∀ s, s < 1024 → s &&& W = s → ∀ j, j < 32 → (bI (p.2.1 12 s) j = true ↔ ∃ u, u < 2 ^ m ∧ thr σ u = true ∧ rel p.1 (ν u &&& W) s ∧ (ν u).testBit j = true ∧ bI (σ.1 9 r) j = true)) (fun p => 10 - p.1) ?_ (0, σ2) ⟨Nat.zero_le _, f2, g2⟩
        rintro ⟨k, σ3⟩ ⟨hk, f3, g3⟩ ih3
        dsimp only at hk f3 g3 ih3 ⊢
        refine tq_at (by decide) ?_
        show tq_wo (bk_Go_findServed_129 [nI W, nI (2 ^ pcw 32 W), nI k] [] σ3) _
        rw [bk_Go_findServed_129]
        refine wi_c (fun q => wi_s (tq_wp_rt ⟨_, rfl, f3, fun s hs hsW j hj => ?_⟩)) (fun q => ?_)
        · have : k = 10 := by
            have := (tq_le (a := 10) (b := k) (by omega) (by omega)).mp q
            omega
          subst this
          rw [g3 s hs hsW j hj]
          constructor
          · rintro ⟨u, a1, a2, a3, a4, a5⟩
            exact ⟨u, a1, a2, (rel_10 (al u) hs).mp a3, a4, a5⟩
          · rintro ⟨u, a1, a2, a3, a4, a5⟩
            exact ⟨u, a1, a2, (rel_10 (al u) hs).mpr a3, a4, a5⟩
        · have hk10 : k < 10 := tq_nle (a := 10) (by omega) (by omega) q
          have hb := sp_hasBit (nI W).toInt64 (show k < 64 by omega) σ3
          rw [bL_i (show k < 32 by omega), bI_nI (by omega)] at hb
          refine wi_o hb ?_
          cases hv : W.testBit k with
          | false =>
            refine wi_t rfl (wi_l (wi_s ?_))
            rw [tq_inc]
            refine ih3 (k + 1, σ3) ⟨by omega, f3, fun s hs hsW j hj => ?_⟩ (by dsimp only; omega)
            show bI (σ3.1 12 s) j = true ↔ ∃ u, u < 2 ^ m ∧ thr σ u = true ∧ rel (k + 1) (ν u &&& W) s ∧ _
            have sk : ∀ a, a &&& W = a → a.testBit k = false := fun a ha => by
              cases e : a.testBit k with
              | false => rfl
              | true => rw [sub_tb.mp ha k e] at hv; cases hv
            rw [g3 s hs hsW j hj]
            constructor
            · rintro ⟨u, a1, a2, a3, a4, a5⟩
              exact ⟨u, a1, a2, (rel_no (sk _ (as u)) (sk _ hsW)).mpr a3, a4, a5⟩
            · rintro ⟨u, a1, a2, a3, a4, a5⟩
              exact ⟨u, a1, a2, (rel_no (sk _ (as u)) (sk _ hsW)).mp a3, a4, a5⟩
          | true =>
            obtain ⟨σ4, s1, s2, s3, -⟩ := sp_spread (σ := σ3) hW hk10
            refine wi_f (by decide) (wi_o (by rw [tq_pw k (by omega)]; exact s1) (wi_l (wi_s ?_)))
            rw [tq_inc]
            refine ih3 (k + 1, σ4) ⟨by omega, f3.tr s2, fun s hs hsW j hj => ?_⟩ (by dsimp only; omega)
            show bI (σ4.1 12 s) j = true ↔ ∃ u, u < 2 ^ m ∧ thr σ u = true ∧ rel (k + 1) (ν u &&& W) s ∧ _
            rw [s3 s hs hsW]
            by_cases hsk : s.testBit k = true
            · have hle : s - 2 ^ k ≤ s := Nat.sub_le _ _
              have hsW2 : (s - 2 ^ k) &&& W = s - 2 ^ k := sub_tb.mpr (fun i hi => by
                rw [sub_bit hsk] at hi
                exact sub_tb.mp hsW i (Bool.and_eq_true_iff.mp hi).1)
              rw [if_pos hsk, bI_or, Bool.or_eq_true_iff, g3 s hs hsW j hj, g3 (s - 2 ^ k) (by omega) hsW2 j hj]
              constructor
              · rintro (⟨u, a1, a2, a3, a4, a5⟩ | ⟨u, a1, a2, a3, a4, a5⟩)
                · exact ⟨u, a1, a2, rel_s.mpr (Or.inl a3), a4, a5⟩
                · exact ⟨u, a1, a2, rel_s.mpr (Or.inr ⟨hsk, a3⟩), a4, a5⟩
              · rintro ⟨u, a1, a2, a3, a4, a5⟩
                rcases rel_s.mp a3 with a3 | ⟨-, a3⟩
                · exact Or.inl ⟨u, a1, a2, a3, a4, a5⟩
                · exact Or.inr ⟨u, a1, a2, a3, a4, a5⟩
            · rw [if_neg hsk, g3 s hs hsW j hj]
              constructor
              · rintro ⟨u, a1, a2, a3, a4, a5⟩
                exact ⟨u, a1, a2, rel_s.mpr (Or.inl a3), a4, a5⟩
              · rintro ⟨u, a1, a2, a3, a4, a5⟩
                rcases rel_s.mp a3 with a3 | ⟨a3, -⟩
                · exact ⟨u, a1, a2, a3, a4, a5⟩
                · exact absurd a3 hsk
      · have hlt : t < 2 ^ m := tq_nle (by omega) (by omega) q
        have hth : thr σ2 t = thr σ t := by unfold thr; rw [f2.2.1 2 (by decide)]
        have hi4 : σ2.1 4 t = nI (ν t) := by rw [f2.1 4 (by decide)]; exact (hν t (by omega)).1
        have hi9 : σ2.1 9 = σ.1 9 := f2.1 9 (by decide)
        have hνt := (hν t (by omega)).2
        refine wi_f (fun q => absurd ((tq_le (a := 1024) (b := t) (by omega) (by omega)).mp q) (by omega)) (wi_o (sp_isThereG σ2 (by omega)) ?_)
        rw [hth]
        cases hv : thr σ t with
        | false =>
          refine wi_t rfl (wi_l (wi_s ?_))
          rw [tq_inc]
          refine ih2 (t + 1, σ2) ⟨by omega, f2, fun s hs hsW j hj => ?_⟩ (by dsimp only; omega)
          show bI (σ2.1 12 s) j = true ↔ ∃ u, u < t + 1 ∧ _
          rw [g2 s hs hsW j hj]
          constructor
          · rintro ⟨u, a1, a2⟩; exact ⟨u, by omega, a2⟩
          · rintro ⟨u, a1, a2, a3⟩
            have : u ≠ t := fun e => by rw [e, hv] at a2; cases a2
            exact ⟨u, by omega, a2, a3⟩
        | true =>
          refine wi_f (by decide) (wi_o (sp_inners (by omega)) ?_)
          have va := al t
          simp only [ia]
          rw [hi4, nI_and (by omega) (by omega), tq_nc (by omega), tq_nc (show r < 2147483648 by omega), hi9]
          refine wi_g (tq_vin va (by omega)) (wi_g (tq_vin hr (by omega)) (wi_g (tq_vin va (by omega)) (wi_l (wi_l (wi_s ?_)))))
          rw [tq_inc]
          refine ih2 (t + 1, _) ⟨by omega, f2.tr (fr.i (by decide)), fun s hs hsW j hj => ?_⟩ (by dsimp only; omega)
          show bI ((iput σ2 12 (ν t &&& W) _).1 12 s) j = true ↔ ∃ u, u < t + 1 ∧ _
          rw [iput_s]
          by_cases e : s = ν t &&& W
          · rw [if_pos e, bI_or, Bool.or_eq_true_iff, bI_and, Bool.and_eq_true_iff, bI_nI (by omega), ← e, g2 s hs hsW j hj]
            constructor
            · rintro (⟨u, a1, a2⟩ | ⟨a1, a2⟩)
              · exact ⟨u, by omega, a2⟩
              · exact ⟨t, by omega, hv, rel_0.mpr e.symm, a1, a2⟩
            · rintro ⟨u, a1, a2, a3, a4, a5⟩
              by_cases eu : u = t
              · subst eu; exact Or.inr ⟨a4, a5⟩
              · exact Or.inl ⟨u, by omega, a2, a3, a4, a5⟩
          · rw [if_neg e, g2 s hs hsW j hj]
            constructor
            · rintro ⟨u, a1, a2⟩; exact ⟨u, by omega, a2⟩
            · rintro ⟨u, a1, a2, a3, a4, a5⟩
              have : u ≠ t := fun eu => by subst eu; exact e (rel_0.mp a3).symm
              exact ⟨u, by omega, a2, a3, a4, a5⟩
    · show bI (σ1.1 12 s) j = true ↔ _
      rw [z1 s hsW, bI_0]
      refine ⟨fun q => (by cases q), ?_⟩
      rintro ⟨u, hu, _⟩
      exact absurd hu (Nat.not_lt_zero _)
  · have hlt : n < 2 ^ pcw 32 W := tq_nle (by omega) (by omega) q
    have ex := hx hlt
    subst ex
    have hs := sl n
    rw [tq_nc (by omega)]
    refine wi_g (tq_vin hs (by omega)) (wi_l (wi_l (wi_l (wi_s ?_))))
    rw [tq_inc, nI_nx hW hs]
    refine ih (n + 1, _, iput σ1 12 (sE 32 W n) 0) ⟨by omega, fun h => ?_, f1.tr (fr.i (by decide)), fun i hi => ?_⟩ (by dsimp only; omega)
    · dsimp only at h ⊢
      rw [sE_next 32 W n hW32 h]
      rfl
    · show (iput σ1 12 (sE 32 W n) 0).1 12 (sE 32 W i) = 0
      rw [iput_s]
      by_cases e : sE 32 W i = sE 32 W n
      · rw [if_pos e]
      · rw [if_neg e]
        have : i ≠ n := fun z => e (by rw [z])
        dsimp only at hi
        exact d1 i (by omega)
