/-! the reference: work as a whole -/
theorem mo_work {T : ab_T} {X : ab_X} {rl : Nat → Nat → Bool} {σ : tq_S} (hw : wfT T) (hx : wX T X) (hT : mTT T σ) (hX : mX X σ) (hR : mR rl σ) (hK : mK T X rl σ) :
    ∃ σ', tq_fV st_Mo_work (0, [], [], σ) = some ((), σ') ∧ fr [29, 30, 31, 32] [] [18, 19] σ σ' ∧ mV T X rl σ' := by
  refine tq_fV_of (tq_wpQ (fun Q hQ => tq_at (by decide) ?_))
  show tq_wo (bk_Mo_work_0 [] [] σ) _
  rw [bk_Mo_work_0]
  refine wi_c (fun q => wi_s ?_) (fun q => wi_s (tq_wp_rt (hQ _ ⟨σ, rfl, fr.rf _ _ _ σ, hK q⟩)))
  -- what comes behind the roles
  have back : ∀ σ1, fr [32] [] [] σ σ1 → mU rl σ1 → tq_wp st_Mo_work Q (135, [0], [], σ1) := by
    intro σ1 f1 hU
    have hT1 : mTT T σ1 := mT_fr hT f1 (by decide) (by decide) (by decide) (by decide) (by decide) (by decide)
    have hX1 : mX X σ1 := ⟨by rw [f1.2.2 15 (by decide)]; exact hX.1, fun i hi => by rw [f1.1 21 (by decide), f1.1 22 (by decide)]; exact hX.2 i hi⟩
    refine mo_types_loop (rl := rl) hw hx Q hT1 hX1 (fun σ2 f2 hD h19 => ?_)
    refine mo_rounds_loop hw Q (mT_fr hT1 f2 (by decide) (by decide) (by decide) (by decide) (by decide) (by decide)) (fun r s hr hs => by rw [f2.1 32 (by decide)]; exact hU r s hr hs) hD h19 (fun σ3 f3 hV => hQ _ ⟨σ3, rfl, ?_, hV⟩)
    exact (f1.wk (by decide) (by decide) (by decide)).tr ((f2.wk (by decide) (by decide) (by decide)).tr (f3.wk (by decide) (by decide) (by decide)))
  -- the four turns
  have turns : ∀ σ1, fr [32] [] [] σ σ1 → (∀ r s, r < 4 → s < 4 → σ1.1 32 (4 * r + s) = iB (rl r s || decide (r = s))) → tq_wp st_Mo_work Q (53, [0], [], σ1) := by
    intro σ1 f1 h1
    refine tq_ind 53 (fun p : Nat × (Nat → Nat → Bool) × tq_S => ([nI p.1], [], p.2.2)) (fun p => p.1 ≤ 4 ∧ fr [32] [] [] σ p.2.2 ∧ (∀ r s, r < 4 → s < 4 → p.2.2.1 32 (4 * r + s) = iB (p.2.1 r s)) ∧ (∀ r s, r < 4 → s < 4 → p.2.1 r s = true → Und rl r s) ∧ (∀ r s, r < 4 → s < 4 → Wa rl p.1 r s → p.2.1 r s = true)) (fun p => 4 - p.1) ?_ (0, fun r s => rl r s || decide (r = s), σ1) ⟨Nat.zero_le _, f1, h1, fun r s hr hs h => ?_, fun r s hr hs h => ?_⟩
    · rintro ⟨m, u, σ2⟩ ⟨hm, f2, e2, s2, c2⟩ ih
      dsimp only at hm f2 e2 s2 c2 ih ⊢
      refine tq_at (by decide) ?_
      show tq_wo (bk_Mo_work_53 [nI m] [] σ2) _
      rw [bk_Mo_work_53]
      refine wi_c (fun q => wi_s (back σ2 f2 (fun r s hr hs => ?_))) (fun q => wi_s ?_)
      · have : m = 4 := by
          have := (tq_le (a := 4) (b := m) (by omega) (by omega)).mp q
          omega
        subst this
        rw [e2 r s hr hs]
        congr 1
        cases e : cD (Und rl r s) with
        | true => exact c2 r s hr hs (Wa_Und (cD_t.mp e))
        | false =>
          cases eu : u r s with
          | false => rfl
          | true => exact absurd (s2 r s hr hs eu) (cD_f.mp e)
      · have hm4 : m < 4 := tq_nle (b := m) (a := 4) (by omega) (by omega) q
        refine tq_ind 60 (fun p : Nat × (Nat → Nat → Bool) × tq_S => ([nI m, nI p.1], [], p.2.2)) (fun p => p.1 ≤ 64 ∧ fr [32] [] [] σ p.2.2 ∧ (∀ r s, r < 4 → s < 4 → p.2.2.1 32 (4 * r + s) = iB (p.2.1 r s)) ∧ (∀ r s, r < 4 → s < 4 → p.2.1 r s = true → Und rl r s) ∧ (∀ r s, r < 4 → s < 4 → Wa rl m r s → p.2.1 r s = true) ∧ (∀ k, k < p.1 → Wa rl m (k / 16) (k / 4 % 4) → Wa rl m (k / 4 % 4) (k % 4) → p.2.1 (k / 16) (k % 4) = true)) (fun p => 64 - p.1) ?_ (0, u, σ2) ⟨Nat.zero_le _, f2, e2, s2, c2, fun k h => absurd h (Nat.not_lt_zero _)⟩
        rintro ⟨k, v, σ3⟩ ⟨hk, f3, e3, s3, c3, d3⟩ ih3
        dsimp only at hk f3 e3 s3 c3 d3 ih3 ⊢
        refine tq_at (by decide) ?_
        show tq_wo (bk_Mo_work_60 [nI m, nI k] [] σ3) _
        rw [bk_Mo_work_60]
        refine wi_c (fun q => wi_l (wi_s ?_)) (fun q => ?_)
        · have : k = 64 := by
            have := (tq_le (a := 64) (b := k) (by omega) (by omega)).mp q
            omega
          subst this
          rw [tq_inc]
          refine ih (m + 1, v, σ3) ⟨by omega, f3, e3, s3, fun r s hr hs h => ?_⟩ (by dsimp only; omega)
          rcases h with h | ⟨h, h'⟩
          · exact c3 r s hr hs h
          · have i1 : (16 * r + 4 * m + s) / 16 = r := by omega
            have i2 : (16 * r + 4 * m + s) / 4 % 4 = m := by omega
            have i3 : (16 * r + 4 * m + s) % 4 = s := by omega
            have := d3 (16 * r + 4 * m + s) (by omega)
            rw [i1, i2, i3] at this
            exact this h h'
        · have hk1 : k < 64 := tq_nle (b := k) (a := 64) (by omega) (by omega) q
          obtain ⟨r, hr⟩ : ∃ r, r = k / 16 := ⟨_, rfl⟩
          obtain ⟨x, hx⟩ : ∃ x, x = k / 4 % 4 := ⟨_, rfl⟩
          obtain ⟨s, hs⟩ : ∃ s, s = k % 4 := ⟨_, rfl⟩
          have r4 : r < 4 := by omega
          have x4 : x < 4 := by omega
          have s4 : s < 4 := by omega
          rw [tq_d16 (by omega), tq_d4 (by omega), tq_r4 (by omega), tq_r4 (by omega), ← hr, ← hx, ← hs, tq_4, tq_4, tq_4]
          simp only [ia, tq_nc (show 4 * r + x < 2147483648 by omega), tq_nc (show 4 * x + s < 2147483648 by omega), tq_nc (show 4 * r + s < 2147483648 by omega), e3 r x r4 x4, e3 x s x4 s4]
          have skip : ¬ (v r x = true ∧ v x s = true) → tq_wp st_Mo_work Q (60, [nI m, nI k + 1], [], σ3) := by
            intro h
            rw [tq_inc]
            refine ih3 (k + 1, v, σ3) ⟨by omega, f3, e3, s3, c3, fun k' hk' h1 h2 => ?_⟩ (by dsimp only; omega)
            by_cases e : k' = k
            · subst e
              rw [← hr, ← hx] at h1
              rw [← hx, ← hs] at h2
              exact absurd ⟨c3 r x r4 x4 h1, c3 x s x4 s4 h2⟩ h
            · dsimp only at hk'; exact d3 k' (by omega) h1 h2
          refine wi_g (tq_vin (by omega) (by omega)) (wi_c (fun q => wi_l (wi_s (skip (fun h => ?_)))) (fun q => wi_g (tq_vin (by omega) (by omega)) (wi_c (fun q2 => wi_l (wi_s (skip (fun h => ?_)))) (fun q2 => wi_g (tq_vin (by omega) (by omega)) (wi_l (wi_l (wi_s ?_)))))))
          · rw [iB_z.mp q] at h; cases h.1
          · rw [iB_z.mp q2] at h; cases h.2
          · have v1 : v r x = true := by
              cases e : v r x with
              | true => rfl
              | false => rw [e] at q; exact absurd rfl q
            have v2 : v x s = true := by
              cases e : v x s with
              | true => rfl
              | false => rw [e] at q2; exact absurd rfl q2
            rw [tq_inc]
            refine ih3 (k + 1, fun a b => v a b || (decide (a = r) && decide (b = s)), iput σ3 32 (4 * r + s) (jz 1)) ⟨by omega, f3.tr (fr.i (by decide)), fun a b ha hb => ?_, fun a b ha hb h => ?_, fun a b ha hb h => ?_, fun k' hk' h1 h2 => ?_⟩ (by dsimp only; omega)
            · show (iput σ3 32 (4 * r + s) (jz 1)).1 32 (4 * a + b) = iB (v a b || (decide (a = r) && decide (b = s)))
              rw [iput_s]
              by_cases e : a = r ∧ b = s
              · obtain ⟨rfl, rfl⟩ := e
                rw [if_pos rfl]
                simp
                rfl
              · rw [if_neg (by omega), e3 a b ha hb]
                have : (decide (a = r) && decide (b = s)) = false := by
                  rw [Bool.and_eq_false_iff, decide_eq_false_iff_not, decide_eq_false_iff_not]
                  by_cases ea : a = r
                  · exact Or.inr (fun eb => e ⟨ea, eb⟩)
                  · exact Or.inl ea
                rw [this, Bool.or_false]
            · dsimp only at h
              rw [Bool.or_eq_true_iff, Bool.and_eq_true_iff, decide_eq_true_iff, decide_eq_true_iff] at h
              rcases h with h | ⟨rfl, rfl⟩
              · exact s3 a b ha hb h
              · exact Und.tr r4 x4 s4 (s3 _ _ r4 x4 v1) (s3 _ _ x4 s4 v2)
            · show (v a b || (decide (a = r) && decide (b = s))) = true
              rw [c3 a b ha hb h]; rfl
            · show (v (k' / 16) (k' % 4) || (decide (k' / 16 = r) && decide (k' % 4 = s))) = true
              by_cases e : k' = k
              · subst e
                rw [← hr, ← hs]; simp
              · dsimp only at hk'; rw [d3 k' (by omega) h1 h2]; rfl
    · dsimp only at h
      rw [Bool.or_eq_true_iff, decide_eq_true_iff] at h
      rcases h with h | h
      · exact Und.of hr hs h
      · subst h; exact Und.rf hr
    · show (rl r s || decide (r = s)) = true
      rw [Bool.or_eq_true_iff, decide_eq_true_iff]
      exact h
  -- the first loop
  refine tq_ind 10 (fun p : Nat × tq_S => ([nI p.1], [], p.2)) (fun p => p.1 ≤ 16 ∧ fr [32] [] [] σ p.2 ∧ ∀ k, k < p.1 → p.2.1 32 k = iB (rl (k / 4) (k % 4) || decide (k / 4 = k % 4))) (fun p => 16 - p.1) ?_ (0, σ) ⟨Nat.zero_le _, fr.rf _ _ _ σ, fun k h => absurd h (Nat.not_lt_zero _)⟩
  rintro ⟨k, σ1⟩ ⟨hk, f1, h1⟩ ih
  dsimp only at hk f1 h1 ih ⊢
  refine tq_at (by decide) ?_
  show tq_wo (bk_Mo_work_10 [nI k] [] σ1) _
  rw [bk_Mo_work_10]
  refine wi_c (fun q => wi_s (turns σ1 f1 (fun r s hr hs => ?_))) (fun q => ?_)
  · have : k = 16 := by
      have := (tq_le (a := 16) (b := k) (by omega) (by omega)).mp q
      omega
    subst this
    have := h1 (4 * r + s) (by omega)
    rw [show (4 * r + s) / 4 = r by omega, show (4 * r + s) % 4 = s by omega] at this
    exact this
  · have hk1 : k < 16 := tq_nle (b := k) (a := 16) (by omega) (by omega) q
    have vk : vp_in (nI k) 16 := tq_vin hk1 (by omega)
    have e23 : σ1.1 23 k = if rl (k / 4) (k % 4) then 1 else 0 := by
      have := hR (k / 4) (k % 4) (by omega) (by omega)
      rw [show 4 * (k / 4) + k % 4 = k by omega] at this
      rw [f1.1 23 (by decide)]; exact this
    have nx : ∀ b : Bool, b = (rl (k / 4) (k % 4) || decide (k / 4 = k % 4)) → tq_wp st_Mo_work Q (10, [nI k + 1], [], iput σ1 32 k (jz (iB b))) := by
      intro b hb
      rw [tq_inc, jz_i]
      refine ih (k + 1, _) ⟨by omega, f1.tr (fr.i (by decide)), fun i hi => ?_⟩ (by dsimp only; omega)
      show (iput σ1 32 k (iB b)).1 32 i = _
      rw [iput_s]
      by_cases e : i = k
      · subst e; rw [if_pos rfl, hb]
      · rw [if_neg e]; dsimp only at hi; exact h1 i (by omega)
    simp only [ia, tq_nc (show k < 2147483648 by omega), e23]
    rw [tq_d4 (by omega), tq_r4 (by omega)]
    refine wi_g vk (wi_c (fun q => wi_g vk (wi_l (wi_l (wi_s (nx true ?_))))) (fun q => wi_c (fun q2 => wi_g vk (wi_l (wi_l (wi_s (nx false ?_))))) (fun q2 => wi_g vk (wi_l (wi_l (wi_s (nx true ?_)))))))
    · cases e : rl (k / 4) (k % 4) with
      | true => rfl
      | false => rw [e] at q; exact absurd rfl q
    · cases e : rl (k / 4) (k % 4) with
      | true => rw [e] at q; exact absurd (fun h => absurd h (by decide)) q
      | false =>
        have : decide (k / 4 = k % 4) = false := decide_eq_false (fun h => q2 (by rw [h]))
        rw [this]; rfl
    · have : decide (k / 4 = k % 4) = true := decide_eq_true ((tq_eq (by omega) (by omega)).mp (Classical.not_not.mp q2))
      rw [this, Bool.or_true]
