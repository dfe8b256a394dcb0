/-! GoodTypes.spreadServed, by the tables -/
theorem sp_spread {σ : tq_S} {m k : Nat} (hm : m < 1024) (hk : k < 10) :
    ∃ σ', tq_fV st_Go_spreadServed (0, [nI m, nI (2 ^ pcw 32 m), nI (2 ^ k)], [], σ) = some ((), σ') ∧ fr [12] [] [] σ σ' ∧ (∀ s, s < 1024 → s &&& m = s → σ'.1 12 s = if s.testBit k then σ.1 12 s ||| σ.1 12 (s - 2 ^ k) else σ.1 12 s) ∧ (∀ s, ¬ (s < 1024 ∧ s &&& m = s) → σ'.1 12 s = σ.1 12 s) := by
  have hp10 : 2 ^ pcw 32 m ≤ 1024 := (Nat.pow_le_pow_right (by decide) (tq_bcI m hm).2 : 2 ^ pcw 32 m ≤ 2 ^ 10)
  have hm32 : m < 2 ^ 32 := by omega
  have sl : ∀ n, sE 32 m n < 1024 := fun n => Nat.lt_of_le_of_lt (sub_le (sE_sub 32 m n)) hm
  refine tq_fV_of (tq_at (by decide) ?_)
  show tq_wo (bk_Go_spreadServed_0 [nI m, nI (2 ^ pcw 32 m), nI (2 ^ k)] [] σ) _
  rw [bk_Go_spreadServed_0]
  refine wi_s ?_
  refine tq_ind 6 (fun p : Nat × Int32 × tq_S => ([nI m, nI (2 ^ pcw 32 m), nI (2 ^ k), nI p.1, p.2.1], [], p.2.2)) (fun p => p.1 ≤ 2 ^ pcw 32 m ∧ (p.1 < 2 ^ pcw 32 m → p.2.1 = nI (sE 32 m p.1)) ∧ fr [12] [] [] σ p.2.2 ∧ (∀ s, p.2.2.1 12 s = σ.1 12 s ∨ (s < 1024 ∧ s &&& m = s ∧ s.testBit k = true ∧ p.2.2.1 12 s = (σ.1 12 s ||| σ.1 12 (s - 2 ^ k)))) ∧ (∀ i, i < p.1 → (sE 32 m i).testBit k = true → p.2.2.1 12 (sE 32 m i) = (σ.1 12 (sE 32 m i) ||| σ.1 12 (sE 32 m i - 2 ^ k)))) (fun p => 2 ^ pcw 32 m - p.1) ?_ (0, 0, σ) ⟨Nat.zero_le _, fun _ => by show (0 : Int32) = _; rw [sE_0]; rfl, fr.rf _ _ _ σ, fun s => Or.inl rfl, fun i hi => absurd hi (Nat.not_lt_zero _)⟩
  rintro ⟨n, x, σ1⟩ ⟨hn, hx, f1, v1, d1⟩ ih
  dsimp only at hn hx f1 v1 d1 ih ⊢
  refine tq_at (by decide) ?_
  show tq_wo (bk_Go_spreadServed_6 [nI m, nI (2 ^ pcw 32 m), nI (2 ^ k), nI n, x] [] σ1) _
  rw [bk_Go_spreadServed_6]
  refine wi_c (fun q => wi_s (tq_wp_rt ⟨_, rfl, ?_⟩)) (fun q => ?_)
  · have hn2 : n = 2 ^ pcw 32 m := by
      have := (tq_le (a := 2 ^ pcw 32 m) (b := n) (by omega) (by omega)).mp q
      omega
    refine ⟨f1, fun s hs hsm => ?_, fun s hs => ?_⟩
    · by_cases hb : s.testBit k = true
      · rw [if_pos hb]
        obtain ⟨r, r1, r2⟩ := sE_surj 32 m s hm32 hsm
        have := d1 r (by omega) (by rw [r2]; exact hb)
        rw [r2] at this
        exact this
      · rw [if_neg hb]
        rcases v1 s with v | v
        · exact v
        · exact absurd v.2.2.1 hb
    · rcases v1 s with v | v
      · exact v
      · exact absurd ⟨v.1, v.2.1⟩ hs
  · have hlt : n < 2 ^ pcw 32 m := tq_nle (by omega) (by omega) q
    have ex := hx hlt
    subst ex
    have hs := sl n
    have hsm := sE_sub 32 m n
    have step : ∀ σ2, fr [12] [] [] σ σ2 → (∀ s, σ2.1 12 s = σ.1 12 s ∨ (s < 1024 ∧ s &&& m = s ∧ s.testBit k = true ∧ σ2.1 12 s = (σ.1 12 s ||| σ.1 12 (s - 2 ^ k)))) → (∀ i, i < n + 1 → (sE 32 m i).testBit k = true → σ2.1 12 (sE 32 m i) = (σ.1 12 (sE 32 m i) ||| σ.1 12 (sE 32 m i - 2 ^ k))) → tq_wp st_Go_spreadServed (fun d => ∃ σ', d = (tq_rt, [], [], σ') ∧ fr [12] [] [] σ σ' ∧ (∀ s, s < 1024 → s &&& m = s → σ'.1 12 s = if s.testBit k then σ.1 12 s ||| σ.1 12 (s - 2 ^ k) else σ.1 12 s) ∧ (∀ s, ¬ (s < 1024 ∧ s &&& m = s) → σ'.1 12 s = σ.1 12 s)) (40, [nI m, nI (2 ^ pcw 32 m), nI (2 ^ k), nI n, nI (sE 32 m n)], [], σ2) := by
      intro σ2 f2 v2 d2
      refine tq_at (by decide) ?_
      show tq_wo (bk_Go_spreadServed_40 [nI m, nI (2 ^ pcw 32 m), nI (2 ^ k), nI n, nI (sE 32 m n)] [] σ2) _
      rw [bk_Go_spreadServed_40]
      refine wi_l (wi_l (wi_s ?_))
      rw [tq_inc, nI_nx hm hs]
      refine ih (n + 1, _, σ2) ⟨by omega, fun h => ?_, f2, v2, d2⟩ (by dsimp only; omega)
      dsimp only at h ⊢
      rw [sE_next 32 m n hm32 h]
      rfl
    refine wi_c (fun h0 => wi_s (step σ1 f1 v1 (fun i hi hb => ?_))) (fun h0 => ?_)
    · by_cases e : i = n
      · subst e
        rw [(tq_sb0 k hk _ hs).mp h0] at hb; cases hb
      · exact d1 i (by omega) hb
    · have hb : (sE 32 m n).testBit k = true := by
        cases hz : (sE 32 m n).testBit k with
        | true => rfl
        | false => exact absurd ((tq_sb0 k hk _ hs).mpr hz) h0
      obtain ⟨c1, c2, c3⟩ := tq_sb1 k hk _ hs hb
      have hsub : sE 32 m n - 2 ^ k ≤ sE 32 m n := Nat.sub_le _ _
      simp only [ia]
      rw [c1, tq_nc (show sE 32 m n < 2147483648 by omega), tq_nc (show sE 32 m n - 2 ^ k < 2147483648 by omega)]
      refine wi_g (tq_vin hs (by omega)) (wi_g (tq_vin (by omega) (by omega)) (wi_g (tq_vin hs (by omega)) (wi_l (wi_s ?_))))
      -- the set without the bit is untouched
      have hu : σ1.1 12 (sE 32 m n - 2 ^ k) = σ.1 12 (sE 32 m n - 2 ^ k) := by
        rcases v1 (sE 32 m n - 2 ^ k) with v | v
        · exact v
        · rw [c3] at v; cases v.2.2.1
      have idem : ∀ a b : Int32, (a ||| b) ||| b = a ||| b := fun a b => bI_ext (fun j _ => by rw [bI_or, bI_or]; cases bI a j <;> cases bI b j <;> rfl)
      have hv : (σ1.1 12 (sE 32 m n) ||| σ1.1 12 (sE 32 m n - 2 ^ k)) = (σ.1 12 (sE 32 m n) ||| σ.1 12 (sE 32 m n - 2 ^ k)) := by
        rw [hu]
        rcases v1 (sE 32 m n) with v | v
        · rw [v]
        · rw [v.2.2.2, idem]
      rw [hv]
      refine step _ (f1.tr (fr.i (by decide))) (fun s => ?_) (fun i hi hbi => ?_)
      · rw [iput_s]
        by_cases e : s = sE 32 m n
        · rw [if_pos e, e]; exact Or.inr ⟨hs, hsm, hb, rfl⟩
        · rw [if_neg e]; exact v1 s
      · rw [iput_s]
        by_cases e : sE 32 m i = sE 32 m n
        · rw [if_pos e, e]
        · rw [if_neg e]
          have : i ≠ n := fun z => e (by rw [z])
          exact d1 i (by omega) hbi
