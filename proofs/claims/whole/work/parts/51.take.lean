/-! GoodTypes.takeAway -/
theorem sp_takeAway (σ : tq_S) {w : Nat} (hw : w < 16) (rd : Int32) :
    ∃ σ', tq_fV st_Go_takeAway (0, [nI w, rd], [], σ) = some ((), σ') ∧ fr [11] [2, 3] [] σ σ' ∧ (∀ u, σ'.2.1 2 u = if u = w then σ.2.1 2 w &&& (σ.2.1 3 w ^^^ (-1)) else σ.2.1 2 u) ∧ (∀ u, σ'.2.1 3 u = if u = w then 0 else σ.2.1 3 u) ∧
      (∀ τ, σ'.1 11 τ = if (τ / 64 = w ∧ bL (σ.2.1 3 w) (τ % 64) = true) then rd else σ.1 11 τ) := by
  have vi : vp_in (nI w) 16 := tq_vin hw (by omega)
  refine tq_fV_of (tq_at (by decide) ?_)
  show tq_wo (bk_Go_takeAway_0 [nI w, rd] [] σ) _
  rw [bk_Go_takeAway_0]
  simp only [la, tq_nc (show w < 2147483648 by omega)]
  refine wi_g vi (wi_l (wi_o (sp_bitCountL _ σ) (wi_s ?_)))
  obtain ⟨G, hG⟩ : ∃ G, G = σ.2.1 3 w := ⟨_, rfl⟩
  rw [← hG]
  refine tq_ind 13 (fun p : Int64 × tq_S => ([nI w, rd, nI (cnt (bL p.1) 64)], [p.1], p.2)) (fun p => fr [11] [] [] σ p.2 ∧ (∀ i, i < 64 → bL p.1 i = true → bL G i = true) ∧ (∀ τ, p.2.1 11 τ = if (τ / 64 = w ∧ bL G (τ % 64) = true ∧ bL p.1 (τ % 64) = false) then rd else σ.1 11 τ)) (fun p => cnt (bL p.1) 64) ?_ (G, σ) ⟨fr.rf _ _ _ σ, fun _ _ h => h, fun τ => ?_⟩
  · rintro ⟨y, σ1⟩ ⟨f1, s1, d1⟩ ih
    dsimp only at f1 s1 d1 ih ⊢
    have hc64 := cnt_le (bL y) 64
    have e2 : σ1.2.1 2 = σ.2.1 2 := f1.2.1 2 (by decide)
    have e3 : σ1.2.1 3 = σ.2.1 3 := f1.2.1 3 (by decide)
    refine tq_at (by decide) ?_
    show tq_wo (bk_Go_takeAway_13 [nI w, rd, nI (cnt (bL y) 64)] [y] σ1) _
    rw [bk_Go_takeAway_13]
    simp only [la, tq_nc (show w < 2147483648 by omega)]
    refine wi_c (fun q => wi_g vi (wi_g vi (wi_g vi (wi_l (wi_g vi (wi_l (wi_s (tq_wp_rt ⟨_, rfl, ?_⟩)))))))) (fun q => ?_)
    · have h0 : cnt (bL y) 64 = 0 := by
        have := (tq_le (a := cnt (bL y) 64) (b := 0) (by omega) (by omega)).mp q
        omega
      have hz := cnt_0.mp h0
      refine ⟨?_, fun u => ?_, fun u => ?_, fun τ => ?_⟩
      · have f1' : fr [11] [2, 3] [] σ σ1 := ⟨f1.1, fun k hk => f1.2.1 k (by simp), f1.2.2⟩
        exact (f1'.tr (fr.l (by decide))).tr (fr.l (by decide))
      · rw [lput_n _ _ _ (show (2 : Nat) ≠ 3 by decide), lput_s, e2, e3, hG]
      · rw [lput_s, lput_n _ _ _ (show (3 : Nat) ≠ 2 by decide), e3]
      · show σ1.1 11 τ = _
        rw [d1 τ, hz _ (by omega), hG]
        simp
    · have hpos : cnt (bL y) 64 ≠ 0 := fun z => q (by rw [z]; decide)
      have hy : y ≠ 0 := fun z => hpos (cnt_0.mpr (fun i hi => by rw [z, bL_0]))
      have hk := nz_ff hy
      have hyk := ff_yes (p := bL y) hk
      have hcr := cnt_rest (p := bL y) (q := bL (y &&& (y - 1))) hyk 64 (fun i hi => lo_rest hy hi)
      rw [if_pos hk] at hcr
      refine wi_o (sp_lowestBit hy σ1) ?_
      rw [tq_m64, nI_add, tq_nc (by omega)]
      refine wi_g (tq_vin (by omega) (by omega)) (wi_l (wi_l (wi_l (wi_s ?_))))
      have ec : nI (cnt (bL y) 64) + (-1) = nI (cnt (bL (y &&& (y - 1))) 64) := by rw [hcr]; exact pk_m1 _
      rw [ec]
      refine ih (y &&& (y - 1), iput σ1 11 (w * 64 + ff (bL y) 64) rd) ⟨f1.tr (fr.i (by decide)), fun i hi h => ?_, fun τ => ?_⟩ (by dsimp only; omega)
      · dsimp only at h
        rw [lo_rest hy hi] at h
        exact s1 i hi (Bool.and_eq_true_iff.mp h).1
      · show (iput σ1 11 _ rd).1 11 τ = _
        rw [iput_s]
        dsimp only
        have ht : τ % 64 < 64 := by omega
        rw [lo_rest hy ht]
        by_cases e : τ = w * 64 + ff (bL y) 64
        · have a1 : τ / 64 = w := by omega
          have a2 : τ % 64 = ff (bL y) 64 := by omega
          rw [if_pos e, if_pos ⟨a1, by rw [a2]; exact s1 _ hk hyk, by rw [a2, decide_eq_true rfl]; simp⟩]
        · rw [if_neg e, d1 τ]
          by_cases hwτ : τ / 64 = w
          · have : ¬ τ % 64 = ff (bL y) 64 := by omega
            rw [decide_eq_false this, Bool.not_false, Bool.and_true]
          · rw [if_neg (fun z => hwτ z.1), if_neg (fun z => hwτ z.1)]
  · show σ.1 11 τ = _
    rw [if_neg]
    rintro ⟨-, h1, h2⟩
    dsimp only at h2
    rw [h1] at h2; cases h2
