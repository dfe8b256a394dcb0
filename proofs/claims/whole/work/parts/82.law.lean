/-! the law: all calls of a script, one after the other -/
theorem OK_0 {σC σR σH : tq_S} (h : cTT T2 (tq_m0 σC σR σH) ∧ mTT T2 (tq_m0 σC σR σH) ∧ cX X0 (tq_m0 σC σR σH) ∧ mX X0 (tq_m0 σC σR σH) ∧ cR rl0 (tq_m0 σC σR σH) ∧ mR rl0 (tq_m0 σC σR σH) ∧ cB T2 B0 (tq_m0 σC σR σH) ∧ mB B0 (tq_m0 σC σR σH) ∧ cL M0 (tq_m0 σC σR σH) ∧ mL M0 (tq_m0 σC σR σH) ∧ (tq_m0 σC σR σH).2.2 4 = 1 ∧ (tq_m0 σC σR σH).2.2 6 = 0 ∧ (tq_m0 σC σR σH).2.2 11 = 1 ∧ (tq_m0 σC σR σH).2.2 18 = 0 ∧ (∀ w, (tq_m0 σC σR σH).2.1 3 w = 0)) (h12' : (tq_m0 σC σR σH).2.2 12 = 0) : OK 0 (tq_m0 σC σR σH) := by
  obtain ⟨h1, h2, h3, h4, h5, h6, h7, h8, h9, h10, h11, h12, h13, h14, h15⟩ := h
  refine ⟨T2, X0, rl0, B0, M0, ⟨wf_T2, ⟨by decide, fun a ha => absurd ha (Nat.not_lt_zero _)⟩, wB_0 T2, wM_0⟩, ⟨h1, h3, h5, h7, h9, ⟨fun τ hτ => ?_, fun q => ?_⟩, ⟨0, 0, h12, h12', Nat.le_refl _, Nat.le_refl _, fun q => ?_⟩, ⟨0, Nat.zero_le _, rfl⟩⟩, ⟨h2, h4, h6, h8, h10, fun q => absurd h14 q⟩⟩
  · unfold gng; rw [h15, bL_0]
  · rw [h11] at q; exact absurd q (by decide)
  · rw [h13] at q; exact absurd q (by decide)
theorem law_runs {L : Nat} {xs : Nat → Int32} (hL : L ≤ 2048) {σ : tq_S} (h : OK 0 σ) : tq_wp (st_Lw_law L xs) (fun d => ∃ σ', d = (tq_rt, [1], [], σ')) (18, [0], [], σ) := by
  by_cases h4 : L < 4
  · refine tq_at (by decide) ?_
    show tq_wo (bk_Lw_law_18 L xs [0] [] σ) _
    rw [bk_Lw_law_18]
    refine wi_t ?_ (wi_s (tq_wp_rt ⟨_, rfl⟩))
    have : ∀ L, L < 4 → (Int32.ofNat L - 4) < 0 := by decide
    exact this L h4
  refine tq_ind 18 (fun p : Nat × Nat × tq_S => ([nI p.1], [], p.2.2)) (fun p => p.1 ≤ L + 3 ∧ p.2.1 ≤ p.1 ∧ OK p.2.1 p.2.2) (fun p => L + 4 - p.1) ?_ (0, 0, σ) ⟨by dsimp only; omega, Nat.le_refl _, h⟩
  rintro ⟨i, n, σ⟩ ⟨hi, hn, hO⟩ ih
  dsimp only at hi hn hO ih ⊢
  refine tq_at (by decide) ?_
  show tq_wo (bk_Lw_law_18 L xs [nI i] [] σ) _
  rw [bk_Lw_law_18]
  have eL : (Int32.ofNat L - 4) = nI (L - 4) := pk_sub (a := L) (b := 4) (by omega)
  rw [eL]
  refine wi_c (fun _ => wi_s (tq_wp_rt ⟨_, rfl⟩)) (fun q => ?_)
  have hi4 : i + 4 ≤ L := by
    have : ¬ L - 4 < i := fun z => q ((tq_lt (a := L - 4) (b := i) (by omega) (by omega)).mpr z)
    omega
  have v0 : vp_in (nI i) L := tq_vin (by omega) (by omega)
  have v1 : vp_in (nI i + 1) L := by rw [tq_inc]; exact tq_vin (by omega) (by omega)
  have v2 : vp_in (nI i + 2) L := by rw [show (2 : Int32) = nI 2 from rfl, nI_add]; exact tq_vin (by omega) (by omega)
  have v3 : vp_in (nI i + 3) L := by rw [show (3 : Int32) = nI 3 from rfl, nI_add]; exact tq_vin (by omega) (by omega)
  have nx : ∀ σ', OK (n + 2) σ' → tq_wp (st_Lw_law L xs) (fun d => ∃ σ', d = (tq_rt, [1], [], σ')) (18, [nI i + 4], [], σ') := fun σ' h => by
    rw [show (4 : Int32) = nI 4 from rfl, nI_add]
    exact ih (i + 4, n + 2, σ') ⟨by dsimp only; omega, by dsimp only; omega, h⟩ (by dsimp only; omega)
  have n2 : n < 2000000000 := by omega
  refine wi_g v0 (wi_l ?_)
  generalize xs (nI i).toNatClampNeg &&& 31 = op
  refine wi_c (fun _ => ?_) (fun _ => ?_)
  · obtain ⟨z, σ1, σ2, a, b, c⟩ := jo_class0 hO (xs (nI i + 1).toNatClampNeg)
    exact wi_g v1 (wi_o a (wi_g v1 (wi_o b (wi_t rfl (wi_l (wi_s (nx σ2 c)))))))
  refine wi_c (fun _ => ?_) (fun _ => ?_)
  · obtain ⟨z, σ1, σ2, a, b, c⟩ := jo_concept hO (xs (nI i + 1).toNatClampNeg) (xs (nI i + 2).toNatClampNeg) (xs (nI i + 3).toNatClampNeg)
    exact wi_g v1 (wi_g v2 (wi_g v3 (wi_o a (wi_g v1 (wi_g v2 (wi_g v3 (wi_o b (wi_t rfl (wi_l (wi_s (nx σ2 c)))))))))))
  refine wi_c (fun _ => ?_) (fun _ => ?_)
  · obtain ⟨z, σ1, σ2, a, b, c⟩ := jo_told hO (xs (nI i + 1).toNatClampNeg) (xs (nI i + 2).toNatClampNeg)
    exact wi_g v1 (wi_g v2 (wi_o a (wi_g v1 (wi_g v2 (wi_o b (wi_t rfl (wi_l (wi_s (nx σ2 c)))))))))
  refine wi_c (fun _ => ?_) (fun _ => ?_)
  · obtain ⟨z, σ1, σ2, a, b, c⟩ := jo_concepts hO
    exact wi_o a (wi_o b (wi_t rfl (wi_l (wi_s (nx σ2 c)))))
  refine wi_c (fun _ => ?_) (fun _ => ?_)
  · obtain ⟨z, σ1, σ2, a, b, c⟩ := jo_atoms hO
    exact wi_o a (wi_o b (wi_t rfl (wi_l (wi_s (nx σ2 c)))))
  refine wi_c (fun _ => ?_) (fun _ => ?_)
  · obtain ⟨z, σ1, σ2, a, b, c⟩ := jo_axiom hO (xs (nI i + 1).toNatClampNeg) (xs (nI i + 2).toNatClampNeg)
    exact wi_g v1 (wi_g v2 (wi_o a (wi_g v1 (wi_g v2 (wi_o b (wi_t rfl (wi_l (wi_s (nx σ2 c)))))))))
  refine wi_c (fun _ => ?_) (fun _ => ?_)
  · obtain ⟨z, σ1, σ2, a, b, c⟩ := jo_drop hO
    exact wi_o a (wi_o b (wi_t rfl (wi_l (wi_s (nx σ2 c)))))
  refine wi_c (fun _ => ?_) (fun _ => ?_)
  · obtain ⟨z, σ1, σ2, a, b, c⟩ := jo_role hO (xs (nI i + 1).toNatClampNeg) (xs (nI i + 2).toNatClampNeg)
    exact wi_g v1 (wi_g v2 (wi_o a (wi_g v1 (wi_g v2 (wi_o b (wi_t rfl (wi_l (wi_s (nx σ2 c)))))))))
  refine wi_c (fun _ => ?_) (fun _ => ?_)
  · obtain ⟨z, σ1, σ2, a, b, c⟩ := jo_can hO (xs (nI i + 1).toNatClampNeg)
    exact wi_g v1 (wi_o a (wi_g v1 (wi_o b (wi_t rfl (wi_l (wi_s (nx σ2 c)))))))
  refine wi_c (fun _ => ?_) (fun _ => ?_)
  · obtain ⟨z, σ1, σ2, a, b, c⟩ := jo_below hO (xs (nI i + 1).toNatClampNeg) (xs (nI i + 2).toNatClampNeg)
    exact wi_g v1 (wi_g v2 (wi_o a (wi_g v1 (wi_g v2 (wi_o b (wi_t rfl (wi_l (wi_s (nx σ2 c)))))))))
  refine wi_c (fun _ => ?_) (fun _ => ?_)
  · obtain ⟨z, σ1, σ2, a, b, c⟩ := jo_types hO
    exact wi_o a (wi_o b (wi_t rfl (wi_l (wi_s (nx σ2 c)))))
  refine wi_c (fun _ => ?_) (fun _ => ?_)
  · obtain ⟨z, σ1, σ2, a, b, c⟩ := jo_rounds hO
    exact wi_o a (wi_o b (wi_t rfl (wi_l (wi_s (nx σ2 c)))))
  refine wi_c (fun _ => ?_) (fun _ => ?_)
  · obtain ⟨z, σ1, σ2, a, b, c⟩ := jo_depth hO (xs (nI i + 1).toNatClampNeg)
    exact wi_g v1 (wi_o a (wi_g v1 (wi_o b (wi_t rfl (wi_l (wi_s (nx σ2 c)))))))
  refine wi_c (fun _ => ?_) (fun _ => ?_)
  · obtain ⟨z, σ1, σ2, a, b, c⟩ := jo_individual hO (xs (nI i + 1).toNatClampNeg) (xs (nI i + 2).toNatClampNeg)
    exact wi_g v1 (wi_g v2 (wi_o a (wi_g v1 (wi_g v2 (wi_o b (wi_t rfl (wi_l (wi_s (nx σ2 c)))))))))
  refine wi_c (fun _ => ?_) (fun _ => ?_)
  · obtain ⟨z, σ1, σ2, a, b, c⟩ := jo_has hO (xs (nI i + 1).toNatClampNeg) (xs (nI i + 2).toNatClampNeg) (xs (nI i + 3).toNatClampNeg)
    exact wi_g v1 (wi_g v2 (wi_g v3 (wi_o a (wi_g v1 (wi_g v2 (wi_g v3 (wi_o b (wi_t rfl (wi_l (wi_s (nx σ2 c)))))))))))
  refine wi_c (fun _ => ?_) (fun _ => ?_)
  · obtain ⟨z, σ1, σ2, a, b, c⟩ := jo_forget hO
    exact wi_o a (wi_o b (wi_t rfl (wi_l (wi_s (nx σ2 c)))))
  refine wi_c (fun _ => ?_) (fun _ => ?_)
  · obtain ⟨z, σ1, σ2, a, b, c⟩ := jo_run hO n2
    exact wi_o a (wi_o b (wi_t rfl (wi_l (wi_s (nx σ2 c)))))
  refine wi_c (fun _ => ?_) (fun _ => ?_)
  · obtain ⟨z, σ1, σ2, a, b, c⟩ := jo_model hO n2 (xs (nI i + 1).toNatClampNeg)
    exact wi_g v1 (wi_o a (wi_g v1 (wi_o b (wi_t rfl (wi_l (wi_s (nx σ2 c)))))))
  refine wi_c (fun _ => ?_) (fun _ => ?_)
  · obtain ⟨z, σ1, σ2, a, b, c⟩ := jo_surely hO n2 (xs (nI i + 1).toNatClampNeg) (xs (nI i + 2).toNatClampNeg)
    exact wi_g v1 (wi_g v2 (wi_o a (wi_g v1 (wi_g v2 (wi_o b (wi_t rfl (wi_l (wi_s (nx σ2 c)))))))))
  refine wi_l (wi_s (nx σ ?_))
  obtain ⟨T, X, rl, B, M, hP, hC, hM⟩ := hO
  exact ⟨T, X, rl, B, M, hP, IC_fr (IC_fr hC (mfr.rf σ)) (mfr.rf σ), hM⟩
