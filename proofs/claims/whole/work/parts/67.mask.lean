/-! the reference: can, below, types, rounds, depth -/
def wfr (σ σ' : tq_S) : Prop := fr [29, 30, 31, 32] [] [18, 19] σ σ'
theorem mV_g {T : ab_T} {X : ab_X} {rl : Nat → Nat → Bool} {σ : tq_S} (hw : wfT T) (h : mV T X rl σ) {t : Nat} (ht : t < 2 ^ aN T) : σ.1 31 t = 0 ↔ GG T X rl t := by
  obtain ⟨-, -, -, ρ, h1, h2, h3⟩ := h
  have := went_le hw.2.2.1 h1.1
  rw [GG_of h1]
  exact dpt_0 (by omega) (h3 t ht)
theorem mo_can {T : ab_T} {X : ab_X} {rl : Nat → Nat → Bool} {σ : tq_S} (hw : wfT T) (hx : wX T X) (hT : mTT T σ) (hX : mX X σ) (hR : mR rl σ) (hK : mK T X rl σ) (x : Int32) :
    ∃ σ', tq_fI st_Mo_can (0, [x], [], σ) = some (oCan T X rl x, σ') ∧ wfr σ σ' ∧ mK T X rl σ' := by
  have h80 := hw.2.1
  have hm : aN T ≤ 10 := hw.2.2.1
  have hp := tq_pw1 hm
  have go : ∀ r σ', tq_wo (bk_Mo_can_0 [x] [] σ) (tq_wp st_Mo_can (fun d => d = (tq_rt, [r], [], σ'))) → tq_fI st_Mo_can (0, [x], [], σ) = some (r, σ') := fun r σ' h => tq_fI_e (tq_at (by decide) h)
  unfold oCan
  rcases bd_cases x (n := T.1) (by omega) with h | ⟨c, hc, rfl, h⟩
  · rw [if_pos h]
    refine ⟨σ, go _ _ ?_, fr.rf _ _ _ σ, hK⟩
    rw [bk_Mo_can_0]
    exact wi_o (sp_ct hT.1 h) (wi_f (fun q => q rfl) (wi_s (tq_wp_rt rfl)))
  · rw [if_neg h, tq_nc (by omega)]
    obtain ⟨σ', a1, a2, a3⟩ := mo_work hw hx hT hX hR hK
    have hT' : mTT T σ' := mT_fr hT a2 (by decide) (by decide) (by decide) (by decide) (by decide) (by decide)
    refine ⟨σ', go _ _ ?_, a2, fun _ => a3⟩
    rw [bk_Mo_can_0]
    refine wi_o (sp_cf hT.1 h) (wi_t (by decide) (wi_o a1 (wi_s ?_)))
    have end_ : ∀ t, t ≤ 2 ^ aN T → (t < 2 ^ aN T → ∃ τ, GG T X rl τ ∧ vT T c τ = true) → (t = 2 ^ aN T → ¬ ∃ τ, GG T X rl τ ∧ vT T c τ = true) → tq_wp st_Mo_can (fun d => d = (tq_rt, [iB (cD (∃ τ, GG T X rl τ ∧ vT T c τ = true))], [], σ')) (48, [nI t], [], σ') := by
      intro t ht h1 h2
      refine tq_at (by decide) ?_
      show tq_wo (bk_Mo_can_48 [nI t] [] σ') _
      rw [bk_Mo_can_48]
      refine wi_o (mo_size hw hT') (wi_c (fun q => wi_s (tq_wp_rt ?_)) (fun q => wi_s (tq_wp_rt ?_)))
      · have := (tq_le (a := 2 ^ aN T) (b := t) (by omega) (by omega)).mp q
        rw [cD_f.mpr (h2 (by omega))]; rfl
      · rw [cD_t.mpr (h1 (tq_nle (by omega) (by omega) q))]; rfl
    refine tq_ind 16 (fun t : Nat => ([nI c, nI t], [], σ')) (fun t => t ≤ 2 ^ aN T ∧ ∀ u, u < t → ¬ (GG T X rl u ∧ vT T c u = true)) (fun t => 2 ^ aN T - t) ?_ 0 ⟨Nat.zero_le _, fun u h => absurd h (Nat.not_lt_zero _)⟩
    rintro t ⟨ht, hno⟩ ih
    refine tq_at (by decide) ?_
    show tq_wo (bk_Mo_can_16 [nI c, nI t] [] σ') _
    rw [bk_Mo_can_16]
    refine wi_o (mo_size hw hT') (wi_c (fun q => wi_s ?_) (fun q => ?_))
    · have : t = 2 ^ aN T := by
        have := (tq_le (a := 2 ^ aN T) (b := t) (by omega) (by omega)).mp q
        omega
      exact end_ t ht (fun h => by omega) (fun _ ⟨u, u1, u2⟩ => hno u (by have := GG_lt u1; omega) ⟨u1, u2⟩)
    · have hlt : t < 2 ^ aN T := tq_nle (by omega) (by omega) q
      have nx : ¬ (GG T X rl t ∧ vT T c t = true) → tq_wp st_Mo_can (fun d => d = (tq_rt, [iB (cD (∃ τ, GG T X rl τ ∧ vT T c τ = true))], [], σ')) (16, [nI c, nI t + 1], [], σ') := fun hn => by
        rw [tq_inc]
        refine ih (t + 1) ⟨by omega, fun u hu => ?_⟩ (by omega)
        by_cases e : u = t
        · rw [e]; exact hn
        · exact hno u (by omega)
      simp only [ia, tq_nc (show t < 2147483648 by omega)]
      refine wi_g (tq_vin (by omega) (by omega)) (wi_c (fun q => wi_l (wi_s (nx (fun k => q ((mV_g hw a3 hlt).mpr k.1))))) (fun q => wi_o (mo_isHeld (by omega) (by omega) (a3.2.1 t c hlt hc)) (wi_c (fun q2 => wi_s ?_) (fun q2 => wi_l (wi_s (nx (fun k => ?_)))))))
      · refine end_ t ht (fun _ => ⟨t, (mV_g hw a3 hlt).mp (Classical.not_not.mp q), ?_⟩) (fun e => by omega)
        cases e : vT T c t with
        | true => rfl
        | false => rw [e] at q2; exact absurd rfl q2
      · rw [k.2] at q2; exact q2 (by decide)
theorem mo_below {T : ab_T} {X : ab_X} {rl : Nat → Nat → Bool} {σ : tq_S} (hw : wfT T) (hx : wX T X) (hT : mTT T σ) (hX : mX X σ) (hR : mR rl σ) (hK : mK T X rl σ) (x y : Int32) :
    ∃ σ', tq_fI st_Mo_below (0, [x, y], [], σ) = some (oBel T X rl x y, σ') ∧ wfr σ σ' ∧ mK T X rl σ' := by
  have h80 := hw.2.1
  have hm : aN T ≤ 10 := hw.2.2.1
  have hp := tq_pw1 hm
  have go : ∀ r σ', tq_wo (bk_Mo_below_0 [x, y] [] σ) (tq_wp st_Mo_below (fun d => d = (tq_rt, [r], [], σ'))) → tq_fI st_Mo_below (0, [x, y], [], σ) = some (r, σ') := fun r σ' h => tq_fI_e (tq_at (by decide) h)
  unfold oBel
  rcases bd_cases x (n := T.1) (by omega) with h | ⟨c, hc, rfl, h⟩
  · rw [if_pos (Or.inl h)]
    refine ⟨σ, go _ _ ?_, fr.rf _ _ _ σ, hK⟩
    rw [bk_Mo_below_0]
    exact wi_o (sp_ct hT.1 h) (wi_t rfl (wi_s (tq_wp_rt rfl)))
  · rcases bd_cases y (n := T.1) (by omega) with h' | ⟨e, he, rfl, h'⟩
    · rw [if_pos (Or.inr h')]
      refine ⟨σ, go _ _ ?_, fr.rf _ _ _ σ, hK⟩
      rw [bk_Mo_below_0]
      exact wi_o (sp_cf hT.1 h) (wi_f (by decide) (wi_o (sp_ct hT.1 h') (wi_f (fun q => q rfl) (wi_s (tq_wp_rt rfl)))))
    rw [if_neg (fun q => q.elim h h'), tq_nc (by omega), tq_nc (by omega)]
    obtain ⟨σ', a1, a2, a3⟩ := mo_work hw hx hT hX hR hK
    have hT' : mTT T σ' := mT_fr hT a2 (by decide) (by decide) (by decide) (by decide) (by decide) (by decide)
    refine ⟨σ', go _ _ ?_, a2, fun _ => a3⟩
    rw [bk_Mo_below_0]
    refine wi_o (sp_cf hT.1 h) (wi_f (by decide) (wi_o (sp_cf hT.1 h') (wi_t (by decide) (wi_o a1 (wi_s ?_)))))
    obtain ⟨P, hP⟩ : ∃ P : Nat → Prop, ∀ τ, P τ ↔ (GG T X rl τ ∧ vT T c τ = true ∧ vT T e τ = false) := ⟨_, fun _ => Iff.rfl⟩
    have eP : cD (∃ τ, GG T X rl τ ∧ vT T c τ = true ∧ vT T e τ = false) = cD (∃ τ, P τ) := cD_c ⟨fun ⟨u, h⟩ => ⟨u, (hP u).mpr h⟩, fun ⟨u, h⟩ => ⟨u, (hP u).mp h⟩⟩
    rw [eP]
    have end_ : ∀ t, t ≤ 2 ^ aN T → (t < 2 ^ aN T → ∃ τ, P τ) → (t = 2 ^ aN T → ¬ ∃ τ, P τ) → tq_wp st_Mo_below (fun d => d = (tq_rt, [iB (!(cD (∃ τ, P τ)))], [], σ')) (65, [nI t], [], σ') := by
      intro t ht h1 h2
      refine tq_at (by decide) ?_
      show tq_wo (bk_Mo_below_65 [nI t] [] σ') _
      rw [bk_Mo_below_65]
      refine wi_o (mo_size hw hT') (wi_c (fun q => wi_s (tq_wp_rt ?_)) (fun q => wi_s (tq_wp_rt ?_)))
      · have := (tq_le (a := 2 ^ aN T) (b := t) (by omega) (by omega)).mp q
        rw [cD_f.mpr (h2 (by omega))]; rfl
      · rw [cD_t.mpr (h1 (tq_nle (by omega) (by omega) q))]; rfl
    refine tq_ind 24 (fun t : Nat => ([nI c, nI e, nI t], [], σ')) (fun t => t ≤ 2 ^ aN T ∧ ∀ u, u < t → ¬ P u) (fun t => 2 ^ aN T - t) ?_ 0 ⟨Nat.zero_le _, fun u h => absurd h (Nat.not_lt_zero _)⟩
    rintro t ⟨ht, hno⟩ ih
    refine tq_at (by decide) ?_
    show tq_wo (bk_Mo_below_24 [nI c, nI e, nI t] [] σ') _
    rw [bk_Mo_below_24]
    refine wi_o (mo_size hw hT') (wi_c (fun q => wi_s ?_) (fun q => ?_))
    · have : t = 2 ^ aN T := by
        have := (tq_le (a := 2 ^ aN T) (b := t) (by omega) (by omega)).mp q
        omega
      exact end_ t ht (fun h => by omega) (fun _ ⟨u, u1⟩ => hno u (by have := GG_lt ((hP u).mp u1).1; omega) u1)
    · have hlt : t < 2 ^ aN T := tq_nle (by omega) (by omega) q
      have nx : ¬ P t → tq_wp st_Mo_below (fun d => d = (tq_rt, [iB (!(cD (∃ τ, P τ)))], [], σ')) (24, [nI c, nI e, nI t + 1], [], σ') := fun hn => by
        rw [tq_inc]
        refine ih (t + 1) ⟨by omega, fun u hu => ?_⟩ (by omega)
        by_cases e : u = t
        · rw [e]; exact hn
        · exact hno u (by omega)
      simp only [ia, tq_nc (show t < 2147483648 by omega)]
      refine wi_g (tq_vin (by omega) (by omega)) (wi_c (fun q => wi_l (wi_s (nx (fun k => q ((mV_g hw a3 hlt).mpr ((hP t).mp k).1))))) (fun q => wi_o (mo_isHeld (by omega) (by omega) (a3.2.1 t c hlt hc)) (wi_c (fun q2 => wi_l (wi_s (nx (fun k => ?_)))) (fun q2 => wi_o (mo_isHeld (by omega) (by omega) (a3.2.1 t e hlt he)) (wi_c (fun q3 => wi_s ?_) (fun q3 => wi_l (wi_s (nx (fun k => ?_)))))))))
      · rw [((hP t).mp k).2.1] at q2; exact absurd q2 (by decide)
      · refine end_ t ht (fun _ => ⟨t, (hP t).mpr ⟨(mV_g hw a3 hlt).mp (Classical.not_not.mp q), ?_, iB_z.mp q3⟩⟩) (fun e => by omega)
        cases ev : vT T c t with
        | true => rfl
        | false => rw [ev] at q2; exact absurd rfl q2
      · rw [((hP t).mp k).2.2] at q3; exact q3 rfl
theorem mo_types {T : ab_T} {X : ab_X} {rl : Nat → Nat → Bool} {σ : tq_S} (hw : wfT T) (hx : wX T X) (hT : mTT T σ) (hX : mX X σ) (hR : mR rl σ) (hK : mK T X rl σ) :
    ∃ σ', tq_fI st_Mo_types (0, [], [], σ) = some (oTyp T X rl, σ') ∧ wfr σ σ' ∧ mK T X rl σ' := by
  have hm : aN T ≤ 10 := hw.2.2.1
  have hp := tq_pw1 hm
  obtain ⟨σ', a1, a2, a3⟩ := mo_work hw hx hT hX hR hK
  have hT' : mTT T σ' := mT_fr hT a2 (by decide) (by decide) (by decide) (by decide) (by decide) (by decide)
  refine ⟨σ', tq_fI_e (tq_at (by decide) ?_), a2, fun _ => a3⟩
  show tq_wo (bk_Mo_types_0 [] [] σ) _
  rw [bk_Mo_types_0]
  refine wi_o a1 (wi_s ?_)
  have e : oTyp T X rl = nI (cnt (fun τ => cD (GG T X rl τ)) (2 ^ aN T)) := by
    unfold oTyp
    have z : cnt (fun j => cD (GG T X rl (2 ^ aN T + j))) (1024 - 2 ^ aN T) = 0 := cnt_0.mpr (fun i _ => cD_f.mpr (fun h => by have := GG_lt h; omega))
    rw [show 1024 = 2 ^ aN T + (1024 - 2 ^ aN T) by omega, cnt_add, z, Nat.add_zero]
  rw [e]
  refine tq_ind 8 (fun t : Nat => ([nI (cnt (fun τ => cD (GG T X rl τ)) t), nI t], [], σ')) (fun t => t ≤ 2 ^ aN T) (fun t => 2 ^ aN T - t) ?_ 0 (Nat.zero_le _)
  rintro t ht ih
  refine tq_at (by decide) ?_
  show tq_wo (bk_Mo_types_8 [nI (cnt (fun τ => cD (GG T X rl τ)) t), nI t] [] σ') _
  rw [bk_Mo_types_8]
  refine wi_o (mo_size hw hT') (wi_c (fun q => wi_s (tq_wp_rt ?_)) (fun q => ?_))
  · have : t = 2 ^ aN T := by
      have := (tq_le (a := 2 ^ aN T) (b := t) (by omega) (by omega)).mp q
      omega
    rw [this]
  · have hlt : t < 2 ^ aN T := tq_nle (by omega) (by omega) q
    simp only [ia, tq_nc (show t < 2147483648 by omega)]
    have es : cnt (fun τ => cD (GG T X rl τ)) (t + 1) = cnt (fun τ => cD (GG T X rl τ)) t + (if cD (GG T X rl t) then 1 else 0) := rfl
    refine wi_g (tq_vin (by omega) (by omega)) (wi_c (fun q => wi_l (wi_l (wi_s ?_))) (fun q => wi_l (wi_l (wi_s ?_))))
    · have := ih (t + 1) (by omega) (by omega)
      rw [es, cD_f.mpr (fun h => q ((mV_g hw a3 hlt).mpr h))] at this
      rw [tq_inc, show nI (cnt (fun τ => cD (GG T X rl τ)) t) + 0 = nI (cnt (fun τ => cD (GG T X rl τ)) t + 0) from nI_add _ 0]
      exact this
    · have := ih (t + 1) (by omega) (by omega)
      rw [es, cD_t.mpr ((mV_g hw a3 hlt).mp (Classical.not_not.mp q))] at this
      rw [tq_inc, tq_inc]
      exact this
theorem mo_rounds {T : ab_T} {X : ab_X} {rl : Nat → Nat → Bool} {σ : tq_S} (hw : wfT T) (hx : wX T X) (hT : mTT T σ) (hX : mX X σ) (hR : mR rl σ) (hK : mK T X rl σ) :
    ∃ z σ', tq_fI st_Mo_rounds (0, [], [], σ) = some (z, σ') ∧ aRnd T X rl z ∧ wfr σ σ' ∧ mK T X rl σ' := by
  obtain ⟨σ', a1, a2, a3⟩ := mo_work hw hx hT hX hR hK
  obtain ⟨-, -, -, ρ, b1, b2, b3⟩ := id a3
  refine ⟨nI ρ, σ', tq_fI_e (tq_at (by decide) ?_), ⟨ρ, b1, rfl⟩, a2, fun _ => a3⟩
  show tq_wo (bk_Mo_rounds_0 [] [] σ) _
  rw [bk_Mo_rounds_0]
  exact wi_o a1 (wi_s (tq_wp_rt (by rw [b2])))
theorem mo_depth {T : ab_T} {X : ab_X} {rl : Nat → Nat → Bool} {σ : tq_S} (hw : wfT T) (hx : wX T X) (hT : mTT T σ) (hX : mX X σ) (hR : mR rl σ) (hK : mK T X rl σ) (x : Int32) :
    ∃ z σ', tq_fI st_Mo_depth (0, [x], [], σ) = some (z, σ') ∧ aDep T X rl x z ∧ wfr σ σ' ∧ mK T X rl σ' := by
  have hm : aN T ≤ 10 := hw.2.2.1
  have hp := tq_pw1 hm
  obtain ⟨σ', a1, a2, a3⟩ := mo_work hw hx hT hX hR hK
  have hT' : mTT T σ' := mT_fr hT a2 (by decide) (by decide) (by decide) (by decide) (by decide) (by decide)
  obtain ⟨-, -, -, ρ, b1, b2, b3⟩ := id a3
  have go : ∀ r, tq_wo (bk_Mo_depth_0 [x] [] σ) (tq_wp st_Mo_depth (fun d => d = (tq_rt, [r], [], σ'))) → tq_fI st_Mo_depth (0, [x], [], σ) = some (r, σ') := fun r h => tq_fI_e (tq_at (by decide) h)
  rcases bd_cases x (n := 2 ^ aN T) (by omega) with h | ⟨τ, hτ, rfl, h⟩
  · refine ⟨-1, σ', go _ ?_, Or.inl ⟨h, rfl⟩, a2, fun _ => a3⟩
    rw [bk_Mo_depth_0]
    refine wi_o a1 (wi_c (fun q => wi_s (tq_wp_rt rfl)) (fun q => wi_o (mo_size hw hT') (wi_t (h.elim (fun k => absurd k q) id) (wi_s (tq_wp_rt rfl)))))
  · refine ⟨_, σ', go (σ'.1 31 τ) ?_, Or.inr ⟨h, ρ, b1, by rw [tq_nc (by omega)]; exact b3 τ hτ⟩, a2, fun _ => a3⟩
    rw [bk_Mo_depth_0]
    refine wi_o a1 (wi_f (fun q => h (Or.inl q)) (wi_o (mo_size hw hT') (wi_f (fun q => h (Or.inr q)) (wi_g (tq_vin (by omega) (by omega)) (wi_s (tq_wp_rt ?_))))))
    simp only [ia, tq_nc (show τ < 2147483648 by omega)]
