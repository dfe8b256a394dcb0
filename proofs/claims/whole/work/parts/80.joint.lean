/-! both sides in step: what holds between two calls -/
def cfr (σ σ' : tq_S) : Prop := (∀ k, 17 ≤ k → σ'.1 k = σ.1 k) ∧ (∀ k, 13 ≤ k → σ'.2.2 k = σ.2.2 k)
def mfr (σ σ' : tq_S) : Prop := (∀ k, k < 17 → σ'.1 k = σ.1 k) ∧ σ'.2.1 = σ.2.1 ∧ (∀ k, k < 13 → σ'.2.2 k = σ.2.2 k)
theorem cfr_fr {I L F : List Nat} {σ σ' : tq_S} (h : fr I L F σ σ') (hi : ∀ k, k ∈ I → k < 17) (hf : ∀ k, k ∈ F → k < 13) : cfr σ σ' := ⟨fun k hk => h.1 k (fun z => by have := hi k z; omega), fun k hk => h.2.2 k (fun z => by have := hf k z; omega)⟩
theorem mfr_fr {I F : List Nat} {σ σ' : tq_S} (h : fr I [] F σ σ') (hi : ∀ k, k ∈ I → 17 ≤ k) (hf : ∀ k, k ∈ F → 13 ≤ k) : mfr σ σ' := ⟨fun k hk => h.1 k (fun z => by have := hi k z; omega), funext (fun k => h.2.1 k (by simp)), fun k hk => h.2.2 k (fun z => by have := hf k z; omega)⟩
theorem cfr_C {σ σ' : tq_S} (h : frC σ σ') : cfr σ σ' := ⟨fun k hk => h.1 k (by omega), fun k hk => h.2.2 k (by omega)⟩
theorem mfr_T {σ σ' : tq_S} (h : frT σ σ') : mfr σ σ' := ⟨fun k hk => h.1 k (Or.inl hk), h.2.1, fun k hk => h.2.2.1 k (by omega) (by omega) (by omega)⟩
def IP (T : ab_T) (X : ab_X) (B : ab_X) (M : ab_L) : Prop := wfT T ∧ wX T X ∧ wB T B ∧ wM M
def IC (T : ab_T) (X : ab_X) (rl : Nat → Nat → Bool) (B : ab_X) (M : ab_L) (n : Nat) (σ : tq_S) : Prop := cTT T σ ∧ cX X σ ∧ cR rl σ ∧ cB T B σ ∧ cL M σ ∧ cG T X rl σ ∧ cS T X rl B M n σ ∧ a5 T σ
def IM (T : ab_T) (X : ab_X) (rl : Nat → Nat → Bool) (B : ab_X) (M : ab_L) (σ : tq_S) : Prop := mTT T σ ∧ mX X σ ∧ mR rl σ ∧ mB B σ ∧ mL M σ ∧ mK T X rl σ
theorem cX_fr {X : ab_X} {σ σ' : tq_S} (h : cX X σ) (e7 : σ'.1 7 = σ.1 7) (e8 : σ'.1 8 = σ.1 8) (f2 : σ'.2.2 2 = σ.2.2 2) : cX X σ' := ⟨by rw [f2]; exact h.1, fun i hi => by rw [e7, e8]; exact h.2 i hi⟩
theorem mX_fr {X : ab_X} {σ σ' : tq_S} (h : mX X σ) (e7 : σ'.1 21 = σ.1 21) (e8 : σ'.1 22 = σ.1 22) (f2 : σ'.2.2 15 = σ.2.2 15) : mX X σ' := ⟨by rw [f2]; exact h.1, fun i hi => by rw [e7, e8]; exact h.2 i hi⟩
theorem mR_fr {rl : Nat → Nat → Bool} {σ σ' : tq_S} (h : mR rl σ) (e : σ'.1 23 = σ.1 23) : mR rl σ' := fun r s hr hs => by rw [e]; exact h r s hr hs
theorem mB_fr {B : ab_X} {σ σ' : tq_S} (h : mB B σ) (e1 : σ'.1 24 = σ.1 24) (e2 : σ'.1 25 = σ.1 25) (f : σ'.2.2 16 = σ.2.2 16) : mB B σ' := ⟨by rw [f]; exact h.1, fun k hk => by rw [e1, e2]; exact h.2 k hk⟩
theorem mL_fr {M : ab_L} {σ σ' : tq_S} (h : mL M σ) (e1 : σ'.1 26 = σ.1 26) (e2 : σ'.1 27 = σ.1 27) (e3 : σ'.1 28 = σ.1 28) (f : σ'.2.2 17 = σ.2.2 17) : mL M σ' := ⟨by rw [f]; exact h.1, fun k hk => by rw [e1, e2, e3]; exact h.2 k hk⟩
theorem mT_fr' {T : ab_T} {σ σ' : tq_S} (h : mTT T σ) (e : ∀ k, 17 ≤ k → k < 21 → σ'.1 k = σ.1 k) (f13 : σ'.2.2 13 = σ.2.2 13) (f14 : σ'.2.2 14 = σ.2.2 14) : mTT T σ' := by
  obtain ⟨q1, q2, q3, q4⟩ := h
  exact ⟨by rw [f13]; exact q1, by rw [f14]; exact q2, fun c hc => by rw [e 17 (by decide) (by decide), e 18 (by decide) (by decide), e 19 (by decide) (by decide)]; exact q3 c hc, fun c hc ha => by rw [e 20 (by decide) (by decide)]; exact q4 c hc ha⟩
theorem mV_fr {T : ab_T} {X : ab_X} {rl : Nat → Nat → Bool} {σ σ' : tq_S} (h : mV T X rl σ) (e : ∀ k, 29 ≤ k → k < 33 → σ'.1 k = σ.1 k) (f19 : σ'.2.2 19 = σ.2.2 19) : mV T X rl σ' := by
  obtain ⟨q1, q2, q3, ρ, q4, q5, q6⟩ := h
  exact ⟨fun r s hr hs => by rw [e 32 (by decide) (by decide)]; exact q1 r s hr hs, fun t c ht hc => by rw [e 29 (by decide) (by decide)]; exact q2 t c ht hc, fun t ht j hj => by rw [e 30 (by decide) (by decide)]; exact q3 t ht j hj, ρ, q4, by rw [f19]; exact q5, fun t ht => by rw [e 31 (by decide) (by decide)]; exact q6 t ht⟩
theorem mK_fr {T : ab_T} {X : ab_X} {rl : Nat → Nat → Bool} {σ σ' : tq_S} (h : mK T X rl σ) (e : ∀ k, 29 ≤ k → k < 33 → σ'.1 k = σ.1 k) (f18 : σ'.2.2 18 = σ.2.2 18) (f19 : σ'.2.2 19 = σ.2.2 19) : mK T X rl σ' := fun q => mV_fr (h (by rw [← f18]; exact q)) e f19
theorem IM_fr {T : ab_T} {X : ab_X} {rl : Nat → Nat → Bool} {B : ab_X} {M : ab_L} {σ σ' : tq_S} (h : IM T X rl B M σ) (f : cfr σ σ') : IM T X rl B M σ' := by
  obtain ⟨h1, h2, h3, h4, h5, h6⟩ := h
  exact ⟨mT_fr' h1 (fun k hk _ => f.1 k hk) (f.2 13 (by decide)) (f.2 14 (by decide)), mX_fr h2 (f.1 21 (by decide)) (f.1 22 (by decide)) (f.2 15 (by decide)), mR_fr h3 (f.1 23 (by decide)), mB_fr h4 (f.1 24 (by decide)) (f.1 25 (by decide)) (f.2 16 (by decide)), mL_fr h5 (f.1 26 (by decide)) (f.1 27 (by decide)) (f.1 28 (by decide)) (f.2 17 (by decide)), mK_fr h6 (fun k hk _ => f.1 k (by omega)) (f.2 18 (by decide)) (f.2 19 (by decide))⟩
theorem cS_fr {T : ab_T} {X : ab_X} {rl : Nat → Nat → Bool} {B : ab_X} {M : ab_L} {n : Nat} {σ σ' : tq_S} (h : cS T X rl B M n σ) (e14 : σ'.1 14 = σ.1 14) (e16 : σ'.1 16 = σ.1 16) (f4 : σ'.2.2 4 = σ.2.2 4) (f5 : σ'.2.2 5 = σ.2.2 5) (f6 : σ'.2.2 6 = σ.2.2 6) (f10 : σ'.2.2 10 = σ.2.2 10) (f11 : σ'.2.2 11 = σ.2.2 11) (f12 : σ'.2.2 12 = σ.2.2 12) : cS T X rl B M (n + 1) σ' := by
  obtain ⟨v, v', s1, s2, s3, s4, s5⟩ := h
  exact ⟨v, v', by rw [f6]; exact s1, by rw [f12]; exact s2, s3, by omega, fun q1 q2 q3 q4 => vS_fr (s5 (by rw [← f11]; exact q1) q2 (by rw [← f4]; exact q3) (by rw [← f5]; exact q4)) e14 e16 f10⟩
theorem a5_fr {T : ab_T} {σ σ' : tq_S} (h : a5 T σ) (f5 : σ'.2.2 5 = σ.2.2 5) : a5 T σ' := h.elim (fun s hs => ⟨s, hs.1, by rw [f5]; exact hs.2⟩)
theorem cG_fr' {T : ab_T} {X : ab_X} {rl : Nat → Nat → Bool} {σ σ' : tq_S} (h : cG T X rl σ) (e : ∀ k, 9 ≤ k → k < 12 → σ'.1 k = σ.1 k) (l2 : σ'.2.1 2 = σ.2.1 2) (l3 : σ'.2.1 3 = σ.2.1 3) (f3 : σ'.2.2 3 = σ.2.2 3) (f4 : σ'.2.2 4 = σ.2.2 4) (f5 : σ'.2.2 5 = σ.2.2 5) : cG T X rl σ' := by
  refine ⟨fun τ hτ => ?_, fun h4 h5 => ?_⟩
  · unfold gng; rw [l3]; exact h.1 τ hτ
  · rw [f4] at h4
    rw [f5] at h5
    exact vG_fr (h.2 h4 h5) (e 9 (by decide) (by decide)) (e 10 (by decide) (by decide)) (e 11 (by decide) (by decide)) l2 f3
theorem IC_fr {T : ab_T} {X : ab_X} {rl : Nat → Nat → Bool} {B : ab_X} {M : ab_L} {n : Nat} {σ σ' : tq_S} (h : IC T X rl B M n σ) (f : mfr σ σ') : IC T X rl B M (n + 1) σ' := by
  obtain ⟨h1, h2, h3, h4, h5, h6, h7, h8⟩ := h
  have l : ∀ k, σ'.2.1 k = σ.2.1 k := fun k => by rw [f.2.1]
  exact ⟨cT_fr h1 (fun k hk => f.1 k (by omega)) (fun k _ => l k) (fun k hk => f.2.2 k (by omega)), cX_fr h2 (f.1 7 (by decide)) (f.1 8 (by decide)) (f.2.2 2 (by decide)), cR_fr h3 (f.1 5 (by decide)) (f.1 6 (by decide)), cB_fr h4 (l 4) (f.2.2 7 (by decide)), cL_fr h5 (f.1 13 (by decide)) (f.2.2 8 (by decide)), cG_fr' h6 (fun k _ hk => f.1 k (by omega)) (l 2) (l 3) (f.2.2 3 (by decide)) (f.2.2 4 (by decide)) (f.2.2 5 (by decide)), cS_fr h7 (f.1 14 (by decide)) (f.1 16 (by decide)) (f.2.2 4 (by decide)) (f.2.2 5 (by decide)) (f.2.2 6 (by decide)) (f.2.2 10 (by decide)) (f.2.2 11 (by decide)) (f.2.2 12 (by decide)), a5_fr h8 (f.2.2 5 (by decide))⟩
def OK (n : Nat) (σ : tq_S) : Prop := ∃ T X rl B M, IP T X B M ∧ IC T X rl B M n σ ∧ IM T X rl B M σ
/-- a call of both sides: the same answer, and all stays right -/
def stp (stC stM : tq_C → Option tq_C) (xs : List Int32) (n : Nat) (σ : tq_S) : Prop := ∃ z σ1 σ2, tq_fI stC (0, xs, [], σ) = some (z, σ1) ∧ tq_fI stM (0, xs, [], σ1) = some (z, σ2) ∧ OK (n + 2) σ2
theorem stp_of {stC stM : tq_C → Option tq_C} {xs : List Int32} {n : Nat} {σ σ1 σ2 : tq_S} {z : Int32} {T : ab_T} {X : ab_X} {rl : Nat → Nat → Bool} {B : ab_X} {M : ab_L} (h1 : tq_fI stC (0, xs, [], σ) = some (z, σ1)) (h2 : tq_fI stM (0, xs, [], σ1) = some (z, σ2)) (hP : IP T X B M) (hC : IC T X rl B M (n + 1) σ1) (hM : IM T X rl B M σ2) (hf : mfr σ1 σ2) : stp stC stM xs n σ := ⟨z, σ1, σ2, h1, h2, T, X, rl, B, M, hP, IC_fr hC hf, hM⟩
/-! questions -/
theorem IC_q {T : ab_T} {X : ab_X} {rl : Nat → Nat → Bool} {B : ab_X} {M : ab_L} {n : Nat} {σ σ' : tq_S} (h : IC T X rl B M n σ) (q : qfr T X rl B M (n + 1) σ σ') : IC T X rl B M (n + 1) σ' ∧ cfr σ σ' := by
  obtain ⟨h1, h2, h3, h4, h5, h6, h7, h8⟩ := h
  obtain ⟨f, g, s, e⟩ := q
  exact ⟨⟨fr_c f (by decide) (by decide) (by decide) h1, cX_fr h2 (f.1 7 (by decide)) (f.1 8 (by decide)) (f.2.2 2 (by decide)), cR_fr h3 (f.1 5 (by decide)) (f.1 6 (by decide)), cB_fr h4 (f.2.1 4 (by decide)) (f.2.2 7 (by decide)), cL_fr h5 (f.1 13 (by decide)) (f.2.2 8 (by decide)), g, s, e h8⟩, cfr_fr f (by decide) (by decide)⟩
theorem IM_s {T : ab_T} {X : ab_X} {rl : Nat → Nat → Bool} {B : ab_X} {M : ab_L} {σ σ' : tq_S} (h : IM T X rl B M σ) (f : sfr σ σ') (k : mK T X rl σ') : IM T X rl B M σ' ∧ mfr σ σ' := by
  obtain ⟨h1, h2, h3, h4, h5, h6⟩ := h
  exact ⟨⟨mT_fr h1 f (by decide) (by decide) (by decide) (by decide) (by decide) (by decide), mX_fr h2 (f.1 21 (by decide)) (f.1 22 (by decide)) (f.2.2 15 (by decide)), mR_fr h3 (f.1 23 (by decide)), mB_fr h4 (f.1 24 (by decide)) (f.1 25 (by decide)) (f.2.2 16 (by decide)), mL_fr h5 (f.1 26 (by decide)) (f.1 27 (by decide)) (f.1 28 (by decide)) (f.2.2 17 (by decide)), k⟩, mfr_fr f (by decide) (by decide)⟩
theorem wfr_s {σ σ' : tq_S} (h : wfr σ σ') : sfr σ σ' := fr.wk h (by decide) (by decide) (by decide)
theorem jo_can {n : Nat} {σ : tq_S} (h : OK n σ) (x : Int32) : stp st_Tn_can st_Mo_can [x] n σ := by
  obtain ⟨T, X, rl, B, M, hP, hC, hM⟩ := h
  obtain ⟨c1, c2, c3, c4, c5, c6, c7, c8⟩ := id hC
  obtain ⟨σ1, a1, a2⟩ := cl_can hP.1 c1 c2 hP.2.1 c3 c6 x
  obtain ⟨b1, b2⟩ := IC_q hC (qfr_r c7 a2)
  have hM1 := IM_fr hM b2
  obtain ⟨σ2, d1, d2, d3⟩ := mo_can hP.1 hP.2.1 hM1.1 hM1.2.1 hM1.2.2.1 hM1.2.2.2.2.2 x
  obtain ⟨e1, e2⟩ := IM_s hM1 (wfr_s d2) d3
  exact stp_of a1 d1 hP b1 e1 e2
theorem jo_below {n : Nat} {σ : tq_S} (h : OK n σ) (x y : Int32) : stp st_Tn_below st_Mo_below [x, y] n σ := by
  obtain ⟨T, X, rl, B, M, hP, hC, hM⟩ := h
  obtain ⟨c1, c2, c3, c4, c5, c6, c7, c8⟩ := id hC
  obtain ⟨σ1, a1, a2⟩ := cl_below hP.1 c1 c2 hP.2.1 c3 c6 x y
  obtain ⟨b1, b2⟩ := IC_q hC (qfr_r c7 a2)
  have hM1 := IM_fr hM b2
  obtain ⟨σ2, d1, d2, d3⟩ := mo_below hP.1 hP.2.1 hM1.1 hM1.2.1 hM1.2.2.1 hM1.2.2.2.2.2 x y
  obtain ⟨e1, e2⟩ := IM_s hM1 (wfr_s d2) d3
  exact stp_of a1 d1 hP b1 e1 e2
theorem jo_types {n : Nat} {σ : tq_S} (h : OK n σ) : stp st_Tn_types st_Mo_types [] n σ := by
  obtain ⟨T, X, rl, B, M, hP, hC, hM⟩ := h
  obtain ⟨c1, c2, c3, c4, c5, c6, c7, c8⟩ := id hC
  obtain ⟨σ1, a1, a2⟩ := cl_types hP.1 c1 c2 hP.2.1 c3 c6
  obtain ⟨b1, b2⟩ := IC_q hC (qfr_r c7 a2)
  have hM1 := IM_fr hM b2
  obtain ⟨σ2, d1, d2, d3⟩ := mo_types hP.1 hP.2.1 hM1.1 hM1.2.1 hM1.2.2.1 hM1.2.2.2.2.2
  obtain ⟨e1, e2⟩ := IM_s hM1 (wfr_s d2) d3
  exact stp_of a1 d1 hP b1 e1 e2
theorem jo_rounds {n : Nat} {σ : tq_S} (h : OK n σ) : stp st_Tn_rounds st_Mo_rounds [] n σ := by
  obtain ⟨T, X, rl, B, M, hP, hC, hM⟩ := h
  obtain ⟨c1, c2, c3, c4, c5, c6, c7, c8⟩ := id hC
  obtain ⟨z, σ1, a1, az, a2⟩ := cl_rounds hP.1 c1 c2 hP.2.1 c3 c6
  obtain ⟨b1, b2⟩ := IC_q hC (qfr_r c7 a2)
  have hM1 := IM_fr hM b2
  obtain ⟨z', σ2, d1, dz, d2, d3⟩ := mo_rounds hP.1 hP.2.1 hM1.1 hM1.2.1 hM1.2.2.1 hM1.2.2.2.2.2
  obtain ⟨e1, e2⟩ := IM_s hM1 (wfr_s d2) d3
  rw [aRnd_u dz az] at d1
  exact stp_of a1 d1 hP b1 e1 e2
theorem jo_depth {n : Nat} {σ : tq_S} (h : OK n σ) (x : Int32) : stp st_Tn_depth st_Mo_depth [x] n σ := by
  obtain ⟨T, X, rl, B, M, hP, hC, hM⟩ := h
  obtain ⟨c1, c2, c3, c4, c5, c6, c7, c8⟩ := id hC
  obtain ⟨z, σ1, a1, az, a2⟩ := cl_depth hP.1 c1 c2 hP.2.1 c3 c6 x
  obtain ⟨b1, b2⟩ := IC_q hC (qfr_r c7 a2)
  have hM1 := IM_fr hM b2
  obtain ⟨z', σ2, d1, dz, d2, d3⟩ := mo_depth hP.1 hP.2.1 hM1.1 hM1.2.1 hM1.2.2.1 hM1.2.2.2.2.2 x
  obtain ⟨e1, e2⟩ := IM_s hM1 (wfr_s d2) d3
  rw [aDep_u dz az] at d1
  exact stp_of a1 d1 hP b1 e1 e2
theorem jo_run {n : Nat} {σ : tq_S} (h : OK n σ) (hn : n < 2000000000) : stp st_Tn_run st_Mo_run [] n σ := by
  obtain ⟨T, X, rl, B, M, hP, hC, hM⟩ := h
  obtain ⟨c1, c2, c3, c4, c5, c6, c7, c8⟩ := id hC
  obtain ⟨σ1, a1, a2⟩ := cl_run hP.1 c1 c2 hP.2.1 c3 c6 c4 c5 hP.2.2.2 c7 hn
  obtain ⟨b1, b2⟩ := IC_q hC a2
  have hM1 := IM_fr hM b2
  obtain ⟨σ2, d1, d2, d3⟩ := mo_run hP.1 hP.2.1 hM1.1 hM1.2.1 hM1.2.2.1 hM1.2.2.2.2.2 hM1.2.2.2.1 hM1.2.2.2.2.1 hP.2.2.1 hP.2.2.2
  obtain ⟨e1, e2⟩ := IM_s hM1 d2 d3
  exact stp_of a1 d1 hP b1 e1 e2
theorem jo_model {n : Nat} {σ : tq_S} (h : OK n σ) (hn : n < 2000000000) (x : Int32) : stp st_Tn_model st_Mo_model [x] n σ := by
  obtain ⟨T, X, rl, B, M, hP, hC, hM⟩ := h
  obtain ⟨c1, c2, c3, c4, c5, c6, c7, c8⟩ := id hC
  obtain ⟨z, σ1, a1, az, a2⟩ := cl_model hP.1 c1 c2 hP.2.1 c3 c6 c4 c5 hP.2.2.2 c7 hn x
  obtain ⟨b1, b2⟩ := IC_q hC a2
  have hM1 := IM_fr hM b2
  obtain ⟨z', σ2, d1, dz, d2, d3⟩ := mo_model hP.1 hP.2.1 hM1.1 hM1.2.1 hM1.2.2.1 hM1.2.2.2.2.2 hM1.2.2.2.1 hM1.2.2.2.2.1 hP.2.2.1 hP.2.2.2 x
  obtain ⟨e1, e2⟩ := IM_s hM1 d2 d3
  rw [aMod_u dz az] at d1
  exact stp_of a1 d1 hP b1 e1 e2
theorem jo_surely {n : Nat} {σ : tq_S} (h : OK n σ) (hn : n < 2000000000) (x y : Int32) : stp st_Tn_surely st_Mo_surely [x, y] n σ := by
  obtain ⟨T, X, rl, B, M, hP, hC, hM⟩ := h
  obtain ⟨c1, c2, c3, c4, c5, c6, c7, c8⟩ := id hC
  obtain ⟨σ1, a1, a2⟩ := cl_surely hP.1 c1 c2 hP.2.1 c3 c6 c4 c5 hP.2.2.2 c7 hn x y
  obtain ⟨b1, b2⟩ := IC_q hC a2
  have hM1 := IM_fr hM b2
  obtain ⟨σ2, d1, d2, d3⟩ := mo_surely hP.1 hP.2.1 hM1.1 hM1.2.1 hM1.2.2.1 hM1.2.2.2.2.2 hM1.2.2.2.1 hM1.2.2.2.2.1 hP.2.2.1 hP.2.2.2 x y
  obtain ⟨e1, e2⟩ := IM_s hM1 d2 d3
  exact stp_of a1 d1 hP b1 e1 e2
/-! what only reads -/
theorem mfr.rf (σ : tq_S) : mfr σ σ := ⟨fun _ _ => rfl, rfl, fun _ _ => rfl⟩
theorem jo_told {n : Nat} {σ : tq_S} (h : OK n σ) (x y : Int32) : stp st_Tn_told st_Mo_told [x, y] n σ := by
  obtain ⟨T, X, rl, B, M, hP, hC, hM⟩ := h
  exact stp_of (cl_told hP.1 hC.1 x y) (mo_told hP.1 hM.1 x y) hP (IC_fr hC (mfr.rf σ)) hM (mfr.rf σ)
theorem jo_concepts {n : Nat} {σ : tq_S} (h : OK n σ) : stp st_Tn_concepts st_Mo_concepts [] n σ := by
  obtain ⟨T, X, rl, B, M, hP, hC, hM⟩ := h
  exact stp_of (cl_concepts hC.1) (mo_concepts hM.1) hP (IC_fr hC (mfr.rf σ)) hM (mfr.rf σ)
theorem jo_atoms {n : Nat} {σ : tq_S} (h : OK n σ) : stp st_Tn_atoms st_Mo_atoms [] n σ := by
  obtain ⟨T, X, rl, B, M, hP, hC, hM⟩ := h
  exact stp_of (cl_atoms hC.1) (mo_atoms hM.1) hP (IC_fr hC (mfr.rf σ)) hM (mfr.rf σ)
