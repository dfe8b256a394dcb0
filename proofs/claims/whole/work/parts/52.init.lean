/-! how all begins -/
def T0 : ab_T := (0, fun _ => 0, fun _ => 0, fun _ => 0)
def T2 : ab_T := upT (upT T0 0 0 0) 1 0 0
def rl0 : Nat → Nat → Bool := fun _ _ => false
theorem wf_T2 : wfT T2 := by
  refine ⟨by decide, by decide, by decide, ⟨by decide, by decide, by decide⟩, ⟨by decide, by decide, by decide⟩, fun c h1 h2 => ?_⟩
  have : c < 2 := h2
  omega
theorem mk_T0 : mk T0 0 0 0 = (some 0, upT T0 0 0 0) := mk_new (by decide) (by unfold fullT; decide)
theorem mk_T1 : mk (upT T0 0 0 0) 1 0 0 = (some 1, T2) := mk_new (by decide) (by unfold fullT; decide)
theorem wb_T0 : wbT T0 := ⟨by decide, by decide, fun c hc => absurd hc (Nat.not_lt_zero _)⟩
theorem wb_T1 : wbT (upT T0 0 0 0) := by
  refine ⟨by decide, by decide, fun c hc => ?_⟩
  have : c < 1 := hc
  have : c = 0 := by omega
  subst this
  refine ⟨by decide, by decide, by decide, fun q => ?_⟩
  exact absurd q (by decide)
theorem cT_T0 : cTT T0 tq_s0 := by
  refine ⟨rfl, rfl, fun c hc => absurd hc (Nat.not_lt_zero _), fun c hc => absurd hc (Nat.not_lt_zero _), fun c τ hc => absurd hc (Nat.not_lt_zero _), fun c hc => absurd hc (Nat.not_lt_zero _), fun τ hτ j hj => ?_⟩
  show bI 0 j = true ↔ _
  rw [bI_0]
  refine ⟨fun q => (by cases q), ?_⟩
  rintro ⟨c, hc, _⟩
  exact absurd hc (Nat.not_lt_zero _)
def X0 : ab_X := (0, fun _ => 0, fun _ => 0)
/-- the four makings of the constructors, and what holds of the state that they leave -/
theorem init_ok : ∃ (r1 r2 : Int32) (σ1 σC σR σH : tq_S), tq_fI st_Co_make (0, [0, 0, 0], [], tq_s0) = some (r1, σ1) ∧ tq_fI st_Co_make (0, [1, 0, 0], [], σ1) = some (r2, σC) ∧ tq_fV st_Ro_close (0, [], [], tq_s0) = some ((), σR) ∧ tq_fV st_Th_clear (0, [], [], tq_s0) = some ((), σH) ∧
    ∀ σ, σ = tq_m0 σC σR σH → cTT T2 σ ∧ mTT T2 σ ∧ cX X0 σ ∧ mX X0 σ ∧ cR rl0 σ ∧ mR rl0 σ ∧ cB T2 B0 σ ∧ mB B0 σ ∧ cL M0 σ ∧ mL M0 σ ∧ σ.2.2 4 = 1 ∧ σ.2.2 6 = 0 ∧ σ.2.2 11 = 1 ∧ σ.2.2 18 = 0 ∧ (∀ w, σ.2.1 3 w = 0) := by
  obtain ⟨σ1, a1, a2, -⟩ := sp_make wb_T0 cT_T0 (k := 0) (a := 0) (b := 0) (by decide) (by decide) (by decide) (fun q => by omega) (fun q => by omega) (fun q => by omega)
  rw [mk_T0] at a1 a2
  obtain ⟨σC, b1, b2, -⟩ := sp_make wb_T1 a2 (k := 1) (a := 0) (b := 0) (by decide) (by decide) (by decide) (fun q => by omega) (fun q => by omega) (fun q => by omega)
  rw [mk_T1] at b1 b2
  obtain ⟨σR, c1, -, c3⟩ := sp_close (rl := rl0) (σ := tq_s0) (fun r _ s _ => by
    show bI 0 s = _
    rw [bI_0]
    simp [rl0])
  obtain ⟨σH, d1, d2, d3, d4, d5, d6, d7⟩ := sp_clear tq_s0
  refine ⟨_, _, σ1, σC, σR, σH, a1, b1, c1, d1, ?_⟩
  rintro σ rfl
  refine ⟨?_, ?_, ⟨rfl, fun i hi => absurd hi (Nat.not_lt_zero _)⟩, ⟨rfl, fun i hi => absurd hi (Nat.not_lt_zero _)⟩, ?_, ?_, ?_, ⟨rfl, fun i hi => absurd hi (Nat.not_lt_zero _)⟩, ?_, ⟨rfl, fun i hi => absurd hi (Nat.not_lt_zero _)⟩, rfl, rfl, d7, rfl, fun w => rfl⟩
  · refine cT_fr b2 (fun k hk => ?_) (fun k hk => ?_) (fun k hk => ?_)
    · rcases (show k = 0 ∨ k = 1 ∨ k = 2 ∨ k = 3 ∨ k = 4 by omega) with rfl | rfl | rfl | rfl | rfl <;> rfl
    · rcases (show k = 0 ∨ k = 1 by omega) with rfl | rfl <;> rfl
    · rcases (show k = 0 ∨ k = 1 by omega) with rfl | rfl <;> rfl
  · refine ⟨rfl, rfl, fun c hc => ?_, fun c hc ha => ?_⟩
    · have : c < 2 := hc
      rcases (show c = 0 ∨ c = 1 by omega) with rfl | rfl
      · exact ⟨rfl, rfl, rfl⟩
      · exact ⟨rfl, rfl, rfl⟩
    · have : c < 2 := hc
      rcases (show c = 0 ∨ c = 1 by omega) with rfl | rfl
      · exact absurd ha (by decide)
      · exact absurd ha (by decide)
  · exact cR_fr c3 rfl rfl
  · intro r s _ _
    show (0 : Int32) = _
    simp [rl0]
  · exact cB_clear T2 (fun j hj => d3 j hj) d5
  · exact cL_clear (fun j hj => d4 j hj) d6
