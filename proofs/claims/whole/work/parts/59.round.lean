/-! GoodTypes.makeRound -/
theorem fr.wk {I L F I' L' F' : List Nat} {σ σ' : tq_S} (h : fr I L F σ σ') (hi : ∀ k, k ∈ I → k ∈ I') (hl : ∀ k, k ∈ L → k ∈ L') (hf : ∀ k, k ∈ F → k ∈ F') : fr I' L' F' σ σ' :=
  ⟨fun k hk => h.1 k (fun q => hk (hi k q)), fun k hk => h.2.1 k (fun q => hk (hl k q)), fun k hk => h.2.2 k (fun q => hk (hf k q))⟩
theorem tq_wpQ {st : tq_C → Option tq_C} {Q : tq_C → Prop} {c : tq_C} (h : ∀ Q' : tq_C → Prop, (∀ d, Q d → Q' d) → tq_wp st Q' c) : tq_wp st Q c := h Q (fun _ h => h)
/-- type τ goes when G is what is there -/
def lost (T : ab_T) (rl : Nat → Nat → Bool) (G : Nat → Prop) (τ : Nat) : Prop := ∃ c, c < T.1 ∧ T.2.1 c = 6 ∧ τ.testBit (ac T.2.1 c) = true ∧ ¬ ∃ u, u < 2 ^ aN T ∧ G u ∧ vT T (T.2.2.2 c) u = true ∧ seesP T rl τ u (T.2.2.1 c)
theorem wf_some {T : ab_T} (hw : wfT T) {c : Nat} (hc : c < T.1) (h6 : T.2.1 c = 6) : T.2.2.1 c < 4 ∧ T.2.2.2 c < c := by
  obtain ⟨h2, h80, hac, h0, h1, hall⟩ := hw
  have c2 : 2 ≤ c := by
    rcases Nat.lt_or_ge c 2 with q | q
    · have : c = 0 ∨ c = 1 := by omega
      rcases this with e | e
      · rw [e, h0.1] at h6; omega
      · rw [e, h1.1] at h6; omega
    · exact q
  rcases hall c c2 hc with h | h | h | h | h | h <;> first | exact h.2 | (exfalso; have := h.1; omega)
theorem lost_iff {T : ab_T} (hw : wfT T) {rl : Nat → Nat → Bool} {G : Nat → Prop} {τ : Nat} : lost T rl G τ ↔ ∃ r, r < 4 ∧ unsv T rl G r τ := by
  constructor
  · rintro ⟨c, c1, c2, c3, c4⟩
    exact ⟨T.2.2.1 c, (wf_some hw c1 c2).1, c, c1, c2, rfl, c3, c4⟩
  · rintro ⟨r, hr, c, c1, c2, c3, c4, c5⟩
    subst c3
    exact ⟨c, c1, c2, c4, c5⟩
theorem lost_congr {T : ab_T} {rl : Nat → Nat → Bool} {G H : Nat → Prop} {τ : Nat} (h : ∀ u, u < 2 ^ aN T → (G u ↔ H u)) : lost T rl G τ ↔ lost T rl H τ := by
  unfold lost
  constructor
  · rintro ⟨c, c1, c2, c3, c4⟩
    exact ⟨c, c1, c2, c3, fun ⟨u, u1, u2, u3⟩ => c4 ⟨u, u1, (h u u1).mpr u2, u3⟩⟩
  · rintro ⟨c, c1, c2, c3, c4⟩
    exact ⟨c, c1, c2, c3, fun ⟨u, u1, u2, u3⟩ => c4 ⟨u, u1, (h u u1).mp u2, u3⟩⟩
theorem sp_makeRound {T : ab_T} {rl : Nat → Nat → Bool} {σ : tq_S} (hw : wfT T) (hT : cTT T σ) (hO : cO T rl σ) (hg : ∀ τ, τ < 1024 → gng σ τ = false) (rd : Int32) (A : Nat → Prop)
    (hA : ∀ τ, A τ ↔ (τ < 2 ^ aN T ∧ thr σ τ = true ∧ lost T rl (fun u => thr σ u = true) τ)) :
    ∃ z σ', tq_fI st_Go_makeRound (0, [rd], [], σ) = some (z, σ') ∧ fr [11, 12] [2, 3] [] σ σ' ∧ (∀ τ, τ < 1024 → (thr σ' τ = true ↔ thr σ τ = true ∧ ¬ A τ)) ∧ (∀ τ, τ < 1024 → gng σ' τ = false) ∧
      (∀ τ, τ < 1024 → (A τ → σ'.1 11 τ = rd) ∧ (¬ A τ → σ'.1 11 τ = σ.1 11 τ)) ∧ ((z = 0 ∧ ∀ τ, τ < 1024 → ¬ A τ) ∨ (z = 1 ∧ ∃ τ, τ < 1024 ∧ A τ)) := by
  have hm : aN T ≤ 10 := hw.2.2.1
  have hp := tq_pw1 hm
  refine tq_fI_of (tq_wpQ (fun Q hQ => tq_at (by decide) ?_))
  show tq_wo (bk_Go_makeRound_0 [rd] [] σ) _
  rw [bk_Go_makeRound_0]
  refine wi_s ?_
  refine tq_ind 2 (fun p : Nat × tq_S => ([rd, nI p.1], [], p.2)) (fun p => p.1 ≤ 4 ∧ fr [11, 12] [2, 3] [] σ p.2 ∧ p.2.1 11 = σ.1 11 ∧ p.2.2.1 2 = σ.2.1 2 ∧ ∀ τ, τ < 1024 → (gng p.2 τ = true ↔ (τ < 2 ^ aN T ∧ thr σ τ = true ∧ ∃ r, r < p.1 ∧ unsv T rl (fun u => thr σ u = true) r τ))) (fun p => 4 - p.1) ?_ (0, σ) ⟨Nat.zero_le _, fr.rf _ _ _ σ, rfl, rfl, fun τ hτ => ?_⟩
  rotate_left
  · show gng σ τ = true ↔ _
    rw [hg τ hτ]
    exact ⟨fun q => (by cases q), fun ⟨_, _, r, q, _⟩ => absurd q (Nat.not_lt_zero _)⟩
  rintro ⟨r, σ1⟩ ⟨hr, f1, e11, e2, g1⟩ ih
  dsimp only at hr f1 e11 e2 g1 ih ⊢
  have hT1 : cTT T σ1 := fr_c f1 (by decide) (by decide) (by decide) hT
  have hO1 : cO T rl σ1 := by
    intro r hr k hk
    rw [f1.1 9 (by decide), f1.1 10 (by decide)]
    exact hO r hr k hk
  have eth : thr σ1 = thr σ := by funext τ; unfold thr; rw [e2]
  refine tq_at (by decide) ?_
  show tq_wo (bk_Go_makeRound_2 [rd, nI r] [] σ1) _
  rw [bk_Go_makeRound_2]
  refine wi_c (fun q => wi_s ?_) (fun q => ?_)
  · have : r = 4 := by
      have := (tq_le (a := 4) (b := r) (by omega) (by omega)).mp q
      omega
    subst this
    have gA : ∀ τ, τ < 1024 → (gng σ1 τ = true ↔ A τ) := fun τ hτ => by rw [g1 τ hτ, hA τ, lost_iff hw]
    clear ih q
    refine tq_ind 31 (fun p : Nat × Int32 × tq_S => ([rd, p.2.1, nI p.1], [], p.2.2)) (fun p => p.1 ≤ 16 ∧ fr [11, 12] [2, 3] [] σ p.2.2 ∧ ((p.2.1 = 0 ∧ ∀ u, u < p.1 → σ1.2.1 3 u = 0) ∨ (p.2.1 = 1 ∧ ∃ u, u < 16 ∧ σ1.2.1 3 u ≠ 0)) ∧
      (∀ u, p.2.2.2.1 2 u = if u < p.1 then σ1.2.1 2 u &&& (σ1.2.1 3 u ^^^ (-1)) else σ1.2.1 2 u) ∧ (∀ u, p.2.2.2.1 3 u = if u < p.1 then 0 else σ1.2.1 3 u) ∧
      (∀ τ, p.2.2.1 11 τ = if (τ / 64 < p.1 ∧ bL (σ1.2.1 3 (τ / 64)) (τ % 64) = true) then rd else σ1.1 11 τ)) (fun p => 16 - p.1) ?_ (0, 0, σ1) ⟨Nat.zero_le _, f1, Or.inl ⟨rfl, fun u h => absurd h (Nat.not_lt_zero _)⟩, fun u => by rw [if_neg (Nat.not_lt_zero _)], fun u => by rw [if_neg (Nat.not_lt_zero _)], fun τ => by rw [if_neg (fun h => Nat.not_lt_zero _ h.1)]⟩
    rintro ⟨w, z, σ2⟩ ⟨hw16, f2, hz, h2, h3, h11⟩ ih
    dsimp only at hw16 f2 hz h2 h3 h11 ih ⊢
    refine tq_at (by decide) ?_
    show tq_wo (bk_Go_makeRound_31 [rd, z, nI w] [] σ2) _
    rw [bk_Go_makeRound_31]
    have go : w < 16 → ∀ z' : Int32, ((z' = 0 ∧ ∀ u, u < w + 1 → σ1.2.1 3 u = 0) ∨ (z' = 1 ∧ ∃ u, u < 16 ∧ σ1.2.1 3 u ≠ 0)) → ∃ σ3, tq_fV st_Go_takeAway (0, [nI w, rd], [], σ2) = some ((), σ3) ∧ (w + 1 ≤ 16 ∧ fr [11, 12] [2, 3] [] σ σ3 ∧ ((z' = 0 ∧ ∀ u, u < w + 1 → σ1.2.1 3 u = 0) ∨ (z' = 1 ∧ ∃ u, u < 16 ∧ σ1.2.1 3 u ≠ 0)) ∧
        (∀ u, σ3.2.1 2 u = if u < w + 1 then σ1.2.1 2 u &&& (σ1.2.1 3 u ^^^ (-1)) else σ1.2.1 2 u) ∧ (∀ u, σ3.2.1 3 u = if u < w + 1 then 0 else σ1.2.1 3 u) ∧
        (∀ τ, σ3.1 11 τ = if (τ / 64 < w + 1 ∧ bL (σ1.2.1 3 (τ / 64)) (τ % 64) = true) then rd else σ1.1 11 τ)) := by
      intro hlt z' hz'
      obtain ⟨σ3, a1, a2, a3, a4, a5⟩ := sp_takeAway σ2 hlt rd
      refine ⟨σ3, a1, by omega, f2.tr (a2.wk (by decide) (by decide) (by decide)), hz', fun u => ?_, fun u => ?_, fun τ => ?_⟩
      · rw [a3 u]
        by_cases e : u = w
        · subst e
          rw [if_pos rfl, if_pos (by omega), h2, h3, if_neg (Nat.lt_irrefl _), if_neg (Nat.lt_irrefl _)]
        · rw [if_neg e, h2]
          by_cases e2 : u < w
          · rw [if_pos e2, if_pos (by omega)]
          · rw [if_neg e2, if_neg (by omega)]
      · rw [a4 u]
        by_cases e : u = w
        · subst e
          rw [if_pos rfl, if_pos (by omega)]
        · rw [if_neg e, h3]
          by_cases e2 : u < w
          · rw [if_pos e2, if_pos (by omega)]
          · rw [if_neg e2, if_neg (by omega)]
      · rw [a5 τ, h3 w, if_neg (Nat.lt_irrefl _), h11 τ]
        by_cases e : τ / 64 = w
        · rw [e]
          cases hb : bL (σ1.2.1 3 w) (τ % 64) with
          | true => rw [if_pos ⟨rfl, rfl⟩, if_pos ⟨by omega, rfl⟩]
          | false => rw [if_neg (fun h => by cases h.2), if_neg (fun h => by cases h.2), if_neg (fun h => by cases h.2)]
        · rw [if_neg (fun h => e h.1)]
          by_cases e2 : τ / 64 < w ∧ bL (σ1.2.1 3 (τ / 64)) (τ % 64) = true
          · rw [if_pos e2, if_pos ⟨by omega, e2.2⟩]
          · rw [if_neg e2, if_neg (fun h => e2 ⟨by omega, h.2⟩)]
    have go52 : w < 16 → (∃ u, u < 16 ∧ σ1.2.1 3 u ≠ 0) → tq_wp st_Go_makeRound Q (52, [rd, nI w], [], σ2) := by
      intro hlt hu
      obtain ⟨σ3, b1, b3⟩ := go hlt 1 (Or.inr ⟨rfl, hu⟩)
      refine tq_at (by decide) ?_
      show tq_wo (bk_Go_makeRound_52 [rd, nI w] [] σ2) _
      rw [bk_Go_makeRound_52]
      refine wi_o b1 (wi_l (wi_s ?_))
      rw [tq_inc]
      exact ih (w + 1, 1, σ3) b3 (by dsimp only; omega)
    refine wi_c (fun q => wi_b ?_ (wi_s (tq_wp_rt (hQ _ ⟨_, _, rfl, f2, fun τ hτ => ?_, fun τ hτ => ?_, fun τ hτ => ?_, ?_⟩)))) (fun q => ?_)
    · rcases hz with h | h
      · exact Or.inl h.1
      · exact Or.inr h.1
    · have : w = 16 := by
        have := (tq_le (a := 16) (b := w) (by omega) (by omega)).mp q
        omega
      subst this
      show bL (σ2.2.1 2 (τ / 64)) (τ % 64) = true ↔ _
      have ga := gA τ hτ
      unfold gng at ga
      rw [h2, if_pos (by omega), bL_and, bL_not _ (by omega), Bool.and_eq_true_iff, e2, ← ga]
      unfold thr
      cases bL (σ1.2.1 3 (τ / 64)) (τ % 64) <;> simp
    · have : w = 16 := by
        have := (tq_le (a := 16) (b := w) (by omega) (by omega)).mp q
        omega
      subst this
      show bL (σ2.2.1 3 (τ / 64)) (τ % 64) = false
      rw [h3, if_pos (by omega), bL_0]
    · have : w = 16 := by
        have := (tq_le (a := 16) (b := w) (by omega) (by omega)).mp q
        omega
      subst this
      have ga := gA τ hτ
      unfold gng at ga
      rw [h11 τ, e11]
      exact ⟨fun h => by rw [if_pos ⟨by omega, ga.mpr h⟩], fun h => by rw [if_neg (fun k => h (ga.mp k.2))]⟩
    · have : w = 16 := by
        have := (tq_le (a := 16) (b := w) (by omega) (by omega)).mp q
        omega
      subst this
      rcases hz with ⟨z0, h⟩ | ⟨z1, u, u1, u2⟩
      · refine Or.inl ⟨z0, fun τ hτ hAτ => ?_⟩
        have ga := (gA τ hτ).mpr hAτ
        unfold gng at ga
        rw [h _ (by omega), bL_0] at ga
        cases ga
      · refine Or.inr ⟨z1, u * 64 + ff (bL (σ1.2.1 3 u)) 64, ?_, ?_⟩
        · have := nz_ff u2
          omega
        · have hf := nz_ff u2
          refine (gA _ (by omega)).mp ?_
          unfold gng
          rw [(tq_dm hf).1, (tq_dm hf).2]
          exact ff_yes hf
    · have hlt : w < 16 := tq_nle (b := w) (a := 16) (by omega) (by omega) q
      rcases hz with ⟨z0, h⟩ | ⟨z1, hu⟩
      · subst z0
        refine wi_f (fun k => k rfl) (wi_g (tq_vin hlt (by omega)) ?_)
        simp only [la, tq_nc (show w < 2147483648 by omega)]
        refine wi_c (fun k => ?_) (fun k => wi_s (go52 hlt ⟨w, hlt, fun e => k ?_⟩))
        · rw [lg_cmp0, h3, if_neg (Nat.lt_irrefl _)] at k
          obtain ⟨σ3, b1, b3⟩ := go hlt 0 (Or.inl ⟨rfl, fun u hu => by
            by_cases e : u = w
            · rw [e]; exact k
            · exact h u (by omega)⟩)
          refine wi_o b1 (wi_l (wi_s ?_))
          rw [tq_inc]
          exact ih (w + 1, 0, σ3) b3 (by dsimp only; omega)
        · rw [lg_cmp0, h3, if_neg (Nat.lt_irrefl _)]; exact e
      · subst z1
        exact wi_t (by decide) (wi_s (go52 hlt hu))
  · have hlt : r < 4 := tq_nle (b := r) (a := 4) (by omega) (by omega) q
    refine wi_g (tq_vin hlt (by omega)) ?_
    simp only [ia, tq_nc (show r < 2147483648 by omega)]
    refine wi_c (fun k => wi_l (wi_s ?_)) (fun k => ?_)
    · rw [tq_inc]
      refine ih (r + 1, σ1) ⟨by omega, f1, e11, e2, fun τ hτ => ?_⟩ (by dsimp only; omega)
      show gng σ1 τ = true ↔ _
      rw [g1 τ hτ]
      constructor
      · rintro ⟨a1, a2, r', a3, a4⟩; exact ⟨a1, a2, r', by omega, a4⟩
      · rintro ⟨a1, a2, r', a3, a4⟩
        have : r' ≠ r := by
          intro e
          subst e
          obtain ⟨c, c1, c2, c3, -⟩ := a4
          have ha := ac_at (K := T.2.1) c1 (by rw [c2]; rfl)
          have ha2 : ac T.2.1 T.1 ≤ 10 := hm
          have := ((hO1 r' hlt (ac T.2.1 c) (by omega)).1).mpr ⟨c, c1, c2, rfl, c3⟩
          rw [k, bI_0] at this
          cases this
        exact ⟨a1, a2, r', by omega, a4⟩
    · obtain ⟨σ2, s1, s2, s3⟩ := sp_mark hw hT1 hO1 hlt
      refine wi_o s1 (wi_l (wi_s ?_))
      rw [tq_inc]
      refine ih (r + 1, σ2) ⟨by omega, f1.tr (s2.wk (by decide) (by decide) (by decide)), by rw [← e11]; exact s2.1 11 (by decide), by rw [← e2]; exact s2.2.1 2 (by decide), fun τ hτ => ?_⟩ (by dsimp only; omega)
      show gng σ2 τ = true ↔ _
      rw [s3 τ hτ, g1 τ hτ, eth]
      constructor
      · rintro (⟨a1, a2, r', a3, a4⟩ | ⟨a1, a2, a3⟩)
        · exact ⟨a1, a2, r', by omega, a4⟩
        · exact ⟨a1, a2, r, by omega, a3⟩
      · rintro ⟨a1, a2, r', a3, a4⟩
        by_cases e : r' = r
        · subst e; exact Or.inr ⟨a1, a2, a4⟩
        · exact Or.inl ⟨a1, a2, r', by omega, a4⟩
