/-! the good types: rounds, depths; GoodTypes.refresh -/
def Gs (T : ab_T) (X : ab_X) (rl : Nat → Nat → Bool) : Nat → Nat → Prop
  | 0 => fun τ => τ < 2 ^ aN T ∧ g0 T X τ
  | i + 1 => fun τ => Gs T X rl i τ ∧ ¬ lost T rl (Gs T X rl i) τ
def dpt (T : ab_T) (X : ab_X) (rl : Nat → Nat → Bool) (j τ : Nat) (z : Int32) : Prop := (¬ Gs T X rl 0 τ ∧ z = -2) ∨ (Gs T X rl j τ ∧ z = 0) ∨ (∃ i, i < j ∧ Gs T X rl i τ ∧ ¬ Gs T X rl (i + 1) τ ∧ z = nI (i + 1))
def went (T : ab_T) (X : ab_X) (rl : Nat → Nat → Bool) (j : Nat) : Prop := ∀ i, i < j → ∃ τ, Gs T X rl i τ ∧ ¬ Gs T X rl (i + 1) τ
def isR (T : ab_T) (X : ab_X) (rl : Nat → Nat → Bool) (ρ : Nat) : Prop := went T X rl ρ ∧ ∀ τ, Gs T X rl ρ τ → Gs T X rl (ρ + 1) τ
theorem isR_u {T : ab_T} {X : ab_X} {rl : Nat → Nat → Bool} {a b : Nat} (h : isR T X rl a) (h' : isR T X rl b) : a = b := by
  rcases Nat.lt_trichotomy a b with q | q | q
  · obtain ⟨τ, t1, t2⟩ := h'.1 a q
    exact absurd (h.2 τ t1) t2
  · exact q
  · obtain ⟨τ, t1, t2⟩ := h.1 b q
    exact absurd (h'.2 τ t1) t2
theorem Gs_dn {T : ab_T} {X : ab_X} {rl : Nat → Nat → Bool} {τ : Nat} : ∀ {i j : Nat}, i ≤ j → Gs T X rl j τ → Gs T X rl i τ := by
  intro i j h
  induction j with
  | zero => rw [Nat.le_zero.mp h]; exact id
  | succ j ih =>
    by_cases e : i = j + 1
    · rw [e]; exact id
    · intro q; exact ih (by omega) q.1
theorem Gs_lt {T : ab_T} {X : ab_X} {rl : Nat → Nat → Bool} {i τ : Nat} (h : Gs T X rl i τ) : τ < 2 ^ aN T := (Gs_dn (Nat.zero_le i) h).1
theorem cnt_mono {p q : Nat → Bool} : ∀ {n : Nat}, (∀ i, i < n → q i = true → p i = true) → cnt q n ≤ cnt p n := by
  intro n
  induction n with
  | zero => intro _; exact Nat.le_refl _
  | succ n ih =>
    intro h
    have := ih (fun i hi => h i (by omega))
    have h2 := h n (by omega)
    show cnt q n + (if q n then 1 else 0) ≤ cnt p n + (if p n then 1 else 0)
    cases hq : q n with
    | false => simp; omega
    | true => rw [h2 hq]; simp; omega
theorem cnt_str {p q : Nat → Bool} {k : Nat} : ∀ {n : Nat}, (∀ i, i < n → q i = true → p i = true) → k < n → p k = true → q k = false → cnt q n < cnt p n := by
  intro n
  induction n with
  | zero => intro _ h; exact absurd h (Nat.not_lt_zero _)
  | succ n ih =>
    intro h hk hp hq
    show cnt q n + (if q n then 1 else 0) < cnt p n + (if p n then 1 else 0)
    by_cases e : k = n
    · subst e
      have := cnt_mono (p := p) (q := q) (n := k) (fun i hi => h i (by omega))
      rw [hp, hq]; simp; omega
    · have := ih (fun i hi => h i (by omega)) (by omega) hp hq
      have h2 := h n (by omega)
      cases hq : q n with
      | false => simp; omega
      | true => rw [h2 hq]; simp; omega
noncomputable def cD (p : Prop) : Bool := @decide p (Classical.propDecidable p)
theorem cD_t {p : Prop} : cD p = true ↔ p := @decide_eq_true_iff p (Classical.propDecidable p)
theorem cD_f {p : Prop} : cD p = false ↔ ¬ p := @decide_eq_false_iff_not p (Classical.propDecidable p)
noncomputable def cG0 (T : ab_T) (X : ab_X) (rl : Nat → Nat → Bool) (j : Nat) : Nat := cnt (fun τ => cD (Gs T X rl j τ)) 1024
theorem went_cnt {T : ab_T} (hm : aN T ≤ 10) {X : ab_X} {rl : Nat → Nat → Bool} : ∀ {j : Nat}, went T X rl j → cG0 T X rl j + j ≤ 1024 := by
  have hp := tq_pw1 hm
  intro j
  induction j with
  | zero =>
    intro _
    have := cnt_le (fun τ => cD (Gs T X rl 0 τ)) 1024
    unfold cG0
    omega
  | succ j ih =>
    intro h
    have := ih (fun i hi => h i (by omega))
    obtain ⟨τ, t1, t2⟩ := h j (by omega)
    have hτ := Gs_lt t1
    have hlt : cG0 T X rl (j + 1) < cG0 T X rl j := by
      unfold cG0
      refine cnt_str (k := τ) (fun i hi q => ?_) (by omega) (cD_t.mpr t1) (cD_f.mpr t2)
      exact cD_t.mpr (cD_t.mp q).1
    omega
theorem went_le {T : ab_T} (hm : aN T ≤ 10) {X : ab_X} {rl : Nat → Nat → Bool} {j : Nat} (h : went T X rl j) : j ≤ 1024 := by
  have := went_cnt hm h
  omega
theorem went_end {T : ab_T} (hm : aN T ≤ 10) {X : ab_X} {rl : Nat → Nat → Bool} (h : went T X rl 1024) (τ : Nat) : ¬ Gs T X rl 1024 τ := by
  intro q
  have hp := tq_pw1 hm
  have hc := went_cnt hm h
  have hτ := Gs_lt q
  have h0 : cG0 T X rl 1024 = 0 := by omega
  unfold cG0 at h0
  have := cnt_0.mp h0 τ (by omega)
  exact cD_f.mp this q
theorem dpt_0 {T : ab_T} {X : ab_X} {rl : Nat → Nat → Bool} {j τ : Nat} {z : Int32} (hj : j < 2147483647) (h : dpt T X rl j τ z) : z = 0 ↔ Gs T X rl j τ := by
  rcases h with ⟨h1, rfl⟩ | ⟨h1, rfl⟩ | ⟨i, i1, i2, i3, rfl⟩
  · exact ⟨fun q => absurd q (by decide), fun q => absurd (Gs_dn (Nat.zero_le j) q) h1⟩
  · exact ⟨fun _ => h1, fun _ => rfl⟩
  · exact ⟨fun q => absurd ((tq_eq (b := 0) (by omega) (by omega)).mp q) (by omega), fun q => absurd (Gs_dn (show i + 1 ≤ j by omega) q) i3⟩
theorem dpt_y {T : ab_T} {X : ab_X} {rl : Nat → Nat → Bool} {j τ : Nat} (h : Gs T X rl j τ) (h' : ¬ Gs T X rl (j + 1) τ) : dpt T X rl (j + 1) τ (nI (j + 1)) := Or.inr (Or.inr ⟨j, Nat.lt_succ_self j, h, h', rfl⟩)
theorem dpt_n {T : ab_T} {X : ab_X} {rl : Nat → Nat → Bool} {j τ : Nat} {z : Int32} (h : dpt T X rl j τ z) (h' : Gs T X rl j τ → Gs T X rl (j + 1) τ) : dpt T X rl (j + 1) τ z := by
  rcases h with h | ⟨h1, h2⟩ | ⟨i, i1, i2⟩
  · exact Or.inl h
  · exact Or.inr (Or.inl ⟨h' h1, h2⟩)
  · exact Or.inr (Or.inr ⟨i, by omega, i2⟩)
theorem dpt_u {T : ab_T} {X : ab_X} {rl : Nat → Nat → Bool} {j τ : Nat} {z z' : Int32} (h : dpt T X rl j τ z) (h' : dpt T X rl j τ z') : z = z' := by
  rcases h with ⟨h1, h2⟩ | ⟨h1, h2⟩ | ⟨i, i1, i2, i3, h2⟩
  · rcases h' with ⟨k1, k2⟩ | ⟨k1, k2⟩ | ⟨i', k1, k2, k3, k4⟩
    · rw [h2, k2]
    · exact absurd (Gs_dn (Nat.zero_le _) k1) h1
    · exact absurd (Gs_dn (Nat.zero_le _) k2) h1
  · rcases h' with ⟨k1, k2⟩ | ⟨k1, k2⟩ | ⟨i', k1, k2, k3, k4⟩
    · exact absurd (Gs_dn (Nat.zero_le _) h1) k1
    · rw [h2, k2]
    · exact absurd (Gs_dn (by omega) h1) k3
  · rcases h' with ⟨k1, k2⟩ | ⟨k1, k2⟩ | ⟨i', k1, k2, k3, k4⟩
    · exact absurd (Gs_dn (Nat.zero_le _) i2) k1
    · exact absurd (Gs_dn (by omega) k1) i3
    · rcases Nat.lt_trichotomy i i' with q | q | q
      · exact absurd (Gs_dn (by omega) k2) i3
      · rw [h2, k4, q]
      · exact absurd (Gs_dn (by omega) i2) k3
/-- what the class knows of the good types is right -/
def vG (T : ab_T) (X : ab_X) (rl : Nat → Nat → Bool) (σ : tq_S) : Prop := cO T rl σ ∧ ∃ ρ, isR T X rl ρ ∧ σ.2.2 3 = nI ρ ∧ (∀ τ, τ < 1024 → (thr σ τ = true ↔ Gs T X rl ρ τ)) ∧ ∀ τ, τ < 2 ^ aN T → dpt T X rl ρ τ (σ.1 11 τ)
def cG (T : ab_T) (X : ab_X) (rl : Nat → Nat → Bool) (σ : tq_S) : Prop := (∀ τ, τ < 1024 → gng σ τ = false) ∧ (σ.2.2 4 = 0 → σ.2.2 5 = nI (aN T) → vG T X rl σ)
theorem vG_fr {T : ab_T} {X : ab_X} {rl : Nat → Nat → Bool} {σ σ' : tq_S} (h : vG T X rl σ) (e9 : σ'.1 9 = σ.1 9) (e10 : σ'.1 10 = σ.1 10) (e11 : σ'.1 11 = σ.1 11) (l2 : σ'.2.1 2 = σ.2.1 2) (f3 : σ'.2.2 3 = σ.2.2 3) : vG T X rl σ' := by
  obtain ⟨h1, ρ, h2, h3, h4, h5⟩ := h
  refine ⟨fun r hr k hk => by rw [e9, e10]; exact h1 r hr k hk, ρ, h2, by rw [f3]; exact h3, fun τ hτ => by unfold thr; rw [l2]; exact h4 τ hτ, fun τ hτ => by rw [e11]; exact h5 τ hτ⟩
theorem sp_atomCt (σ : tq_S) : tq_fI st_Co_atomCount (0, [], [], σ) = some (σ.2.2 1, σ) := by
  refine tq_fI_e (tq_at (by decide) ?_)
  show tq_wo (bk_Co_atomCount_0 [] [] σ) _
  rw [bk_Co_atomCount_0]
  exact wi_s (tq_wp_rt rfl)
theorem sp_refresh {T : ab_T} {X : ab_X} {rl : Nat → Nat → Bool} {σ : tq_S} (hw : wfT T) (hT : cTT T σ) (hX : cX X σ) (hx : wX T X) (hR : cR rl σ) (hG : cG T X rl σ) :
    ∃ σ', tq_fV st_Go_refresh (0, [], [], σ) = some ((), σ') ∧ fr [9, 10, 11, 12] [2, 3] [3, 4, 5, 6] σ σ' ∧ cG T X rl σ' ∧ vG T X rl σ' ∧ σ'.2.2 4 = 0 ∧ σ'.2.2 5 = nI (aN T) ∧ ((σ' = σ) ∨ σ'.2.2 6 = σ.2.2 6 + 1) := by
  have hm : aN T ≤ 10 := hw.2.2.1
  have hp := tq_pw1 hm
  refine tq_fV_of (tq_wpQ (fun Q hQ => tq_at (by decide) ?_))
  show tq_wo (bk_Go_refresh_0 [] [] σ) _
  rw [bk_Go_refresh_0]
  have main : tq_wp st_Go_refresh Q (22, [], [], σ) := by
    obtain ⟨σ1, a1, a2, a3⟩ := sp_sortSomes hw hT hR
    have hT1 : cTT T σ1 := fr_c a2 (by decide) (by decide) (by decide) hT
    have hX1 : cX X σ1 := ⟨by rw [a2.2.2 2 (by decide)]; exact hX.1, fun i hi => by rw [a2.1 7 (by decide), a2.1 8 (by decide)]; exact hX.2 i hi⟩
    obtain ⟨σ2, b1, b2, b3, b4⟩ := sp_begin hw hT1 hX1 hx
    refine tq_at (by decide) ?_
    show tq_wo (bk_Go_refresh_22 [] [] σ) _
    rw [bk_Go_refresh_22]
    refine wi_o a1 (wi_o b1 (wi_l (wi_s ?_)))
    have f2 : fr [9, 10, 11, 12] [2, 3] [3, 4, 5, 6] σ (fput σ2 3 0) := ((a2.wk (by decide) (by decide) (by decide)).tr (b2.wk (by decide) (by decide) (by decide))).tr (fr.f (by decide))
    have fin : ∀ (j : Nat) (σ3 : tq_S), fr [9, 10, 11, 12] [2, 3] [3, 4, 5, 6] σ σ3 → σ3.2.2 6 = σ.2.2 6 → (∀ τ, τ < 1024 → gng σ3 τ = false) → cO T rl σ3 → isR T X rl j → σ3.2.2 3 = nI j → (∀ τ, τ < 1024 → (thr σ3 τ = true ↔ Gs T X rl j τ)) → (∀ τ, τ < 2 ^ aN T → dpt T X rl j τ (σ3.1 11 τ)) → tq_wp st_Go_refresh Q (63, [], [], σ3) := by
      intro j σ3 f3 c6 c1 c2 c3 c4 c5 c7
      refine tq_at (by decide) ?_
      show tq_wo (bk_Go_refresh_63 [] [] σ3) _
      rw [bk_Go_refresh_63]
      refine wi_l (wi_o (sp_atomCt _) (wi_l (wi_l (wi_s (tq_wp_rt (hQ _ ?_))))))
      have e1 : (fput σ3 4 0).2.2 1 = nI (aN T) := by
        rw [fput_n _ _ (by decide), f3.2.2 1 (by decide)]; exact hT.2.1
      rw [e1]
      have v : vG T X rl (fput (fput (fput σ3 4 0) 5 (nI (aN T))) 6 ((fput (fput σ3 4 0) 5 (nI (aN T))).2.2 6 + 1)) := vG_fr (σ := σ3) ⟨c2, j, c3, c4, c5, c7⟩ rfl rfl rfl rfl (by rw [fput_n _ _ (by decide), fput_n _ _ (by decide), fput_n _ _ (by decide)])
      refine ⟨_, rfl, f3.tr ((fr.f (by decide)).tr ((fr.f (by decide)).tr (fr.f (by decide)))), ⟨c1, fun _ _ => v⟩, v, ?_, ?_, Or.inr ?_⟩
      · rw [fput_n _ _ (by decide), fput_n _ _ (by decide), fput_s]
      · rw [fput_n _ _ (by decide), fput_s]
      · rw [fput_s, fput_n _ _ (by decide), fput_n _ _ (by decide), c6]
    refine tq_ind 37 (fun p : Nat × tq_S => ([nI (p.1 + 1)], [], p.2)) (fun p => p.1 ≤ 1024 ∧ fr [9, 10, 11, 12] [2, 3] [3, 4, 5, 6] σ p.2 ∧ p.2.2.2 6 = σ.2.2 6 ∧ (∀ τ, τ < 1024 → gng p.2 τ = false) ∧ cO T rl p.2 ∧ went T X rl p.1 ∧ p.2.2.2 3 = nI p.1 ∧ (∀ τ, τ < 1024 → (thr p.2 τ = true ↔ Gs T X rl p.1 τ)) ∧ (∀ τ, τ < 2 ^ aN T → dpt T X rl p.1 τ (p.2.1 11 τ))) (fun p => 1024 - p.1) ?_ (0, fput σ2 3 0) ⟨Nat.zero_le _, f2, ?_, fun τ hτ => ?_, ?_, fun i hi => absurd hi (Nat.not_lt_zero _), fput_s _ _ _, fun τ hτ => ?_, fun τ hτ => ?_⟩
    · rintro ⟨j, σ3⟩ ⟨hj, f3, c6, c1, c2, c3, c4, c5, c7⟩ ih
      dsimp only at hj f3 c6 c1 c2 c3 c4 c5 c7 ih ⊢
      have hT3 : cTT T σ3 := fr_c f3 (by decide) (by decide) (by decide) hT
      refine tq_at (by decide) ?_
      show tq_wo (bk_Go_refresh_37 [nI (j + 1)] [] σ3) _
      rw [bk_Go_refresh_37]
      refine wi_c (fun q => wi_s ?_) (fun q => ?_)
      · have : j = 1024 := by
          have := (tq_lt (a := 1024) (b := j + 1) (by omega) (by omega)).mp q
          omega
        subst this
        exact fin 1024 σ3 f3 c6 c1 c2 ⟨c3, fun τ h => absurd h (went_end hm c3 τ)⟩ c4 c5 c7
      · have hj1 : j < 1024 := by
          rcases Nat.lt_or_ge j 1024 with h | h
          · exact h
          · exact absurd ((tq_lt (a := 1024) (b := j + 1) (by omega) (by omega)).mpr (by omega)) q
        have hAj : ∀ τ, (Gs T X rl j τ ∧ ¬ Gs T X rl (j + 1) τ) ↔ (τ < 2 ^ aN T ∧ thr σ3 τ = true ∧ lost T rl (fun u => thr σ3 u = true) τ) := by
          intro τ
          have hl : lost T rl (fun u => thr σ3 u = true) τ ↔ lost T rl (Gs T X rl j) τ := lost_congr (fun u hu => c5 u (by omega))
          rw [hl]
          constructor
          · rintro ⟨h1, h2⟩
            have := Gs_lt h1
            exact ⟨this, (c5 τ (by omega)).mpr h1, Classical.byContradiction (fun h => h2 ⟨h1, h⟩)⟩
          · rintro ⟨h1, h2, h3⟩
            exact ⟨(c5 τ (by omega)).mp h2, fun h => h.2 h3⟩
        obtain ⟨z, σ4, d1, d2, d3, d4, d5, d6⟩ := sp_makeRound hw hT3 c2 c1 (nI (j + 1)) _ hAj
        refine wi_o d1 ?_
        have f4 : fr [9, 10, 11, 12] [2, 3] [3, 4, 5, 6] σ σ4 := f3.tr (d2.wk (by decide) (by decide) (by decide))
        have o4 : cO T rl σ4 := fun r hr k hk => by rw [d2.1 9 (by decide), d2.1 10 (by decide)]; exact c2 r hr k hk
        rcases d6 with ⟨z0, hno⟩ | ⟨z1, τ, t1, t2⟩
        · subst z0
          refine wi_t rfl (wi_s (fin j σ4 f4 (by rw [d2.2.2 6 (by decide)]; exact c6) d4 o4 ⟨c3, fun τ h => Classical.byContradiction (fun k => hno τ (by have := Gs_lt h; omega) ⟨h, k⟩)⟩ (by rw [d2.2.2 3 (by decide)]; exact c4) (fun τ hτ => ?_) (fun τ hτ => ?_)))
          · rw [d3 τ hτ, c5 τ hτ]
            exact ⟨fun h => h.1, fun h => ⟨h, hno τ hτ⟩⟩
          · rw [(d5 τ (by omega)).2 (hno τ (by omega))]
            exact c7 τ hτ
        · subst z1
          refine wi_f (by decide) (wi_l (wi_l (wi_s ?_)))
          rw [tq_inc]
          refine ih (j + 1, fput σ4 3 (nI (j + 1))) ⟨by omega, f4.tr (fr.f (by decide)), ?_, d4, o4, fun i hi => ?_, fput_s _ _ _, fun τ hτ => ?_, fun τ hτ => ?_⟩ (by dsimp only; omega)
          · show (fput σ4 3 _).2.2 6 = _
            rw [fput_n _ _ (by decide), d2.2.2 6 (by decide)]; exact c6
          · by_cases e : i = j
            · rw [e]; exact ⟨τ, t2⟩
            · dsimp only at hi; exact c3 i (by omega)
          · show thr σ4 τ = true ↔ Gs T X rl (j + 1) τ
            rw [d3 τ hτ, c5 τ hτ]
            exact ⟨fun h => Classical.byContradiction (fun k => h.2 ⟨h.1, k⟩), fun h => ⟨h.1, fun k => k.2 h⟩⟩
          · show dpt T X rl (j + 1) τ (σ4.1 11 τ)
            by_cases e : Gs T X rl j τ ∧ ¬ Gs T X rl (j + 1) τ
            · rw [(d5 τ (by omega)).1 e]; exact dpt_y e.1 e.2
            · rw [(d5 τ (by omega)).2 e]; exact dpt_n (c7 τ hτ) (fun h => Classical.byContradiction (fun k => e ⟨h, k⟩))
    · show (fput σ2 3 0).2.2 6 = _
      rw [fput_n _ _ (by decide), b2.2.2 6 (by decide), a2.2.2 6 (by decide)]
    · show gng σ2 τ = false
      have := hG.1 τ hτ
      unfold gng at this ⊢
      rw [b2.2.1 3 (by decide), a2.2.1 3 (by decide)]; exact this
    · show cO T rl σ2
      exact fun r hr k hk => by rw [b2.1 9 (by decide), b2.1 10 (by decide)]; exact a3 r hr k hk
    · exact b3 τ hτ
    · show dpt T X rl 0 τ (σ2.1 11 τ)
      rw [b4 τ hτ]
      cases ht : thr σ2 τ with
      | true => exact Or.inr (Or.inl ⟨(b3 τ (by omega)).mp ht, rfl⟩)
      | false => exact Or.inl ⟨fun h => (by rw [(b3 τ (by omega)).mpr h] at ht; cases ht), rfl⟩
  refine wi_c (fun _ => wi_s main) (fun h4 => wi_o (sp_atomCt σ) (wi_c (fun _ => wi_s main) (fun h5 => wi_s (tq_wp_rt (hQ _ ?_)))))
  have h4 := Classical.not_not.mp h4
  have h5 := Classical.not_not.mp h5
  have h5' : σ.2.2 5 = nI (aN T) := by rw [h5]; exact hT.2.1
  exact ⟨σ, rfl, fr.rf _ _ _ σ, hG, hG.2 h4 h5', h4, h5', Or.inl rfl⟩
