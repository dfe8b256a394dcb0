/-! Things: sortLinks, begin, settle -/
def saidP (T : ab_T) (B : ab_X) (i τ : Nat) : Prop := ∀ k, k < B.1 → B.2.1 k = i → vT T (B.2.2 k) τ = true
def lkP (T : ab_T) (rl : Nat → Nat → Bool) (M : ab_L) (i j k : Nat) : Prop := ∃ l, l < M.1 ∧ M.2.1 l = i ∧ M.2.2.2 l = j ∧ smR T (fun s => Und rl (M.2.2.1 l) s) k
def wM (M : ab_L) : Prop := M.1 ≤ 40 ∧ ∀ k, k < M.1 → M.2.1 k < 5 ∧ M.2.2.1 k < 4 ∧ M.2.2.2 k < 5
def wB (T : ab_T) (B : ab_X) : Prop := B.1 ≤ 40 ∧ ∀ k, k < B.1 → B.2.1 k < 5 ∧ B.2.2 k < T.1
/-- a MODEL -/
def Mo (T : ab_T) (X : ab_X) (rl : Nat → Nat → Bool) (B : ab_X) (M : ab_L) (a : Nat → Nat) : Prop := (∀ i, i < 5 → GG T X rl (a i) ∧ saidP T B i (a i)) ∧ ∀ k, k < M.1 → seesP T rl (a (M.2.1 k)) (a (M.2.2.2 k)) (M.2.2.1 k)
noncomputable def lkB (T : ab_T) (rl : Nat → Nat → Bool) (M : ab_L) (i j k : Nat) : Bool := cD (lkP T rl M i j k)
noncomputable def nuB (T : ab_T) (u k : Nat) : Bool := cD (ownP T u k)
def cLk (T : ab_T) (rl : Nat → Nat → Bool) (M : ab_L) (σ : tq_S) : Prop := ∀ i j, i < 5 → j < 5 → ∀ k, k < 32 → bI (σ.1 14 (i * 5 + j)) k = lkB T rl M i j k
/-- Things.sortLinks -/
theorem sp_sortLinks {T : ab_T} {rl : Nat → Nat → Bool} {M : ab_L} {σ : tq_S} (hO : cO T rl σ) (hM : cL M σ) (hwM : wM M) : ∃ σ', tq_fV st_Th_sortLinks (0, [], [], σ) = some ((), σ') ∧ fr [14] [] [] σ σ' ∧ cLk T rl M σ' := by
  have key : ∀ i j, i < 5 → j < 5 → ∀ k, k < 32 → ((∃ r, r < 4 ∧ bI (σ.1 13 (i * 5 + j)) r = true ∧ bI (σ.1 10 r) k = true) ↔ lkP T rl M i j k) := by
    intro i j hi hj k hk
    constructor
    · rintro ⟨r, r1, r2, r3⟩
      obtain ⟨l, l1, l2, l3, l4⟩ := (hM.2 i j r hi hj (by omega)).mp r2
      refine ⟨l, l1, l2, l4, ?_⟩
      rw [l3]
      exact (hO r r1 k hk).2.mp r3
    · rintro ⟨l, l1, l2, l3, l4⟩
      have hr := (hwM.2 l l1).2.1
      exact ⟨M.2.2.1 l, hr, (hM.2 i j _ hi hj (by omega)).mpr ⟨l, l1, l2, rfl, l3⟩, (hO _ hr k hk).2.mpr l4⟩
  refine tq_fV_of (tq_wpQ (fun Q hQ => tq_at (by decide) ?_))
  show tq_wo (bk_Th_sortLinks_0 [] [] σ) _
  rw [bk_Th_sortLinks_0]
  refine wi_s ?_
  refine tq_ind 2 (fun p : Nat × tq_S => ([nI p.1], [], p.2)) (fun p => p.1 ≤ 25 ∧ fr [14] [] [] σ p.2 ∧ ∀ n, n < p.1 → ∀ k, k < 32 → (bI (p.2.1 14 n) k = true ↔ ∃ r, r < 4 ∧ bI (σ.1 13 n) r = true ∧ bI (σ.1 10 r) k = true)) (fun p => 25 - p.1) ?_ (0, σ) ⟨Nat.zero_le _, fr.rf _ _ _ σ, fun u h => absurd h (Nat.not_lt_zero _)⟩
  rintro ⟨n, σ1⟩ ⟨hn, f1, g1⟩ ih
  dsimp only at hn f1 g1 ih ⊢
  refine tq_at (by decide) ?_
  show tq_wo (bk_Th_sortLinks_2 [nI n] [] σ1) _
  rw [bk_Th_sortLinks_2]
  refine wi_c (fun q => wi_s (tq_wp_rt (hQ _ ⟨_, rfl, f1, fun i j hi hj k hk => ?_⟩))) (fun q => ?_)
  · have : n = 25 := by
      have := (tq_le (a := 25) (b := n) (by omega) (by omega)).mp q
      omega
    subst this
    have := (g1 (i * 5 + j) (by omega) k hk).trans (key i j hi hj k hk)
    unfold lkB
    cases e : bI (σ1.1 14 (i * 5 + j)) k with
    | true => exact (cD_t.mpr (this.mp e)).symm
    | false => exact (cD_f.mpr (fun z => by rw [this.mpr z] at e; cases e)).symm
  · have hlt : n < 25 := tq_nle (a := 25) (b := n) (by omega) (by omega) q
    have vi : vp_in (nI n) 25 := tq_vin hlt (by omega)
    rw [tq_nc (by omega)]
    refine wi_g vi (wi_l (wi_s ?_))
    refine tq_ind 17 (fun p : Nat × tq_S => ([nI n, nI p.1], [], p.2)) (fun p => p.1 ≤ 4 ∧ fr [14] [] [] σ p.2 ∧ (∀ m, m ≠ n → p.2.1 14 m = σ1.1 14 m) ∧ ∀ k, k < 32 → (bI (p.2.1 14 n) k = true ↔ ∃ r, r < p.1 ∧ bI (σ.1 13 n) r = true ∧ bI (σ.1 10 r) k = true)) (fun p => 4 - p.1) ?_ (0, iput σ1 14 n 0) ⟨Nat.zero_le _, f1.tr (fr.i (by decide)), fun m hm => ?_, fun k hk => ?_⟩
    · rintro ⟨r, σ2⟩ ⟨hr, f2, o2, g2⟩ ih2
      dsimp only at hr f2 o2 g2 ih2 ⊢
      refine tq_at (by decide) ?_
      show tq_wo (bk_Th_sortLinks_17 [nI n, nI r] [] σ2) _
      rw [bk_Th_sortLinks_17]
      refine wi_c (fun q => wi_l (wi_s ?_)) (fun q => ?_)
      · have : r = 4 := by
          have := (tq_le (a := 4) (b := r) (by omega) (by omega)).mp q
          omega
        subst this
        rw [tq_inc]
        refine ih (n + 1, σ2) ⟨by dsimp only; omega, f2, fun m hm k hk => ?_⟩ (by dsimp only; omega)
        dsimp only at hm ⊢
        by_cases e : m = n
        · subst e; exact g2 k hk
        · rw [o2 m e]; exact g1 m (by omega) k hk
      · have hr4 : r < 4 := tq_nle (a := 4) (b := r) (by omega) (by omega) q
        have e13 : σ2.1 13 = σ.1 13 := f2.1 13 (by decide)
        have e10 : σ2.1 10 = σ.1 10 := f2.1 10 (by decide)
        have hb := sp_hasBit (σ.1 13 n).toInt64 (show r < 64 by omega) σ2
        rw [bL_i (show r < 32 by omega)] at hb
        simp only [ia]
        rw [tq_nc (by omega), e13]
        refine wi_g vi (wi_g vi (wi_o hb ?_))
        have nx : ∀ y : Int32, (∀ k, k < 32 → (bI y k = true ↔ bI (σ.1 13 n) r = true ∧ bI (σ.1 10 r) k = true)) → tq_wp st_Th_sortLinks Q (17, [nI n, nI r + 1], [], iput σ2 14 n (σ2.1 14 n ||| y)) := by
          intro y hy
          rw [tq_inc]
          refine ih2 (r + 1, iput σ2 14 n (σ2.1 14 n ||| y)) ⟨by dsimp only; omega, f2.tr (fr.i (by decide)), fun m hm => ?_, fun k hk => ?_⟩ (by dsimp only; omega)
          · dsimp only
            rw [iput_s, if_neg hm]; exact o2 m hm
          · dsimp only
            rw [iput_s, if_pos rfl, bI_or, Bool.or_eq_true_iff, g2 k hk, hy k hk]
            constructor
            · rintro (⟨s, s1, s2⟩ | s)
              · exact ⟨s, by omega, s2⟩
              · exact ⟨r, by omega, s⟩
            · rintro ⟨s, s1, s2⟩
              by_cases e : s = r
              · subst e; exact Or.inr s2
              · exact Or.inl ⟨s, by omega, s2⟩
        cases hv : bI (σ.1 13 n) r with
        | false =>
          refine wi_t rfl (wi_g vi (wi_l (wi_l (wi_s (nx 0 (fun k hk => ?_))))))
          rw [bI_0, hv]; simp
        | true =>
          refine wi_f (by decide) (wi_o (sp_watched hr4) (wi_g vi (wi_l (wi_l (wi_s (nx _ (fun k hk => ?_)))))))
          rw [e10, hv]; simp
    · dsimp only
      rw [iput_s, if_neg hm]
    · dsimp only
      rw [iput_s, if_pos rfl, bI_0]
      refine ⟨fun z => (by cases z), ?_⟩
      rintro ⟨r, hr, _⟩
      exact absurd hr (Nat.not_lt_zero _)
theorem smR_10 {T : ab_T} (hw : wfT T) {P : Nat → Prop} {k : Nat} (h : smR T P k) : k < 10 := by
  obtain ⟨c, c1, c2, c3, -⟩ := h
  have := ac_10 hw c1 c2
  omega
theorem lkP_in {T : ab_T} {rl : Nat → Nat → Bool} {M : ab_L} {σ : tq_S} (hw : wfT T) (hT : cTT T σ) {i j k : Nat} (h : lkB T rl M i j k = true) : k < 10 ∧ ∀ w, w < 16 → ∀ n, n < 64 → bL (σ.2.1 1 (k * 16 + w)) n = nuB T (w * 64 + n) k := by
  obtain ⟨l, l1, l2, l3, l4⟩ := cD_t.mp h
  refine ⟨smR_10 hw l4, fun w hw16 n hn => ?_⟩
  obtain ⟨c, c1, c2, c3, -⟩ := l4
  have hS := (wf_some hw c1 c2).2
  rw [← c3, hT.2.2.2.2.2.1 c c1 c2 w hw16, row_v hT (by omega) hw16 hn]
  unfold nuB
  cases e : vT T (T.2.2.2 c) (w * 64 + n) with
  | true => exact (cD_t.mpr ⟨c, c1, c2, rfl, e⟩).symm
  | false =>
    refine (cD_f.mpr ?_).symm
    rintro ⟨c', d1, d2, d3, d4⟩
    have : c' = c := ac_inj (K := T.2.1) (by rw [d2]; rfl) (by rw [c2]; rfl) d3
    subst this
    rw [d4] at e; cases e
theorem nu_in {T : ab_T} {σ : tq_S} (hT : cTT T σ) {u k : Nat} (hu : u < 1024) (hk : k < 32) : bI (σ.1 4 u) k = nuB T u k := by
  have := hT.2.2.2.2.2.2 u hu k hk
  unfold nuB
  cases e : bI (σ.1 4 u) k with
  | true => exact (cD_t.mpr (this.mp e)).symm
  | false => exact (cD_f.mpr (fun z => by rw [this.mpr z] at e; cases e)).symm
/-- Things.begin -/
theorem sp_tbegin {T : ab_T} {X : ab_X} {rl : Nat → Nat → Bool} {B : ab_X} {M : ab_L} {σ : tq_S} (hw : wfT T) (hT : cTT T σ) (hV : vG T X rl σ) (hB : cB T B σ) (hK : cLk T rl M σ) :
    ∃ σ', tq_fV st_Th_begin (0, [], [], σ) = some ((), σ') ∧ fr [] [5] [9] σ σ' ∧ sK (lkB T rl M) (nuB T) (wc (aN T)) σ' ∧ ∀ i τ, i < 5 → τ < wc (aN T) * 64 → (lft σ' 0 i τ = true ↔ GG T X rl τ ∧ saidP T B i τ ∧ CmP (lkB T rl M) (nuB T) i i τ τ) := by
  have hm : aN T ≤ 10 := hw.2.2.1
  obtain ⟨w1, w2, w3⟩ := wc_le (aN T) (by omega)
  obtain ⟨W, hW⟩ : ∃ W, W = wc (aN T) := ⟨_, rfl⟩
  rw [← hW] at w1 w2 w3 ⊢
  refine tq_fV_of (tq_wpQ (fun Q hQ => tq_at (by decide) ?_))
  show tq_wo (bk_Th_begin_0 [] [] σ) _
  rw [bk_Th_begin_0]
  refine wi_o (sp_wordCount hm hT.2.1) (wi_l (wi_s ?_))
  rw [← hW]
  have ej : jmin (nI W) 16 = nI W := by
    have : ∀ n, n ≤ 16 → jmin (nI n) 16 = nI n := by decide +kernel
    exact this W w2
  rw [ej]
  refine tq_ind 18 (fun p : Nat × tq_S => ([nI p.1], [], p.2)) (fun p => p.1 ≤ 5 ∧ fr [] [5] [9] σ p.2 ∧ p.2.2.2 9 = nI W ∧ ∀ i τ, i < p.1 → τ < W * 64 → (lft p.2 0 i τ = true ↔ GG T X rl τ ∧ saidP T B i τ ∧ CmP (lkB T rl M) (nuB T) i i τ τ)) (fun p => 5 - p.1) ?_ (0, fput σ 9 (nI W)) ⟨Nat.zero_le _, fr.f (by decide), fput_s _ _ _, fun i τ h => absurd h (Nat.not_lt_zero _)⟩
  rintro ⟨i, σ1⟩ ⟨hi, f1, h9, g1⟩ ih
  dsimp only at hi f1 h9 g1 ih ⊢
  refine tq_at (by decide) ?_
  show tq_wo (bk_Th_begin_18 [nI i] [] σ1) _
  rw [bk_Th_begin_18]
  refine wi_c (fun q => wi_s (tq_wp_rt (hQ _ ⟨_, rfl, f1, ⟨h9, w2, fun i j hi hj k hk => by rw [f1.1 14 (by decide)]; exact hK i j hi hj k hk, fun u hu k hk => by rw [f1.1 4 (by decide)]; exact nu_in hT hu hk, fun i j k hi hj hk h => ?_⟩, fun j τ hj hτ => ?_⟩))) (fun q => ?_)
  · have := lkP_in hw hT h
    exact ⟨this.1, fun w hw n hn => by rw [f1.2.1 1 (by decide)]; exact this.2 w hw n hn⟩
  · have : i = 5 := by
      have := (tq_le (a := 5) (b := i) (by omega) (by omega)).mp q
      omega
    subst this
    exact g1 j τ hj hτ
  · have hi5 : i < 5 := tq_nle (a := 5) (b := i) (by omega) (by omega) q
    simp only [ia]
    rw [tq_m5, nI_add, tq_nc (by omega), f1.1 14 (by decide)]
    refine wi_g (tq_vin (by omega) (by omega)) (wi_l (wi_s ?_))
    obtain ⟨lp, hlp⟩ : ∃ lp, lp = σ.1 14 (i * 5 + i) := ⟨_, rfl⟩
    rw [← hlp]
    have lp1 : ∀ k, k < 32 → bI lp k = lkB T rl M i i k := fun k hk => by rw [hlp]; exact hK i i hi5 hi5 k hk
    refine tq_ind 36 (fun p : Nat × tq_S => ([nI i, lp, nI p.1], [], p.2)) (fun p => p.1 ≤ W ∧ fr [] [5] [9] σ p.2 ∧ p.2.2.2 9 = nI W ∧ (∀ j, ¬ (i * 16 ≤ j ∧ j < i * 16 + p.1) → p.2.2.1 5 j = σ1.2.1 5 j) ∧ ∀ τ, τ < p.1 * 64 → (lft p.2 0 i τ = true ↔ GG T X rl τ ∧ saidP T B i τ ∧ CmP (lkB T rl M) (nuB T) i i τ τ)) (fun p => W - p.1) ?_ (0, σ1) ⟨Nat.zero_le _, f1, h9, fun _ _ => rfl, fun τ h => absurd h (by dsimp only; omega)⟩
    rintro ⟨w, σ2⟩ ⟨hwW, f2, h92, o2, g2⟩ ih2
    dsimp only at hwW f2 h92 o2 g2 ih2 ⊢
    refine tq_at (by decide) ?_
    show tq_wo (bk_Th_begin_36 [nI i, lp, nI w] [] σ2) _
    rw [bk_Th_begin_36, h92]
    refine wi_c (fun q => wi_l (wi_s ?_)) (fun q => ?_)
    · have : w = W := by
        have := (tq_le (a := W) (b := w) (by omega) (by omega)).mp q
        omega
      subst this
      rw [tq_inc]
      refine ih (i + 1, σ2) ⟨by dsimp only; omega, f2, h92, fun j τ hj hτ => ?_⟩ (by dsimp only; omega)
      dsimp only at hj ⊢
      by_cases e : j = i
      · subst e; exact g2 τ hτ
      · rw [← g1 j τ (by omega) hτ, lf_0, lf_0, o2 _ (by omega)]
    · have hlt : w < W := tq_nle (b := w) (a := W) (by omega) (by omega) q
      simp only [la]
      rw [tq_m16, nI_add, tq_nc (by omega)]
      obtain ⟨y, y1, y2⟩ := sp_seeing (nu := nuB T) (σ := σ2) (w := w) (by omega) (σ2.2.1 2 w &&& σ2.2.1 4 (i * 16 + w)) lp (fun k hk h => by
        rw [lp1 k hk] at h
        have := lkP_in hw hT h
        exact ⟨this.1, fun n hn => by rw [f2.2.1 1 (by decide)]; exact this.2 w (by omega) n hn⟩)
      refine wi_o (sp_gword (by omega)) (wi_g (tq_vin (by omega) (by omega)) (wi_l (wi_o y1 (wi_g (tq_vin (by omega) (by omega)) (wi_l (wi_l (wi_s ?_)))))))
      rw [tq_inc]
      refine ih2 (w + 1, lput σ2 5 (i * 16 + w) y) ⟨by dsimp only; omega, f2.tr (fr.l (by decide)), h92, fun j hj => ?_, fun τ hτ => ?_⟩ (by dsimp only; omega)
      · dsimp only at hj ⊢
        rw [lput_s, if_neg (by omega)]; exact o2 j (by omega)
      · dsimp only at hτ ⊢
        by_cases e : τ < w * 64
        · rw [← g2 τ e, lf_0, lput_s, if_neg (by omega), lf_0]
        · have e2 : τ = w * 64 + τ % 64 := by omega
          have h1024 : τ < 1024 := by omega
          rw [lf_0, lput_s, if_pos (by omega), y2 _ (by omega), ← e2, bL_and, Bool.and_eq_true_iff]
          have hth := vG_th hV h1024
          have hsd := hB.2 i τ hi5 h1024
          unfold thr at hth
          rw [show τ / 64 = w by omega] at hth hsd
          rw [f2.2.1 2 (by decide), f2.2.1 4 (by decide), hth, hsd]
          constructor
          · rintro ⟨⟨q1, q2⟩, q3⟩
            exact ⟨q1, q2, fun k hk h1 h2 => q3 k hk (by rw [lp1 k (by omega)]; exact h1) h2⟩
          · rintro ⟨q1, q2, q3⟩
            exact ⟨⟨q1, q2⟩, fun k hk h1 h2 => q3 k hk (by rw [← lp1 k (by omega)]; exact h1) h2⟩
