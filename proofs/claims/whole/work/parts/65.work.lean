/-! the reference: work -/
def Wa (rl : Nat → Nat → Bool) : Nat → Nat → Nat → Prop
  | 0 => fun r s => rl r s = true ∨ r = s
  | m + 1 => fun r s => Wa rl m r s ∨ (Wa rl m r m ∧ Wa rl m m s)
theorem Wa_tr {rl : Nat → Nat → Bool} : ∀ {m x r s : Nat}, x < m → Wa rl m r x → Wa rl m x s → Wa rl m r s := by
  intro m
  induction m with
  | zero => intro x r s h; exact absurd h (Nat.not_lt_zero _)
  | succ m ih =>
    intro x r s hx h1 h2
    by_cases e : x = m
    · subst e
      have a : Wa rl x r x := h1.elim id (fun h => h.1)
      have b : Wa rl x x s := h2.elim id (fun h => h.2)
      exact Or.inr ⟨a, b⟩
    · have hx : x < m := by omega
      rcases h1 with h1 | ⟨h1, h1'⟩ <;> rcases h2 with h2 | ⟨h2, h2'⟩
      · exact Or.inl (ih hx h1 h2)
      · exact Or.inr ⟨ih hx h1 h2, h2'⟩
      · exact Or.inr ⟨h1, ih hx h1' h2⟩
      · exact Or.inr ⟨h1, h2'⟩
theorem Wa_up {rl : Nat → Nat → Bool} : ∀ {m r s : Nat}, Wa rl 0 r s → Wa rl m r s := by
  intro m
  induction m with
  | zero => intro r s h; exact h
  | succ m ih => intro r s h; exact Or.inl (ih h)
theorem Wa_Und {rl : Nat → Nat → Bool} {r s : Nat} (h : Und rl r s) : Wa rl 4 r s :=
  h (Wa rl 4) (fun i _ => Wa_up (Or.inr rfl)) (fun i j _ _ h => Wa_up (Or.inl h)) (fun i j k _ hj _ h1 h2 => Wa_tr hj h1 h2)
theorem tq_d16 {a : Nat} (h : a < 2147483648) : nI a / 16 = nI (a / 16) := pk_div (d := 16) (by omega) (by decide) (by decide)
theorem tq_d4 {a : Nat} (h : a < 2147483648) : nI a / 4 = nI (a / 4) := pk_div (d := 4) (by omega) (by decide) (by decide)
theorem tq_r4 {a : Nat} (h : a < 2147483648) : jrem (nI a) 4 = nI (a % 4) := pk_rem (d := 4) (by omega) (by decide) (by decide)
theorem dpt_b {T : ab_T} {X : ab_X} {rl : Nat → Nat → Bool} {j τ : Nat} {z : Int32} (h : dpt T X rl (j + 1) τ z) (h' : Gs T X rl j τ → Gs T X rl (j + 1) τ) : dpt T X rl j τ z := by
  rcases h with h | ⟨h1, h2⟩ | ⟨i, i1, i2, i3, i4⟩
  · exact Or.inl h
  · exact Or.inr (Or.inl ⟨h1.1, h2⟩)
  · by_cases e : i = j
    · subst e; exact absurd (h' i2) i3
    · exact Or.inr (Or.inr ⟨i, by omega, i2, i3, i4⟩)
def mV (T : ab_T) (X : ab_X) (rl : Nat → Nat → Bool) (σ : tq_S) : Prop := mU rl σ ∧ mH T σ ∧ mO T σ ∧ ∃ ρ, isR T X rl ρ ∧ σ.2.2 19 = nI ρ ∧ ∀ t, t < 2 ^ aN T → dpt T X rl ρ t (σ.1 31 t)
def mK (T : ab_T) (X : ab_X) (rl : Nat → Nat → Bool) (σ : tq_S) : Prop := σ.2.2 18 ≠ 0 → mV T X rl σ
/-- types below t are worked out, before the first round -/
def mD (T : ab_T) (X : ab_X) (rl : Nat → Nat → Bool) (t : Nat) (σ : tq_S) : Prop := ∀ u, u < t → (∀ c, c < T.1 → σ.1 29 (80 * u + c) = iB (vT T c u)) ∧ (∀ j, j < 32 → (bI (σ.1 30 u) j = true ↔ ownP T u j)) ∧ dpt T X rl 0 u (σ.1 31 u)
theorem mT_fr {T : ab_T} {σ σ' : tq_S} (hT : mTT T σ) {I L F : List Nat} (f : fr I L F σ σ') (h17 : 17 ∉ I) (h18 : 18 ∉ I) (h19 : 19 ∉ I) (h20 : 20 ∉ I) (h13 : 13 ∉ F) (h14 : 14 ∉ F) : mTT T σ' := by
  obtain ⟨q1, q2, q3, q4⟩ := hT
  exact ⟨by rw [f.2.2 13 h13]; exact q1, by rw [f.2.2 14 h14]; exact q2, fun c hc => by rw [f.1 17 h17, f.1 18 h18, f.1 19 h19]; exact q3 c hc, fun c hc ha => by rw [f.1 20 h20]; exact q4 c hc ha⟩
theorem mo_rounds_loop {T : ab_T} {X : ab_X} {rl : Nat → Nat → Bool} {σ : tq_S} (hw : wfT T) (Q : tq_C → Prop) (hT : mTT T σ) (hU : mU rl σ) (hD : mD T X rl (2 ^ aN T) σ) (h19 : σ.2.2 19 = 0)
    (hQ : ∀ σ', fr [31] [] [19] σ σ' → mV T X rl σ' → Q (tq_rt, [], [], σ')) : tq_wp st_Mo_work Q (321, [], [], σ) := by
  have hm : aN T ≤ 10 := hw.2.2.1
  refine tq_ind 321 (fun p : Nat × tq_S => ([], [], p.2)) (fun p => fr [31] [] [19] σ p.2 ∧ p.2.2.2 19 = nI p.1 ∧ went T X rl p.1 ∧ ∀ t, t < 2 ^ aN T → dpt T X rl p.1 t (p.2.1 31 t)) (fun p => 1024 - p.1) ?_ (0, σ) ⟨fr.rf _ _ _ σ, h19, fun i hi => absurd hi (Nat.not_lt_zero _), fun t ht => (hD t ht).2.2⟩
  rintro ⟨j, σ1⟩ ⟨f1, e19, hwn, hd⟩ ih
  dsimp only at f1 e19 hwn hd ih ⊢
  have hT1 : mTT T σ1 := mT_fr hT f1 (by decide) (by decide) (by decide) (by decide) (by decide) (by decide)
  have hU1 : mU rl σ1 := fun r s hr hs => by rw [f1.1 32 (by decide)]; exact hU r s hr hs
  have hO1 : mO T σ1 := fun t ht j hj => by rw [f1.1 30 (by decide)]; exact (hD t ht).2.1 j hj
  have hH1 : mH T σ1 := fun t c ht hc => by rw [f1.1 29 (by decide)]; exact (hD t ht).1 c hc
  have hj := went_le hm hwn
  obtain ⟨z, σ2, a1, a2, a3, a4⟩ := mo_turn hw hT1 hU1 hO1 (show j < 2000000000 by omega) hd
  refine tq_at (by decide) ?_
  show tq_wo (bk_Mo_work_321 [] [] σ1) _
  rw [bk_Mo_work_321, e19, tq_inc]
  have f2 : fr [31] [] [19] σ σ2 := f1.tr (a2.wk (by decide) (by decide) (by decide))
  rcases a4 with ⟨rfl, h⟩ | ⟨rfl, h⟩
  · refine wi_o a1 (wi_t rfl (wi_s (tq_wp_rt (hQ _ f2 ⟨?_, ?_, ?_, j, ⟨hwn, h⟩, ?_, fun t ht => dpt_b (a3 t ht) (h t)⟩))))
    · exact fun r s hr hs => by rw [a2.1 32 (by decide)]; exact hU1 r s hr hs
    · exact fun t c ht hc => by rw [a2.1 29 (by decide)]; exact hH1 t c ht hc
    · exact fun t ht j hj => by rw [a2.1 30 (by decide)]; exact hO1 t ht j hj
    · rw [a2.2.2 19 (by decide)]; exact e19
  · have hwn' : went T X rl (j + 1) := fun i hi => by
      by_cases e : i = j
      · subst e; exact h
      · exact hwn i (by omega)
    have hj' := went_le hm hwn'
    refine wi_o a1 (wi_f (by decide) (wi_l (wi_s ?_)))
    have e19' : σ2.2.2 19 = nI j := by rw [a2.2.2 19 (by decide)]; exact e19
    rw [e19', tq_inc]
    exact ih (j + 1, fput σ2 19 (nI (j + 1))) ⟨f2.tr (fr.f (by decide)), fput_s _ _ _, hwn', a3⟩ (by dsimp only; omega)
theorem mo_types_loop {T : ab_T} {X : ab_X} {rl : Nat → Nat → Bool} {σ : tq_S} (hw : wfT T) (hx : wX T X) (Q : tq_C → Prop) (hT : mTT T σ) (hX : mX X σ)
    (hQ : ∀ σ', fr [29, 30, 31] [] [18, 19] σ σ' → mD T X rl (2 ^ aN T) σ' → σ'.2.2 19 = 0 → tq_wp st_Mo_work Q (321, [], [], σ')) : tq_wp st_Mo_work Q (135, [0], [], σ) := by
  have h80 := hw.2.1
  have hm : aN T ≤ 10 := hw.2.2.1
  have hp := tq_pw1 hm
  have hx30 := hx.1
  refine tq_ind 135 (fun p : Nat × tq_S => ([nI p.1], [], p.2)) (fun p => p.1 ≤ 2 ^ aN T ∧ fr [29, 30, 31] [] [18, 19] σ p.2 ∧ mD T X rl p.1 p.2) (fun p => 2 ^ aN T - p.1) ?_ (0, σ) ⟨Nat.zero_le _, fr.rf _ _ _ σ, fun u h => absurd h (Nat.not_lt_zero _)⟩
  rintro ⟨t, σ1⟩ ⟨ht, f1, hD⟩ ih
  dsimp only at ht f1 hD ih ⊢
  have tf : ∀ {σ'}, fr [29, 30, 31] [] [18, 19] σ σ' → mTT T σ' := fun f => mT_fr hT f (by decide) (by decide) (by decide) (by decide) (by decide) (by decide)
  have xf : ∀ {σ'}, fr [29, 30, 31] [] [18, 19] σ σ' → mX X σ' := fun f => ⟨by rw [f.2.2 15 (by decide)]; exact hX.1, fun i hi => by rw [f.1 21 (by decide), f.1 22 (by decide)]; exact hX.2 i hi⟩
  refine tq_at (by decide) ?_
  show tq_wo (bk_Mo_work_135 [nI t] [] σ1) _
  rw [bk_Mo_work_135]
  refine wi_o (mo_size hw (tf f1)) (wi_c (fun q => wi_l (wi_l (wi_s (hQ _ (f1.tr ((fr.f (by decide)).tr (fr.f (by decide)))) ?_ (fput_s _ _ _))))) (fun q => wi_s ?_))
  · have : t = 2 ^ aN T := by
      have := (tq_le (a := 2 ^ aN T) (b := t) (by omega) (by omega)).mp q
      omega
    subst this
    exact hD
  · have hlt : t < 2 ^ aN T := tq_nle (by omega) (by omega) q
    have vt : vp_in (nI t) 1024 := tq_vin (by omega) (by omega)
    -- the last loop: owns
    have L244 : ∀ σ2, fr [29, 30, 31] [] [18, 19] σ σ2 → (∀ u, u < t → (∀ c, c < T.1 → σ2.1 29 (80 * u + c) = iB (vT T c u)) ∧ (∀ j, j < 32 → (bI (σ2.1 30 u) j = true ↔ ownP T u j)) ∧ dpt T X rl 0 u (σ2.1 31 u)) → (∀ c, c < T.1 → σ2.1 29 (80 * t + c) = iB (vT T c t)) → dpt T X rl 0 t (σ2.1 31 t) → σ2.1 30 t = 0 → tq_wp st_Mo_work Q (244, [nI t, 0], [], σ2) := by
      intro σ2 f2 o2 h2 g2 z2
      refine tq_ind 244 (fun p : Nat × tq_S => ([nI t, nI p.1], [], p.2)) (fun p => p.1 ≤ aN T ∧ fr [30] [] [] σ2 p.2 ∧ (∀ u, u ≠ t → p.2.1 30 u = σ2.1 30 u) ∧ ∀ j, j < 32 → (bI (p.2.1 30 t) j = true ↔ j < p.1 ∧ ownP T t j)) (fun p => aN T - p.1) ?_ (0, σ2) ⟨Nat.zero_le _, fr.rf _ _ _ σ2, fun _ _ => rfl, fun j hj => ?_⟩
      · rintro ⟨k, σ3⟩ ⟨hk, f3, n3, b3⟩ ih3
        dsimp only at hk f3 n3 b3 ih3 ⊢
        have f3' : fr [29, 30, 31] [] [18, 19] σ σ3 := f2.tr (f3.wk (by decide) (by decide) (by decide))
        have hT3 := tf f3'
        have t1 : σ3.2.2 14 = nI (aN T) := hT3.2.1
        refine tq_at (by decide) ?_
        show tq_wo (bk_Mo_work_244 [nI t, nI k] [] σ3) _
        rw [bk_Mo_work_244, t1]
        refine wi_c (fun q => wi_l (wi_s ?_)) (fun q => ?_)
        · have : k = aN T := by
            have := (tq_le (a := aN T) (b := k) (by omega) (by omega)).mp q
            omega
          subst this
          rw [tq_inc]
          refine ih (t + 1, σ3) ⟨by omega, f3', fun u hu => ?_⟩ (by dsimp only; omega)
          dsimp only at hu ⊢
          rw [f3.1 29 (by decide), f3.1 31 (by decide)]
          by_cases e : u = t
          · subst e
            refine ⟨h2, fun j hj => ?_, g2⟩
            rw [b3 j hj]
            refine ⟨fun h => h.2, fun h => ⟨?_, h⟩⟩
            obtain ⟨c, c1, c2, c3, -⟩ := h
            have := ac_10 hw c1 c2
            omega
          · rw [n3 u e]; exact o2 u (by omega)
        · have hk1 : k < aN T := tq_nle (by omega) (by omega) q
          obtain ⟨a1, a2, a3⟩ := axi_ok (K := T.2.1) (n := T.1) hk1
          obtain ⟨e17, e18, e19⟩ := hT3.2.2.1 _ a1
          have wbT := (wf_wb hw).2.2 _ a1
          have vk : vp_in (nI k) 10 := tq_vin (by omega) (by omega)
          have vx : vp_in (nI (axi T.2.1 T.1 k)) 80 := tq_vin (by omega) (by omega)
          have skip : ¬ ownP T t k → tq_wp st_Mo_work Q (244, [nI t, nI k + 1], [], σ3) := by
            intro h
            rw [tq_inc]
            refine ih3 (k + 1, σ3) ⟨by omega, f3, n3, fun j hj => ?_⟩ (by dsimp only; omega)
            show bI (σ3.1 30 t) j = true ↔ j < k + 1 ∧ _
            rw [b3 j hj]
            refine ⟨fun h => ⟨by omega, h.2⟩, fun h' => ⟨?_, h'.2⟩⟩
            have : j ≠ k := fun e => by subst e; exact h h'.2
            omega
          simp only [ia, tq_nc (show k < 2147483648 by omega), mo_at hT3 hk1, tq_nc (show axi T.2.1 T.1 k < 2147483648 by omega), e17, e19]
          refine wi_g vk (wi_g vx (wi_c (fun q6 => wi_l (wi_s (skip ?_))) (fun q6 => ?_)))
          · rintro ⟨c, c1, c2, c3, _⟩
            rw [← c3, axi_eq c1 (by rw [c2]; rfl), c2] at q6
            exact q6 rfl
          · have h6 : T.2.1 (axi T.2.1 T.1 k) = 6 := (tq_eq (b := 6) (by omega) (by omega)).mp (Classical.not_not.mp q6)
            obtain ⟨hF, hS⟩ := wf_some hw a1 h6
            have hld : tq_fI st_Mo_isHeld (0, [nI t, nI (T.2.2.2 (axi T.2.1 T.1 k))], [], σ3) = some (iB (vT T (T.2.2.2 (axi T.2.1 T.1 k)) t), σ3) := mo_isHeld (by omega) (by omega) (by rw [f3.1 29 (by decide)]; exact h2 _ (by omega))
            refine wi_g vk (wi_g vx (wi_o hld (wi_c (fun qv => wi_l (wi_s (skip ?_))) (fun qv => wi_g vt (wi_g vt (wi_l (wi_l (wi_s ?_))))))))
            · rintro ⟨c, c1, c2, c3, c4⟩
              rw [← c3, axi_eq c1 (by rw [c2]; rfl), c4] at qv
              exact absurd qv (by decide)
            · have hv : vT T (T.2.2.2 (axi T.2.1 T.1 k)) t = true := by
                cases e : vT T (T.2.2.2 (axi T.2.1 T.1 k)) t with
                | true => rfl
                | false => rw [e] at qv; exact absurd rfl qv
              simp only [tq_nc (show t < 2147483648 by omega)]
              rw [tq_inc]
              refine ih3 (k + 1, _) ⟨by omega, f3.tr (fr.i (by decide)), fun u hu => ?_, fun j hj => ?_⟩ (by dsimp only; omega)
              · show (iput σ3 30 t _).1 30 u = _
                rw [iput_s, if_neg hu]; exact n3 u hu
              · show bI ((iput σ3 30 t _).1 30 t) j = true ↔ j < k + 1 ∧ _
                rw [iput_s, if_pos rfl, bI_or, Bool.or_eq_true_iff, bI_bit k (by omega) j hj, decide_eq_true_iff, b3 j hj]
                constructor
                · rintro (h | h)
                  · exact ⟨by omega, h.2⟩
                  · subst h; exact ⟨by omega, _, a1, h6, a3, hv⟩
                · rintro ⟨h1, h2⟩
                  by_cases e : j = k
                  · exact Or.inr e
                  · exact Or.inl ⟨by omega, h2⟩
      · show bI (σ2.1 30 t) j = true ↔ _
        rw [z2, bI_0]
        exact ⟨fun h => (by cases h), fun h => absurd h.1 (Nat.not_lt_zero _)⟩
    -- the loop over the axioms
    have L185 : ∀ σ2, fr [29, 30, 31] [] [18, 19] σ σ2 → (∀ u, u < t → (∀ c, c < T.1 → σ2.1 29 (80 * u + c) = iB (vT T c u)) ∧ (∀ j, j < 32 → (bI (σ2.1 30 u) j = true ↔ ownP T u j)) ∧ dpt T X rl 0 u (σ2.1 31 u)) → (∀ c, c < T.1 → σ2.1 29 (80 * t + c) = iB (vT T c t)) → σ2.1 31 t = 0 → tq_wp st_Mo_work Q (185, [nI t, 0], [], σ2) := by
      intro σ2 f2 o2 h2 z2
      refine tq_ind 185 (fun p : Nat × tq_S => ([nI t, nI p.1], [], p.2)) (fun p => p.1 ≤ X.1 ∧ fr [31] [] [] σ2 p.2 ∧ (∀ u, u ≠ t → p.2.1 31 u = σ2.1 31 u) ∧ ((p.2.1 31 t = 0 ∧ ∀ a, a < p.1 → vT T (X.2.1 a) t = false ∨ vT T (X.2.2 a) t = true) ∨ (p.2.1 31 t = -2 ∧ ¬ g0 T X t))) (fun p => X.1 - p.1) ?_ (0, σ2) ⟨Nat.zero_le _, fr.rf _ _ _ σ2, fun _ _ => rfl, Or.inl ⟨z2, fun a h => absurd h (Nat.not_lt_zero _)⟩⟩
      rintro ⟨a, σ3⟩ ⟨ha, f3, n3, b3⟩ ih3
      dsimp only at ha f3 n3 b3 ih3 ⊢
      have f3' : fr [29, 30, 31] [] [18, 19] σ σ3 := f2.tr (f3.wk (by decide) (by decide) (by decide))
      have hX3 := xf f3'
      refine tq_at (by decide) ?_
      show tq_wo (bk_Mo_work_185 [nI t, nI a] [] σ3) _
      rw [bk_Mo_work_185, hX3.1]
      refine wi_c (fun q => wi_g vt (wi_l (wi_s ?_))) (fun q => ?_)
      · have : a = X.1 := by
          have := (tq_le (a := X.1) (b := a) (by omega) (by omega)).mp q
          omega
        subst this
        rw [tq_nc (by omega)]
        refine L244 _ (f3'.tr (fr.i (by decide))) (fun u hu => ?_) (fun c hc => ?_) ?_ (by rw [iput_s, if_pos rfl])
        · obtain ⟨k1, k2, k3⟩ := o2 u hu
          refine ⟨fun d hd => ?_, fun j hj => ?_, ?_⟩
          · rw [iput_n _ _ _ (by decide), f3.1 29 (by decide)]; exact k1 d hd
          · rw [iput_s, if_neg (by omega), f3.1 30 (by decide)]; exact k2 j hj
          · rw [iput_n _ _ _ (by decide), n3 u (by omega)]; exact k3
        · rw [iput_n _ _ _ (by decide), f3.1 29 (by decide)]; exact h2 c hc
        · rw [iput_n _ _ _ (by decide)]
          rcases b3 with ⟨e, h⟩ | ⟨e, h⟩
          · exact Or.inr (Or.inl ⟨⟨hlt, h⟩, e⟩)
          · exact Or.inl ⟨fun k => h k.2, e⟩
      · have ha1 : a < X.1 := tq_nle (by omega) (by omega) q
        obtain ⟨b1, b2⟩ := hx.2 a ha1
        obtain ⟨l1, l2⟩ := hX3.2 a ha1
        have va : vp_in (nI a) 30 := tq_vin (by omega) (by omega)
        have hl : ∀ c, c < T.1 → tq_fI st_Mo_isHeld (0, [nI t, nI c], [], σ3) = some (iB (vT T c t), σ3) := fun c hc => mo_isHeld (by omega) (by omega) (by rw [f3.1 29 (by decide)]; exact h2 c hc)
        have good : (vT T (X.2.1 a) t = false ∨ vT T (X.2.2 a) t = true) → tq_wp st_Mo_work Q (185, [nI t, nI a + 1], [], σ3) := by
          intro h
          rw [tq_inc]
          refine ih3 (a + 1, σ3) ⟨by omega, f3, n3, ?_⟩ (by dsimp only; omega)
          rcases b3 with ⟨e, h'⟩ | h'
          · refine Or.inl ⟨e, fun b hb => ?_⟩
            by_cases e : b = a
            · subst e; exact h
            · dsimp only at hb; exact h' b (by omega)
          · exact Or.inr h'
        simp only [ia, tq_nc (show a < 2147483648 by omega), l1, l2]
        refine wi_g va (wi_o (hl _ b1) (wi_c (fun qv => wi_l (wi_s (good (Or.inl (iB_z.mp qv))))) (fun qv => wi_g va (wi_o (by rw [l2]; exact hl _ b2) (wi_c (fun qv2 => wi_l (wi_s (good (Or.inr ?_)))) (fun qv2 => wi_g vt (wi_l (wi_l (wi_s ?_)))))))))
        · cases e : vT T (X.2.2 a) t with
          | true => rfl
          | false => rw [e] at qv2; exact absurd rfl qv2
        · rw [tq_inc, tq_nc (by omega)]
          refine ih3 (a + 1, _) ⟨by omega, f3.tr (fr.i (by decide)), fun u hu => ?_, Or.inr ⟨?_, fun hg => ?_⟩⟩ (by dsimp only; omega)
          · show (iput σ3 31 t _).1 31 u = _
            rw [iput_s, if_neg hu]; exact n3 u hu
          · show (iput σ3 31 t _).1 31 t = _
            rw [iput_s, if_pos rfl]
          · rcases hg a ha1 with h | h
            · exact qv (iB_z.mpr h)
            · rw [h] at qv2; exact qv2 (by decide)
    -- the loop over the concepts
    refine tq_ind 145 (fun p : Nat × tq_S => ([nI t, nI p.1], [], p.2)) (fun p => p.1 ≤ T.1 ∧ fr [29] [] [] σ1 p.2 ∧ (∀ i, i < 80 * t → p.2.1 29 i = σ1.1 29 i) ∧ ∀ c, c < p.1 → p.2.1 29 (80 * t + c) = iB (vT T c t)) (fun p => T.1 - p.1) ?_ (0, σ1) ⟨Nat.zero_le _, fr.rf _ _ _ σ1, fun _ _ => rfl, fun c h => absurd h (Nat.not_lt_zero _)⟩
    rintro ⟨c, σ2⟩ ⟨hc, f2, n2, h2⟩ ih2
    dsimp only at hc f2 n2 h2 ih2 ⊢
    have f2' : fr [29, 30, 31] [] [18, 19] σ σ2 := f1.tr (f2.wk (by decide) (by decide) (by decide))
    have hT2 := tf f2'
    refine tq_at (by decide) ?_
    show tq_wo (bk_Mo_work_145 [nI t, nI c] [] σ2) _
    rw [bk_Mo_work_145, hT2.1]
    refine wi_c (fun q => wi_g vt (wi_l (wi_s ?_))) (fun q => ?_)
    · have : c = T.1 := by
        have := (tq_le (a := T.1) (b := c) (by omega) (by omega)).mp q
        omega
      subst this
      rw [tq_nc (by omega)]
      refine L185 _ (f2'.tr (fr.i (by decide))) (fun u hu => ?_) (fun c hc => ?_) (by rw [iput_s, if_pos rfl])
      · obtain ⟨k1, k2, k3⟩ := hD u hu
        refine ⟨fun d hd => ?_, fun j hj => ?_, ?_⟩
        · rw [iput_n _ _ _ (by decide), n2 _ (by omega)]; exact k1 d hd
        · rw [iput_n _ _ _ (by decide), f2.1 30 (by decide)]; exact k2 j hj
        · rw [iput_s, if_neg (by omega), f2.1 31 (by decide)]; exact k3
      · rw [iput_n _ _ _ (by decide)]; exact h2 c hc
    · have hc1 : c < T.1 := tq_nle (by omega) (by omega) q
      refine wi_o (mo_weigh hw hT2 (show t < 1024 by omega) hc1 h2) ?_
      rw [tq_80, jz_i]
      refine wi_g (tq_vin (by omega) (by omega)) (wi_l (wi_l (wi_s ?_)))
      rw [tq_inc, tq_nc (by omega)]
      refine ih2 (c + 1, _) ⟨by omega, f2.tr (fr.i (by decide)), fun i hi => ?_, fun d hd => ?_⟩ (by dsimp only; omega)
      · show (iput σ2 29 (80 * t + c) _).1 29 i = _
        rw [iput_s, if_neg (by omega)]; exact n2 i hi
      · show (iput σ2 29 (80 * t + c) _).1 29 (80 * t + d) = _
        rw [iput_s]
        by_cases e : d = c
        · subst e; rw [if_pos rfl]
        · rw [if_neg (by omega)]; dsimp only at hd; exact h2 d (by omega)
