/-! GoodTypes: keptByAxioms, isThere, begin -/
abbrev vT (T : ab_T) (c τ : Nat) : Bool := ve T.2.1 T.2.2.1 T.2.2.2 τ T.1 c
abbrev aN (T : ab_T) : Nat := ac T.2.1 T.1
def g0 (T : ab_T) (X : ab_X) (τ : Nat) : Prop := ∀ a, a < X.1 → vT T (X.2.1 a) τ = false ∨ vT T (X.2.2 a) τ = true
def wX (T : ab_T) (X : ab_X) : Prop := X.1 ≤ 30 ∧ ∀ a, a < X.1 → X.2.1 a < T.1 ∧ X.2.2 a < T.1
def thr (σ : tq_S) (τ : Nat) : Bool := bL (σ.2.1 2 (τ / 64)) (τ % 64)
theorem tq_d64 {τ : Nat} (h : τ < 2147483648) : nI τ / 64 = nI (τ / 64) := pk_div (d := 64) (by omega) (by decide) (by decide)
theorem tq_r64 {τ : Nat} (h : τ < 2147483648) : jrem (nI τ) 64 = nI (τ % 64) := pk_rem (d := 64) (by omega) (by decide) (by decide)
theorem sp_kept {T : ab_T} {X : ab_X} {σ : tq_S} (hw : wfT T) (hT : cTT T σ) (hX : cX X σ) (hx : wX T X) {w : Nat} (hw16 : w < 16) (y : Int64) :
    ∃ y', tq_fL st_Go_keptByAxioms (0, [nI w], [y], σ) = some (y', σ) ∧ ∀ i, i < 64 → (bL y' i = true ↔ bL y i = true ∧ g0 T X (w * 64 + i)) := by
  have h80 := hw.2.1
  obtain ⟨x0, x1⟩ := hX
  have hm := hx.1
  obtain ⟨y', σ', f, e1, e2⟩ := tq_fL_of (st := st_Go_keptByAxioms) (c := (0, [nI w], [y], σ)) (P := fun y' σ' => σ' = σ ∧ ∀ i, i < 64 → (bL y' i = true ↔ bL y i = true ∧ g0 T X (w * 64 + i))) (by
    refine tq_at (by decide) ?_
    show tq_wo (bk_Go_keptByAxioms_0 [nI w] [y] σ) _
    rw [bk_Go_keptByAxioms_0]
    refine wi_s ?_
    refine tq_ind 6 (fun p : Nat × Int64 => ([nI w, nI p.1], [p.2], σ)) (fun p => p.1 ≤ X.1 ∧ ∀ i, i < 64 → (bL p.2 i = true ↔ bL y i = true ∧ ∀ a, a < p.1 → vT T (X.2.1 a) (w * 64 + i) = false ∨ vT T (X.2.2 a) (w * 64 + i) = true)) (fun p => X.1 - p.1) ?_ (0, y) ⟨Nat.zero_le _, fun i hi => ⟨fun q => ⟨q, fun a ha => absurd ha (Nat.not_lt_zero _)⟩, fun q => q.1⟩⟩
    rintro ⟨a, z⟩ ⟨ha, hz⟩ ih
    dsimp only at ha hz ih ⊢
    refine tq_at (by decide) ?_
    show tq_wo (bk_Go_keptByAxioms_6 [nI w, nI a] [z] σ) _
    rw [bk_Go_keptByAxioms_6, x0]
    refine wi_c (fun q => wi_s (tq_wp_rt ⟨_, _, rfl, rfl, ?_⟩)) (fun q => ?_)
    · have : a = X.1 := by
        have := (tq_le (a := X.1) (b := a) (by omega) (by omega)).mp q
        omega
      subst this
      exact hz
    · have hlt : a < X.1 := tq_nle (by omega) (by omega) q
      have vi : vp_in (nI a) 30 := tq_vin (by omega) (by omega)
      obtain ⟨l1, l2⟩ := x1 a hlt
      obtain ⟨b1, b2⟩ := hx.2 a hlt
      simp only [ia, tq_nc (show a < 2147483648 by omega)]
      rw [l1]
      refine wi_f (fun q => absurd ((tq_le (a := 30) (b := a) (by omega) (by omega)).mp q) (by omega)) (wi_g vi (wi_o (sp_word (by omega) hT.1 b1 hw16) (wi_g vi (wi_o (by rw [l2]; exact sp_word (by omega) hT.1 b2 hw16) (wi_l (wi_l (wi_s ?_)))))))
      rw [tq_inc]
      refine ih (a + 1, _) ⟨by omega, fun i hi => ?_⟩ (by dsimp only; omega)
      have rowv : ∀ c, c < T.1 → bL (σ.2.1 0 (c * 16 + w)) i = vT T c (w * 64 + i) := fun c hc => by
        have := hT.2.2.2.2.1 c (w * 64 + i) hc (by omega)
        rw [(tq_dm hi).1, (tq_dm hi).2] at this
        exact this
      show bL (z &&& ((σ.2.1 0 (X.2.1 a * 16 + w) ^^^ (-1)) ||| σ.2.1 0 (X.2.2 a * 16 + w))) i = true ↔ bL y i = true ∧ ∀ b, b < a + 1 → _
      rw [bL_and, Bool.and_eq_true_iff, bL_or, bL_not _ hi, rowv _ b1, rowv _ b2, hz i hi]
      constructor
      · rintro ⟨⟨q1, q2⟩, q3⟩
        refine ⟨q1, fun b hb => ?_⟩
        by_cases e : b = a
        · rw [e]
          rcases Bool.or_eq_true_iff.mp q3 with q | q
          · exact Or.inl (by simpa using q)
          · exact Or.inr q
        · exact q2 b (by omega)
      · rintro ⟨q1, q2⟩
        refine ⟨⟨q1, fun b hb => q2 b (by omega)⟩, ?_⟩
        rcases q2 a (by omega) with q | q
        · rw [q]; rfl
        · rw [q]; simp)
  subst e1
  exact ⟨y', f, e2⟩
theorem sp_isThereG (σ : tq_S) {τ : Nat} (h : τ < 1024) : tq_fI st_Go_isThere (0, [nI τ], [], σ) = some (if thr σ τ then 1 else 0, σ) := by
  refine tq_fI_e (tq_at (by decide) ?_)
  show tq_wo (bk_Go_isThere_0 [nI τ] [] σ) _
  rw [bk_Go_isThere_0, tq_d64 (by omega), tq_r64 (by omega)]
  simp only [la, tq_nc (show τ / 64 < 2147483648 by omega)]
  refine wi_g (tq_vin (by omega) (by omega)) (wi_o (sp_hasBit _ (show τ % 64 < 64 by omega) σ) ?_)
  unfold thr
  cases bL (σ.2.1 2 (τ / 64)) (τ % 64) with
  | false => exact wi_b (Or.inl rfl) (wi_s (tq_wp_rt rfl))
  | true => exact wi_b (Or.inr rfl) (wi_s (tq_wp_rt rfl))
theorem sp_begin {T : ab_T} {X : ab_X} {σ : tq_S} (hw : wfT T) (hT : cTT T σ) (hX : cX X σ) (hx : wX T X) :
    ∃ σ', tq_fV st_Go_begin (0, [], [], σ) = some ((), σ') ∧ fr [11] [2] [] σ σ' ∧ (∀ τ, τ < 1024 → (thr σ' τ = true ↔ τ < 2 ^ aN T ∧ g0 T X τ)) ∧ (∀ τ, τ < 2 ^ aN T → σ'.1 11 τ = if thr σ' τ then 0 else -2) := by
  have h80 := hw.2.1
  have hm : aN T ≤ 10 := hw.2.2.1
  have hp := tq_pw1 hm
  obtain ⟨wc1, wc2, wc3⟩ := wc_le (aN T) (by omega)
  refine tq_fV_of (tq_at (by decide) ?_)
  show tq_wo (bk_Go_begin_0 [] [] σ) _
  rw [bk_Go_begin_0]
  refine wi_o (sp_wordCount hm hT.2.1) (wi_s ?_)
  refine tq_ind 10 (fun p : Nat × tq_S => ([nI (wc (aN T)), nI p.1], [], p.2)) (fun p => p.1 ≤ 16 ∧ fr [11] [2] [] σ p.2 ∧ ∀ w, w < p.1 → ∀ i, i < 64 → (bL (p.2.2.1 2 w) i = true ↔ w * 64 + i < 2 ^ aN T ∧ g0 T X (w * 64 + i))) (fun p => 16 - p.1) ?_ (0, σ) ⟨Nat.zero_le _, fr.rf _ _ _ σ, fun u h => absurd h (Nat.not_lt_zero _)⟩
  rintro ⟨w, σ1⟩ ⟨hw16, f1, g1⟩ ih
  dsimp only at hw16 f1 g1 ih ⊢
  have hT1 : cTT T σ1 := fr_c f1 (by decide) (by decide) (by decide) hT
  have hX1 : cX X σ1 := ⟨by rw [f1.2.2 2 (by decide)]; exact hX.1, fun i hi => by rw [f1.1 7 (by decide), f1.1 8 (by decide)]; exact hX.2 i hi⟩
  refine tq_at (by decide) ?_
  show tq_wo (bk_Go_begin_10 [nI (wc (aN T)), nI w] [] σ1) _
  rw [bk_Go_begin_10]
  refine wi_c (fun q => wi_o (sp_typeCount hm hT1.2.1) (wi_s ?_)) (fun q => ?_)
  · have : w = 16 := by
      have := (tq_le (a := 16) (b := w) (by omega) (by omega)).mp q
      omega
    subst this
    have th : ∀ τ, τ < 1024 → (thr σ1 τ = true ↔ τ < 2 ^ aN T ∧ g0 T X τ) := fun τ hτ => by
      have := g1 (τ / 64) (by omega) (τ % 64) (by omega)
      rw [show τ / 64 * 64 + τ % 64 = τ by omega] at this
      exact this
    refine tq_ind 59 (fun p : Nat × tq_S => ([nI (2 ^ aN T), nI p.1], [], p.2)) (fun p => p.1 ≤ 2 ^ aN T ∧ fr [11] [2] [] σ p.2 ∧ p.2.2.1 2 = σ1.2.1 2 ∧ ∀ τ, τ < p.1 → p.2.1 11 τ = if thr σ1 τ then 0 else -2) (fun p => 2 ^ aN T - p.1) ?_ (0, σ1) ⟨Nat.zero_le _, f1, rfl, fun u h => absurd h (Nat.not_lt_zero _)⟩
    rintro ⟨τ, σ2⟩ ⟨hτ, f2, e2, g2⟩ ih2
    dsimp only at hτ f2 e2 g2 ih2 ⊢
    have tq2 : ∀ τ, thr σ2 τ = thr σ1 τ := fun τ => by unfold thr; rw [e2]
    refine tq_at (by decide) ?_
    show tq_wo (bk_Go_begin_59 [nI (2 ^ aN T), nI τ] [] σ2) _
    rw [bk_Go_begin_59]
    refine wi_c (fun q => wi_s (tq_wp_rt ⟨_, rfl, ?_⟩)) (fun q => ?_)
    · have : τ = 2 ^ aN T := by
        have := (tq_le (a := 2 ^ aN T) (b := τ) (by omega) (by omega)).mp q
        omega
      refine ⟨f2, fun τ hτ => by rw [tq2]; exact th τ hτ, fun t ht => by rw [tq2]; exact g2 t (by omega)⟩
    · have hlt : τ < 2 ^ aN T := tq_nle (by omega) (by omega) q
      refine wi_f (fun q => absurd ((tq_le (a := 1024) (b := τ) (by omega) (by omega)).mp q) (by omega)) (wi_o (sp_isThereG σ2 (by omega)) ?_)
      rw [tq_nc (by omega)]
      have vi : vp_in (nI τ) 1024 := tq_vin (by omega) (by omega)
      have nx : ∀ z, z = (if thr σ1 τ then (0 : Int32) else -2) → tq_wp st_Go_begin (fun d => ∃ σ', d = (tq_rt, [], [], σ') ∧ fr [11] [2] [] σ σ' ∧ (∀ τ, τ < 1024 → (thr σ' τ = true ↔ τ < 2 ^ aN T ∧ g0 T X τ)) ∧ (∀ τ, τ < 2 ^ aN T → σ'.1 11 τ = if thr σ' τ then 0 else -2)) (59, [nI (2 ^ aN T), nI τ + 1], [], iput σ2 11 τ z) := by
        intro z hz
        rw [tq_inc]
        refine ih2 (τ + 1, iput σ2 11 τ z) ⟨by omega, f2.tr (fr.i (by decide)), e2, fun t ht => ?_⟩ (by dsimp only; omega)
        show (iput σ2 11 τ z).1 11 t = _
        dsimp only at ht
        rw [iput_s]
        by_cases e : t = τ
        · rw [if_pos e, e]; exact hz
        · rw [if_neg e]; exact g2 t (by omega)
      rw [tq2]
      cases hv : thr σ1 τ with
      | false => exact wi_t rfl (wi_g vi (wi_l (wi_l (wi_s (nx (-2) (by rw [hv]; rfl))))))
      | true => exact wi_f (by decide) (wi_g vi (wi_l (wi_l (wi_s (nx 0 (by rw [hv]; rfl))))))
  · have hlt : w < 16 := tq_nle (a := 16) (by omega) (by omega) q
    have vi : vp_in (nI w) 16 := tq_vin hlt (by omega)
    rw [tq_nc (by omega)]
    have nx : ∀ z, (∀ i, i < 64 → (bL z i = true ↔ w * 64 + i < 2 ^ aN T ∧ g0 T X (w * 64 + i))) → tq_wp st_Go_begin (fun d => ∃ σ', d = (tq_rt, [], [], σ') ∧ fr [11] [2] [] σ σ' ∧ (∀ τ, τ < 1024 → (thr σ' τ = true ↔ τ < 2 ^ aN T ∧ g0 T X τ)) ∧ (∀ τ, τ < 2 ^ aN T → σ'.1 11 τ = if thr σ' τ then 0 else -2)) (10, [nI (wc (aN T)), nI w + 1], [], lput σ1 2 w z) := by
      intro z hz
      rw [tq_inc]
      refine ih (w + 1, lput σ1 2 w z) ⟨by omega, f1.tr (fr.l (by decide)), fun u hu i hi => ?_⟩ (by dsimp only; omega)
      show bL ((lput σ1 2 w z).2.1 2 u) i = true ↔ _
      dsimp only at hu
      rw [lput_s]
      by_cases e : u = w
      · rw [if_pos e, e]; exact hz i hi
      · rw [if_neg e]; exact g1 u (by omega) i hi
    refine wi_c (fun q => wi_g vi (wi_l (wi_l (wi_s (nx 0 (fun i hi => ?_)))))) (fun q => ?_)
    · have hge : wc (aN T) ≤ w := (tq_le (by omega) (by omega)).mp q
      rw [bL_0]
      refine ⟨fun z => (by cases z), fun z => ?_⟩
      have := wc3 _ z.1
      rw [(tq_dm hi).1] at this
      omega
    · have hlt2 : w < wc (aN T) := tq_nle (by omega) (by omega) q
      obtain ⟨y, y1, y2⟩ := sp_typesInWord hm hT1.2.1
      obtain ⟨y', k1, k2⟩ := sp_kept hw hT1 hX1 hx hlt y
      refine wi_o y1 (wi_o k1 (wi_g vi (wi_l (wi_l (wi_s (nx y' (fun i hi => ?_)))))))
      rw [k2 i hi, y2 w hlt2 i hi, decide_eq_true_iff]
