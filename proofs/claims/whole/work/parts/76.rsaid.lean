/-! the reference: isSaid, isLeft -/
/-- what the links between thing i of type t and thing j of type u ask, one way -/
def lkS (T : ab_T) (rl : Nat → Nat → Bool) (M : ab_L) (i j t u : Nat) : Prop := ∀ l, l < M.1 → M.2.1 l = i → M.2.2.2 l = j → seesP T rl t u (M.2.2.1 l)
/-- what the reference stands on when it searches -/
def rK (T : ab_T) (rl : Nat → Nat → Bool) (B : ab_X) (M : ab_L) (σ : tq_S) : Prop := mTT T σ ∧ mU rl σ ∧ mH T σ ∧ mO T σ ∧ mB B σ ∧ mL M σ
theorem rK_fr {T : ab_T} {rl : Nat → Nat → Bool} {B : ab_X} {M : ab_L} {σ σ' : tq_S} (h : rK T rl B M σ) (f : fr [33, 34] [] [] σ σ') : rK T rl B M σ' := by
  obtain ⟨h1, h2, h3, h4, h5, h6⟩ := h
  refine ⟨mT_fr h1 f (by decide) (by decide) (by decide) (by decide) (by decide) (by decide), fun r s hr hs => ?_, fun t c ht hc => ?_, fun t ht j hj => ?_, ⟨?_, fun k hk => ?_⟩, ⟨?_, fun k hk => ?_⟩⟩
  · rw [f.1 32 (by decide)]; exact h2 r s hr hs
  · rw [f.1 29 (by decide)]; exact h3 t c ht hc
  · rw [f.1 30 (by decide)]; exact h4 t ht j hj
  · rw [f.2.2 16 (by decide)]; exact h5.1
  · rw [f.1 24 (by decide), f.1 25 (by decide)]; exact h5.2 k hk
  · rw [f.2.2 17 (by decide)]; exact h6.1
  · rw [f.1 26 (by decide), f.1 27 (by decide), f.1 28 (by decide)]; exact h6.2 k hk
theorem mo_isSaid {T : ab_T} {rl : Nat → Nat → Bool} {B : ab_X} {M : ab_L} {σ : tq_S} (hw : wfT T) (hK : rK T rl B M σ) (hwB : wB T B) (hwM : wM M) {i t : Nat} (hi : i < 5) (ht : t < 2 ^ aN T) :
    tq_fI st_Mo_isSaid (0, [nI i, nI t], [], σ) = some (iB (cD (saidP T B i t ∧ lkS T rl M i i t t)), σ) := by
  have hm : aN T ≤ 10 := hw.2.2.1
  have hp := tq_pw1 hm
  have h80 := hw.2.1
  obtain ⟨hT, hU, hH, hO, hB, hL⟩ := hK
  have hb40 := hwB.1
  have hm40 := hwM.1
  refine tq_fI_e (tq_at (by decide) ?_)
  show tq_wo (bk_Mo_isSaid_0 [nI i, nI t] [] σ) _
  rw [bk_Mo_isSaid_0]
  refine wi_s ?_
  -- the links to itself
  have at59 : ∀ b : Bool, (b = true ↔ saidP T B i t) → tq_wp st_Mo_isSaid (fun d => d = (tq_rt, [iB (cD (saidP T B i t ∧ lkS T rl M i i t t))], [], σ)) (59, [nI i, nI t, iB b, 0], [], σ) := by
    intro b hb
    refine tq_ind 59 (fun p : Bool × Nat => ([nI i, nI t, iB p.1, nI p.2], [], σ)) (fun p => p.2 ≤ M.1 ∧ (p.1 = true ↔ saidP T B i t ∧ ∀ l, l < p.2 → M.2.1 l = i → M.2.2.2 l = i → seesP T rl t t (M.2.2.1 l))) (fun p => M.1 - p.2) ?_ (b, 0) ⟨Nat.zero_le _, hb.trans ⟨fun q => ⟨q, fun l hl => absurd hl (Nat.not_lt_zero _)⟩, fun q => q.1⟩⟩
    rintro ⟨b, l⟩ ⟨hl, hb⟩ ih
    dsimp only at hl hb ih ⊢
    refine tq_at (by decide) ?_
    show tq_wo (bk_Mo_isSaid_59 [nI i, nI t, iB b, nI l] [] σ) _
    rw [bk_Mo_isSaid_59, hL.1]
    refine wi_c (fun q => wi_b (iB_01 b) (wi_s (tq_wp_rt ?_))) (fun q => ?_)
    · have : l = M.1 := by
        have := (tq_le (a := M.1) (b := l) (by omega) (by omega)).mp q
        omega
      subst this
      have : b = cD (saidP T B i t ∧ lkS T rl M i i t t) := by
        cases b with
        | true => exact (cD_t.mpr (hb.mp rfl)).symm
        | false => exact (cD_f.mpr (fun z => by have := hb.mpr z; cases this)).symm
      rw [this]
    · have hlt : l < M.1 := tq_nle (b := l) (a := M.1) (by omega) (by omega) q
      cases b with
      | false =>
        refine wi_t rfl (wi_b (Or.inl rfl) (wi_s (tq_wp_rt ?_)))
        have : cD (saidP T B i t ∧ lkS T rl M i i t t) = false := cD_f.mpr (fun z => by
          have := hb.mpr ⟨z.1, fun l _ => z.2 l (by omega)⟩
          cases this)
        rw [this]
      | true =>
        obtain ⟨e1, e2, e3⟩ := hL.2 l hlt
        obtain ⟨b1, b2, b3⟩ := hwM.2 l hlt
        have vl : vp_in (nI l) 40 := tq_vin (by omega) (by omega)
        have hb := hb.mp rfl
        simp only [ia]
        rw [tq_nc (by omega), e1, e2, e3]
        have nx : ∀ b' : Bool, (b' = true ↔ (M.2.1 l = i → M.2.2.2 l = i → seesP T rl t t (M.2.2.1 l))) → tq_wp st_Mo_isSaid (fun d => d = (tq_rt, [iB (cD (saidP T B i t ∧ lkS T rl M i i t t))], [], σ)) (59, [nI i, nI t, iB b', nI l + 1], [], σ) := by
          intro b' hb'
          rw [tq_inc]
          refine ih (b', l + 1) ⟨by dsimp only; omega, ?_⟩ (by dsimp only; omega)
          dsimp only
          rw [hb']
          constructor
          · intro q
            refine ⟨hb.1, fun k hk => ?_⟩
            by_cases e : k = l
            · subst e; exact q
            · exact hb.2 k (by omega)
          · intro q; exact q.2 l (by omega)
        refine wi_f (by decide) (wi_g vl (wi_c (fun q => wi_l (wi_s (nx true ⟨fun _ z => absurd (by rw [z]) q, fun _ => rfl⟩))) (fun q => wi_g vl (wi_c (fun q2 => wi_l (wi_s (nx true ⟨fun _ _ z => absurd (by rw [z]) q2, fun _ => rfl⟩))) (fun q2 => wi_g vl (wi_o (mo_sees hw hT hU hO ht ht b2) ?_))))))
        have c1 := (tq_eq (by omega) (by omega)).mp (Classical.not_not.mp q)
        have c2 := (tq_eq (by omega) (by omega)).mp (Classical.not_not.mp q2)
        cases hs : cD (seesP T rl t t (M.2.2.1 l)) with
        | false => exact wi_t rfl (wi_l (wi_s (nx false ⟨fun z => (by cases z), fun z => absurd (z c1 c2) (cD_f.mp hs)⟩)))
        | true => exact wi_f (by decide) (wi_l (wi_s (nx true ⟨fun _ _ _ => cD_t.mp hs, fun _ => rfl⟩)))
  -- what is said
  refine tq_ind 5 (fun p : Bool × Nat => ([nI i, nI t, iB p.1, nI p.2], [], σ)) (fun p => p.2 ≤ B.1 ∧ (p.1 = true ↔ ∀ k, k < p.2 → B.2.1 k = i → vT T (B.2.2 k) t = true)) (fun p => B.1 - p.2) ?_ (true, 0) ⟨Nat.zero_le _, ⟨fun _ k hk => absurd hk (Nat.not_lt_zero _), fun _ => rfl⟩⟩
  rintro ⟨b, k⟩ ⟨hk, hb⟩ ih
  dsimp only at hk hb ih ⊢
  refine tq_at (by decide) ?_
  show tq_wo (bk_Mo_isSaid_5 [nI i, nI t, iB b, nI k] [] σ) _
  rw [bk_Mo_isSaid_5, hB.1]
  refine wi_c (fun q => wi_s (at59 b ?_)) (fun q => ?_)
  · have : k = B.1 := by
      have := (tq_le (a := B.1) (b := k) (by omega) (by omega)).mp q
      omega
    subst this
    exact hb
  · have hlt : k < B.1 := tq_nle (b := k) (a := B.1) (by omega) (by omega) q
    cases b with
    | false =>
      refine wi_t rfl (wi_s (at59 false ⟨fun z => (by cases z), fun z => ?_⟩))
      have := hb.mpr (fun j hj => z j (by omega))
      cases this
    | true =>
      obtain ⟨e1, e2⟩ := hB.2 k hlt
      obtain ⟨b1, b2⟩ := hwB.2 k hlt
      have vl : vp_in (nI k) 40 := tq_vin (by omega) (by omega)
      have hb := hb.mp rfl
      simp only [ia]
      rw [tq_nc (by omega), e1, e2]
      have nx : ∀ b' : Bool, (b' = true ↔ (B.2.1 k = i → vT T (B.2.2 k) t = true)) → tq_wp st_Mo_isSaid (fun d => d = (tq_rt, [iB (cD (saidP T B i t ∧ lkS T rl M i i t t))], [], σ)) (5, [nI i, nI t, iB b', nI k + 1], [], σ) := by
        intro b' hb'
        rw [tq_inc]
        refine ih (b', k + 1) ⟨by dsimp only; omega, ?_⟩ (by dsimp only; omega)
        dsimp only
        rw [hb']
        constructor
        · intro q j hj
          by_cases e : j = k
          · subst e; exact q
          · exact hb j (by omega)
        · intro q; exact q k (by omega)
      refine wi_f (by decide) (wi_g vl (wi_c (fun q => wi_l (wi_s (nx true ⟨fun _ z => absurd (by rw [z]) q, fun _ => rfl⟩))) (fun q => wi_g vl (wi_o (mo_isHeld (by omega) (by omega) (hH t _ ht b2)) ?_))))
      have c1 := (tq_eq (by omega) (by omega)).mp (Classical.not_not.mp q)
      cases hs : vT T (B.2.2 k) t with
      | false => exact wi_t rfl (wi_l (wi_s (nx false ⟨fun z => (by cases z), fun z => by rw [z c1] at hs; cases hs⟩)))
      | true => exact wi_f (by decide) (wi_l (wi_s (nx true ⟨fun _ _ => hs, fun _ => rfl⟩)))
theorem mo_atp (d j u : Nat) (σ : tq_S) : tq_fI st_Mo_at (0, [nI d, nI j, nI u], [], σ) = some (nI (1024 * (5 * d + j) + u), σ) := by
  refine tq_fI_e (tq_at (by decide) ?_)
  show tq_wo (bk_Mo_at_0 [nI d, nI j, nI u] [] σ) _
  rw [bk_Mo_at_0]
  refine wi_s (tq_wp_rt ?_)
  rw [show (5 : Int32) * nI d = nI (5 * d) from pk_mul 5 d, nI_add, show (1024 : Int32) * nI (5 * d + j) = nI (1024 * (5 * d + j)) from pk_mul 1024 _, nI_add]
def Cp (T : ab_T) (rl : Nat → Nat → Bool) (M : ab_L) (i j t u : Nat) : Prop := lkS T rl M i j t u ∧ lkS T rl M j i u t
theorem mo_isLeft {T : ab_T} {rl : Nat → Nat → Bool} {B : ab_X} {M : ab_L} {σ : tq_S} (hw : wfT T) (hK : rK T rl B M σ) (hwM : wM M) {i t : Nat} (hi : i < 5) (ht : t < 2 ^ aN T) (f : Nat → Nat → Prop) (hf : ∀ j u, i < j → j < 5 → u < 2 ^ aN T → σ.1 33 (1024 * (5 * i + j) + u) = iB (cD (f j u))) :
    ∃ b σ', tq_fI st_Mo_isLeft (0, [nI i, nI t], [], σ) = some (iB b, σ') ∧ fr [33] [] [] σ σ' ∧ (∀ p, p < 1024 * (5 * (i + 1)) → σ'.1 33 p = σ.1 33 p) ∧ (b = false → ∃ j, i < j ∧ j < 5 ∧ ∀ u, u < 2 ^ aN T → ¬ (f j u ∧ Cp T rl M i j t u)) ∧ (b = true → ∀ j u, i < j → j < 5 → u < 2 ^ aN T → σ'.1 33 (1024 * (5 * (i + 1) + j) + u) = iB (cD (f j u ∧ Cp T rl M i j t u))) := by
  have hm : aN T ≤ 10 := hw.2.2.1
  have hp := tq_pw1 hm
  have hm40 := hwM.1
  obtain ⟨N, hN⟩ : ∃ N, N = 2 ^ aN T := ⟨_, rfl⟩
  obtain ⟨r, σ', g1, b, rfl, g2⟩ := tq_fI_of (st := st_Mo_isLeft) (c := (0, [nI i, nI t], [], σ)) (P := fun r σ' => ∃ b, r = iB b ∧ fr [33] [] [] σ σ' ∧ (∀ p, p < 1024 * (5 * (i + 1)) → σ'.1 33 p = σ.1 33 p) ∧ (b = false → ∃ j, i < j ∧ j < 5 ∧ ∀ u, u < 2 ^ aN T → ¬ (f j u ∧ Cp T rl M i j t u)) ∧ (b = true → ∀ j u, i < j → j < 5 → u < 2 ^ aN T → σ'.1 33 (1024 * (5 * (i + 1) + j) + u) = iB (cD (f j u ∧ Cp T rl M i j t u)))) (by
    refine tq_wpQ (fun Q hQ => tq_at (by decide) ?_)
    rw [← hN] at ht hf hQ hp
    show tq_wo (bk_Mo_isLeft_0 [nI i, nI t] [] σ) _
    rw [bk_Mo_isLeft_0]
    refine wi_l (wi_s ?_)
    rw [tq_inc]
    refine tq_ind 7 (fun p : Bool × Nat × tq_S => ([nI i, nI t, iB p.1, nI p.2.1], [], p.2.2)) (fun p => i < p.2.1 ∧ p.2.1 ≤ 5 ∧ fr [33] [] [] σ p.2.2 ∧ (∀ q, q < 1024 * (5 * (i + 1)) → p.2.2.1 33 q = σ.1 33 q) ∧ (p.1 = false → ∃ j, i < j ∧ j < 5 ∧ ∀ u, u < N → ¬ (f j u ∧ Cp T rl M i j t u)) ∧ (p.1 = true → ∀ j u, i < j → j < p.2.1 → u < N → p.2.2.1 33 (1024 * (5 * (i + 1) + j) + u) = iB (cD (f j u ∧ Cp T rl M i j t u)))) (fun p => 5 - p.2.1) ?_ (true, i + 1, σ) ⟨by dsimp only; omega, by dsimp only; omega, fr.rf _ _ _ σ, fun _ _ => rfl, fun z => (by cases z), fun _ j u h1 h2 => by dsimp only at h2; omega⟩
    rintro ⟨b, j, σ1⟩ ⟨hij, hj, f1, o1, n1, y1⟩ ih
    dsimp only at hij hj f1 o1 n1 y1 ih ⊢
    refine tq_at (by decide) ?_
    show tq_wo (bk_Mo_isLeft_7 [nI i, nI t, iB b, nI j] [] σ1) _
    rw [bk_Mo_isLeft_7]
    refine wi_c (fun q => wi_b (iB_01 b) (wi_s (tq_wp_rt (hQ _ ⟨_, _, rfl, b, rfl, f1, o1, n1, ?_⟩)))) (fun q => ?_)
    · have : j = 5 := by
        have := (tq_le (a := 5) (b := j) (by omega) (by omega)).mp q
        omega
      subst this
      exact y1
    · have hj5 : j < 5 := tq_nle (b := j) (a := 5) (by omega) (by omega) q
      cases b with
      | false => exact wi_t rfl (wi_b (Or.inl rfl) (wi_s (tq_wp_rt (hQ _ ⟨_, _, rfl, false, rfl, f1, o1, n1, fun z => (by cases z)⟩))))
      | true =>
        have y1 := y1 rfl
        refine wi_f (by decide) (wi_s ?_)
        refine tq_ind 23 (fun p : Bool × Nat × tq_S => ([nI i, nI t, nI j, iB p.1, nI p.2.1], [], p.2.2)) (fun p => p.2.1 ≤ N ∧ fr [33] [] [] σ p.2.2 ∧ (∀ q, q < 1024 * (5 * (i + 1) + j) → p.2.2.1 33 q = σ1.1 33 q) ∧ (p.1 = true ↔ ∃ u, u < p.2.1 ∧ f j u ∧ Cp T rl M i j t u) ∧ (∀ u, u < p.2.1 → p.2.2.1 33 (1024 * (5 * (i + 1) + j) + u) = iB (cD (f j u ∧ Cp T rl M i j t u)))) (fun p => N - p.2.1) ?_ (false, 0, σ1) ⟨Nat.zero_le _, f1, fun _ _ => rfl, ⟨fun z => (by cases z), fun ⟨u, hu, _⟩ => absurd hu (Nat.not_lt_zero _)⟩, fun u hu => absurd hu (Nat.not_lt_zero _)⟩
        rintro ⟨e, u, σ2⟩ ⟨hu, f2, o2, e2, y2⟩ ih2
        dsimp only at hu f2 o2 e2 y2 ih2 ⊢
        have hK2 : rK T rl B M σ2 := rK_fr hK (f2.wk (by decide) (by decide) (by decide))
        obtain ⟨hT2, hU2, hH2, hO2, hB2, hL2⟩ := hK2
        have sz := mo_size hw hT2
        rw [← hN] at sz
        refine tq_at (by decide) ?_
        show tq_wo (bk_Mo_isLeft_23 [nI i, nI t, nI j, iB e, nI u] [] σ2) _
        rw [bk_Mo_isLeft_23]
        refine wi_o sz (wi_c (fun q => wi_l (wi_s ?_)) (fun q => ?_))
        · have : u = N := by
            have := (tq_le (a := N) (b := u) (by omega) (by omega)).mp q
            omega
          subst this
          rw [tq_inc]
          refine ih (e, j + 1, σ2) ⟨by dsimp only; omega, by dsimp only; omega, f2, fun q hq => by rw [o2 q (by omega), o1 q hq], fun z => ?_, fun z k v hk hk2 hv => ?_⟩ (by dsimp only; omega)
          · exact ⟨j, hij, hj5, fun v hv hc => by have := e2.mpr ⟨v, hv, hc⟩; dsimp only at z; rw [z] at this; cases this⟩
          · dsimp only at hk2 ⊢
            by_cases ek : k = j
            · subst ek; exact y2 v hv
            · rw [o2 _ (by omega)]; exact y1 k v hk (by omega) hv
        · have huN : u < N := tq_nle (b := u) (a := N) (by omega) (by omega) q
          have v33 : σ2.1 33 (1024 * (5 * i + j) + u) = iB (cD (f j u)) := by rw [o2 _ (by omega), o1 _ (by omega)]; exact hf j u hij hj5 huN
          refine wi_o (mo_atp i j u σ2) (wi_g (tq_vin (by omega) (by omega)) (wi_l (wi_s ?_)))
          simp only [ia]
          rw [tq_nc (by omega), v33]
          -- the last step of a type
          have at151 : ∀ c : Bool, (c = true ↔ f j u ∧ Cp T rl M i j t u) → tq_wp st_Mo_isLeft Q (151, [nI i, nI t, nI j, iB e, nI u, iB c], [], σ2) := by
            intro c hc
            have hcD : iB c = iB (cD (f j u ∧ Cp T rl M i j t u)) := by
              congr 1
              cases c with
              | true => exact (cD_t.mpr (hc.mp rfl)).symm
              | false => exact (cD_f.mpr (fun z => by have := hc.mpr z; cases this)).symm
            refine tq_at (by decide) ?_
            show tq_wo (bk_Mo_isLeft_151 [nI i, nI t, nI j, iB e, nI u, iB c] [] σ2) _
            rw [bk_Mo_isLeft_151, tq_inc, jz_i]
            have nx : ∀ e' : Bool, (e' = true ↔ e = true ∨ c = true) → tq_wp st_Mo_isLeft Q (23, [nI i, nI t, nI j, iB e', nI u + 1], [], iput σ2 33 (1024 * (5 * (i + 1) + j) + u) (iB c)) := by
              intro e' he'
              rw [tq_inc]
              refine ih2 (e', u + 1, iput σ2 33 (1024 * (5 * (i + 1) + j) + u) (iB c)) ⟨by dsimp only; omega, f2.tr (fr.i (by decide)), fun q hq => ?_, ?_, fun v hv => ?_⟩ (by dsimp only; omega)
              · dsimp only
                rw [iput_s, if_neg (by omega)]; exact o2 q hq
              · dsimp only
                rw [he', e2, hc]
                constructor
                · rintro (⟨v, v1, v2⟩ | z)
                  · exact ⟨v, by omega, v2⟩
                  · exact ⟨u, by omega, z⟩
                · rintro ⟨v, v1, v2⟩
                  by_cases ev : v = u
                  · subst ev; exact Or.inr v2
                  · exact Or.inl ⟨v, by omega, v2⟩
              · dsimp only at hv ⊢
                rw [iput_s]
                by_cases ev : v = u
                · rw [if_pos (by omega), ev]; exact hcD
                · rw [if_neg (by omega)]; exact y2 v (by omega)
            refine wi_o (mo_atp (i + 1) j u σ2) (wi_g (tq_vin (by omega) (by omega)) (wi_l ?_))
            rw [tq_nc (by omega)]
            cases e with
            | true => exact wi_t (by decide) (wi_l (wi_s (nx true ⟨fun _ => Or.inl rfl, fun _ => rfl⟩)))
            | false =>
              refine wi_f (fun z => z rfl) ?_
              cases c with
              | false => exact wi_t rfl (wi_l (wi_s (nx false ⟨fun z => (by cases z), fun z => z.elim id id⟩)))
              | true => exact wi_f (by decide) (wi_l (wi_s (nx true ⟨fun _ => Or.inr rfl, fun _ => rfl⟩)))
          refine tq_ind 50 (fun p : Bool × Nat => ([nI i, nI t, nI j, iB e, nI u, iB p.1, nI p.2], [], σ2)) (fun p => p.2 ≤ M.1 ∧ (p.1 = true ↔ f j u ∧ ∀ l, l < p.2 → (M.2.1 l = i → M.2.2.2 l = j → seesP T rl t u (M.2.2.1 l)) ∧ (M.2.1 l = j → M.2.2.2 l = i → seesP T rl u t (M.2.2.1 l)))) (fun p => M.1 - p.2) ?_ (cD (f j u), 0) ⟨Nat.zero_le _, cD_t.trans ⟨fun z => ⟨z, fun l hl => absurd hl (Nat.not_lt_zero _)⟩, fun z => z.1⟩⟩
          rintro ⟨c, l⟩ ⟨hl, hc⟩ ih3
          dsimp only at hl hc ih3 ⊢
          refine tq_at (by decide) ?_
          show tq_wo (bk_Mo_isLeft_50 [nI i, nI t, nI j, iB e, nI u, iB c, nI l] [] σ2) _
          rw [bk_Mo_isLeft_50, hL2.1]
          refine wi_c (fun q => wi_s (at151 c ?_)) (fun q => ?_)
          · have : l = M.1 := by
              have := (tq_le (a := M.1) (b := l) (by omega) (by omega)).mp q
              omega
            subst this
            rw [hc]
            exact ⟨fun z => ⟨z.1, fun k hk => (z.2 k hk).1, fun k hk => (z.2 k hk).2⟩, fun z => ⟨z.1, fun k hk => ⟨z.2.1 k hk, z.2.2 k hk⟩⟩⟩
          · have hlt : l < M.1 := tq_nle (b := l) (a := M.1) (by omega) (by omega) q
            cases c with
            | false =>
              refine wi_t rfl (wi_s (at151 false ⟨fun z => (by cases z), fun z => ?_⟩))
              have := hc.mpr ⟨z.1, fun k hk => ⟨z.2.1 k (by omega), z.2.2 k (by omega)⟩⟩
              cases this
            | true =>
              obtain ⟨e1, e2', e3⟩ := hL2.2 l hlt
              obtain ⟨b1, b2, b3⟩ := hwM.2 l hlt
              have vl : vp_in (nI l) 40 := tq_vin (by omega) (by omega)
              have hc := hc.mp rfl
              rw [hN] at ht huN
              simp only [ia]
              rw [tq_nc (by omega), e1, e2', e3]
              have nx : ∀ c' : Bool, (c' = true ↔ (M.2.1 l = i → M.2.2.2 l = j → seesP T rl t u (M.2.2.1 l)) ∧ (M.2.1 l = j → M.2.2.2 l = i → seesP T rl u t (M.2.2.1 l))) → tq_wp st_Mo_isLeft Q (50, [nI i, nI t, nI j, iB e, nI u, iB c', nI l + 1], [], σ2) := by
                intro c' hc'
                rw [tq_inc]
                refine ih3 (c', l + 1) ⟨by dsimp only; omega, ?_⟩ (by dsimp only; omega)
                dsimp only
                rw [hc']
                constructor
                · intro z
                  refine ⟨hc.1, fun k hk => ?_⟩
                  by_cases ek : k = l
                  · subst ek; exact z
                  · exact hc.2 k (by omega)
                · intro z; exact z.2 l (by omega)
              have at106 : ¬ (M.2.1 l = i ∧ M.2.2.2 l = j) → tq_wp st_Mo_isLeft Q (106, [nI i, nI t, nI j, iB e, nI u, iB true, nI l], [], σ2) := by
                intro hne
                refine tq_at (by decide) ?_
                show tq_wo (bk_Mo_isLeft_106 [nI i, nI t, nI j, iB e, nI u, iB true, nI l] [] σ2) _
                rw [bk_Mo_isLeft_106]
                simp only [ia]
                rw [tq_nc (by omega), e1, e2', e3]
                refine wi_g vl (wi_c (fun q => wi_l (wi_s (nx true ⟨fun _ => ⟨fun z1 z2 => absurd ⟨z1, z2⟩ hne, fun z => absurd (by rw [z]) q⟩, fun _ => rfl⟩))) (fun q => wi_g vl (wi_c (fun q2 => wi_l (wi_s (nx true ⟨fun _ => ⟨fun z1 z2 => absurd ⟨z1, z2⟩ hne, fun _ z => absurd (by rw [z]) q2⟩, fun _ => rfl⟩))) (fun q2 => wi_g vl (wi_o (mo_sees hw hT2 hU2 hO2 huN ht b2) (wi_l (wi_s (nx _ ?_))))))))
                have c1 := (tq_eq (by omega) (by omega)).mp (Classical.not_not.mp q)
                have c2 := (tq_eq (by omega) (by omega)).mp (Classical.not_not.mp q2)
                rw [cD_t]
                exact ⟨fun z => ⟨fun z1 z2 => absurd ⟨z1, z2⟩ hne, fun _ _ => z⟩, fun z => z.2 c1 c2⟩
              refine wi_f (by decide) (wi_g vl (wi_c (fun q => wi_s (at106 (fun z => absurd (by rw [z.1]) q))) (fun q => wi_g vl (wi_c (fun q2 => wi_s (at106 (fun z => absurd (by rw [z.2]) q2))) (fun q2 => wi_g vl (wi_o (mo_sees hw hT2 hU2 hO2 ht huN b2) (wi_l (wi_s (nx _ ?_)))))))))
              have c1 := (tq_eq (by omega) (by omega)).mp (Classical.not_not.mp q)
              have c2 := (tq_eq (by omega) (by omega)).mp (Classical.not_not.mp q2)
              rw [cD_t]
              exact ⟨fun z => ⟨fun _ _ => z, fun z1 => absurd (z1.symm.trans c1) (by omega)⟩, fun z => z.1 c1 c2⟩)
  exact ⟨b, σ', g1, g2⟩
