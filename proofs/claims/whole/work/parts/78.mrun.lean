/-! the reference: search as a whole; run, model, surely -/
def f0P (T : ab_T) (X : ab_X) (rl : Nat → Nat → Bool) (B : ab_X) (M : ab_L) (x : Int32) (c j u : Nat) : Prop := GG T X rl u ∧ (saidP T B j u ∧ lkS T rl M j j u u) ∧ (x = nI j → vT T c u = false)
theorem RR_iff {T : ab_T} {X : ab_X} {rl : Nat → Nat → Bool} {B : ab_X} {M : ab_L} (hM : wM M) {x : Int32} {c : Nat} {a : Nat → Nat} : RR (2 ^ aN T) (f0P T X rl B M x c) (Cp T rl M) a ↔ Mo T X rl B M a ∧ ∀ j, j < 5 → x = nI j → vT T c (a j) = false := by
  constructor
  · rintro ⟨h1, h2⟩
    refine ⟨⟨fun i hi => ⟨(h1 i hi).2.1, (h1 i hi).2.2.1.1⟩, fun k hk => ?_⟩, fun j hj => (h1 j hj).2.2.2⟩
    obtain ⟨k1, k2, k3⟩ := hM.2 k hk
    rcases Nat.lt_trichotomy (M.2.1 k) (M.2.2.2 k) with q | q | q
    · exact (h2 _ _ q k3).1 k hk rfl rfl
    · have := (h1 _ k1).2.2.1.2 k hk rfl q.symm
      rw [← q]; exact this
    · exact (h2 _ _ q k1).2 k hk rfl rfl
  · rintro ⟨⟨h1, h2⟩, h3⟩
    have ls : ∀ i j, lkS T rl M i j (a i) (a j) := fun i j l hl l1 l2 => by
      have := h2 l hl
      rw [l1, l2] at this; exact this
    exact ⟨fun i hi => ⟨GG_lt (h1 i hi).1, (h1 i hi).1, ⟨(h1 i hi).2, ls i i⟩, h3 i hi⟩, fun i j _ _ => ⟨ls i j, ls j i⟩⟩
theorem mo_search {T : ab_T} {X : ab_X} {rl : Nat → Nat → Bool} {B : ab_X} {M : ab_L} {σ : tq_S} (hw : wfT T) (hx : wX T X) (hT : mTT T σ) (hX : mX X σ) (hR : mR rl σ) (hK : mK T X rl σ) (hB : mB B σ) (hL : mL M σ) (hwB : wB T B) (hwM : wM M) (x : Int32) {c : Nat} (hc : c < T.1) :
    ∃ b σ', tq_fI st_Mo_search (0, [x, nI c], [], σ) = some (iB b, σ') ∧ fr [29, 30, 31, 32, 33, 34] [] [18, 19] σ σ' ∧ mK T X rl σ' ∧
      (b = true → ∃ m, RR (2 ^ aN T) (f0P T X rl B M x c) (Cp T rl M) m ∧ (∀ e, e < 5 → σ'.1 34 e = nI (m e)) ∧ ∀ a, RR (2 ^ aN T) (f0P T X rl B M x c) (Cp T rl M) a → ∀ d, d < 5 → (∀ e, e < d → a e = m e) → m d ≤ a d) ∧
      (b = false → ∀ a, ¬ RR (2 ^ aN T) (f0P T X rl B M x c) (Cp T rl M) a) := by
  have hm : aN T ≤ 10 := hw.2.2.1
  have hp := tq_pw1 hm
  have h80 := hw.2.1
  obtain ⟨σ1, a1, a2, a3⟩ := mo_work hw hx hT hX hR hK
  have hT1 : mTT T σ1 := mT_fr hT a2 (by decide) (by decide) (by decide) (by decide) (by decide) (by decide)
  have hK1 : rK T rl B M σ1 := ⟨hT1, a3.1, a3.2.1, a3.2.2.1, ⟨by rw [a2.2.2 16 (by decide)]; exact hB.1, fun k hk => by rw [a2.1 24 (by decide), a2.1 25 (by decide)]; exact hB.2 k hk⟩, ⟨by rw [a2.2.2 17 (by decide)]; exact hL.1, fun k hk => by rw [a2.1 26 (by decide), a2.1 27 (by decide), a2.1 28 (by decide)]; exact hL.2 k hk⟩⟩
  have mKf : ∀ σ', fr [33, 34] [] [] σ1 σ' → mK T X rl σ' := fun σ' f _ => by
    obtain ⟨q1, q2, q3, ρ, q4, q5, q6⟩ := a3
    have hk := rK_fr hK1 f
    exact ⟨hk.2.1, hk.2.2.1, hk.2.2.2.1, ρ, q4, by rw [f.2.2 19 (by decide)]; exact q5, fun t ht => by rw [f.1 31 (by decide)]; exact q6 t ht⟩
  have wkf : ∀ σ', fr [33, 34] [] [] σ1 σ' → fr [29, 30, 31, 32, 33, 34] [] [18, 19] σ σ' := fun σ' f => (a2.wk (by decide) (by decide) (by decide)).tr (f.wk (by decide) (by decide) (by decide))
  obtain ⟨f0, hf0⟩ : ∃ f0, f0 = f0P T X rl B M x c := ⟨_, rfl⟩
  rw [← hf0]
  obtain ⟨r, σ', g1, b, rfl, g2⟩ := tq_fI_of (st := st_Mo_search) (c := (0, [x, nI c], [], σ)) (P := fun r σ' => ∃ b, r = iB b ∧ fr [29, 30, 31, 32, 33, 34] [] [18, 19] σ σ' ∧ mK T X rl σ' ∧
      (b = true → ∃ m, RR (2 ^ aN T) f0 (Cp T rl M) m ∧ (∀ e, e < 5 → σ'.1 34 e = nI (m e)) ∧ ∀ a, RR (2 ^ aN T) f0 (Cp T rl M) a → ∀ d, d < 5 → (∀ e, e < d → a e = m e) → m d ≤ a d) ∧
      (b = false → ∀ a, ¬ RR (2 ^ aN T) f0 (Cp T rl M) a)) (by
    refine tq_wpQ (fun Q hQ => tq_at (by decide) ?_)
    show tq_wo (bk_Mo_search_0 [x, nI c] [] σ) _
    rw [bk_Mo_search_0]
    refine wi_o a1 (wi_s ?_)
    refine tq_ind 6 (fun p : Nat × tq_S => ([x, nI c, nI p.1], [], p.2)) (fun p => p.1 ≤ 5 ∧ fr [33, 34] [] [] σ1 p.2 ∧ ∀ j u, j < p.1 → u < 2 ^ aN T → p.2.1 33 (1024 * (5 * 0 + j) + u) = iB (cD (f0 j u))) (fun p => 5 - p.1) ?_ (0, σ1) ⟨Nat.zero_le _, fr.rf _ _ _ _, fun j u h => absurd h (Nat.not_lt_zero _)⟩
    rintro ⟨j, σ2⟩ ⟨hj, f2, g2⟩ ih
    dsimp only at hj f2 g2 ih ⊢
    refine tq_at (by decide) ?_
    show tq_wo (bk_Mo_search_6 [x, nI c, nI j] [] σ2) _
    rw [bk_Mo_search_6]
    refine wi_c (fun q => ?_) (fun q => wi_s ?_)
    · have : j = 5 := by
        have := (tq_le (a := 5) (b := j) (by omega) (by omega)).mp q
        omega
      subst this
      clear ih
      rw [show (0 : Int32).toNatClampNeg = 0 from by decide]
      refine wi_g (tq_vin (n := 0) (by decide) (by decide)) (wi_l (wi_s ?_))
      have f3 : fr [33, 34] [] [] σ1 (iput σ2 34 0 (-1)) := f2.tr (fr.i (by decide))
      refine mo_deep hw hK1 hwM f0 Q (fun b σ' hf hb h34 hle => hQ _ ⟨_, _, rfl, true, rfl, wkf σ' hf, mKf σ' hf, fun _ => ⟨b, hb, h34, hle⟩, fun z => (by cases z)⟩) 5 0 (by decide) (fun _ => 0) 0 _ f3 ⟨fun e he => absurd he (Nat.not_lt_zero _), fun d j u hd hdj hj hu => ?_⟩ (fun _ => ⟨by rw [iput_s, if_pos rfl]; rfl, Nat.zero_le _⟩) (fun a ha => ⟨fun d hd => absurd hd (Nat.not_lt_zero _), fun _ _ => Nat.zero_le _⟩) (fun σ' hf hJ hno => ?_)
      · have hd0 : d = 0 := by omega
        subst hd0
        rw [iput_n _ _ _ (by decide), g2 j u hj hu]
        congr 1
        exact cD_c ⟨fun h => ⟨h, fun e he => absurd he (Nat.not_lt_zero _)⟩, fun h => h.1⟩
      · refine tq_at (by decide) ?_
        show tq_wo (bk_Mo_search_96 [nI 0 + (-1)] [] σ') _
        rw [bk_Mo_search_96]
        refine wi_t (by decide) (wi_s (tq_at (by decide) ?_))
        show tq_wo (bk_Mo_search_196 [nI 0 + (-1)] [] σ') _
        rw [bk_Mo_search_196]
        exact wi_t (by decide) (wi_s (tq_wp_rt (hQ _ ⟨_, _, rfl, false, rfl, wkf σ' hf, mKf σ' hf, fun z => (by cases z), fun _ a ha => hno a ha (fun e he => absurd he (Nat.not_lt_zero _))⟩)))
    · have hj5 : j < 5 := tq_nle (b := j) (a := 5) (by omega) (by omega) q
      refine tq_ind 14 (fun p : Nat × tq_S => ([x, nI c, nI j, nI p.1], [], p.2)) (fun p => p.1 ≤ 2 ^ aN T ∧ fr [33, 34] [] [] σ1 p.2 ∧ (∀ q, q < 1024 * (5 * 0 + j) → p.2.1 33 q = σ2.1 33 q) ∧ ∀ u, u < p.1 → p.2.1 33 (1024 * (5 * 0 + j) + u) = iB (cD (f0 j u))) (fun p => 2 ^ aN T - p.1) ?_ (0, σ2) ⟨Nat.zero_le _, f2, fun _ _ => rfl, fun u h => absurd h (Nat.not_lt_zero _)⟩
      rintro ⟨t, σ3⟩ ⟨ht, f3, o3, g3⟩ ih2
      dsimp only at ht f3 o3 g3 ih2 ⊢
      have hK3 := rK_fr hK1 f3
      refine tq_at (by decide) ?_
      show tq_wo (bk_Mo_search_14 [x, nI c, nI j, nI t] [] σ3) _
      rw [bk_Mo_search_14]
      refine wi_o (mo_size hw hK3.1) (wi_c (fun q => wi_l (wi_s ?_)) (fun q => ?_))
      · have : t = 2 ^ aN T := by
          have := (tq_le (a := 2 ^ aN T) (b := t) (by omega) (by omega)).mp q
          omega
        rw [tq_inc]
        refine ih (j + 1, σ3) ⟨by dsimp only; omega, f3, fun k u hk hu => ?_⟩ (by dsimp only; omega)
        dsimp only at hk ⊢
        by_cases e : k = j
        · subst e; exact g3 u (by omega)
        · rw [o3 _ (by omega)]; exact g2 k u (by omega) hu
      · have htN : t < 2 ^ aN T := tq_nle (b := t) (a := 2 ^ aN T) (by omega) (by omega) q
        have v31 : σ3.1 31 t = 0 ↔ GG T X rl t := by rw [f3.1 31 (by decide)]; exact mV_g hw a3 htN
        have ix : 1024 * (5 * 0 + j) + t < 30720 := by omega
        have vx : vp_in (nI (1024 * (5 * 0 + j) + t)) 30720 := tq_vin ix (by omega)
        have nx : ∀ b : Bool, (b = true ↔ f0 j t) → tq_wp st_Mo_search Q (14, [x, nI c, nI j, nI t + 1], [], iput σ3 33 (1024 * (5 * 0 + j) + t) (iB b)) := by
          intro b hb
          rw [tq_inc]
          refine ih2 (t + 1, iput σ3 33 (1024 * (5 * 0 + j) + t) (iB b)) ⟨by dsimp only; omega, f3.tr (fr.i (by decide)), fun q hq => ?_, fun u hu => ?_⟩ (by dsimp only; omega)
          · dsimp only
            rw [iput_s, if_neg (by omega)]; exact o3 q hq
          · dsimp only at hu ⊢
            rw [iput_s]
            by_cases e : u = t
            · rw [if_pos (by omega), e]
              congr 1
              cases b with
              | true => exact (cD_t.mpr (hb.mp rfl)).symm
              | false => exact (cD_f.mpr (fun z => by have := hb.mpr z; cases this)).symm
            · rw [if_neg (by omega)]; exact g3 u (by omega)
        have z0 : jz 0 = iB false := by decide
        have z1 : jz 1 = iB true := by decide
        refine wi_o (mo_atp 0 j t σ3) (wi_g (tq_vin (show t < 1024 by omega) (by omega)) ?_)
        simp only [ia, tq_nc (show t < 2147483648 by omega), tq_nc (show 1024 * (5 * 0 + j) + t < 2147483648 by omega), z0, z1]
        have fE : f0 j t ↔ GG T X rl t ∧ (saidP T B j t ∧ lkS T rl M j j t t) ∧ (x = nI j → vT T c t = false) := by rw [hf0]; exact Iff.rfl
        refine wi_c (fun q => wi_g vx (wi_l (wi_l (wi_s (nx false ⟨fun z => (by cases z), fun z => absurd (v31.mpr (fE.mp z).1) q⟩))))) (fun q => wi_o (mo_isSaid hw hK3 hwB hwM hj5 htN) ?_)
        have hg := v31.mp (Classical.not_not.mp q)
        cases hs : cD (saidP T B j t ∧ lkS T rl M j j t t) with
        | false => exact wi_t rfl (wi_g vx (wi_l (wi_l (wi_s (nx false ⟨fun z => (by cases z), fun z => absurd (fE.mp z).2.1 (cD_f.mp hs)⟩)))))
        | true =>
          refine wi_f (by decide) (wi_c (fun q2 => wi_g vx (wi_l (wi_l (wi_s (nx true ⟨fun _ => fE.mpr ⟨hg, cD_t.mp hs, fun z => absurd z.symm q2⟩, fun _ => rfl⟩))))) (fun q2 => wi_o (mo_isHeld (by omega) (by omega) (hK3.2.2.1 t c htN hc)) ?_))
          have q2 := Classical.not_not.mp q2
          cases hv : vT T c t with
          | true => exact wi_t (by decide) (wi_g vx (wi_l (wi_l (wi_s (nx false ⟨fun z => (by cases z), fun z => by have := (fE.mp z).2.2 q2.symm; rw [hv] at this; cases this⟩)))))
          | false => exact wi_f (fun z => z rfl) (wi_g vx (wi_l (wi_l (wi_s (nx true ⟨fun _ => fE.mpr ⟨hg, cD_t.mp hs, fun _ => hv⟩, fun _ => rfl⟩))))))
  exact ⟨b, σ', g1, g2⟩
def sfr (σ σ' : tq_S) : Prop := fr [29, 30, 31, 32, 33, 34] [] [18, 19] σ σ'
theorem m1_ne {j : Nat} (hj : j < 5) : ¬ (-1 : Int32) = nI j := by
  have : ∀ j, j < 5 → ¬ (-1 : Int32) = nI j := by decide
  exact this j hj
theorem mo_run {T : ab_T} {X : ab_X} {rl : Nat → Nat → Bool} {B : ab_X} {M : ab_L} {σ : tq_S} (hw : wfT T) (hx : wX T X) (hT : mTT T σ) (hX : mX X σ) (hR : mR rl σ) (hK : mK T X rl σ) (hB : mB B σ) (hL : mL M σ) (hwB : wB T B) (hwM : wM M) :
    ∃ σ', tq_fI st_Mo_run (0, [], [], σ) = some (oRun T X rl B M, σ') ∧ sfr σ σ' ∧ mK T X rl σ' := by
  obtain ⟨b, σ', a1, a2, a3, a4, a5⟩ := mo_search (c := 0) hw hx hT hX hR hK hB hL hwB hwM (-1) (by have := hw.1; omega)
  refine ⟨σ', tq_fI_e (tq_at (by decide) ?_), a2, a3⟩
  show tq_wo (bk_Mo_run_0 [] [] σ) _
  rw [bk_Mo_run_0]
  refine wi_o a1 ?_
  unfold oRun
  cases b with
  | false =>
    have : ¬ ∃ a, Mo T X rl B M a := fun ⟨a, ha⟩ => a5 rfl a ((RR_iff hwM).mpr ⟨ha, fun j hj z => absurd z (m1_ne hj)⟩)
    rw [cD_f.mpr this]
    exact wi_t rfl (wi_s (tq_wp_rt rfl))
  | true =>
    obtain ⟨m, m1, -⟩ := a4 rfl
    rw [cD_t.mpr ⟨m, ((RR_iff hwM).mp m1).1⟩]
    exact wi_f (by decide) (wi_s (tq_wp_rt rfl))
theorem mo_model {T : ab_T} {X : ab_X} {rl : Nat → Nat → Bool} {B : ab_X} {M : ab_L} {σ : tq_S} (hw : wfT T) (hx : wX T X) (hT : mTT T σ) (hX : mX X σ) (hR : mR rl σ) (hK : mK T X rl σ) (hB : mB B σ) (hL : mL M σ) (hwB : wB T B) (hwM : wM M) (x : Int32) :
    ∃ z σ', tq_fI st_Mo_model (0, [x], [], σ) = some (z, σ') ∧ aMod T X rl B M x z ∧ sfr σ σ' ∧ mK T X rl σ' := by
  have go : ∀ r σ', tq_wo (bk_Mo_model_0 [x] [] σ) (tq_wp st_Mo_model (fun d => d = (tq_rt, [r], [], σ'))) → tq_fI st_Mo_model (0, [x], [], σ) = some (r, σ') := fun r σ' h => tq_fI_e (tq_at (by decide) h)
  rcases bd_cases x (n := 5) (by omega) with h | ⟨i, hi, rfl, h⟩
  · refine ⟨-1, σ, go _ _ ?_, Or.inl ⟨h, rfl⟩, fr.rf _ _ _ σ, hK⟩
    rw [bk_Mo_model_0]
    exact wi_o (sp_ht h) (wi_f (fun q => q rfl) (wi_s (tq_wp_rt rfl)))
  · obtain ⟨b, σ', a1, a2, a3, a4, a5⟩ := mo_search (c := 0) hw hx hT hX hR hK hB hL hwB hwM (-1) (by have := hw.1; omega)
    cases b with
    | false =>
      refine ⟨-2, σ', go _ _ ?_, Or.inr ⟨h, Or.inr ⟨fun ⟨a, ha⟩ => a5 rfl a ((RR_iff hwM).mpr ⟨ha, fun j hj z => absurd z (m1_ne hj)⟩), rfl⟩⟩, a2, a3⟩
      rw [bk_Mo_model_0]
      exact wi_o (sp_hf h) (wi_t (by decide) (wi_o a1 (wi_t rfl (wi_s (tq_wp_rt rfl)))))
    | true =>
      obtain ⟨m, m1, m2, m3⟩ := a4 rfl
      refine ⟨nI (m i), σ', go _ _ ?_, Or.inr ⟨h, Or.inl ⟨m, ⟨((RR_iff hwM).mp m1).1, fun a ha d hd he => m3 a ((RR_iff hwM).mpr ⟨ha, fun j hj z => absurd z (m1_ne hj)⟩) d hd he⟩, by rw [tq_nc (by omega)]⟩⟩, a2, a3⟩
      rw [bk_Mo_model_0]
      refine wi_o (sp_hf h) (wi_t (by decide) (wi_o a1 (wi_f (by decide) (wi_g (tq_vin hi (by omega)) (wi_s (tq_wp_rt ?_))))))
      simp only [ia]
      rw [tq_nc (by omega), m2 i hi]
theorem mo_surely {T : ab_T} {X : ab_X} {rl : Nat → Nat → Bool} {B : ab_X} {M : ab_L} {σ : tq_S} (hw : wfT T) (hx : wX T X) (hT : mTT T σ) (hX : mX X σ) (hR : mR rl σ) (hK : mK T X rl σ) (hB : mB B σ) (hL : mL M σ) (hwB : wB T B) (hwM : wM M) (x y : Int32) :
    ∃ σ', tq_fI st_Mo_surely (0, [x, y], [], σ) = some (oSur T X rl B M x y, σ') ∧ sfr σ σ' ∧ mK T X rl σ' := by
  have h80 := hw.2.1
  have go : ∀ r σ', tq_wo (bk_Mo_surely_0 [x, y] [] σ) (tq_wp st_Mo_surely (fun d => d = (tq_rt, [r], [], σ'))) → tq_fI st_Mo_surely (0, [x, y], [], σ) = some (r, σ') := fun r σ' h => tq_fI_e (tq_at (by decide) h)
  unfold oSur
  rcases bd_cases x (n := 5) (by omega) with h | ⟨i, hi, rfl, h⟩
  · rw [if_pos (Or.inl h)]
    refine ⟨σ, go _ _ ?_, fr.rf _ _ _ σ, hK⟩
    rw [bk_Mo_surely_0]
    exact wi_o (sp_ht h) (wi_t rfl (wi_s (tq_wp_rt rfl)))
  · rcases bd_cases y (n := T.1) (by omega) with h' | ⟨c, hc, rfl, h'⟩
    · rw [if_pos (Or.inr h')]
      refine ⟨σ, go _ _ ?_, fr.rf _ _ _ σ, hK⟩
      rw [bk_Mo_surely_0]
      exact wi_o (sp_hf h) (wi_f (by decide) (wi_o (sp_ct hT.1 h') (wi_t rfl (wi_s (tq_wp_rt rfl)))))
    · rw [if_neg (fun q => q.elim h h'), tq_nc (by omega), tq_nc (by omega)]
      obtain ⟨b, σ', a1, a2, a3, a4, a5⟩ := mo_search (c := c) hw hx hT hX hR hK hB hL hwB hwM (nI i) hc
      have only : ∀ (a : Nat → Nat), vT T c (a i) = false → ∀ j, j < 5 → nI i = nI j → vT T c (a j) = false := fun a ha j hj z => by
        rw [← (tq_eq (by omega) (by omega)).mp z]; exact ha
      refine ⟨σ', go _ _ ?_, a2, a3⟩
      rw [bk_Mo_surely_0]
      refine wi_o (sp_hf h) (wi_f (by decide) (wi_o (sp_cf hT.1 h') (wi_f (by decide) (wi_o a1 ?_))))
      cases b with
      | false =>
        have : ¬ ∃ a, Mo T X rl B M a ∧ vT T c (a i) = false := fun ⟨a, ha, hv⟩ => a5 rfl a ((RR_iff hwM).mpr ⟨ha, only a hv⟩)
        rw [cD_f.mpr this]
        exact wi_t rfl (wi_s (tq_wp_rt rfl))
      | true =>
        obtain ⟨m, m1, -⟩ := a4 rfl
        have := (RR_iff hwM).mp m1
        rw [cD_t.mpr ⟨m, this.1, this.2 i hi rfl⟩]
        exact wi_f (by decide) (wi_s (tq_wp_rt rfl))
