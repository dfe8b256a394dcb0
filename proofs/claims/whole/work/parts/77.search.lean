/-! the reference: search -/
def Fp (f0 : Nat → Nat → Prop) (C : Nat → Nat → Nat → Nat → Prop) (b : Nat → Nat) (d j u : Nat) : Prop := f0 j u ∧ ∀ e, e < d → C e j (b e) u
def RR (N : Nat) (f0 : Nat → Nat → Prop) (C : Nat → Nat → Nat → Nat → Prop) (a : Nat → Nat) : Prop := (∀ i, i < 5 → a i < N ∧ f0 i (a i)) ∧ ∀ i j, i < j → j < 5 → C i j (a i) (a j)
theorem Fp_c {f0 : Nat → Nat → Prop} {C : Nat → Nat → Nat → Nat → Prop} {b b' : Nat → Nat} {d j u : Nat} (h : ∀ e, e < d → b e = b' e) : Fp f0 C b d j u ↔ Fp f0 C b' d j u := by
  constructor
  · rintro ⟨h1, h2⟩; exact ⟨h1, fun e he => by rw [← h e he]; exact h2 e he⟩
  · rintro ⟨h1, h2⟩; exact ⟨h1, fun e he => by rw [h e he]; exact h2 e he⟩
/-- i things are chosen; what may be stands for each depth below D -/
def sJ (N : Nat) (f0 : Nat → Nat → Prop) (C : Nat → Nat → Nat → Nat → Prop) (i D : Nat) (b : Nat → Nat) (σ : tq_S) : Prop :=
  (∀ e, e < i → b e < N ∧ σ.1 34 e = nI (b e) ∧ Fp f0 C b e e (b e)) ∧ ∀ d j u, d < D → d ≤ j → j < 5 → u < N → σ.1 33 (1024 * (5 * d + j) + u) = iB (cD (Fp f0 C b d j u))
theorem sr_ix {d i j u N : Nat} (hd : d ≤ i) (hj : j < 5) (hu : u < N) (hN : N ≤ 1024) : 1024 * (5 * d + j) + u < 1024 * (5 * (i + 1)) := by omega
theorem sr_ix2 {i j u N : Nat} (hi : i < 5) (hj : j < 5) (hu : u < N) (hN : N ≤ 1024) : 1024 * (5 * i + j) + u < 30720 := by omega
theorem mo_deep {T : ab_T} {rl : Nat → Nat → Bool} {B : ab_X} {M : ab_L} {σ0 : tq_S} (hw : wfT T) (hK : rK T rl B M σ0) (hwM : wM M) (f0 : Nat → Nat → Prop) (Q : tq_C → Prop)
    (hfin : ∀ b σ, fr [33, 34] [] [] σ0 σ → RR (2 ^ aN T) f0 (Cp T rl M) b → (∀ e, e < 5 → σ.1 34 e = nI (b e)) → (∀ a, RR (2 ^ aN T) f0 (Cp T rl M) a → ∀ d, d < 5 → (∀ e, e < d → a e = b e) → b d ≤ a d) → Q (tq_rt, [1], [], σ)) :
    ∀ n i, i + n = 5 → ∀ b c σ, fr [33, 34] [] [] σ0 σ → sJ (2 ^ aN T) f0 (Cp T rl M) i (i + 1) b σ → (i < 5 → σ.1 34 i + 1 = nI c ∧ c ≤ 2 ^ aN T) →
      (∀ a, RR (2 ^ aN T) f0 (Cp T rl M) a → (∀ d, d < i → (∀ e, e < d → a e = b e) → b d ≤ a d) ∧ (i < 5 → (∀ e, e < i → a e = b e) → c ≤ a i)) →
      (∀ σ', fr [33, 34] [] [] σ0 σ' → sJ (2 ^ aN T) f0 (Cp T rl M) i i b σ' → (∀ a, RR (2 ^ aN T) f0 (Cp T rl M) a → ¬ ∀ e, e < i → a e = b e) → tq_wp st_Mo_search Q (96, [nI i + (-1)], [], σ')) →
      tq_wp st_Mo_search Q (96, [nI i], [], σ) := by
  have hm : aN T ≤ 10 := hw.2.2.1
  have hp := tq_pw1 hm
  obtain ⟨N, hN⟩ : ∃ N, N = 2 ^ aN T := ⟨_, rfl⟩
  rw [← hN] at hfin hp ⊢
  have hN10 := hp.1
  intro n
  induction n with
  | zero =>
    intro i hi b c σ hf hJ _ hno _
    have : i = 5 := by omega
    subst this
    refine tq_at (by decide) ?_
    show tq_wo (bk_Mo_search_96 [nI 5] [] σ) _
    rw [bk_Mo_search_96]
    refine wi_f (by decide) (wi_t (by decide) (wi_s (tq_at (by decide) ?_)))
    show tq_wo (bk_Mo_search_196 [nI 5] [] σ) _
    rw [bk_Mo_search_196]
    refine wi_f (fun z => z rfl) (wi_s (tq_wp_rt (hfin b σ hf ⟨fun e he => ⟨(hJ.1 e he).1, (hJ.1 e he).2.2.1⟩, fun e j hej hj => (hJ.1 j hj).2.2.2 e hej⟩ (fun e he => (hJ.1 e he).2.1) (fun a ha d hd => (hno a ha).1 d hd))))
  | succ n ihn =>
    intro i hi b c σ hf hJ hc hnoO hback
    have hi5 : i < 5 := by omega
    have vi : vp_in (nI i) 5 := tq_vin hi5 (by omega)
    -- from one type on
    have A : ∀ k t σ, t + k = N → fr [33, 34] [] [] σ0 σ → sJ N f0 (Cp T rl M) i (i + 1) b σ → (∀ a, RR N f0 (Cp T rl M) a → (∀ e, e < i → a e = b e) → t ≤ a i) → tq_wp st_Mo_search Q (115, [nI i, nI t], [], σ) := by
      intro k
      induction k with
      | zero =>
        intro t σ ht hf hJ hno
        have : t = N := by omega
        subst this
        have hK1 := rK_fr hK hf
        have sz : tq_fI st_Mo_size (0, [], [], σ) = some (nI t, σ) := by rw [hN]; exact mo_size hw hK1.1
        refine tq_at (by decide) ?_
        show tq_wo (bk_Mo_search_115 [nI i, nI t] [] σ) _
        rw [bk_Mo_search_115]
        refine wi_o sz (wi_t ((tq_le (by omega) (by omega)).mpr (Nat.le_refl _)) (wi_s (tq_at (by decide) ?_)))
        show tq_wo (bk_Mo_search_155 [nI i, nI t] [] σ) _
        rw [bk_Mo_search_155, tq_nc (by omega)]
        have hf2 : fr [33, 34] [] [] σ0 (iput σ 34 i (nI t)) := hf.tr (fr.i (by decide))
        have sz2 : tq_fI st_Mo_size (0, [], [], iput σ 34 i (nI t)) = some (nI t, iput σ 34 i (nI t)) := by rw [hN]; exact mo_size hw (rK_fr hK (by rw [hN] at hf2; exact hf2)).1
        refine wi_g vi (wi_l (wi_o sz2 (wi_f (fun z => z rfl) (wi_l (wi_s (hback _ hf2 ⟨fun e he => ?_, fun d j u hd hdj hj hu => ?_⟩ (fun a ha he => ?_)))))))
        · rw [iput_s, if_neg (by omega)]; exact hJ.1 e he
        · rw [iput_n _ _ _ (by decide)]; exact hJ.2 d j u (by omega) hdj hj hu
        · have := hno a ha he
          have := (ha.1 i hi5).1
          omega
      | succ k ihk =>
        intro t σ ht hf hJ hno
        have htN : t < N := by omega
        have hK1 := rK_fr hK hf
        have sz : tq_fI st_Mo_size (0, [], [], σ) = some (nI N, σ) := by rw [hN]; exact mo_size hw hK1.1
        refine tq_at (by decide) ?_
        show tq_wo (bk_Mo_search_115 [nI i, nI t] [] σ) _
        rw [bk_Mo_search_115]
        have ix : 1024 * (5 * i + i) + t < 30720 := sr_ix2 hi5 hi5 htN hN10
        refine wi_o sz (wi_f (nI_ge htN (by omega)) (wi_o (mo_atp i i t σ) (wi_g (tq_vin ix (by omega)) ?_)))
        have v33 := hJ.2 i i t (by omega) (Nat.le_refl _) hi5 htN
        simp only [ia, tq_nc (show 1024 * (5 * i + i) + t < 2147483648 by omega), v33]
        have fit : ∀ a, RR N f0 (Cp T rl M) a → (∀ e, e < i → a e = b e) → ∀ j, i ≤ j → j < 5 → Fp f0 (Cp T rl M) b i j (a j) := fun a ha he j hij hj => ⟨(ha.1 j hj).2, fun e hei => by rw [← he e hei]; exact ha.2 e j (by omega) hj⟩
        cases hv : cD (Fp f0 (Cp T rl M) b i i t) with
        | false =>
          refine wi_t rfl (wi_l (wi_s ?_))
          rw [tq_inc]
          refine ihk (t + 1) σ (by omega) hf hJ (fun a ha he => ?_)
          have h1 := hno a ha he
          have : a i ≠ t := fun z => cD_f.mp hv (by have := fit a ha he i (Nat.le_refl _) hi5; rw [z] at this; exact this)
          omega
        | true =>
          obtain ⟨r, σ1, c1, c2, c3, c4, c5⟩ := mo_isLeft hw hK1 hwM hi5 (by rw [← hN]; exact htN) (Fp f0 (Cp T rl M) b i) (fun j u hij hj hu => hJ.2 i j u (by omega) (by omega) hj (by rw [hN]; exact hu))
          rw [← hN] at c4 c5
          have hf1 : fr [33, 34] [] [] σ0 σ1 := hf.tr (c2.wk (by decide) (by decide) (by decide))
          have hJ1 : sJ N f0 (Cp T rl M) i (i + 1) b σ1 := ⟨fun e he => by rw [c2.1 34 (by decide)]; exact hJ.1 e he, fun d j u hd hdj hj hu => by rw [c3 _ (sr_ix (by omega) hj hu hN10)]; exact hJ.2 d j u hd hdj hj hu⟩
          refine wi_f (by decide) (wi_o c1 ?_)
          cases r with
          | false =>
            refine wi_f (fun z => z rfl) (wi_l (wi_s ?_))
            rw [tq_inc]
            refine ihk (t + 1) σ1 (by omega) hf1 hJ1 (fun a ha he => ?_)
            have h1 := hno a ha he
            have : a i ≠ t := fun z => by
              obtain ⟨j, j1, j2, j3⟩ := c4 rfl
              refine j3 (a j) (ha.1 j j2).1 ⟨fit a ha he j (by omega) j2, ?_⟩
              rw [← z]; exact ha.2 i j j1 j2
            omega
          | true =>
            have c5 := c5 rfl
            refine wi_t (by decide) (wi_s (tq_at (by decide) ?_))
            show tq_wo (bk_Mo_search_155 [nI i, nI t] [] σ1) _
            rw [bk_Mo_search_155, tq_nc (by omega)]
            obtain ⟨σ2, e2⟩ : ∃ σ2, σ2 = iput σ1 34 i (nI t) := ⟨_, rfl⟩
            have hf2 : fr [33, 34] [] [] σ0 σ2 := by rw [e2]; exact hf1.tr (fr.i (by decide))
            have sz2 : tq_fI st_Mo_size (0, [], [], σ2) = some (nI N, σ2) := by rw [hN]; exact mo_size hw (rK_fr hK hf2).1
            refine wi_g vi (wi_l ?_)
            rw [← e2]
            refine wi_o sz2 (wi_t (fun z => by have := (tq_eq (by omega) (by omega)).mp z; omega) (wi_l ?_))
            rw [tq_inc]
            obtain ⟨b', hb'⟩ : ∃ b' : Nat → Nat, b' = fun e => if e = i then t else b e := ⟨_, rfl⟩
            have bo : ∀ e, e < i → b e = b' e := fun e he => by rw [hb']; dsimp only; rw [if_neg (by omega)]
            have bi : b' i = t := by rw [hb']; dsimp only; rw [if_pos rfl]
            have deep : ∀ σ3, fr [33, 34] [] [] σ0 σ3 → (∀ e, e < i + 1 → σ3.1 34 e = σ2.1 34 e) → σ3.1 33 = σ1.1 33 → (i + 1 < 5 → σ3.1 34 (i + 1) = -1) → tq_wp st_Mo_search Q (96, [nI (i + 1)], [], σ3) := by
              intro σ3 hf3 h34 h33 hm1
              refine ihn (i + 1) (by omega) b' 0 σ3 hf3 ⟨fun e he => ?_, fun d j u hd hdj hj hu => ?_⟩ (fun h => ⟨by rw [hm1 h]; rfl, Nat.zero_le _⟩) (fun a ha => ⟨fun d hd he => ?_, fun _ _ => Nat.zero_le _⟩) (fun σ4 hf4 hJ4 hno4 => ?_)
              · rw [h34 e he, e2, iput_s]
                by_cases ee : e = i
                · subst ee
                  rw [if_pos rfl, bi]
                  exact ⟨htN, rfl, (Fp_c bo).mp (cD_t.mp hv)⟩
                · rw [if_neg ee, ← bo e (by omega)]
                  obtain ⟨q1, q2, q3⟩ := hJ1.1 e (by omega)
                  exact ⟨q1, q2, (Fp_c (fun z hz => bo z (by omega))).mp q3⟩
              · rw [h33]
                by_cases ed : d = i + 1
                · subst ed
                  rw [c5 j u (by omega) hj hu]
                  congr 1
                  refine cD_c ⟨fun q => ⟨q.1.1, fun e he => ?_⟩, fun q => ⟨⟨q.1, fun e he => ?_⟩, ?_⟩⟩
                  · by_cases ee : e = i
                    · subst ee; rw [bi]; exact q.2
                    · rw [← bo e (by omega)]; exact q.1.2 e (by omega)
                  · rw [bo e he]; exact q.2 e (by omega)
                  · have := q.2 i (by omega)
                    rw [bi] at this; exact this
                · rw [hJ1.2 d j u (by omega) hdj hj hu]
                  congr 1
                  exact cD_c (Fp_c (fun e he => bo e (by omega)))
              · by_cases ed : d = i
                · subst ed
                  rw [bi]
                  exact hno a ha (fun e hee => by rw [he e hee, bo e hee])
                · rw [← bo d (by omega)]
                  exact ((hnoO a ha).1 d (by omega)) (fun e hee => by rw [he e hee, bo e (by omega)])
              · -- back from the deeper ones
                rw [pk_m1]
                refine tq_at (by decide) ?_
                show tq_wo (bk_Mo_search_96 [nI i] [] σ4) _
                rw [bk_Mo_search_96]
                simp only [ia]
                rw [tq_nc (by omega), (hJ4.1 i (by omega)).2.1, bi, tq_inc]
                refine wi_f (tq_n0 (by omega)) (wi_f (nI_ge hi5 (by decide)) (wi_g vi (wi_l (wi_s (ihk (t + 1) σ4 (by omega) hf4 ⟨fun e he => ?_, fun d j u hd hdj hj hu => ?_⟩ (fun a ha he => ?_))))))
                · obtain ⟨q1, q2, q3⟩ := hJ4.1 e (by omega)
                  rw [← bo e he] at q1 q2 q3
                  exact ⟨q1, q2, (Fp_c (fun z hz => bo z (by omega))).mpr q3⟩
                · rw [hJ4.2 d j u hd hdj hj hu]
                  congr 1
                  exact (cD_c (Fp_c (fun e he => bo e (by omega)))).symm
                · have h1 := hno a ha he
                  have : a i ≠ t := fun z => hno4 a ha (fun e hee => by
                    by_cases ee : e = i
                    · subst ee; rw [bi]; exact z
                    · rw [← bo e (by omega)]; exact he e (by omega))
                  omega
            refine wi_c (fun q => wi_s (deep σ2 hf2 (fun _ _ => rfl) (by rw [e2, iput_n _ _ _ (by decide)]) (fun h => ?_))) (fun q => ?_)
            · have := (tq_le (a := 5) (b := i + 1) (by omega) (by omega)).mp q
              omega
            · have hlt : i + 1 < 5 := tq_nle (b := i + 1) (a := 5) (by omega) (by omega) q
              rw [tq_nc (by omega)]
              refine wi_g (tq_vin hlt (by omega)) (wi_l (wi_s (deep _ (hf2.tr (fr.i (by decide))) (fun e he => by rw [iput_s, if_neg (by omega)]) (by rw [iput_n _ _ _ (by decide), e2, iput_n _ _ _ (by decide)]) (fun _ => by rw [iput_s, if_pos rfl]))))
    obtain ⟨hc1, hc2⟩ := hc hi5
    refine tq_at (by decide) ?_
    show tq_wo (bk_Mo_search_96 [nI i] [] σ) _
    rw [bk_Mo_search_96]
    simp only [ia]
    rw [tq_nc (by omega), hc1]
    exact wi_f (tq_n0 (by omega)) (wi_f (nI_ge hi5 (by decide)) (wi_g vi (wi_l (wi_s (A (N - c) c σ (by omega) hf hJ (fun a ha he => (hnoO a ha).2 hi5 he))))))
