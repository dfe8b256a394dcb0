/-! the reference: turn -/
theorem mo_turn {T : ab_T} {X : ab_X} {rl : Nat → Nat → Bool} {σ : tq_S} (hw : wfT T) (hT : mTT T σ) (hU : mU rl σ) (hO : mO T σ) {j : Nat} (hj : j < 2000000000) (hd : ∀ t, t < 2 ^ aN T → dpt T X rl j t (σ.1 31 t)) :
    ∃ z σ', tq_fI st_Mo_turn (0, [nI (j + 1)], [], σ) = some (z, σ') ∧ fr [31] [] [] σ σ' ∧ (∀ t, t < 2 ^ aN T → dpt T X rl (j + 1) t (σ'.1 31 t)) ∧ ((z = 0 ∧ (∀ t, Gs T X rl j t → Gs T X rl (j + 1) t)) ∨ (z = 1 ∧ ∃ t, Gs T X rl j t ∧ ¬ Gs T X rl (j + 1) t)) := by
  have h80 := hw.2.1
  have hm : aN T ≤ 10 := hw.2.2.1
  have hp := tq_pw1 hm
  refine tq_fI_of (tq_wpQ (fun Q hQ => tq_at (by decide) ?_))
  show tq_wo (bk_Mo_turn_0 [nI (j + 1)] [] σ) _
  rw [bk_Mo_turn_0]
  refine wi_s ?_
  refine tq_ind 4 (fun p : Nat × Bool × tq_S => ([nI (j + 1), iB p.2.1, nI p.1], [], p.2.2)) (fun p => p.1 ≤ 2 ^ aN T ∧ fr [31] [] [] σ p.2.2 ∧ (∀ t, t < p.1 → dpt T X rl (j + 1) t (p.2.2.1 31 t)) ∧ (∀ t, p.1 ≤ t → t < 2 ^ aN T → dpt T X rl j t (p.2.2.1 31 t)) ∧ ((p.2.1 = false ∧ ∀ t, t < p.1 → Gs T X rl j t → Gs T X rl (j + 1) t) ∨ (p.2.1 = true ∧ ∃ t, Gs T X rl j t ∧ ¬ Gs T X rl (j + 1) t))) (fun p => 2 ^ aN T - p.1) ?_ (0, false, σ) ⟨Nat.zero_le _, fr.rf _ _ _ σ, fun u h => absurd h (Nat.not_lt_zero _), fun t _ h => hd t h, Or.inl ⟨rfl, fun u h => absurd h (Nat.not_lt_zero _)⟩⟩
  rintro ⟨t, b, σ1⟩ ⟨ht, f1, d1, d2, hb⟩ ih
  dsimp only at ht f1 d1 d2 hb ih ⊢
  have hT1 : mTT T σ1 := by
    obtain ⟨q1, q2, q3, q4⟩ := hT
    exact ⟨by rw [f1.2.2 13 (by decide)]; exact q1, by rw [f1.2.2 14 (by decide)]; exact q2, fun c hc => by rw [f1.1 17 (by decide), f1.1 18 (by decide), f1.1 19 (by decide)]; exact q3 c hc, fun c hc ha => by rw [f1.1 20 (by decide)]; exact q4 c hc ha⟩
  have hU1 : mU rl σ1 := fun r s hr hs => by rw [f1.1 32 (by decide)]; exact hU r s hr hs
  have hO1 : mO T σ1 := fun t ht j hj => by rw [f1.1 30 (by decide)]; exact hO t ht j hj
  have t1 : σ1.2.2 14 = nI (aN T) := hT1.2.1
  refine tq_at (by decide) ?_
  show tq_wo (bk_Mo_turn_4 [nI (j + 1), iB b, nI t] [] σ1) _
  rw [bk_Mo_turn_4]
  refine wi_o (mo_size hw hT1) (wi_c (fun q => wi_b (iB_01 b) (wi_s (tq_wp_rt (hQ _ ⟨_, _, rfl, f1, ?_, ?_⟩)))) (fun q => ?_))
  · have : t = 2 ^ aN T := by
      have := (tq_le (a := 2 ^ aN T) (b := t) (by omega) (by omega)).mp q
      omega
    subst this
    exact d1
  · have : t = 2 ^ aN T := by
      have := (tq_le (a := 2 ^ aN T) (b := t) (by omega) (by omega)).mp q
      omega
    subst this
    rcases hb with ⟨rfl, h⟩ | ⟨rfl, h⟩
    · exact Or.inl ⟨rfl, fun t ht => h t (Gs_lt ht) ht⟩
    · exact Or.inr ⟨rfl, h⟩
  · have hlt : t < 2 ^ aN T := tq_nle (by omega) (by omega) q
    have vi : vp_in (nI t) 1024 := tq_vin (by omega) (by omega)
    have dt := d2 t (Nat.le_refl _) hlt
    have g0_ := dpt_0 (by omega) dt
    have stay : (Gs T X rl j t → Gs T X rl (j + 1) t) → tq_wp st_Mo_turn Q (4, [nI (j + 1), iB b, nI t + 1], [], σ1) := by
      intro h
      rw [tq_inc]
      refine ih (t + 1, b, σ1) ⟨by omega, f1, fun u hu => ?_, fun u h1 h2 => d2 u (by dsimp only at h1; omega) h2, ?_⟩ (by dsimp only; omega)
      · by_cases e : u = t
        · subst e; exact dpt_n dt h
        · dsimp only at hu; exact d1 u (by omega)
      · rcases hb with ⟨rfl, hb⟩ | ⟨rfl, hb⟩
        · refine Or.inl ⟨rfl, fun u hu => ?_⟩
          by_cases e : u = t
          · subst e; exact h
          · dsimp only at hu; exact hb u (by omega)
        · exact Or.inr ⟨rfl, hb⟩
    simp only [ia, tq_nc (show t < 2147483648 by omega)]
    refine wi_g vi (wi_c (fun q => wi_s ?_) (fun q => wi_l (wi_s (stay (fun h => absurd (g0_.mpr h) q)))))
    have hg : Gs T X rl j t := g0_.mp q
    have fin : ∀ s : Bool, (s = true ↔ Gs T X rl (j + 1) t) → tq_wp st_Mo_turn Q (103, [nI (j + 1), iB b, nI t, iB s], [], σ1) := by
      intro s hs
      refine tq_at (by decide) ?_
      show tq_wo (bk_Mo_turn_103 [nI (j + 1), iB b, nI t, iB s] [] σ1) _
      rw [bk_Mo_turn_103]
      refine wi_c (fun q => wi_g vi (wi_l (wi_l (wi_s ?_)))) (fun q => wi_l (wi_s (stay (fun _ => hs.mp ?_))))
      · have hno : ¬ Gs T X rl (j + 1) t := fun h => by
          have := hs.mpr h
          rw [iB_z.mp q] at this
          cases this
        rw [tq_inc, tq_nc (by omega)]
        refine ih (t + 1, true, iput σ1 31 t (nI (j + 1))) ⟨by omega, f1.tr (fr.i (by decide)), fun u hu => ?_, fun u h1 h2 => ?_, Or.inr ⟨rfl, t, hg, hno⟩⟩ (by dsimp only; omega)
        · show dpt T X rl (j + 1) u ((iput σ1 31 t (nI (j + 1))).1 31 u)
          rw [iput_s]
          by_cases e : u = t
          · subst e
            rw [if_pos rfl]; exact dpt_y hg hno
          · rw [if_neg e]; dsimp only at hu; exact d1 u (by omega)
        · show dpt T X rl j u ((iput σ1 31 t (nI (j + 1))).1 31 u)
          dsimp only at h1
          rw [iput_s, if_neg (by omega)]
          exact d2 u (by omega) h2
      · cases s with
        | true => rfl
        | false => exact absurd rfl q
    clear ih stay
    have dOr : ∀ u, u < 2 ^ aN T → ((σ1.1 31 u = 0 ∨ σ1.1 31 u = nI (j + 1)) ↔ Gs T X rl j u) := fun u hu => dpt_or hj (by
      by_cases e : u < t
      · exact Or.inr (d1 u e)
      · exact Or.inl (d2 u (by omega) hu))
    obtain ⟨Sv, hSv⟩ : ∃ Sv : Nat → Prop, ∀ c, Sv c ↔ ∃ u, u < 2 ^ aN T ∧ Gs T X rl j u ∧ vT T (T.2.2.2 c) u = true ∧ seesP T rl t u (T.2.2.1 c) := ⟨_, fun _ => Iff.rfl⟩
    refine tq_ind 30 (fun p : Nat × Bool => ([nI (j + 1), iB b, nI t, iB p.2, nI p.1], [], σ1)) (fun p => p.1 ≤ aN T ∧ ((p.2 = true ∧ ∀ c, c < T.1 → T.2.1 c = 6 → ac T.2.1 c < p.1 → t.testBit (ac T.2.1 c) = true → Sv c) ∨ (p.2 = false ∧ ¬ Gs T X rl (j + 1) t))) (fun p => aN T - p.1) ?_ (0, true) ⟨Nat.zero_le _, Or.inl ⟨rfl, fun c _ _ h => absurd h (Nat.not_lt_zero _)⟩⟩
    rintro ⟨k, s⟩ ⟨hk, hs⟩ ih
    dsimp only at hk hs ih ⊢
    refine tq_at (by decide) ?_
    show tq_wo (bk_Mo_turn_30 [nI (j + 1), iB b, nI t, iB s, nI k] [] σ1) _
    rw [bk_Mo_turn_30, t1]
    refine wi_c (fun q => wi_s (fin s ?_)) (fun q => wi_c (fun q2 => wi_s (fin s ?_)) (fun q2 => ?_))
    · have : k = aN T := by
        have := (tq_le (a := aN T) (b := k) (by omega) (by omega)).mp q
        omega
      subst this
      rcases hs with ⟨rfl, h⟩ | ⟨rfl, h⟩
      · refine ⟨fun _ => ⟨hg, ?_⟩, fun _ => rfl⟩
        rintro ⟨c, c1, c2, c3, c4⟩
        exact c4 ((hSv c).mp (h c c1 c2 (ac_10 hw c1 c2).1 c3))
      · exact ⟨fun q => (by cases q), fun q => absurd q h⟩
    · rcases hs with ⟨rfl, h⟩ | ⟨rfl, h⟩
      · exact absurd q2 (by decide)
      · exact ⟨fun q => (by cases q), fun q => absurd q h⟩
    · have hlt2 : k < aN T := tq_nle (by omega) (by omega) q
      have hall : s = true ∧ ∀ c, c < T.1 → T.2.1 c = 6 → ac T.2.1 c < k → t.testBit (ac T.2.1 c) = true → Sv c := by
        rcases hs with h | ⟨rfl, h⟩
        · exact h
        · exact absurd rfl q2
      obtain ⟨rfl, hall⟩ := hall
      obtain ⟨a1, a2, a3⟩ := axi_ok (K := T.2.1) (n := T.1) hlt2
      obtain ⟨e17, e18, e19⟩ := hT1.2.2.1 _ a1
      have wbT := (wf_wb hw).2.2 _ a1
      have vk : vp_in (nI k) 10 := tq_vin (by omega) (by omega)
      have vx : vp_in (nI (axi T.2.1 T.1 k)) 80 := tq_vin (by omega) (by omega)
      have skip : (∀ c, c < T.1 → T.2.1 c = 6 → ac T.2.1 c = k → t.testBit (ac T.2.1 c) = true → Sv c) → tq_wp st_Mo_turn Q (30, [nI (j + 1), iB b, nI t, iB true, nI k + 1], [], σ1) := by
        intro h
        rw [tq_inc]
        refine ih (k + 1, true) ⟨by omega, Or.inl ⟨rfl, fun c c1 c2 c3 c4 => ?_⟩⟩ (by dsimp only; omega)
        by_cases e : ac T.2.1 c = k
        · exact h c c1 c2 e c4
        · dsimp only at c3; exact hall c c1 c2 (by omega) c4
      simp only [ia, tq_nc (show k < 2147483648 by omega), mo_at hT1 hlt2, tq_nc (show axi T.2.1 T.1 k < 2147483648 by omega), e17, e18]
      refine wi_g vk (wi_g vx (wi_c (fun q6 => wi_l (wi_s (skip ?_))) (fun q6 => ?_)))
      · intro c c1 c2 c3 _
        rw [← c3, axi_eq c1 (by rw [c2]; rfl), c2] at q6
        exact absurd rfl q6
      · have h6 : T.2.1 (axi T.2.1 T.1 k) = 6 := (tq_eq (b := 6) (by omega) (by omega)).mp (Classical.not_not.mp q6)
        obtain ⟨hF, hS⟩ := wf_some hw a1 h6
        rw [rb (by omega) (by omega)]
        refine wi_c (fun qb => wi_l (wi_s (skip ?_))) (fun qb => ?_)
        · intro c c1 c2 c3 c4
          rw [c3] at c4
          exact absurd (iB_o.mpr c4) qb
        · have hb1 : t.testBit k = true := iB_o.mp (Classical.not_not.mp qb)
          obtain ⟨y, y1, y2⟩ := mo_forbids hw hT1 hU1 (show t < 1024 by omega) hF
          refine wi_g vk (wi_g vx (wi_o y1 (wi_o (mo_isThere hw hT1 hO1 (show k < 10 by omega) y (nI (j + 1))) (wi_l (wi_s ?_)))))
          rw [tq_inc]
          obtain ⟨E, hE⟩ : ∃ E : Prop, E ↔ (∃ u, u < 2 ^ aN T ∧ (σ1.1 31 u = 0 ∨ σ1.1 31 u = nI (j + 1)) ∧ bI (σ1.1 30 u) k = true ∧ σ1.1 30 u &&& y = 0) := ⟨_, Iff.rfl⟩
          rw [← cD_c hE]
          have hES : E ↔ Sv (axi T.2.1 T.1 k) := by
            rw [hE, hSv]
            constructor
            · rintro ⟨u, u1, u2, u3, u4⟩
              obtain ⟨c, c1, c2, c3, c4⟩ := (hO1 u u1 k (by omega)).mp u3
              have ec : c = axi T.2.1 T.1 k := by rw [← c3, axi_eq c1 (by rw [c2]; rfl)]
              subst ec
              exact ⟨u, u1, (dOr u u1).mp u2, c4, (fb_sees hw y2 (hO1 u u1)).mp (by rw [Int32.and_comm]; exact u4)⟩
            · rintro ⟨u, u1, u2, u3, u4⟩
              exact ⟨u, u1, (dOr u u1).mpr u2, (hO1 u u1 k (by omega)).mpr ⟨_, a1, h6, a3, u3⟩, by rw [Int32.and_comm]; exact (fb_sees hw y2 (hO1 u u1)).mpr u4⟩
          refine ih (k + 1, cD E) ⟨by omega, ?_⟩ (by dsimp only; omega)
          dsimp only
          cases hc : cD E with
          | true =>
            refine Or.inl ⟨rfl, fun c c1 c2 c3 c4 => ?_⟩
            by_cases e : ac T.2.1 c = k
            · have ec : c = axi T.2.1 T.1 k := by rw [← e, axi_eq c1 (by rw [c2]; rfl)]
              rw [ec]; exact hES.mp (cD_t.mp hc)
            · exact hall c c1 c2 (by omega) c4
          | false =>
            refine Or.inr ⟨rfl, fun h => h.2 ⟨axi T.2.1 T.1 k, a1, h6, by rw [a3]; exact hb1, fun q => cD_f.mp hc (hES.mpr ((hSv _).mpr q))⟩⟩
