/-! both sides in step: what changes the table, the axioms, the roles, the things -/
theorem tEx_mkA (T : ab_T) (r b : Nat) : tEx T (mkA T r b).2 := by
  have h1 := tEx_mk T 3 b 0
  unfold mkA
  cases e1 : mk T 3 b 0 with
  | mk o T1 =>
    rw [e1] at h1
    cases o with
    | none => exact h1
    | some x =>
      have h2 := tEx_mk T1 6 r x
      dsimp only
      cases e2 : mk T1 6 r x with
      | mk o2 T2 =>
        rw [e2] at h2
        cases o2 with
        | none => exact h1.tr h2
        | some y => exact (h1.tr h2).tr (tEx_mk T2 7 r b)
theorem tEx_C0 (T : ab_T) (x : Int32) : tEx T (oC0 T x).2 := by
  unfold oC0
  by_cases h : bd 10 x
  · rw [if_pos h]; exact tEx.rf T
  · rw [if_neg h]; exact tEx_mk T _ _ _
theorem tEx_Bin (T : ab_T) (k : Nat) (x y : Int32) : tEx T (oBin T k x y).2 := by
  unfold oBin
  by_cases h : bd T.1 x ∨ bd T.1 y
  · rw [if_pos h]; exact tEx.rf T
  · rw [if_neg h]; exact tEx_mk T _ _ _
theorem tEx_Con (T : ab_T) (k x y : Int32) : tEx T (oCon T k x y).2 := by
  unfold oCon
  by_cases h3 : k = 3
  · rw [if_pos h3]
    by_cases h : bd T.1 x
    · rw [if_pos h]; exact tEx.rf T
    · rw [if_neg h]; exact tEx_mk T _ _ _
  · rw [if_neg h3]
    by_cases h4 : k = 4
    · rw [if_pos h4]; exact tEx_Bin T _ _ _
    · rw [if_neg h4]
      by_cases h5 : k = 5
      · rw [if_pos h5]; exact tEx_Bin T _ _ _
      · rw [if_neg h5]
        by_cases h6 : k = 6
        · rw [if_pos h6]
          by_cases h : bd 4 x ∨ bd T.1 y
          · rw [if_pos h]; exact tEx.rf T
          · rw [if_neg h]; exact tEx_mk T _ _ _
        · rw [if_neg h6]
          by_cases h7 : k = 7
          · rw [if_pos h7]
            by_cases h : bd 4 x ∨ bd T.1 y
            · rw [if_pos h]; exact tEx.rf T
            · rw [if_neg h]; exact tEx_mkA T _ _
          · rw [if_neg h7]; exact tEx.rf T
theorem jo_tab {n : Nat} {σ : tq_S} {stC stM : tq_C → Option tq_C} {xs : List Int32} {o : ab_T → Int32 × ab_T} (h : OK n σ) (he : ∀ T, tEx T (o T).2) (hc : ∀ T σ, wfT T → cTT T σ → sdC stC xs σ (o T)) (hm : ∀ T σ, wfT T → mTT T σ → sdM stM xs σ (o T)) : stp stC stM xs n σ := by
  obtain ⟨T, X, rl, B, M, hP, hC, hM⟩ := h
  obtain ⟨c1, c2, c3, c4, c5, c6, c7, c8⟩ := id hC
  obtain ⟨hw, hx, hb, hwM⟩ := id hP
  obtain ⟨σ1, a1, a2, f, hw'⟩ := hc T σ hw c1
  have hM1 := IM_fr hM (cfr_C f)
  obtain ⟨σ2, d1, d2, g⟩ := hm T σ1 hw hM1.1
  have ex := he T
  generalize (o T).2 = T' at a2 hw' d2 ex
  have hN := aN_ex ex
  have h10 : aN T' ≤ 10 := hw'.2.2.1
  have same : σ1.2.2 5 = nI (aN T') → aN T' = aN T := fun q => by
    obtain ⟨s, s1, s2⟩ := c8
    rw [f.2.2 5 (by decide), s2] at q
    have := (tq_eq (by omega) (by omega)).mp q
    omega
  refine stp_of (T := T') (X := X) (rl := rl) (B := B) (M := M) a1 d1 ⟨hw', ⟨hx.1, fun a ha => ⟨Nat.lt_of_lt_of_le (hx.2 a ha).1 ex.1, Nat.lt_of_lt_of_le (hx.2 a ha).2 ex.1⟩⟩, ⟨hb.1, fun k hk => ⟨(hb.2 k hk).1, Nat.lt_of_lt_of_le (hb.2 k hk).2 ex.1⟩⟩, hwM⟩ ⟨a2, ?_, ?_, ?_, ?_, ?_, ?_, ?_⟩ ⟨d2, ?_, ?_, ?_, ?_, ?_⟩ (mfr_T g)
  · exact cX_fr c2 (f.1 7 (by decide)) (f.1 8 (by decide)) (f.2.2 2 (by decide))
  · exact cR_fr c3 (f.1 5 (by decide)) (f.1 6 (by decide))
  · have := cB_fr c4 (f.2.1 4 (by decide)) (f.2.2 7 (by decide))
    exact ⟨this.1, fun i τ hi hτ => (this.2 i τ hi hτ).trans (saidP_ex ex hb).symm⟩
  · exact cL_fr c5 (f.1 13 (by decide)) (f.2.2 8 (by decide))
  · refine ⟨fun τ hτ => ?_, fun q4 q5 => ?_⟩
    · unfold gng; rw [f.2.1 3 (by decide)]; exact c6.1 τ hτ
    · have ha := same q5
      rw [ha, f.2.2 5 (by decide)] at q5
      rw [f.2.2 4 (by decide)] at q4
      exact vG_ex hw ex ha hx (vG_fr (c6.2 q4 q5) (f.1 9 (by decide)) (f.1 10 (by decide)) (f.1 11 (by decide)) (f.2.1 2 (by decide)) (f.2.2 3 (by decide)))
  · obtain ⟨v, v', s1, s2, s3, s4, s5⟩ := c7
    refine ⟨v, v', by rw [f.2.2 6 (by decide)]; exact s1, by rw [f.2.2 12 (by decide)]; exact s2, s3, by omega, fun q1 q2 q3 q4 => ?_⟩
    have ha := same q4
    rw [ha, f.2.2 5 (by decide)] at q4
    rw [f.2.2 4 (by decide)] at q3
    rw [f.2.2 11 (by decide)] at q1
    exact vS_ex hw ex ha hx hb (vS_fr (s5 q1 q2 q3 q4) (f.1 14 (by decide)) (f.1 16 (by decide)) (f.2.2 10 (by decide)))
  · obtain ⟨s, s1, s2⟩ := c8
    exact ⟨s, by omega, by rw [f.2.2 5 (by decide)]; exact s2⟩
  · exact mX_fr hM1.2.1 (g.1 21 (by decide)) (g.1 22 (by decide)) (g.2.2.1 15 (by decide) (by decide) (by decide))
  · exact mR_fr hM1.2.2.1 (g.1 23 (by decide))
  · exact mB_fr hM1.2.2.2.1 (g.1 24 (by decide)) (g.1 25 (by decide)) (g.2.2.1 16 (by decide) (by decide) (by decide))
  · exact mL_fr hM1.2.2.2.2.1 (g.1 26 (by decide)) (g.1 27 (by decide)) (g.1 28 (by decide)) (g.2.2.1 17 (by decide) (by decide) (by decide))
  · rcases g.2.2.2 with e | e
    · intro q
      rw [e] at q d2 ⊢
      have e13 := d2.1
      rw [hM1.1.1] at e13
      have h80 := hw.2.1
      have h80' := hw'.2.1
      exact mV_ex hw ex ((tq_eq (by omega) (by omega)).mp e13).symm hx (hM1.2.2.2.2.2 q)
    · intro q; exact absurd e q
theorem jo_class0 {n : Nat} {σ : tq_S} (h : OK n σ) (x : Int32) : stp st_Tn_class0 st_Mo_class0 [x] n σ := jo_tab (o := fun T => oC0 T x) h (fun T => tEx_C0 T x) (fun T σ hw hT => cl_class0 hw hT x) (fun T σ hw hT => mo_class0 hw hT x)
theorem jo_concept {n : Nat} {σ : tq_S} (h : OK n σ) (k x y : Int32) : stp st_Tn_concept st_Mo_concept [k, x, y] n σ := jo_tab (o := fun T => oCon T k x y) h (fun T => tEx_Con T k x y) (fun T σ hw hT => cl_concept hw hT k x y) (fun T σ hw hT => mo_concept hw hT k x y)
/-! axioms -/
theorem jo_ax {n : Nat} {σ σ1 σ2 : tq_S} {stC stM : tq_C → Option tq_C} {xs : List Int32} {z : Int32} {T : ab_T} {X X' : ab_X} {rl : Nat → Nat → Bool} {B : ab_X} {M : ab_L} (hP : IP T X B M) (hC : IC T X rl B M n σ) (hM1 : IM T X rl B M σ1) (hx' : wX T X') (hXX : X' = X ∨ X'.1 ≠ X.1)
    (a1 : tq_fI stC (0, xs, [], σ) = some (z, σ1)) (a2 : cX X' σ1) (f : fr [7, 8] [] [2, 4] σ σ1) (a4 : σ1 = σ ∨ σ1.2.2 4 = 1) (d1 : tq_fI stM (0, xs, [], σ1) = some (z, σ2)) (d2 : mX X' σ2) (g : fr [21, 22] [] [15, 18] σ1 σ2) (d4 : σ2 = σ1 ∨ σ2.2.2 18 = 0) : stp stC stM xs n σ := by
  obtain ⟨c1, c2, c3, c4, c5, c6, c7, c8⟩ := id hC
  obtain ⟨hw, hx, hb, hwM⟩ := id hP
  have b1 := hx.1
  have b2 := hx'.1
  have eC : σ1.2.2 4 = 0 → σ1 = σ ∧ X' = X := fun q => by
    rcases a4 with e | e
    · refine ⟨e, hXX.elim id (fun z => ?_)⟩
      have := a2.1
      rw [e, c2.1] at this
      exact absurd ((tq_eq (by omega) (by omega)).mp this).symm z
    · rw [e] at q; exact absurd q (by decide)
  refine stp_of (T := T) (X := X') (rl := rl) (B := B) (M := M) a1 d1 ⟨hw, hx', hb, hwM⟩ ⟨fr_c f (by decide) (by decide) (by decide) c1, a2, cR_fr c3 (f.1 5 (by decide)) (f.1 6 (by decide)), cB_fr c4 (f.2.1 4 (by decide)) (f.2.2 7 (by decide)), cL_fr c5 (f.1 13 (by decide)) (f.2.2 8 (by decide)), ⟨fun τ hτ => ?_, fun q4 q5 => ?_⟩, ?_, a5_fr c8 (f.2.2 5 (by decide))⟩ ⟨mT_fr hM1.1 g (by decide) (by decide) (by decide) (by decide) (by decide) (by decide), d2, mR_fr hM1.2.2.1 (g.1 23 (by decide)), mB_fr hM1.2.2.2.1 (g.1 24 (by decide)) (g.1 25 (by decide)) (g.2.2 16 (by decide)), mL_fr hM1.2.2.2.2.1 (g.1 26 (by decide)) (g.1 27 (by decide)) (g.1 28 (by decide)) (g.2.2 17 (by decide)), ?_⟩ (mfr_fr g (by decide) (by decide))
  · unfold gng; rw [f.2.1 3 (by decide)]; exact c6.1 τ hτ
  · obtain ⟨e1, e2⟩ := eC q4
    rw [e1] at q4 q5 ⊢
    rw [e2]; exact c6.2 q4 q5
  · obtain ⟨v, v', s1, s2, s3, s4, s5⟩ := c7
    refine ⟨v, v', by rw [f.2.2 6 (by decide)]; exact s1, by rw [f.2.2 12 (by decide)]; exact s2, s3, by omega, fun q1 q2 q3 q4 => ?_⟩
    obtain ⟨e1, e2⟩ := eC q3
    rw [e1] at q1 q3 q4 ⊢
    rw [e2]; exact s5 q1 q2 q3 q4
  · intro q
    rcases d4 with e | e
    · rw [e] at q d2 ⊢
      have : X' = X := hXX.elim id (fun z => by
        have := d2.1
        rw [hM1.2.1.1] at this
        exact absurd ((tq_eq (by omega) (by omega)).mp this).symm z)
      rw [this]; exact hM1.2.2.2.2.2 q
    · exact absurd e q
theorem wX_ax {T : ab_T} {X : ab_X} (hw : wfT T) (hx : wX T X) (x y : Int32) : wX T (oAx T.1 X x y).2 ∧ ((oAx T.1 X x y).2 = X ∨ (oAx T.1 X x y).2.1 ≠ X.1) := by
  have h80 := hw.2.1
  have hx1 := hx.1
  unfold oAx
  rcases bd_cases x (n := T.1) (by omega) with h | ⟨i, hi, rfl, h⟩
  · rw [if_pos (Or.inl h)]; exact ⟨hx, Or.inl rfl⟩
  · rcases bd_cases y (n := T.1) (by omega) with h' | ⟨j, hj, rfl, h'⟩
    · rw [if_pos (Or.inr h')]; exact ⟨hx, Or.inl rfl⟩
    · rw [if_neg (fun q => q.elim h h'), tq_nc (by omega), tq_nc (by omega)]
      by_cases e : X.1 = 30
      · rw [if_pos e]; exact ⟨hx, Or.inl rfl⟩
      · rw [if_neg e]
        refine ⟨⟨by show X.1 + 1 ≤ 30; omega, fun a ha => ?_⟩, Or.inr (by show X.1 + 1 ≠ X.1; omega)⟩
        have ha : a < X.1 + 1 := ha
        show va_up _ _ _ _ < _ ∧ va_up _ _ _ _ < _
        by_cases ea : a = X.1
        · rw [ea, va_up_self, va_up_self]; exact ⟨hi, hj⟩
        · rw [va_up_ne _ _ ea, va_up_ne _ _ ea]; exact hx.2 a (by omega)
theorem jo_axiom {n : Nat} {σ : tq_S} (h : OK n σ) (x y : Int32) : stp st_Tn_axiom st_Mo_axiom [x, y] n σ := by
  obtain ⟨T, X, rl, B, M, hP, hC, hM⟩ := h
  obtain ⟨σ1, a1, a2, a3, a4⟩ := cl_axiom hP.1 hC.1 hP.2.1.1 hC.2.1 x y
  have hM1 := IM_fr hM (cfr_fr a3 (by decide) (by decide))
  obtain ⟨σ2, d1, d2, d3, d4⟩ := mo_axiom hP.1 hM1.1 hP.2.1.1 hM1.2.1 x y
  obtain ⟨w1, w2⟩ := wX_ax hP.1 hP.2.1 x y
  exact jo_ax hP hC hM1 w1 w2 a1 a2 a3 a4 d1 d2 d3 d4
theorem wX_drop {T : ab_T} {X : ab_X} (hx : wX T X) : wX T (oDrop X).2 ∧ ((oDrop X).2 = X ∨ (oDrop X).2.1 ≠ X.1) := by
  unfold oDrop
  by_cases e : X.1 = 0
  · rw [if_pos e]; exact ⟨hx, Or.inl rfl⟩
  · rw [if_neg e]
    have := hx.1
    exact ⟨⟨by show X.1 - 1 ≤ 30; omega, fun a ha => hx.2 a (by have ha : a < X.1 - 1 := ha; omega)⟩, Or.inr (by show X.1 - 1 ≠ X.1; omega)⟩
theorem jo_drop {n : Nat} {σ : tq_S} (h : OK n σ) : stp st_Tn_drop st_Mo_drop [] n σ := by
  obtain ⟨T, X, rl, B, M, hP, hC, hM⟩ := h
  obtain ⟨σ1, a1, a2, a3, a4⟩ := cl_drop hP.2.1.1 hC.2.1
  have hM1 := IM_fr hM (cfr_fr a3 (by decide) (by decide))
  obtain ⟨σ2, d1, d2, d3, d4⟩ := mo_drop hP.2.1.1 hM1.2.1
  obtain ⟨w1, w2⟩ := wX_drop hP.2.1
  exact jo_ax hP hC hM1 w1 w2 a1 a2 (a3.wk (by decide) (by decide) (by decide)) a4 d1 d2 (d3.wk (by decide) (by decide) (by decide)) d4
/-! roles -/
theorem rl_new {rl : Nat → Nat → Bool} (x y : Int32) : (oRole rl x y).2 = rl ∨ ∃ r s, r < 4 ∧ s < 4 ∧ rl r s = false ∧ (oRole rl x y).2 = upR rl r s := by
  unfold oRole
  rcases bd_cases x (n := 4) (by omega) with h | ⟨i, hi, rfl, h⟩
  · rw [if_pos (Or.inl h)]; exact Or.inl rfl
  · rcases bd_cases y (n := 4) (by omega) with h' | ⟨j, hj, rfl, h'⟩
    · rw [if_pos (Or.inr h')]; exact Or.inl rfl
    · rw [if_neg (fun q => q.elim h h'), tq_nc (by omega), tq_nc (by omega)]
      cases e : rl i j with
      | true => rw [if_pos rfl]; exact Or.inl rfl
      | false => rw [if_neg (by decide)]; exact Or.inr ⟨i, j, hi, hj, e, rfl⟩
theorem upR_t (rl : Nat → Nat → Bool) (r s : Nat) : upR rl r s r s = true := by unfold upR; simp
theorem jo_role {n : Nat} {σ : tq_S} (h : OK n σ) (x y : Int32) : stp st_Tn_role st_Mo_role [x, y] n σ := by
  obtain ⟨T, X, rl, B, M, hP, hC, hM⟩ := h
  obtain ⟨c1, c2, c3, c4, c5, c6, c7, c8⟩ := id hC
  obtain ⟨σ1, a1, a2, f, a4⟩ := cl_role c3 x y
  have hM1 := IM_fr hM (cfr_fr f (by decide) (by decide))
  obtain ⟨σ2, d1, d2, g, d4⟩ := mo_role hM1.2.2.1 x y
  have hrl := rl_new (rl := rl) x y
  generalize (oRole rl x y).2 = rl' at a2 d2 hrl
  have eC : σ1.2.2 4 = 0 → σ1 = σ ∧ rl' = rl := fun q => by
    rcases a4 with e | e
    · refine ⟨e, hrl.elim id (fun ⟨r, s, r4, s4, r1, r2⟩ => ?_)⟩
      have q1 := a2.1 r r4 s (by omega)
      rw [e, c3.1 r r4 s (by omega), r1, r2, upR_t] at q1
      simp [s4] at q1
    · rw [e] at q; exact absurd q (by decide)
  refine stp_of (T := T) (X := X) (rl := rl') (B := B) (M := M) a1 d1 hP ⟨fr_c f (by decide) (by decide) (by decide) c1, cX_fr c2 (f.1 7 (by decide)) (f.1 8 (by decide)) (f.2.2 2 (by decide)), a2, cB_fr c4 (f.2.1 4 (by decide)) (f.2.2 7 (by decide)), cL_fr c5 (f.1 13 (by decide)) (f.2.2 8 (by decide)), ⟨fun τ hτ => ?_, fun q4 q5 => ?_⟩, ?_, a5_fr c8 (f.2.2 5 (by decide))⟩ ⟨mT_fr hM1.1 g (by decide) (by decide) (by decide) (by decide) (by decide) (by decide), mX_fr hM1.2.1 (g.1 21 (by decide)) (g.1 22 (by decide)) (g.2.2 15 (by decide)), d2, mB_fr hM1.2.2.2.1 (g.1 24 (by decide)) (g.1 25 (by decide)) (g.2.2 16 (by decide)), mL_fr hM1.2.2.2.2.1 (g.1 26 (by decide)) (g.1 27 (by decide)) (g.1 28 (by decide)) (g.2.2 17 (by decide)), ?_⟩ (mfr_fr g (by decide) (by decide))
  · unfold gng; rw [f.2.1 3 (by decide)]; exact c6.1 τ hτ
  · obtain ⟨e1, e2⟩ := eC q4
    rw [e1] at q4 q5 ⊢
    rw [e2]; exact c6.2 q4 q5
  · obtain ⟨v, v', s1, s2, s3, s4, s5⟩ := c7
    refine ⟨v, v', by rw [f.2.2 6 (by decide)]; exact s1, by rw [f.2.2 12 (by decide)]; exact s2, s3, by omega, fun q1 q2 q3 q4 => ?_⟩
    obtain ⟨e1, e2⟩ := eC q3
    rw [e1] at q1 q3 q4 ⊢
    rw [e2]; exact s5 q1 q2 q3 q4
  · intro q
    rcases d4 with e | e
    · rw [e] at q d2 ⊢
      have : rl' = rl := hrl.elim id (fun ⟨r, s, r4, s4, r1, r2⟩ => by
        have q1 := d2 r s r4 s4
        rw [hM1.2.2.1 r s r4 s4, r1, r2, upR_t] at q1
        exact absurd q1 (by decide))
      rw [this]; exact hM1.2.2.2.2.2 q
    · exact absurd e q
/-! things -/
theorem jo_th {n : Nat} {σ σ1 σ2 : tq_S} {stC stM : tq_C → Option tq_C} {xs : List Int32} {z : Int32} {T : ab_T} {X : ab_X} {rl : Nat → Nat → Bool} {B B' : ab_X} {M M' : ab_L} (hP : IP T X B M) (hC : IC T X rl B M n σ) (hM1 : IM T X rl B M σ1) (hb' : wB T B') (hm' : wM M')
    (a1 : tq_fI stC (0, xs, [], σ) = some (z, σ1)) (a2 : cB T B' σ1) (a3 : cL M' σ1) (f : fr [13] [4] [7, 8, 11] σ σ1) (a4 : σ1.2.2 11 = 1 ∨ (σ1 = σ ∧ B' = B ∧ M' = M)) (d1 : tq_fI stM (0, xs, [], σ1) = some (z, σ2)) (d2 : mB B' σ2) (d3 : mL M' σ2) (g : fr [24, 25, 26, 27, 28] [] [16, 17] σ1 σ2) : stp stC stM xs n σ := by
  obtain ⟨c1, c2, c3, c4, c5, c6, c7, c8⟩ := id hC
  obtain ⟨hw, hx, hb, hwM⟩ := id hP
  refine stp_of (T := T) (X := X) (rl := rl) (B := B') (M := M') a1 d1 ⟨hw, hx, hb', hm'⟩ ⟨fr_c f (by decide) (by decide) (by decide) c1, cX_fr c2 (f.1 7 (by decide)) (f.1 8 (by decide)) (f.2.2 2 (by decide)), cR_fr c3 (f.1 5 (by decide)) (f.1 6 (by decide)), a2, a3, cG_fr c6 f (by decide) (by decide) (by decide) (by decide) (by decide) (by decide) (by decide) (by decide), ?_, a5_fr c8 (f.2.2 5 (by decide))⟩ ⟨mT_fr hM1.1 g (by decide) (by decide) (by decide) (by decide) (by decide) (by decide), mX_fr hM1.2.1 (g.1 21 (by decide)) (g.1 22 (by decide)) (g.2.2 15 (by decide)), mR_fr hM1.2.2.1 (g.1 23 (by decide)), d2, d3, mK_fr hM1.2.2.2.2.2 (fun k k1 k2 => g.1 k (by simp; omega)) (g.2.2 18 (by decide)) (g.2.2 19 (by decide))⟩ (mfr_fr g (by decide) (by decide))
  obtain ⟨v, v', s1, s2, s3, s4, s5⟩ := c7
  refine ⟨v, v', by rw [f.2.2 6 (by decide)]; exact s1, by rw [f.2.2 12 (by decide)]; exact s2, s3, by omega, fun q1 q2 q3 q4 => ?_⟩
  rcases a4 with e | ⟨e1, e2, e3⟩
  · rw [e] at q1; exact absurd q1 (by decide)
  · rw [e1] at q1 q3 q4 ⊢
    rw [e2, e3]; exact s5 q1 q2 q3 q4
theorem wB_in {T : ab_T} {B : ab_X} (hw : wfT T) (hb : wB T B) (x y : Int32) : wB T (oInd T.1 B x y).2 ∧ ((oInd T.1 B x y).2 = B ∨ (oInd T.1 B x y).2.1 = B.1 + 1) := by
  have h80 := hw.2.1
  have hx1 := hb.1
  unfold oInd
  rcases bd_cases x (n := 5) (by omega) with h | ⟨i, hi, rfl, h⟩
  · rw [if_pos (Or.inl h)]; exact ⟨hb, Or.inl rfl⟩
  · rcases bd_cases y (n := T.1) (by omega) with h' | ⟨j, hj, rfl, h'⟩
    · rw [if_pos (Or.inr h')]; exact ⟨hb, Or.inl rfl⟩
    · rw [if_neg (fun q => q.elim h h'), tq_nc (by omega), tq_nc (by omega)]
      by_cases e : B.1 = 40
      · rw [if_pos e]; exact ⟨hb, Or.inl rfl⟩
      · rw [if_neg e]
        refine ⟨⟨by show B.1 + 1 ≤ 40; omega, fun a ha => ?_⟩, Or.inr rfl⟩
        have ha : a < B.1 + 1 := ha
        show va_up _ _ _ _ < _ ∧ va_up _ _ _ _ < _
        by_cases ea : a = B.1
        · rw [ea, va_up_self, va_up_self]; exact ⟨hi, hj⟩
        · rw [va_up_ne _ _ ea, va_up_ne _ _ ea]; exact hb.2 a (by omega)
theorem wM_in {M : ab_L} (hb : wM M) (x y z : Int32) : wM (oHas M x y z).2 ∧ ((oHas M x y z).2 = M ∨ (oHas M x y z).2.1 = M.1 + 1) := by
  have hx1 := hb.1
  unfold oHas
  rcases bd_cases x (n := 5) (by omega) with h | ⟨i, hi, rfl, h⟩
  · rw [if_pos (Or.inl h)]; exact ⟨hb, Or.inl rfl⟩
  · rcases bd_cases y (n := 4) (by omega) with h' | ⟨r, hr, rfl, h'⟩
    · rw [if_pos (Or.inr (Or.inl h'))]; exact ⟨hb, Or.inl rfl⟩
    · rcases bd_cases z (n := 5) (by omega) with h'' | ⟨j, hj, rfl, h''⟩
      · rw [if_pos (Or.inr (Or.inr h''))]; exact ⟨hb, Or.inl rfl⟩
      · rw [if_neg (fun q => q.elim h (fun q => q.elim h' h'')), tq_nc (by omega), tq_nc (by omega), tq_nc (by omega)]
        by_cases e : M.1 = 40
        · rw [if_pos e]; exact ⟨hb, Or.inl rfl⟩
        · rw [if_neg e]
          refine ⟨⟨by show M.1 + 1 ≤ 40; omega, fun a ha => ?_⟩, Or.inr rfl⟩
          have ha : a < M.1 + 1 := ha
          show va_up _ _ _ _ < _ ∧ va_up _ _ _ _ < _ ∧ va_up _ _ _ _ < _
          by_cases ea : a = M.1
          · rw [ea, va_up_self, va_up_self, va_up_self]; exact ⟨hi, hr, hj⟩
          · rw [va_up_ne _ _ ea, va_up_ne _ _ ea, va_up_ne _ _ ea]; exact hb.2 a (by omega)
theorem jo_individual {n : Nat} {σ : tq_S} (h : OK n σ) (x y : Int32) : stp st_Tn_individual st_Mo_individual [x, y] n σ := by
  obtain ⟨T, X, rl, B, M, hP, hC, hM⟩ := h
  obtain ⟨c1, c2, c3, c4, c5, c6, c7, c8⟩ := id hC
  obtain ⟨hw, hx, hb, hwM⟩ := id hP
  have b40 := hb.1
  obtain ⟨σ1, a1, a2, f, a4⟩ := cl_individual hw c1 hb.1 c4 x y
  have hM1 := IM_fr hM (cfr_fr f (by decide) (by decide))
  obtain ⟨σ2, d1, d2, g⟩ := mo_individual hw hM1.1 hb.1 hM1.2.2.2.1 x y
  obtain ⟨w1, w2⟩ := wB_in hw hb x y
  refine jo_th hP hC hM1 w1 hwM a1 a2 (cL_fr c5 (f.1 13 (by decide)) (f.2.2 8 (by decide))) (f.wk (by decide) (by decide) (by decide)) ?_ d1 d2 (mL_fr hM1.2.2.2.2.1 (g.1 26 (by decide)) (g.1 27 (by decide)) (g.1 28 (by decide)) (g.2.2 17 (by decide))) (g.wk (by decide) (by decide) (by decide))
  rcases a4 with e | e
  · refine Or.inr ⟨e, w2.elim id (fun z => ?_), rfl⟩
    have := a2.1
    rw [e, c4.1, z] at this
    have := (tq_eq (by omega) (by omega)).mp this
    omega
  · exact Or.inl e
theorem jo_has {n : Nat} {σ : tq_S} (h : OK n σ) (x y z : Int32) : stp st_Tn_has st_Mo_has [x, y, z] n σ := by
  obtain ⟨T, X, rl, B, M, hP, hC, hM⟩ := h
  obtain ⟨c1, c2, c3, c4, c5, c6, c7, c8⟩ := id hC
  obtain ⟨hw, hx, hb, hwM⟩ := id hP
  have b40 := hwM.1
  obtain ⟨σ1, a1, a2, f, a4⟩ := cl_has hwM.1 c5 x y z
  have hM1 := IM_fr hM (cfr_fr f (by decide) (by decide))
  obtain ⟨σ2, d1, d2, g⟩ := mo_has hwM.1 hM1.2.2.2.2.1 x y z
  obtain ⟨w1, w2⟩ := wM_in hwM x y z
  refine jo_th hP hC hM1 hb w1 a1 (cB_fr c4 (f.2.1 4 (by decide)) (f.2.2 7 (by decide))) a2 (f.wk (by decide) (by decide) (by decide)) ?_ d1 (mB_fr hM1.2.2.2.1 (g.1 24 (by decide)) (g.1 25 (by decide)) (g.2.2 16 (by decide))) d2 (g.wk (by decide) (by decide) (by decide))
  rcases a4 with e | e
  · refine Or.inr ⟨e, rfl, w2.elim id (fun z => ?_)⟩
    have := a2.1
    rw [e, c5.1, z] at this
    have := (tq_eq (by omega) (by omega)).mp this
    omega
  · exact Or.inl e
theorem wB_0 (T : ab_T) : wB T B0 := ⟨by decide, fun k hk => absurd hk (Nat.not_lt_zero _)⟩
theorem wM_0 : wM M0 := ⟨by decide, fun k hk => absurd hk (Nat.not_lt_zero _)⟩
theorem jo_forget {n : Nat} {σ : tq_S} (h : OK n σ) : stp st_Tn_forget st_Mo_forget [] n σ := by
  obtain ⟨T, X, rl, B, M, hP, hC, hM⟩ := h
  obtain ⟨c1, c2, c3, c4, c5, c6, c7, c8⟩ := id hC
  obtain ⟨σ1, a1, a2, a3, f, a4⟩ := cl_forget T c4 c5
  have hM1 := IM_fr hM (cfr_fr f (by decide) (by decide))
  obtain ⟨σ2, d1, d2, d3, g⟩ := mo_forget hM1.2.2.2.1 hM1.2.2.2.2.1
  exact jo_th hP hC hM1 (wB_0 T) wM_0 a1 a2 a3 f (Or.inl a4) d1 d2 d3 (g.wk (by decide) (by decide) (by decide))
