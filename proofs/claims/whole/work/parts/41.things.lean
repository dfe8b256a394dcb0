/-! individual, has, forget: both sides -/
def cB (T : ab_T) (B : ab_X) (σ : tq_S) : Prop := σ.2.2 7 = nI B.1 ∧ ∀ i τ, i < 5 → τ < 1024 → (bL (σ.2.1 4 (i * 16 + τ / 64)) (τ % 64) = true ↔ ∀ k, k < B.1 → B.2.1 k = i → ve T.2.1 T.2.2.1 T.2.2.2 τ T.1 (B.2.2 k) = true)
def cL (M : ab_L) (σ : tq_S) : Prop := σ.2.2 8 = nI M.1 ∧ ∀ i j r, i < 5 → j < 5 → r < 32 → (bI (σ.1 13 (i * 5 + j)) r = true ↔ ∃ k, k < M.1 ∧ M.2.1 k = i ∧ M.2.2.1 k = r ∧ M.2.2.2 k = j)
def mB (B : ab_X) (σ : tq_S) : Prop := σ.2.2 16 = nI B.1 ∧ ∀ k, k < B.1 → σ.1 24 k = nI (B.2.1 k) ∧ σ.1 25 k = nI (B.2.2 k)
def mL (M : ab_L) (σ : tq_S) : Prop := σ.2.2 17 = nI M.1 ∧ ∀ k, k < M.1 → σ.1 26 k = nI (M.2.1 k) ∧ σ.1 27 k = nI (M.2.2.1 k) ∧ σ.1 28 k = nI (M.2.2.2 k)
abbrev upL (M : ab_L) (i r j : Nat) : ab_L := (M.1 + 1, va_up M.2.1 M.1 i, va_up M.2.2.1 M.1 r, va_up M.2.2.2 M.1 j)
theorem lput_s (σ : tq_S) (k i : Nat) (v : Int64) (j : Nat) : (lput σ k i v).2.1 k j = if j = i then v else σ.2.1 k j := by
  show (if k = k then vp_updL (σ.2.1 k) i v else σ.2.1 k) j = _
  rw [if_pos rfl]; rfl
theorem lput_n (σ : tq_S) {k k' : Nat} (i : Nat) (v : Int64) (h : k' ≠ k) : (lput σ k i v).2.1 k' = σ.2.1 k' := by
  show (if k' = k then _ else σ.2.1 k') = _
  rw [if_neg h]
/-- Things.sayIs -/
theorem sp_sayIs {T : ab_T} {B : ab_X} {σ : tq_S} (hw : wfT T) (hT : cTT T σ) (hm : B.1 ≤ 40) (hB : cB T B σ) {i c : Nat} (hi : i < 5) (hc : c < T.1) :
    (B.1 = 40 → tq_fI st_Th_sayIs (0, [nI i, nI c], [], σ) = some (-3, σ)) ∧
    (B.1 < 40 → ∃ σ', tq_fI st_Th_sayIs (0, [nI i, nI c], [], σ) = some (nI (B.1 + 1), σ') ∧ cB T (upX B i c) σ' ∧ σ'.2.2 11 = 1 ∧ fr [] [4] [7, 11] σ σ') := by
  have h80 := hw.2.1
  obtain ⟨h0, h1⟩ := hB
  have c40 : ((40 : Int32) ≤ nI B.1 ↔ 40 ≤ B.1) := tq_le (a := 40) (by omega) (by omega)
  have hnb : ¬ bd 5 (nI i) := fun q => q.elim (tq_n0 (by omega)) (nI_ge hi (by decide))
  refine ⟨fun h => tq_fI_e (tq_at (by decide) ?_), fun h => ?_⟩
  · show tq_wo (bk_Th_sayIs_0 [nI i, nI c] [] σ) _
    rw [bk_Th_sayIs_0, h0]
    exact wi_t (c40.mpr (by omega)) (wi_s (tq_wp_rt rfl))
  · obtain ⟨r, σ', g1, rfl, g2, g3, g4⟩ := tq_fI_of (st := st_Th_sayIs) (c := (0, [nI i, nI c], [], σ)) (P := fun r σ' => r = nI (B.1 + 1) ∧ cB T (upX B i c) σ' ∧ σ'.2.2 11 = 1 ∧ fr [] [4] [7, 11] σ σ') (by
      refine tq_at (by decide) ?_
      show tq_wo (bk_Th_sayIs_0 [nI i, nI c] [] σ) _
      rw [bk_Th_sayIs_0, h0]
      refine wi_f (fun q => absurd (c40.mp q) (by omega)) (wi_o (sp_bf (n := 5) hnb) (wi_t (by decide) (wi_s ?_)))
      refine tq_ind 22 (fun p : Nat × tq_S => ([nI i, nI c, nI p.1], [], p.2)) (fun p => p.1 ≤ 16 ∧ fr [] [4] [] σ p.2 ∧ (∀ u, u < p.1 → p.2.2.1 4 (i * 16 + u) = (σ.2.1 4 (i * 16 + u) &&& σ.2.1 0 (c * 16 + u))) ∧ (∀ j, ¬ (i * 16 ≤ j ∧ j < i * 16 + p.1) → p.2.2.1 4 j = σ.2.1 4 j)) (fun p => 16 - p.1) ?_ (0, σ) ⟨Nat.zero_le _, fr.rf _ _ _ σ, fun u h => absurd h (Nat.not_lt_zero _), fun _ _ => rfl⟩
      rintro ⟨w, σ1⟩ ⟨hw16, f1, a1, a2⟩ ih
      dsimp only at hw16 f1 a1 a2 ih ⊢
      have e7 : σ1.2.2 7 = nI B.1 := by rw [f1.2.2 7 (by decide)]; exact h0
      refine tq_at (by decide) ?_
      show tq_wo (bk_Th_sayIs_22 [nI i, nI c, nI w] [] σ1) _
      rw [bk_Th_sayIs_22]
      refine wi_c (fun q => wi_l (wi_l (wi_s (tq_wp_rt ?_)))) (fun q => ?_)
      · have : w = 16 := by
          have := (tq_le (a := 16) (b := w) (by omega) (by omega)).mp q
          omega
        subst this
        rw [fput_s, fput_n _ _ (show (7 : Nat) ≠ 11 by decide), e7, tq_inc]
        refine ⟨_, _, rfl, rfl, ⟨fput_s _ _ _, fun i' τ hi' hτ => ?_⟩, ?_, ?_⟩
        · show bL (σ1.2.1 4 (i' * 16 + τ / 64)) (τ % 64) = true ↔ _
          have old := h1 i' τ hi' hτ
          have hcol := hT.2.2.2.2.1 c τ hc hτ
          by_cases e : i' = i
          · subst e
            rw [a1 (τ / 64) (by omega), bL_and, Bool.and_eq_true_iff, old, hcol]
            constructor
            · rintro ⟨q1, q2⟩ k hk he
              have hk : k < B.1 + 1 := hk
              by_cases ek : k = B.1
              · rw [ek]; show ve _ _ _ _ _ (va_up _ _ _ _) = _; rw [va_up_self]; exact q2
              · have he : va_up B.2.1 B.1 i' k = i' := he
                rw [va_up_ne _ _ ek] at he
                show ve _ _ _ _ _ (va_up _ _ _ _) = _; rw [va_up_ne _ _ ek]; exact q1 k (by omega) he
            · intro q
              refine ⟨fun k hk he => ?_, ?_⟩
              · have := q k (by show k < B.1 + 1; omega) (by show va_up _ _ _ _ = _; rw [va_up_ne _ _ (by omega)]; exact he)
                rw [show (upX B i' c).2.2 k = va_up B.2.2 B.1 c k from rfl, va_up_ne _ _ (by omega)] at this
                exact this
              · have := q B.1 (by show B.1 < B.1 + 1; omega) (by show va_up _ _ _ _ = _; rw [va_up_self])
                rw [show (upX B i' c).2.2 B.1 = va_up B.2.2 B.1 c B.1 from rfl, va_up_self] at this
                exact this
          · rw [a2 _ (by omega), old]
            constructor
            · intro q k hk he
              have hk : k < B.1 + 1 := hk
              have he : va_up B.2.1 B.1 i k = i' := he
              by_cases ek : k = B.1
              · rw [ek, va_up_self] at he; exact absurd he.symm e
              · rw [va_up_ne _ _ ek] at he
                show ve _ _ _ _ _ (va_up _ _ _ _) = _; rw [va_up_ne _ _ ek]; exact q k (by omega) he
            · intro q k hk he
              have := q k (by show k < B.1 + 1; omega) (by show va_up _ _ _ _ = _; rw [va_up_ne _ _ (by omega)]; exact he)
              rw [show (upX B i c).2.2 k = va_up B.2.2 B.1 c k from rfl, va_up_ne _ _ (by omega)] at this
              exact this
        · rw [fput_n _ _ (show (11 : Nat) ≠ 7 by decide), fput_s]
        · have f1' : fr [] [4] [7, 11] σ σ1 := ⟨f1.1, f1.2.1, fun k hk => f1.2.2 k (by simp)⟩
          exact f1'.tr ((fr.f (by decide)).tr (fr.f (by decide)))
      · have hw' : w < 16 := tq_nle (a := 16) (by omega) (by omega) q
        have e0 : σ1.2.1 0 = σ.2.1 0 := f1.2.1 0 (by decide)
        have s0 : σ1.2.2 0 = nI T.1 := by rw [f1.2.2 0 (by decide)]; exact hT.1
        simp only [la, tq_m16, nI_add]
        rw [tq_nc (by omega)]
        have vi : vp_in (nI (i * 16 + w)) 80 := tq_vin (by omega) (by omega)
        refine wi_g vi (wi_o (sp_word (by omega) s0 hc hw') (wi_g vi (wi_l (wi_l (wi_s ?_)))))
        rw [tq_inc]
        refine ih (w + 1, lput σ1 4 (i * 16 + w) (σ1.2.1 4 (i * 16 + w) &&& σ1.2.1 0 (c * 16 + w))) ⟨by omega, f1.tr (fr.l (by decide)), fun u hu => ?_, fun j hj => ?_⟩ (by dsimp only; omega)
        · show (lput σ1 4 _ _).2.1 4 (i * 16 + u) = _
          rw [lput_s]
          by_cases e : u = w
          · rw [if_pos (by omega), e, e0, a2 _ (by omega)]
          · rw [if_neg (by omega)]; exact a1 u (by dsimp only at hu; omega)
        · show (lput σ1 4 _ _).2.1 4 j = _
          dsimp only at hj
          rw [lput_s, if_neg (by omega)]
          exact a2 j (by omega))
    exact ⟨σ', g1, g2, g3, g4⟩
noncomputable def oInd (n : Nat) (B : ab_X) (x y : Int32) : Int32 × ab_X := @ite _ (bd 5 x ∨ bd n y) (Classical.propDecidable _) (-1, B) (if B.1 = 40 then (-3, B) else (nI (B.1 + 1), upX B x.toNatClampNeg y.toNatClampNeg))
theorem cl_individual {T : ab_T} {B : ab_X} {σ : tq_S} (hw : wfT T) (hT : cTT T σ) (hm : B.1 ≤ 40) (hB : cB T B σ) (x y : Int32) :
    ∃ σ', tq_fI st_Tn_individual (0, [x, y], [], σ) = some ((oInd T.1 B x y).1, σ') ∧ cB T (oInd T.1 B x y).2 σ' ∧ fr [] [4] [7, 11] σ σ' ∧ (σ' = σ ∨ σ'.2.2 11 = 1) := by
  have h80 := hw.2.1
  have go : ∀ r σ', tq_wo (bk_Tn_individual_0 [x, y] [] σ) (tq_wp st_Tn_individual (fun d => d = (tq_rt, [r], [], σ'))) → tq_fI st_Tn_individual (0, [x, y], [], σ) = some (r, σ') := fun r σ' h => tq_fI_e (tq_at (by decide) h)
  unfold oInd
  rcases bd_cases x (n := 5) (by omega) with h | ⟨i, hi, rfl, h⟩
  · rw [if_pos (Or.inl h)]
    refine ⟨σ, go _ _ ?_, hB, fr.rf _ _ _ σ, Or.inl rfl⟩
    rw [bk_Tn_individual_0]
    exact wi_o (sp_bt (n := 5) h) (wi_t rfl (wi_s (tq_wp_rt rfl)))
  · rcases bd_cases y (n := T.1) (by omega) with h' | ⟨j, hj, rfl, h'⟩
    · rw [if_pos (Or.inr h')]
      refine ⟨σ, go _ _ ?_, hB, fr.rf _ _ _ σ, Or.inl rfl⟩
      rw [bk_Tn_individual_0]
      exact wi_o (sp_bf (n := 5) h) (wi_f (by decide) (wi_o (sp_tt hT.1 h') (wi_t rfl (wi_s (tq_wp_rt rfl)))))
    · rw [if_neg (fun q => q.elim h h'), tq_nc (by omega), tq_nc (by omega)]
      obtain ⟨a1, a2⟩ := sp_sayIs hw hT hm hB hi hj
      by_cases e : B.1 = 40
      · rw [if_pos e]
        refine ⟨σ, go _ _ ?_, hB, fr.rf _ _ _ σ, Or.inl rfl⟩
        rw [bk_Tn_individual_0]
        exact wi_o (sp_bf (n := 5) h) (wi_f (by decide) (wi_o (sp_tf hT.1 h') (wi_f (by decide) (wi_o (a1 e) (wi_s (tq_wp_rt rfl))))))
      · rw [if_neg e]
        obtain ⟨σ', g1, g2, g3, g4⟩ := a2 (by omega)
        refine ⟨σ', go _ _ ?_, g2, g4, Or.inr g3⟩
        rw [bk_Tn_individual_0]
        exact wi_o (sp_bf (n := 5) h) (wi_f (by decide) (wi_o (sp_tf hT.1 h') (wi_f (by decide) (wi_o g1 (wi_s (tq_wp_rt rfl))))))
theorem sp_ht {x : Int32} {σ : tq_S} (h : bd 5 x) : tq_fI st_Mo_isThing (0, [x], [], σ) = some (0, σ) := by rw [sp_isThing, bdi_t h]
theorem sp_hf {x : Int32} {σ : tq_S} (h : ¬ bd 5 x) : tq_fI st_Mo_isThing (0, [x], [], σ) = some (1, σ) := by rw [sp_isThing, bdi_f h]
theorem mo_individual {T : ab_T} {B : ab_X} {σ : tq_S} (hw : wfT T) (hT : mTT T σ) (hm : B.1 ≤ 40) (hB : mB B σ) (x y : Int32) :
    ∃ σ', tq_fI st_Mo_individual (0, [x, y], [], σ) = some ((oInd T.1 B x y).1, σ') ∧ mB (oInd T.1 B x y).2 σ' ∧ fr [24, 25] [] [16] σ σ' := by
  have h80 := hw.2.1
  have go : ∀ r σ', tq_wo (bk_Mo_individual_0 [x, y] [] σ) (tq_wp st_Mo_individual (fun d => d = (tq_rt, [r], [], σ'))) → tq_fI st_Mo_individual (0, [x, y], [], σ) = some (r, σ') := fun r σ' h => tq_fI_e (tq_at (by decide) h)
  unfold oInd
  rcases bd_cases x (n := 5) (by omega) with h | ⟨i, hi, rfl, h⟩
  · rw [if_pos (Or.inl h)]
    refine ⟨σ, go _ _ ?_, hB, fr.rf _ _ _ σ⟩
    rw [bk_Mo_individual_0]
    exact wi_o (sp_ht h) (wi_t rfl (wi_s (tq_wp_rt rfl)))
  · rcases bd_cases y (n := T.1) (by omega) with h' | ⟨j, hj, rfl, h'⟩
    · rw [if_pos (Or.inr h')]
      refine ⟨σ, go _ _ ?_, hB, fr.rf _ _ _ σ⟩
      rw [bk_Mo_individual_0]
      exact wi_o (sp_hf h) (wi_f (by decide) (wi_o (sp_ct hT.1 h') (wi_f (fun q => q rfl) (wi_s (tq_wp_rt rfl)))))
    · rw [if_neg (fun q => q.elim h h'), tq_nc (by omega), tq_nc (by omega)]
      obtain ⟨h0, h1⟩ := id hB
      have c40 : (nI B.1 = 40 ↔ B.1 = 40) := tq_eq (b := 40) (by omega) (by omega)
      by_cases e : B.1 = 40
      · rw [if_pos e]
        refine ⟨σ, go _ _ ?_, hB, fr.rf _ _ _ σ⟩
        rw [bk_Mo_individual_0]
        exact wi_o (sp_hf h) (wi_f (by decide) (wi_o (sp_cf hT.1 h') (wi_t (by decide) (wi_f (fun q => q (by rw [h0]; exact c40.mpr e)) (wi_s (tq_wp_rt rfl))))))
      · rw [if_neg e]
        obtain ⟨σ1, e1⟩ : ∃ σ1, σ1 = iput (iput σ 24 B.1 (nI i)) 25 B.1 (nI j) := ⟨_, rfl⟩
        refine ⟨fput σ1 16 (nI (B.1 + 1)), go _ _ ?_, ⟨fput_s _ _ _, fun q hq => ?_⟩, ?_⟩
        · rw [bk_Mo_individual_0]
          have vi : vp_in (nI B.1) 40 := tq_vin (by omega) (by omega)
          refine wi_o (sp_hf h) (wi_f (by decide) (wi_o (sp_cf hT.1 h') (wi_t (by decide) ?_)))
          rw [h0]
          refine wi_t (fun q => e (c40.mp q)) (wi_g vi (wi_l ?_))
          have e2 : (iput σ 24 (nI B.1).toNatClampNeg (nI i)).2.2 16 = nI B.1 := h0
          rw [e2, tq_nc (by omega)]
          refine wi_g vi (wi_l (wi_l (wi_s (tq_wp_rt ?_))))
          rw [← e1]
          have e3 : σ1.2.2 16 = nI B.1 := by rw [e1]; exact h0
          rw [e3, tq_inc, fput_s]
        · show σ1.1 24 q = nI (va_up B.2.1 B.1 i q) ∧ σ1.1 25 q = nI (va_up B.2.2 B.1 j q)
          rw [e1, iput_n _ _ _ (show (24 : Nat) ≠ 25 by decide), iput_s, iput_s, iput_n _ _ _ (show (25 : Nat) ≠ 24 by decide)]
          have hq : q < B.1 + 1 := hq
          by_cases e : q = B.1
          · rw [if_pos e, if_pos e, e, va_up_self, va_up_self]; exact ⟨rfl, rfl⟩
          · rw [if_neg e, if_neg e, va_up_ne _ _ e, va_up_ne _ _ e]; exact h1 q (by omega)
        · rw [e1]
          exact ((fr.i (by decide)).tr (fr.i (by decide))).tr (fr.f (by decide))
