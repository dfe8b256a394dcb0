/-! has, forget: both sides -/
noncomputable def oHas (M : ab_L) (x y z : Int32) : Int32 × ab_L := @ite _ (bd 5 x ∨ bd 4 y ∨ bd 5 z) (Classical.propDecidable _) (-1, M) (if M.1 = 40 then (-3, M) else (nI (M.1 + 1), upL M x.toNatClampNeg y.toNatClampNeg z.toNatClampNeg))
theorem tq_m5 (a : Nat) : nI a * 5 = nI (a * 5) := pk_mul a 5
/-- Things.sayHas -/
theorem sp_sayHas {M : ab_L} {σ : tq_S} (hm : M.1 ≤ 40) (hM : cL M σ) {i r j : Nat} (hi : i < 5) (hr : r < 4) (hj : j < 5) :
    (M.1 = 40 → tq_fI st_Th_sayHas (0, [nI i, nI r, nI j], [], σ) = some (-3, σ)) ∧
    (M.1 < 40 → ∃ σ', tq_fI st_Th_sayHas (0, [nI i, nI r, nI j], [], σ) = some (nI (M.1 + 1), σ') ∧ cL (upL M i r j) σ' ∧ σ'.2.2 11 = 1 ∧ fr [13] [] [8, 11] σ σ') := by
  obtain ⟨h0, h1⟩ := hM
  have c40 : ((40 : Int32) ≤ nI M.1 ↔ 40 ≤ M.1) := tq_le (a := 40) (by omega) (by omega)
  have hni : ¬ bd 5 (nI i) := fun q => q.elim (tq_n0 (by omega)) (nI_ge hi (by decide))
  have hnj : ¬ bd 5 (nI j) := fun q => q.elim (tq_n0 (by omega)) (nI_ge hj (by decide))
  refine ⟨fun h => tq_fI_e (tq_at (by decide) ?_), fun h => ?_⟩
  · show tq_wo (bk_Th_sayHas_0 [nI i, nI r, nI j] [] σ) _
    rw [bk_Th_sayHas_0, h0]
    exact wi_t (c40.mpr (by omega)) (wi_s (tq_wp_rt rfl))
  · obtain ⟨σ1, e1⟩ : ∃ σ1, σ1 = iput σ 13 (i * 5 + j) (σ.1 13 (i * 5 + j) ||| ((1 : Int32) <<< (nI r &&& 31))) := ⟨_, rfl⟩
    refine ⟨fput (fput σ1 11 1) 8 (nI (M.1 + 1)), tq_fI_e (tq_at (by decide) ?_), ⟨fput_s _ _ _, fun a b s ha hb hs => ?_⟩, ?_, ?_⟩
    · show tq_wo (bk_Th_sayHas_0 [nI i, nI r, nI j] [] σ) _
      rw [bk_Th_sayHas_0, h0]
      simp only [ia, tq_m5, nI_add]
      rw [tq_nc (by omega)]
      have vi : vp_in (nI (i * 5 + j)) 25 := tq_vin (by omega) (by omega)
      refine wi_f (fun q => absurd (c40.mp q) (by omega)) (wi_o (sp_bf (n := 5) hni) (wi_f (by decide) (wi_o (sp_bf (n := 5) hnj) (wi_t (by decide) (wi_g vi (wi_g vi (wi_l (wi_l (wi_l (wi_s (tq_wp_rt ?_)))))))))))
      rw [← e1]
      have e8 : (fput σ1 11 1).2.2 8 = nI M.1 := by rw [fput_n _ _ (by decide), e1]; exact h0
      rw [e8, tq_inc, fput_s]
    · show bI (σ1.1 13 (a * 5 + b)) s = true ↔ _
      rw [e1, iput_s]
      by_cases e : a = i ∧ b = j
      · obtain ⟨rfl, rfl⟩ := e
        rw [if_pos rfl, bI_or, bI_bit r (by omega) s hs, Bool.or_eq_true_iff, h1 a b s ha hb hs]
        constructor
        · rintro (⟨k, k1, k2, k3, k4⟩ | q)
          · exact ⟨k, by show k < M.1 + 1; omega, by show va_up _ _ _ _ = _; rw [va_up_ne _ _ (by omega)]; exact k2, by show va_up _ _ _ _ = _; rw [va_up_ne _ _ (by omega)]; exact k3, by show va_up _ _ _ _ = _; rw [va_up_ne _ _ (by omega)]; exact k4⟩
          · have q := of_decide_eq_true q
            exact ⟨M.1, by show M.1 < M.1 + 1; omega, by show va_up _ _ _ _ = _; rw [va_up_self], by show va_up _ _ _ _ = _; rw [va_up_self]; exact q.symm, by show va_up _ _ _ _ = _; rw [va_up_self]⟩
        · rintro ⟨k, k1, k2, k3, k4⟩
          have k1 : k < M.1 + 1 := k1
          have k2 : va_up M.2.1 M.1 a k = a := k2
          have k3 : va_up M.2.2.1 M.1 r k = s := k3
          have k4 : va_up M.2.2.2 M.1 b k = b := k4
          by_cases ek : k = M.1
          · rw [ek, va_up_self] at k3
            exact Or.inr (decide_eq_true k3.symm)
          · rw [va_up_ne _ _ ek] at k2 k3 k4
            exact Or.inl ⟨k, by omega, k2, k3, k4⟩
      · have ne : a * 5 + b ≠ i * 5 + j := by omega
        rw [if_neg ne, h1 a b s ha hb hs]
        constructor
        · rintro ⟨k, k1, k2, k3, k4⟩
          exact ⟨k, by show k < M.1 + 1; omega, by show va_up _ _ _ _ = _; rw [va_up_ne _ _ (by omega)]; exact k2, by show va_up _ _ _ _ = _; rw [va_up_ne _ _ (by omega)]; exact k3, by show va_up _ _ _ _ = _; rw [va_up_ne _ _ (by omega)]; exact k4⟩
        · rintro ⟨k, k1, k2, k3, k4⟩
          have k1 : k < M.1 + 1 := k1
          have k2 : va_up M.2.1 M.1 i k = a := k2
          have k3 : va_up M.2.2.1 M.1 r k = s := k3
          have k4 : va_up M.2.2.2 M.1 j k = b := k4
          by_cases ek : k = M.1
          · rw [ek, va_up_self] at k2 k4
            exact absurd ⟨k2.symm, k4.symm⟩ e
          · rw [va_up_ne _ _ ek] at k2 k3 k4
            exact ⟨k, by omega, k2, k3, k4⟩
    · rw [fput_n _ _ (by decide), fput_s]
    · rw [e1]
      exact (fr.i (by decide)).tr ((fr.f (by decide)).tr (fr.f (by decide)))
theorem cl_has {M : ab_L} {σ : tq_S} (hm : M.1 ≤ 40) (hM : cL M σ) (x y z : Int32) :
    ∃ σ', tq_fI st_Tn_has (0, [x, y, z], [], σ) = some ((oHas M x y z).1, σ') ∧ cL (oHas M x y z).2 σ' ∧ fr [13] [] [8, 11] σ σ' ∧ (σ' = σ ∨ σ'.2.2 11 = 1) := by
  have go : ∀ r σ', tq_wo (bk_Tn_has_0 [x, y, z] [] σ) (tq_wp st_Tn_has (fun d => d = (tq_rt, [r], [], σ'))) → tq_fI st_Tn_has (0, [x, y, z], [], σ) = some (r, σ') := fun r σ' h => tq_fI_e (tq_at (by decide) h)
  have b28 : tq_wp st_Tn_has (fun d => d = (tq_rt, [-1], [], σ)) (28, [x, y, z], [], σ) := by
    refine tq_at (by decide) ?_
    show tq_wo (bk_Tn_has_28 [x, y, z] [] σ) _
    rw [bk_Tn_has_28]
    exact wi_s (tq_wp_rt rfl)
  unfold oHas
  rcases bd_cases x (n := 5) (by omega) with h | ⟨i, hi, rfl, h⟩
  · rw [if_pos (Or.inl h)]
    refine ⟨σ, go _ _ ?_, hM, fr.rf _ _ _ σ, Or.inl rfl⟩
    rw [bk_Tn_has_0]
    exact wi_o (sp_bt (n := 5) h) (wi_t rfl (wi_s b28))
  · rcases bd_cases y (n := 4) (by omega) with h' | ⟨r, hr, rfl, h'⟩
    · rw [if_pos (Or.inr (Or.inl h'))]
      refine ⟨σ, go _ _ ?_, hM, fr.rf _ _ _ σ, Or.inl rfl⟩
      rw [bk_Tn_has_0]
      exact wi_o (sp_bf (n := 5) h) (wi_f (by decide) (wi_o (sp_bt (n := 4) h') (wi_t rfl (wi_s b28))))
    · rcases bd_cases z (n := 5) (by omega) with h'' | ⟨j, hj, rfl, h''⟩
      · rw [if_pos (Or.inr (Or.inr h''))]
        refine ⟨σ, go _ _ ?_, hM, fr.rf _ _ _ σ, Or.inl rfl⟩
        rw [bk_Tn_has_0]
        exact wi_o (sp_bf (n := 5) h) (wi_f (by decide) (wi_o (sp_bf (n := 4) h') (wi_f (by decide) (wi_o (sp_bt (n := 5) h'') (wi_t rfl (wi_s b28))))))
      · rw [if_neg (fun q => q.elim h (fun q => q.elim h' h'')), tq_nc (by omega), tq_nc (by omega), tq_nc (by omega)]
        obtain ⟨a1, a2⟩ := sp_sayHas hm hM hi hr hj
        by_cases e : M.1 = 40
        · rw [if_pos e]
          refine ⟨σ, go _ _ ?_, hM, fr.rf _ _ _ σ, Or.inl rfl⟩
          rw [bk_Tn_has_0]
          exact wi_o (sp_bf (n := 5) h) (wi_f (by decide) (wi_o (sp_bf (n := 4) h') (wi_f (by decide) (wi_o (sp_bf (n := 5) h'') (wi_f (by decide) (wi_o (a1 e) (wi_s (tq_wp_rt rfl))))))))
        · rw [if_neg e]
          obtain ⟨σ', g1, g2, g3, g4⟩ := a2 (by omega)
          refine ⟨σ', go _ _ ?_, g2, g4, Or.inr g3⟩
          rw [bk_Tn_has_0]
          exact wi_o (sp_bf (n := 5) h) (wi_f (by decide) (wi_o (sp_bf (n := 4) h') (wi_f (by decide) (wi_o (sp_bf (n := 5) h'') (wi_f (by decide) (wi_o g1 (wi_s (tq_wp_rt rfl))))))))
theorem mo_has {M : ab_L} {σ : tq_S} (hm : M.1 ≤ 40) (hM : mL M σ) (x y z : Int32) :
    ∃ σ', tq_fI st_Mo_has (0, [x, y, z], [], σ) = some ((oHas M x y z).1, σ') ∧ mL (oHas M x y z).2 σ' ∧ fr [26, 27, 28] [] [17] σ σ' := by
  have go : ∀ r σ', tq_wo (bk_Mo_has_0 [x, y, z] [] σ) (tq_wp st_Mo_has (fun d => d = (tq_rt, [r], [], σ'))) → tq_fI st_Mo_has (0, [x, y, z], [], σ) = some (r, σ') := fun r σ' h => tq_fI_e (tq_at (by decide) h)
  unfold oHas
  rcases bd_cases x (n := 5) (by omega) with h | ⟨i, hi, rfl, h⟩
  · rw [if_pos (Or.inl h)]
    refine ⟨σ, go _ _ ?_, hM, fr.rf _ _ _ σ⟩
    rw [bk_Mo_has_0]
    exact wi_o (sp_ht h) (wi_t rfl (wi_s (tq_wp_rt rfl)))
  · rcases bd_cases y (n := 4) (by omega) with h' | ⟨r, hr, rfl, h'⟩
    · rw [if_pos (Or.inr (Or.inl h'))]
      refine ⟨σ, go _ _ ?_, hM, fr.rf _ _ _ σ⟩
      rw [bk_Mo_has_0]
      exact wi_o (sp_hf h) (wi_f (by decide) (wi_o (sp_rt h') (wi_t rfl (wi_s (tq_wp_rt rfl)))))
    · rcases bd_cases z (n := 5) (by omega) with h'' | ⟨j, hj, rfl, h''⟩
      · rw [if_pos (Or.inr (Or.inr h''))]
        refine ⟨σ, go _ _ ?_, hM, fr.rf _ _ _ σ⟩
        rw [bk_Mo_has_0]
        exact wi_o (sp_hf h) (wi_f (by decide) (wi_o (sp_rf h') (wi_f (by decide) (wi_o (sp_ht h'') (wi_f (fun q => q rfl) (wi_s (tq_wp_rt rfl)))))))
      · rw [if_neg (fun q => q.elim h (fun q => q.elim h' h'')), tq_nc (by omega), tq_nc (by omega), tq_nc (by omega)]
        obtain ⟨h0, h1⟩ := id hM
        have c40 : (nI M.1 = 40 ↔ M.1 = 40) := tq_eq (b := 40) (by omega) (by omega)
        by_cases e : M.1 = 40
        · rw [if_pos e]
          refine ⟨σ, go _ _ ?_, hM, fr.rf _ _ _ σ⟩
          rw [bk_Mo_has_0]
          exact wi_o (sp_hf h) (wi_f (by decide) (wi_o (sp_rf h') (wi_f (by decide) (wi_o (sp_hf h'') (wi_t (by decide) (wi_f (fun q => q (by rw [h0]; exact c40.mpr e)) (wi_s (tq_wp_rt rfl))))))))
        · rw [if_neg e]
          obtain ⟨σ1, e1⟩ : ∃ σ1, σ1 = iput (iput (iput σ 26 M.1 (nI i)) 27 M.1 (nI r)) 28 M.1 (nI j) := ⟨_, rfl⟩
          refine ⟨fput σ1 17 (nI (M.1 + 1)), go _ _ ?_, ⟨fput_s _ _ _, fun q hq => ?_⟩, ?_⟩
          · rw [bk_Mo_has_0]
            have vi : vp_in (nI M.1) 40 := tq_vin (by omega) (by omega)
            refine wi_o (sp_hf h) (wi_f (by decide) (wi_o (sp_rf h') (wi_f (by decide) (wi_o (sp_hf h'') (wi_t (by decide) ?_)))))
            rw [h0]
            refine wi_t (fun q => e (c40.mp q)) (wi_g vi (wi_l ?_))
            have e2 : (iput σ 26 (nI M.1).toNatClampNeg (nI i)).2.2 17 = nI M.1 := h0
            rw [e2, tq_nc (by omega)]
            refine wi_g vi (wi_l ?_)
            have e3 : (iput (iput σ 26 M.1 (nI i)) 27 M.1 (nI r)).2.2 17 = nI M.1 := h0
            rw [e3, tq_nc (by omega)]
            refine wi_g vi (wi_l (wi_l (wi_s (tq_wp_rt ?_))))
            rw [← e1]
            have e4 : σ1.2.2 17 = nI M.1 := by rw [e1]; exact h0
            rw [e4, tq_inc, fput_s]
          · show σ1.1 26 q = nI (va_up M.2.1 M.1 i q) ∧ σ1.1 27 q = nI (va_up M.2.2.1 M.1 r q) ∧ σ1.1 28 q = nI (va_up M.2.2.2 M.1 j q)
            have f26 : σ1.1 26 q = if q = M.1 then nI i else σ.1 26 q := by rw [e1]; rfl
            have f27 : σ1.1 27 q = if q = M.1 then nI r else σ.1 27 q := by rw [e1]; rfl
            have f28 : σ1.1 28 q = if q = M.1 then nI j else σ.1 28 q := by rw [e1]; rfl
            rw [f26, f27, f28]
            have hq : q < M.1 + 1 := hq
            by_cases e : q = M.1
            · rw [if_pos e, if_pos e, if_pos e, e, va_up_self, va_up_self, va_up_self]; exact ⟨rfl, rfl, rfl⟩
            · rw [if_neg e, if_neg e, if_neg e, va_up_ne _ _ e, va_up_ne _ _ e, va_up_ne _ _ e]; exact h1 q (by omega)
          · rw [e1]
            exact (((fr.i (by decide)).tr (fr.i (by decide))).tr (fr.i (by decide))).tr (fr.f (by decide))
/-- Things.clear -/
theorem sp_clear (σ : tq_S) : ∃ σ', tq_fV st_Th_clear (0, [], [], σ) = some ((), σ') ∧ fr [13] [4] [7, 8, 11] σ σ' ∧ (∀ j, j < 80 → σ'.2.1 4 j = -1) ∧ (∀ j, j < 25 → σ'.1 13 j = 0) ∧ σ'.2.2 7 = 0 ∧ σ'.2.2 8 = 0 ∧ σ'.2.2 11 = 1 := by
  refine tq_fV_of (tq_at (by decide) ?_)
  show tq_wo (bk_Th_clear_0 [] [] σ) _
  rw [bk_Th_clear_0]
  refine wi_s ?_
  refine tq_ind 2 (fun p : Nat × tq_S => ([nI p.1], [], p.2)) (fun p => p.1 ≤ 80 ∧ fr [13] [4] [7, 8, 11] σ p.2 ∧ ∀ j, j < p.1 → p.2.2.1 4 j = -1) (fun p => 80 - p.1) ?_ (0, σ) ⟨Nat.zero_le _, fr.rf _ _ _ σ, fun u h => absurd h (Nat.not_lt_zero _)⟩
  rintro ⟨a, σ1⟩ ⟨ha, f1, g1⟩ ih
  dsimp only at ha f1 g1 ih ⊢
  refine tq_at (by decide) ?_
  show tq_wo (bk_Th_clear_2 [nI a] [] σ1) _
  rw [bk_Th_clear_2]
  refine wi_c (fun q => wi_s ?_) (fun q => ?_)
  · have : a = 80 := by
      have := (tq_le (a := 80) (b := a) (by omega) (by omega)).mp q
      omega
    subst this
    refine tq_ind 25 (fun p : Nat × tq_S => ([nI p.1], [], p.2)) (fun p => p.1 ≤ 25 ∧ fr [13] [4] [7, 8, 11] σ p.2 ∧ (∀ j, j < 80 → p.2.2.1 4 j = -1) ∧ ∀ j, j < p.1 → p.2.1 13 j = 0) (fun p => 25 - p.1) ?_ (0, σ1) ⟨Nat.zero_le _, f1, g1, fun u h => absurd h (Nat.not_lt_zero _)⟩
    rintro ⟨b, σ2⟩ ⟨hb, f2, g2, g3⟩ ih2
    dsimp only at hb f2 g2 g3 ih2 ⊢
    refine tq_at (by decide) ?_
    show tq_wo (bk_Th_clear_25 [nI b] [] σ2) _
    rw [bk_Th_clear_25]
    refine wi_c (fun q => wi_l (wi_l (wi_l (wi_s (tq_wp_rt ⟨_, rfl, ?_⟩))))) (fun q => ?_)
    · have : b = 25 := by
        have := (tq_le (a := 25) (b := b) (by omega) (by omega)).mp q
        omega
      subst this
      refine ⟨f2.tr ((fr.f (by decide)).tr ((fr.f (by decide)).tr (fr.f (by decide)))), g2, g3, ?_, ?_, fput_s _ _ _⟩
      · rw [fput_n _ _ (by decide), fput_n _ _ (by decide), fput_s]
      · rw [fput_n _ _ (by decide), fput_s]
    · have hlt : b < 25 := tq_nle (a := 25) (by omega) (by omega) q
      rw [tq_nc (by omega)]
      refine wi_g (tq_vin hlt (by omega)) (wi_l (wi_l (wi_s ?_)))
      rw [tq_inc]
      refine ih2 (b + 1, iput σ2 13 b 0) ⟨by omega, f2.tr (fr.i (by decide)), g2, fun j hj => ?_⟩ (by dsimp only; omega)
      show (iput σ2 13 b 0).1 13 j = 0
      rw [iput_s]
      dsimp only at hj
      by_cases e : j = b
      · rw [if_pos e]
      · rw [if_neg e]; exact g3 j (by omega)
  · have hlt : a < 80 := tq_nle (a := 80) (by omega) (by omega) q
    rw [tq_nc (by omega)]
    refine wi_g (tq_vin hlt (by omega)) (wi_l (wi_l (wi_s ?_)))
    rw [tq_inc]
    refine ih (a + 1, lput σ1 4 a (-1)) ⟨by omega, f1.tr (fr.l (by decide)), fun j hj => ?_⟩ (by dsimp only; omega)
    show (lput σ1 4 a (-1)).2.1 4 j = -1
    rw [lput_s]
    dsimp only at hj
    by_cases e : j = a
    · rw [if_pos e]
    · rw [if_neg e]; exact g1 j (by omega)
def B0 : ab_X := (0, fun _ => 0, fun _ => 0)
def M0 : ab_L := (0, fun _ => 0, fun _ => 0, fun _ => 0)
theorem cB_clear (T : ab_T) {σ : tq_S} (h : ∀ j, j < 80 → σ.2.1 4 j = -1) (h7 : σ.2.2 7 = 0) : cB T B0 σ := by
  refine ⟨h7, fun i τ hi hτ => ?_⟩
  rw [h _ (by omega), bL_m1 (by omega)]
  exact ⟨fun _ k hk => absurd hk (Nat.not_lt_zero _), fun _ => rfl⟩
theorem cL_clear {σ : tq_S} (h : ∀ j, j < 25 → σ.1 13 j = 0) (h8 : σ.2.2 8 = 0) : cL M0 σ := by
  refine ⟨h8, fun i j r hi hj hr => ?_⟩
  rw [h _ (by omega), bI_0]
  refine ⟨fun q => (by cases q), ?_⟩
  rintro ⟨k, hk, _⟩
  exact absurd hk (Nat.not_lt_zero _)
theorem cl_forget (T : ab_T) {B : ab_X} {M : ab_L} {σ : tq_S} (hB : cB T B σ) (hM : cL M σ) : ∃ σ', tq_fI st_Tn_forget (0, [], [], σ) = some (nI (B.1 + M.1), σ') ∧ cB T B0 σ' ∧ cL M0 σ' ∧ fr [13] [4] [7, 8, 11] σ σ' ∧ σ'.2.2 11 = 1 := by
  obtain ⟨σ', g1, g2, g3, g4, g5, g6, g7⟩ := sp_clear σ
  have f : tq_fI st_Th_forgetAll (0, [], [], σ) = some (nI (B.1 + M.1), σ') := by
    refine tq_fI_e (tq_at (by decide) ?_)
    show tq_wo (bk_Th_forgetAll_0 [] [] σ) _
    rw [bk_Th_forgetAll_0, hB.1, hM.1, nI_add]
    exact wi_l (wi_o g1 (wi_s (tq_wp_rt rfl)))
  refine ⟨σ', tq_fI_e (tq_at (by decide) ?_), cB_clear T g3 g5, cL_clear g4 g6, g2, g7⟩
  show tq_wo (bk_Tn_forget_0 [] [] σ) _
  rw [bk_Tn_forget_0]
  exact wi_o f (wi_s (tq_wp_rt rfl))
theorem mo_forget {B : ab_X} {M : ab_L} {σ : tq_S} (hB : mB B σ) (hM : mL M σ) : ∃ σ', tq_fI st_Mo_forget (0, [], [], σ) = some (nI (B.1 + M.1), σ') ∧ mB B0 σ' ∧ mL M0 σ' ∧ fr [] [] [16, 17] σ σ' := by
  refine ⟨fput (fput σ 16 0) 17 0, tq_fI_e (tq_at (by decide) ?_), ⟨?_, fun k hk => absurd hk (Nat.not_lt_zero _)⟩, ⟨fput_s _ _ _, fun k hk => absurd hk (Nat.not_lt_zero _)⟩, (fr.f (by decide)).tr (fr.f (by decide))⟩
  · show tq_wo (bk_Mo_forget_0 [] [] σ) _
    rw [bk_Mo_forget_0, hB.1, hM.1, nI_add]
    exact wi_l (wi_l (wi_l (wi_s (tq_wp_rt rfl))))
  · rw [fput_n _ _ (by decide), fput_s]; rfl
