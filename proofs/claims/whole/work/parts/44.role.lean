/-! role of both; isUnder -/
def upR (rl : Nat → Nat → Bool) (a b : Nat) : Nat → Nat → Bool := fun r s => (decide (r = a) && decide (s = b)) || rl r s
noncomputable def oRole (rl : Nat → Nat → Bool) (x y : Int32) : Int32 × (Nat → Nat → Bool) := @ite _ (bd 4 x ∨ bd 4 y) (Classical.propDecidable _) (-1, rl) (if rl x.toNatClampNeg y.toNatClampNeg then (0, rl) else (1, upR rl x.toNatClampNeg y.toNatClampNeg))
def mR (rl : Nat → Nat → Bool) (σ : tq_S) : Prop := ∀ r s, r < 4 → s < 4 → σ.1 23 (4 * r + s) = if rl r s then 1 else 0
theorem nbd {n j : Nat} (hj : j < n) (hn : n < 2147483648) : ¬ bd n (nI j) := fun q => q.elim (tq_n0 (by omega)) (nI_ge hj (by omega))
theorem sp_isUnder {rl : Nat → Nat → Bool} {σ : tq_S} (hR : cR rl σ) {r s : Nat} (hr : r < 4) (hs : s < 4) : ∃ z, tq_fI st_Ro_isUnder (0, [nI r, nI s], [], σ) = some (z, σ) ∧ ((z = 0 ∧ ¬ Und rl r s) ∨ (z = 1 ∧ Und rl r s)) := by
  have hb := sp_hasBit (σ.1 6 r).toInt64 (show s < 64 by omega) σ
  rw [bL_i (show s < 32 by omega)] at hb
  have hu := hR.2 r hr s (by omega)
  refine ⟨if bI (σ.1 6 r) s then 1 else 0, tq_fI_e (tq_at (by decide) ?_), ?_⟩
  · show tq_wo (bk_Ro_isUnder_0 [nI r, nI s] [] σ) _
    rw [bk_Ro_isUnder_0]
    simp only [ia]
    refine wi_o (sp_bf (n := 4) (nbd hr (by omega))) (wi_f (by decide) (wi_g (tq_vin hr (by omega)) ?_))
    rw [tq_nc (by omega)]
    refine wi_o hb ?_
    cases bI (σ.1 6 r) s with
    | false => exact wi_t rfl (wi_s (tq_wp_rt rfl))
    | true => exact wi_f (by decide) (wi_s (tq_wp_rt rfl))
  · cases h : bI (σ.1 6 r) s with
    | false => exact Or.inl ⟨rfl, fun q => by rw [hu.mpr ⟨hs, q⟩] at h; cases h⟩
    | true => exact Or.inr ⟨rfl, (hu.mp h).2⟩
theorem cl_role {rl : Nat → Nat → Bool} {σ : tq_S} (hR : cR rl σ) (x y : Int32) :
    ∃ σ', tq_fI st_Tn_role (0, [x, y], [], σ) = some ((oRole rl x y).1, σ') ∧ cR (oRole rl x y).2 σ' ∧ fr [5, 6] [] [4] σ σ' ∧ (σ' = σ ∨ σ'.2.2 4 = 1) := by
  have go : ∀ r σ', tq_wo (bk_Tn_role_0 [x, y] [] σ) (tq_wp st_Tn_role (fun d => d = (tq_rt, [r], [], σ'))) → tq_fI st_Tn_role (0, [x, y], [], σ) = some (r, σ') := fun r σ' h => tq_fI_e (tq_at (by decide) h)
  unfold oRole
  rcases bd_cases x (n := 4) (by omega) with h | ⟨r, hr, rfl, h⟩
  · rw [if_pos (Or.inl h)]
    refine ⟨σ, go _ _ ?_, hR, fr.rf _ _ _ σ, Or.inl rfl⟩
    rw [bk_Tn_role_0]
    exact wi_o (sp_bt (n := 4) h) (wi_t rfl (wi_s (tq_wp_rt rfl)))
  · rcases bd_cases y (n := 4) (by omega) with h' | ⟨s, hs, rfl, h'⟩
    · rw [if_pos (Or.inr h')]
      refine ⟨σ, go _ _ ?_, hR, fr.rf _ _ _ σ, Or.inl rfl⟩
      rw [bk_Tn_role_0]
      exact wi_o (sp_bf (n := 4) h) (wi_f (by decide) (wi_o (sp_bt (n := 4) h') (wi_f (fun q => q rfl) (wi_s (tq_wp_rt rfl)))))
    · rw [if_neg (fun q => q.elim h h'), tq_nc (by omega), tq_nc (by omega)]
      have hb := sp_hasBit (σ.1 5 r).toInt64 (show s < 64 by omega) σ
      rw [bL_i (show s < 32 by omega), hR.1 r hr s (by omega)] at hb
      have hs4 : decide (s < 4) = true := decide_eq_true hs
      rw [hs4, Bool.true_and] at hb
      have say : ∀ z σ', tq_wo (tq_gd (nI r) 4 (tq_ob (tq_fI st_Tn_hasBit (0, [nI s], [(σ.1 5 r).toInt64], σ)) (fun r7 σ8 => if r7 = 0 then tq_gd (nI r) 4 (tq_gd (nI r) 4 (tq_lj (iput σ8 5 r ((σ8.1 5 r) ||| (1 <<< (nI s &&& 31)))) (fun σ12 => tq_ob (tq_fV st_Ro_close (0, [], [], σ12)) (fun _ σ15 => some (tq_rt, [1], [], σ15))))) else some (tq_rt, [0], [], σ8)))) (tq_wp st_Ro_say (fun d => d = (tq_rt, [z], [], σ'))) → tq_fI st_Ro_say (0, [nI r, nI s], [], σ) = some (z, σ') := by
        intro z σ' g
        refine tq_fI_e (tq_at (by decide) ?_)
        show tq_wo (bk_Ro_say_0 [nI r, nI s] [] σ) _
        rw [bk_Ro_say_0]
        simp only [ia]
        refine wi_o (sp_bf (n := 4) h) (wi_f (by decide) ?_)
        simp only [tq_nc (show r < 2147483648 by omega)]
        exact g
      have vi : vp_in (nI r) 4 := tq_vin hr (by omega)
      cases hv : rl r s with
      | true =>
        rw [hv] at hb
        refine ⟨σ, go _ _ ?_, hR, fr.rf _ _ _ σ, Or.inl rfl⟩
        rw [bk_Tn_role_0]
        exact wi_o (sp_bf (n := 4) h) (wi_f (by decide) (wi_o (sp_bf (n := 4) h') (wi_t (by decide) (wi_o (say 0 σ (wi_g vi (wi_o hb (wi_f (by decide) (wi_s (tq_wp_rt rfl)))))) (wi_f (fun q => q rfl) (wi_s (tq_wp_rt rfl)))))))
      | false =>
        rw [hv] at hb
        obtain ⟨σ1, e1⟩ : ∃ σ1, σ1 = iput σ 5 r (σ.1 5 r ||| ((1 : Int32) <<< (nI s &&& 31))) := ⟨_, rfl⟩
        obtain ⟨σ2, c1, c2, c3⟩ := sp_close (rl := upR rl r s) (σ := σ1) (fun i hi t ht => by
          rw [e1, iput_s]
          unfold upR
          by_cases e : i = r
          · subst e
            rw [if_pos rfl, bI_or, bI_bit s (by omega) t ht, hR.1 i hi t ht]
            by_cases et : t = s
            · subst et; simp [hs]
            · simp [et]
          · rw [if_neg e, hR.1 i hi t ht]
            simp [e])
        have f5 : tq_fV st_Go_rolesChanged (0, [], [], σ2) = some ((), fput σ2 4 1) := by
          refine tq_fV_e (tq_at (by decide) ?_)
          show tq_wo (bk_Go_rolesChanged_0 [] [] σ2) _
          rw [bk_Go_rolesChanged_0]
          exact wi_l (wi_s (tq_wp_rt rfl))
        refine ⟨fput σ2 4 1, go _ _ ?_, ?_, ?_, Or.inr (fput_s _ _ _)⟩
        · rw [bk_Tn_role_0]
          exact wi_o (sp_bf (n := 4) h) (wi_f (by decide) (wi_o (sp_bf (n := 4) h') (wi_t (by decide) (wi_o (say 1 σ2 (wi_g vi (wi_o hb (wi_t rfl (wi_g vi (wi_g vi (wi_l (wi_o (by rw [← e1]; exact c1) (wi_s (tq_wp_rt rfl)))))))))) (wi_t (by decide) (wi_o f5 (wi_s (tq_wp_rt rfl))))))))
        · exact c3
        · have f1 : fr [5, 6] [] [4] σ σ1 := by rw [e1]; exact fr.i (by decide)
          have f2 : fr [5, 6] [] [4] σ1 σ2 := ⟨fun k hk => c2.1 k (fun q => hk (by simp at q ⊢; exact Or.inr q)), fun k hk => c2.2.1 k (by simp), fun k hk => c2.2.2 k (by simp)⟩
          exact (f1.tr f2).tr (fr.f (by decide))
theorem mo_role {rl : Nat → Nat → Bool} {σ : tq_S} (hR : mR rl σ) (x y : Int32) :
    ∃ σ', tq_fI st_Mo_role (0, [x, y], [], σ) = some ((oRole rl x y).1, σ') ∧ mR (oRole rl x y).2 σ' ∧ fr [23] [] [18] σ σ' ∧ (σ' = σ ∨ σ'.2.2 18 = 0) := by
  have go : ∀ r σ', tq_wo (bk_Mo_role_0 [x, y] [] σ) (tq_wp st_Mo_role (fun d => d = (tq_rt, [r], [], σ'))) → tq_fI st_Mo_role (0, [x, y], [], σ) = some (r, σ') := fun r σ' h => tq_fI_e (tq_at (by decide) h)
  unfold oRole
  rcases bd_cases x (n := 4) (by omega) with h | ⟨r, hr, rfl, h⟩
  · rw [if_pos (Or.inl h)]
    refine ⟨σ, go _ _ ?_, hR, fr.rf _ _ _ σ, Or.inl rfl⟩
    rw [bk_Mo_role_0]
    exact wi_o (sp_rt h) (wi_t rfl (wi_s (tq_wp_rt rfl)))
  · rcases bd_cases y (n := 4) (by omega) with h' | ⟨s, hs, rfl, h'⟩
    · rw [if_pos (Or.inr h')]
      refine ⟨σ, go _ _ ?_, hR, fr.rf _ _ _ σ, Or.inl rfl⟩
      rw [bk_Mo_role_0]
      exact wi_o (sp_rf h) (wi_f (by decide) (wi_o (sp_rt h') (wi_f (fun q => q rfl) (wi_s (tq_wp_rt rfl)))))
    · rw [if_neg (fun q => q.elim h h'), tq_nc (by omega), tq_nc (by omega)]
      have vi : vp_in (nI (4 * r + s)) 16 := tq_vin (by omega) (by omega)
      have m4 : (4 : Int32) * nI r + nI s = nI (4 * r + s) := by rw [show (4 : Int32) * nI r = nI (4 * r) from pk_mul 4 r, nI_add]
      have val := hR r s hr hs
      have run : ∀ z σ', tq_wo (if σ.1 23 (4 * r + s) = 0 then tq_gd (nI (4 * r + s)) 16 (tq_lj (iput σ 23 (4 * r + s) (jz 1)) (fun σ12 => tq_lj (fput σ12 18 0) (fun σ13 => some (tq_rt, [1], [], σ13)))) else some (tq_rt, [0], [], σ)) (tq_wp st_Mo_role (fun d => d = (tq_rt, [z], [], σ'))) → tq_fI st_Mo_role (0, [nI r, nI s], [], σ) = some (z, σ') := by
        intro z σ' g
        refine go _ _ ?_
        rw [bk_Mo_role_0]
        refine wi_o (sp_rf h) (wi_f (by decide) (wi_o (sp_rf h') (wi_t (by decide) ?_)))
        rw [m4]
        refine wi_g vi ?_
        simp only [ia, tq_nc (show 4 * r + s < 2147483648 by omega)]
        exact g
      cases hv : rl r s with
      | true =>
        rw [hv] at val
        refine ⟨σ, run _ _ (wi_f (by rw [val]; decide) (wi_s (tq_wp_rt rfl))), hR, fr.rf _ _ _ σ, Or.inl rfl⟩
      | false =>
        rw [hv] at val
        refine ⟨fput (iput σ 23 (4 * r + s) (jz 1)) 18 0, run _ _ (wi_t val (wi_g vi (wi_l (wi_l (wi_s (tq_wp_rt rfl)))))), fun a b ha hb => ?_, (fr.i (by decide)).tr (fr.f (by decide)), Or.inr (fput_s _ _ _)⟩
        show (iput σ 23 (4 * r + s) (jz 1)).1 23 (4 * a + b) = _
        rw [iput_s]
        show _ = if upR rl r s a b = true then _ else _
        unfold upR
        by_cases e : a = r ∧ b = s
        · obtain ⟨rfl, rfl⟩ := e
          rw [if_pos rfl]; simp; rfl
        · rw [if_neg (by omega), hR a b ha hb]
          have : (decide (a = r) && decide (b = s)) = false := by
            cases e1 : decide (a = r) with
            | false => rfl
            | true =>
              cases e2 : decide (b = s) with
              | false => rfl
              | true => exact absurd ⟨of_decide_eq_true e1, of_decide_eq_true e2⟩ e
          rw [this, Bool.false_or]
