/-! which role is under which: the class -/
def Und (rl : Nat → Nat → Bool) (r s : Nat) : Prop := ∀ C : Nat → Nat → Prop, (∀ i, i < 4 → C i i) → (∀ i j, i < 4 → j < 4 → rl i j = true → C i j) → (∀ i j k, i < 4 → j < 4 → k < 4 → C i j → C j k → C i k) → C r s
theorem Und.rf {rl : Nat → Nat → Bool} {r : Nat} (h : r < 4) : Und rl r r := fun C h1 _ _ => h1 r h
theorem Und.of {rl : Nat → Nat → Bool} {r s : Nat} (hr : r < 4) (hs : s < 4) (h : rl r s = true) : Und rl r s := fun C _ h2 _ => h2 r s hr hs h
theorem Und.tr {rl : Nat → Nat → Bool} {r s t : Nat} (hr : r < 4) (hs : s < 4) (ht : t < 4) (h : Und rl r s) (h' : Und rl s t) : Und rl r t := fun C h1 h2 h3 => h3 r s t hr hs ht (h C h1 h2 h3) (h' C h1 h2 h3)
theorem bL_i {x : Int32} {k : Nat} (h : k < 32) : bL x.toInt64 k = bI x k := by
  unfold bL bI
  rw [show x.toInt64.toBitVec = x.toBitVec.signExtend 64 from Int32.toBitVec_toInt64 x, BitVec.getLsbD_signExtend]
  simp [h]
  omega
/-- what was said, and what comes of it -/
def cR (rl : Nat → Nat → Bool) (σ : tq_S) : Prop := (∀ r, r < 4 → ∀ s, s < 32 → bI (σ.1 5 r) s = (decide (s < 4) && rl r s)) ∧ ∀ r, r < 4 → ∀ s, s < 32 → (bI (σ.1 6 r) s = true ↔ s < 4 ∧ Und rl r s)
theorem sp_close {rl : Nat → Nat → Bool} {σ : tq_S} (h5 : ∀ r, r < 4 → ∀ s, s < 32 → bI (σ.1 5 r) s = (decide (s < 4) && rl r s)) : ∃ σ', tq_fV st_Ro_close (0, [], [], σ) = some ((), σ') ∧ fr [6] [] [] σ σ' ∧ cR rl σ' := by
  refine tq_fV_of (tq_at (by decide) ?_)
  show tq_wo (bk_Ro_close_0 [] [] σ) _
  rw [bk_Ro_close_0]
  refine wi_s ?_
  refine tq_ind 2 (fun p : Nat × tq_S => ([nI p.1], [], p.2)) (fun p => p.1 ≤ 4 ∧ fr [6] [] [] σ p.2 ∧ ∀ r, r < p.1 → ∀ s, s < 32 → bI (p.2.1 6 r) s = ((decide (s < 4) && rl r s) || decide (s = r))) (fun p => 4 - p.1) ?_ (0, σ) ⟨Nat.zero_le _, fr.rf _ _ _ σ, fun u h => absurd h (Nat.not_lt_zero _)⟩
  rintro ⟨a, σ1⟩ ⟨ha, f1, g1⟩ ih
  dsimp only at ha f1 g1 ih ⊢
  refine tq_at (by decide) ?_
  show tq_wo (bk_Ro_close_2 [nI a] [] σ1) _
  rw [bk_Ro_close_2]
  refine wi_c (fun q => wi_s ?_) (fun q => ?_)
  · have : a = 4 := by
      have := (tq_le (a := 4) (b := a) (by omega) (by omega)).mp q
      omega
    subst this
    clear ih
    obtain ⟨J, hJ⟩ : ∃ J : Nat → tq_S → Prop, J = (fun k σ' => fr [6] [] [] σ σ' ∧ (∀ r, r < 4 → ∀ s, s < 32 → bI (σ'.1 6 r) s = true → s < 4 ∧ Und rl r s) ∧ (∀ r, r < 4 → bI (σ'.1 6 r) r = true ∧ ∀ s, s < 4 → rl r s = true → bI (σ'.1 6 r) s = true) ∧ (∀ j, j < k → ∀ r s, r < 4 → s < 4 → bI (σ'.1 6 r) j = true → bI (σ'.1 6 j) s = true → bI (σ'.1 6 r) s = true)) := ⟨_, rfl⟩
    refine tq_ind 31 (fun p : Nat × tq_S => ([nI p.1], [], p.2)) (fun p => p.1 ≤ 4 ∧ J p.1 p.2) (fun p => 4 - p.1) ?_ (0, σ1) ⟨Nat.zero_le _, ?_⟩
    · rintro ⟨k, σ2⟩ ⟨hk, hj⟩ ih
      dsimp only at hk hj ih ⊢
      refine tq_at (by decide) ?_
      show tq_wo (bk_Ro_close_31 [nI k] [] σ2) _
      rw [bk_Ro_close_31]
      refine wi_c (fun q => wi_s (tq_wp_rt ⟨_, rfl, ?_⟩)) (fun q => wi_s ?_)
      · have : k = 4 := by
          have := (tq_le (a := 4) (b := k) (by omega) (by omega)).mp q
          omega
        subst this
        rw [hJ] at hj
        obtain ⟨j1, j2, j3, j4⟩ := hj
        refine ⟨j1, fun r hr s hs => by rw [j1.1 5 (by decide)]; exact h5 r hr s hs, fun r hr s hs => ⟨j2 r hr s hs, fun q => ?_⟩⟩
        exact (q.2 (fun i j => bI (σ2.1 6 i) j = true) (fun i hi => (j3 i hi).1) (fun i j hi hj h => (j3 i hi).2 j hj h) (fun i j k hi hj hk a b => j4 j hj i k hi hk a b))
      · have hk4 : k < 4 := tq_nle (a := 4) (by omega) (by omega) q
        rw [hJ] at hj
        obtain ⟨j1, j2, j3, j4⟩ := hj
        refine tq_ind 38 (fun p : Nat × tq_S => ([nI k, nI p.1], [], p.2)) (fun p => p.1 ≤ 4 ∧ fr [6] [] [] σ p.2 ∧ (∀ i, i < p.1 → ∀ s, s < 32 → bI (p.2.1 6 i) s = (bI (σ2.1 6 i) s || (bI (σ2.1 6 i) k && bI (σ2.1 6 k) s))) ∧ (∀ i, p.1 ≤ i → p.2.1 6 i = σ2.1 6 i)) (fun p => 4 - p.1) ?_ (0, σ2) ⟨Nat.zero_le _, j1, fun u h => absurd h (Nat.not_lt_zero _), fun _ _ => rfl⟩
        rintro ⟨r, σ3⟩ ⟨hr, f3, m1, m2⟩ ih2
        dsimp only at hr f3 m1 m2 ih2 ⊢
        refine tq_at (by decide) ?_
        show tq_wo (bk_Ro_close_38 [nI k, nI r] [] σ3) _
        rw [bk_Ro_close_38]
        have rowk : ∀ s, s < 32 → bI (σ3.1 6 k) s = bI (σ2.1 6 k) s := fun s hs => by
          by_cases e : k < r
          · rw [m1 k e s hs]
            cases bI (σ2.1 6 k) s <;> simp
          · rw [m2 k (by omega)]
        refine wi_c (fun q => wi_l (wi_s ?_)) (fun q => ?_)
        · have : r = 4 := by
            have := (tq_le (a := 4) (b := r) (by omega) (by omega)).mp q
            omega
          subst this
          rw [tq_inc]
          refine ih (k + 1, σ3) ⟨by omega, ?_⟩ (by dsimp only; omega)
          rw [hJ]
          have up : ∀ i, i < 4 → ∀ s, s < 32 → (bI (σ3.1 6 i) s = true ↔ bI (σ2.1 6 i) s = true ∨ (bI (σ2.1 6 i) k = true ∧ bI (σ2.1 6 k) s = true)) := fun i hi s hs => by
            rw [m1 i hi s hs]; simp
          refine ⟨f3, fun i hi s hs h => ?_, fun i hi => ⟨(up i hi i (by omega)).mpr (Or.inl (j3 i hi).1), fun s hs h => (up i hi s (by omega)).mpr (Or.inl ((j3 i hi).2 s hs h))⟩, fun j hj i s hi hs h1 h2 => ?_⟩
          · rcases (up i hi s hs).mp h with h | ⟨h, h'⟩
            · exact j2 i hi s hs h
            · have a1 := j2 i hi k (by omega) h
              have a2 := j2 k hk4 s hs h'
              exact ⟨a2.1, a1.2.tr hi hk4 a2.1 a2.2⟩
          · have hj : j < k + 1 := hj
            have z1 := (up i hi j (by omega)).mp h1
            have z2 := (up j (by omega) s (by omega)).mp h2
            refine (up i hi s (by omega)).mpr ?_
            by_cases ej : j = k
            · subst ej
              rcases z1 with z1 | z1
              · rcases z2 with z2 | z2
                · exact Or.inr ⟨z1, z2⟩
                · exact Or.inr ⟨z1, z2.2⟩
              · rcases z2 with z2 | z2
                · exact Or.inr ⟨z1.1, z2⟩
                · exact Or.inr ⟨z1.1, z2.2⟩
            · rcases z1 with z1 | z1
              · rcases z2 with z2 | z2
                · exact Or.inl (j4 j (by omega) i s hi hs z1 z2)
                · exact Or.inr ⟨j4 j (by omega) i k hi hk4 z1 z2.1, z2.2⟩
              · rcases z2 with z2 | z2
                · exact Or.inr ⟨z1.1, j4 j (by omega) k s hk4 hs z1.2 z2⟩
                · exact Or.inr ⟨z1.1, z2.2⟩
        · have hr4 : r < 4 := tq_nle (a := 4) (by omega) (by omega) q
          simp only [ia]
          rw [tq_nc (show r < 2147483648 by omega), tq_nc (show k < 2147483648 by omega)]
          have vi : vp_in (nI r) 4 := tq_vin hr4 (by omega)
          have vk : vp_in (nI k) 4 := tq_vin hk4 (by omega)
          have hrow : σ3.1 6 r = σ2.1 6 r := m2 r (Nat.le_refl r)
          have hb := sp_hasBit (σ3.1 6 r).toInt64 (show k < 64 by omega) σ3
          rw [bL_i (show k < 32 by omega), hrow] at hb
          rw [hrow]
          refine wi_g vi (wi_o hb ?_)
          have nx : ∀ z, (∀ s, s < 32 → bI z s = (bI (σ2.1 6 r) s || (bI (σ2.1 6 r) k && bI (σ2.1 6 k) s))) → ∀ σ4, σ4 = iput σ3 6 r z → tq_wp st_Ro_close (fun d => ∃ σ', d = (tq_rt, [], [], σ') ∧ fr [6] [] [] σ σ' ∧ cR rl σ') (38, [nI k, nI r + 1], [], σ4) := by
            rintro z hz σ4 rfl
            rw [tq_inc]
            refine ih2 (r + 1, iput σ3 6 r z) ⟨by omega, f3.tr (fr.i (by decide)), fun i hi s hs => ?_, fun i hi => ?_⟩ (by dsimp only; omega)
            · show bI ((iput σ3 6 r z).1 6 i) s = _
              rw [iput_s]
              dsimp only at hi
              by_cases e : i = r
              · rw [if_pos e, e]; exact hz s hs
              · rw [if_neg e]; exact m1 i (by omega) s hs
            · show (iput σ3 6 r z).1 6 i = _
              dsimp only at hi
              rw [iput_s, if_neg (by omega)]; exact m2 i (by omega)
          cases hv : bI (σ2.1 6 r) k with
          | false =>
            refine wi_t rfl (wi_l (wi_s ?_))
            refine nx (σ3.1 6 r) (fun s hs => by rw [hrow, hv]; simp) σ3 ?_
            have : iput σ3 6 r (σ3.1 6 r) = σ3 := by
              have e6 : (fun a => if a = 6 then upd (σ3.1 6) r (σ3.1 6 r) else σ3.1 a) = σ3.1 := by
                funext a
                by_cases e : a = 6
                · subst e
                  rw [if_pos rfl]
                  funext j
                  by_cases ej : j = r
                  · rw [ej, pk_us]
                  · rw [pk_un ej]
                · rw [if_neg e]
              show ((fun a => if a = 6 then upd (σ3.1 6) r (σ3.1 6 r) else σ3.1 a), σ3.2.1, σ3.2.2) = σ3
              rw [e6]
            exact this.symm
          | true =>
            refine wi_f (by decide) (wi_g vi (wi_g vk (wi_g vi (wi_l (wi_l (wi_s ?_))))))
            refine nx (σ2.1 6 r ||| σ3.1 6 k) (fun s hs => by rw [bI_or, rowk s hs, hv]; simp) _ ?_
            rw [← hrow]
    · rw [hJ]
      refine ⟨f1, fun r hr s hs h => ?_, fun r hr => ⟨by rw [g1 r hr r (by omega)]; simp, fun s hs h => by rw [g1 r hr s (by omega), h]; simp [hs]⟩, fun j hj => absurd hj (Nat.not_lt_zero _)⟩
      rw [g1 r hr s hs] at h
      rcases Bool.or_eq_true_iff.mp h with h | h
      · have h := Bool.and_eq_true_iff.mp h
        have hs4 := of_decide_eq_true h.1
        exact ⟨hs4, Und.of hr hs4 h.2⟩
      · have e := of_decide_eq_true h
        subst e
        exact ⟨hr, Und.rf hr⟩
  · have hlt : a < 4 := tq_nle (a := 4) (by omega) (by omega) q
    simp only [ia]
    rw [tq_nc (by omega)]
    refine wi_g (tq_vin hlt (by omega)) (wi_g (tq_vin hlt (by omega)) (wi_l (wi_l (wi_s ?_))))
    rw [tq_inc]
    refine ih (a + 1, iput σ1 6 a (σ1.1 5 a ||| ((1 : Int32) <<< (nI a &&& 31)))) ⟨by omega, f1.tr (fr.i (by decide)), fun r hr s hs => ?_⟩ (by dsimp only; omega)
    show bI ((iput σ1 6 a _).1 6 r) s = _
    rw [iput_s]
    dsimp only at hr
    by_cases e : r = a
    · rw [if_pos e, e, bI_or, bI_bit a (by omega) s hs, f1.1 5 (by decide), h5 a hlt s hs]
    · rw [if_neg e]; exact g1 r (by omega) s hs
