/-! Things: firstLeft, keepSpare, takeSpare, leaveHalf -/
def Mdl (lk : Nat → Nat → Nat → Bool) (nu : Nat → Nat → Bool) (U : Nat) (S : Nat → Nat → Prop) (a : Nat → Nat) : Prop := (∀ i, i < 5 → a i < U ∧ S i (a i)) ∧ ∀ i j, i < 5 → j < 5 → i ≠ j → CmP lk nu i j (a i) (a j)
theorem tq_31 : ∀ i, i < 5 → (31 : Nat).testBit i = true := by decide
theorem Ext_31 {lk : Nat → Nat → Nat → Bool} {nu : Nat → Nat → Bool} {U : Nat} {S : Nat → Nat → Prop} : Ext lk nu U S 31 ↔ ∃ a, Mdl lk nu U S a := by
  constructor
  · rintro ⟨a, a1, a2⟩
    exact ⟨a, fun i hi => a1 i hi (tq_31 i hi), fun i j hi hj hne => a2 i j hi hj (tq_31 i hi) (tq_31 j hj) hne⟩
  · rintro ⟨a, a1, a2⟩
    exact ⟨a, fun i hi _ => a1 i hi, fun i j hi hj _ _ hne => a2 i j hi hj hne⟩
theorem Mdl_c {lk : Nat → Nat → Nat → Bool} {nu : Nat → Nat → Bool} {U : Nat} {S S' : Nat → Nat → Prop} {a : Nat → Nat} (e : Mdl lk nu U S a) (h : ∀ i, i < 5 → a i < U → S i (a i) → S' i (a i)) : Mdl lk nu U S' a := ⟨fun i hi => ⟨(e.1 i hi).1, h i hi (e.1 i hi).1 (e.1 i hi).2⟩, e.2⟩
/-- the types left to each thing at the first level -/
abbrev lv (σ : tq_S) (i τ : Nat) : Prop := lft σ 0 i τ = true
theorem lf_0 {σ : tq_S} {i τ : Nat} : lft σ 0 i τ = bL (σ.2.1 5 (i * 16 + τ / 64)) (τ % 64) := by unfold lft; rw [Nat.zero_mul, Nat.zero_add]
theorem lf_0w {σ : tq_S} {i w n : Nat} (hn : n < 64) : lft σ 0 i (w * 64 + n) = bL (σ.2.1 5 (i * 16 + w)) n := by rw [lf_w hn, Nat.zero_mul, Nat.zero_add]
theorem sp_ext0 {lk : Nat → Nat → Nat → Bool} {nu : Nat → Nat → Bool} {W : Nat} {σ : tq_S} (hK : sK lk nu W σ) : ∃ σ', fx_canExtend 6 (0, [0, 31], [], σ) = some (iB (cD (∃ a, Mdl lk nu (W * 64) (lv σ) a)), σ') ∧ fr [15] [5] [] σ σ' ∧ (∀ j, j < 80 → σ'.2.1 5 j = σ.2.1 5 j) := by
  obtain ⟨σ', h1, h2, h3, -⟩ := sp_canExtend (lk := lk) (nu := nu) (W := W) 4 0 6 31 σ (by decide) (by decide) (by decide) (show pcw 32 31 = 5 by decide +kernel) hK (fun h => absurd h (by decide))
  refine ⟨σ', ?_, h2, fun j hj => h3 j (by omega)⟩
  rw [← cD_c Ext_31]
  exact h1
theorem lf_80 {σ σ' : tq_S} {i τ : Nat} (h : ∀ j, j < 80 → σ'.2.1 5 j = σ.2.1 5 j) (hi : i < 5) (hτ : τ < 1024) : lft σ' 0 i τ = lft σ 0 i τ := by rw [lf_0, lf_0, h _ (by omega)]
/-- Things.firstLeft -/
theorem sp_firstLeft {W i : Nat} {σ : tq_S} (h9 : σ.2.2 9 = nI W) (hW : W ≤ 16) (hi : i < 5) (hne : ∃ τ, τ < W * 64 ∧ lft σ 0 i τ = true) : tq_fI st_Th_firstLeft (0, [nI i], [], σ) = some (nI (ff (lft σ 0 i) (W * 64)), σ) := by
  refine tq_fI_e (tq_at (by decide) ?_)
  show tq_wo (bk_Th_firstLeft_0 [nI i] [] σ) _
  rw [bk_Th_firstLeft_0]
  refine wi_s ?_
  refine tq_ind 2 (fun w : Nat => ([nI i, nI w], [], σ)) (fun w => w ≤ W ∧ ∀ τ, τ < w * 64 → lft σ 0 i τ = false) (fun w => W - w) ?_ 0 ⟨Nat.zero_le _, fun τ h => absurd h (by omega)⟩
  rintro w ⟨hw, hno⟩ ih
  refine tq_at (by decide) ?_
  show tq_wo (bk_Th_firstLeft_2 [nI i, nI w] [] σ) _
  rw [bk_Th_firstLeft_2, h9]
  refine wi_c (fun q => ?_) (fun q => ?_)
  · exfalso
    have := (tq_le (a := W) (b := w) (by omega) (by omega)).mp q
    obtain ⟨τ, t1, t2⟩ := hne
    rw [hno τ (by omega)] at t2; cases t2
  · have hlt : w < W := tq_nle (b := w) (a := W) (by omega) (by omega) q
    simp only [la]
    rw [tq_m16, nI_add, tq_nc (by omega)]
    refine wi_g (tq_vin (by omega) (by omega)) (wi_l (wi_c (fun k => wi_l (wi_s ?_)) (fun k => wi_o (sp_lowestBit (fun z => k ((lg_cmp0 _ _).mpr z)) σ) (wi_s (tq_wp_rt ?_)))))
    · rw [lg_cmp0] at k
      rw [tq_inc]
      refine ih (w + 1) ⟨by omega, fun τ hτ => ?_⟩ (by omega)
      by_cases e : τ < w * 64
      · exact hno τ e
      · rw [show τ = w * 64 + τ % 64 by omega, lf_0w (by omega), k, bL_0]
    · have k' : σ.2.1 5 (i * 16 + w) ≠ 0 := fun z => k ((lg_cmp0 _ _).mpr z)
      have hf := nz_ff k'
      rw [tq_m64, nI_add]
      rw [ff_of (p := lft σ 0 i) (n := W * 64) (j := w * 64 + ff (bL (σ.2.1 5 (i * 16 + w))) 64) (by omega) (fun τ hτ => ?_) (fun _ => by rw [lf_0w hf]; exact ff_yes hf)]
      by_cases e : τ < w * 64
      · exact hno τ e
      · rw [show τ = w * 64 + τ % 64 by omega, lf_0w (by omega)]
        exact ff_no (n := 64) (by omega)
theorem ff_lt {p : Nat → Bool} {n τ : Nat} (h : τ < n) (hp : p τ = true) : ff p n < n ∧ p (ff p n) = true ∧ ff p n ≤ τ := by
  have hle : ff p n ≤ τ := by
    rcases Nat.lt_or_ge τ (ff p n) with q | q
    · rw [ff_no q] at hp; cases hp
    · exact q
  exact ⟨by omega, ff_yes (by omega), hle⟩
theorem sp_keepSpare {i : Nat} {σ : tq_S} (hi : i < 5) : ∃ σ', tq_fV st_Th_keepSpare (0, [nI i], [], σ) = some ((), σ') ∧ fr [] [6] [] σ σ' ∧ ∀ w, w < 16 → σ'.2.1 6 w = σ.2.1 5 (i * 16 + w) := by
  refine ⟨lcpy σ 5 6 (i * 16) 0 16, tq_fV_e (tq_at (by decide) ?_), ⟨fun _ _ => rfl, fun k hk => ?_, fun _ _ => rfl⟩, fun w hw => ?_⟩
  · show tq_wo (bk_Th_keepSpare_0 [nI i] [] σ) _
    rw [bk_Th_keepSpare_0]
    rw [tq_m16]
    have e16 : (16 : Int32).toNatClampNeg = 16 := by decide
    have e0 : (0 : Int32).toNatClampNeg = 0 := by decide
    refine wi_p ⟨tq_n0 (by omega), by decide, by decide, ?_, ?_⟩ (wi_l (wi_s (tq_wp_rt ?_)))
    · rw [tq_nc (by omega), e16]; omega
    · rw [e0, e16]; decide
    · rw [tq_nc (by omega), e16, e0]
  · show (if k = 6 then _ else σ.2.1 k) = _
    rw [if_neg (by simpa using hk)]
  · show (if 6 = 6 then va_cpy (σ.2.1 5) (σ.2.1 6) (i * 16) 0 16 else σ.2.1 6) w = _
    rw [if_pos rfl, pk_cpy_in (Nat.zero_le _) (by omega), Nat.sub_zero]
theorem sp_takeSpare {i : Nat} {σ : tq_S} (hi : i < 5) : ∃ σ', tq_fV st_Th_takeSpare (0, [nI i], [], σ) = some ((), σ') ∧ fr [] [5] [] σ σ' ∧ (∀ w, w < 16 → σ'.2.1 5 (i * 16 + w) = σ.2.1 6 w) ∧ ∀ j, ¬ (i * 16 ≤ j ∧ j < i * 16 + 16) → σ'.2.1 5 j = σ.2.1 5 j := by
  refine ⟨lcpy σ 6 5 0 (i * 16) 16, tq_fV_e (tq_at (by decide) ?_), ⟨fun _ _ => rfl, fun k hk => ?_, fun _ _ => rfl⟩, fun w hw => ?_, fun j hj => ?_⟩
  · show tq_wo (bk_Th_takeSpare_0 [nI i] [] σ) _
    rw [bk_Th_takeSpare_0]
    rw [tq_m16]
    have e16 : (16 : Int32).toNatClampNeg = 16 := by decide
    have e0 : (0 : Int32).toNatClampNeg = 0 := by decide
    refine wi_p ⟨by decide, tq_n0 (by omega), by decide, ?_, ?_⟩ (wi_l (wi_s (tq_wp_rt ?_)))
    · rw [e0, e16]; decide
    · rw [tq_nc (by omega), e16]; omega
    · rw [tq_nc (by omega), e16, e0]
  · show (if k = 5 then _ else σ.2.1 k) = _
    rw [if_neg (by simpa using hk)]
  · show (if 5 = 5 then va_cpy (σ.2.1 6) (σ.2.1 5) 0 (i * 16) 16 else σ.2.1 5) (i * 16 + w) = _
    rw [if_pos rfl, pk_cpy_in (by omega) (by omega), Nat.zero_add, Nat.add_sub_cancel_left]
  · show (if 5 = 5 then va_cpy (σ.2.1 6) (σ.2.1 5) 0 (i * 16) 16 else σ.2.1 5) j = _
    rw [if_pos rfl, pk_cpy_out (by omega)]
/-- Things.leaveHalf -/
theorem sp_leaveHalf {W i k : Nat} {σ : tq_S} (h9 : σ.2.2 9 = nI W) (hW : W ≤ 16) (hi : i < 5) (hk : k < 10) (b : Bool) :
    ∃ σ', tq_fV st_Th_leaveHalf (0, [nI i, nI k, iB b], [], σ) = some ((), σ') ∧ fr [] [5] [] σ σ' ∧ (∀ j, ¬ (i * 16 ≤ j ∧ j < i * 16 + 16) → σ'.2.1 5 j = σ.2.1 5 j) ∧ ∀ τ, τ < W * 64 → (lft σ' 0 i τ = true ↔ lft σ 0 i τ = true ∧ τ.testBit k = b) := by
  refine tq_fV_of (tq_wpQ (fun Q hQ => tq_at (by decide) ?_))
  show tq_wo (bk_Th_leaveHalf_0 [nI i, nI k, iB b] [] σ) _
  rw [bk_Th_leaveHalf_0]
  refine wi_s ?_
  refine tq_ind 3 (fun p : Nat × tq_S => ([nI i, nI k, iB b, nI p.1], [], p.2)) (fun p => p.1 ≤ W ∧ fr [] [5] [] σ p.2 ∧ (∀ j, ¬ (i * 16 ≤ j ∧ j < i * 16 + p.1) → p.2.2.1 5 j = σ.2.1 5 j) ∧ ∀ τ, τ < p.1 * 64 → (lft p.2 0 i τ = true ↔ lft σ 0 i τ = true ∧ τ.testBit k = b)) (fun p => W - p.1) ?_ (0, σ) ⟨Nat.zero_le _, fr.rf _ _ _ σ, fun _ _ => rfl, fun τ h => absurd h (by dsimp only; omega)⟩
  rintro ⟨w, σ1⟩ ⟨hw, f1, o1, g1⟩ ih
  dsimp only at hw f1 o1 g1 ih ⊢
  refine tq_at (by decide) ?_
  show tq_wo (bk_Th_leaveHalf_3 [nI i, nI k, iB b, nI w] [] σ1) _
  rw [bk_Th_leaveHalf_3, f1.2.2 9 (by decide), h9]
  refine wi_c (fun q => wi_s (tq_wp_rt (hQ _ ⟨_, rfl, f1, fun j hj => o1 j (by omega), fun τ hτ => g1 τ ?_⟩))) (fun q => ?_)
  · have := (tq_le (a := W) (b := w) (by omega) (by omega)).mp q
    omega
  · have hlt : w < W := tq_nle (b := w) (a := W) (by omega) (by omega) q
    obtain ⟨y, y1, y2⟩ := sp_atomWord hk (show w < 16 by omega) σ1
    simp only [la]
    rw [tq_m16, nI_add, tq_nc (by omega)]
    have vi : vp_in (nI (i * 16 + w)) 400 := tq_vin (by omega) (by omega)
    refine wi_o y1 (wi_g vi ?_)
    have nx : ∀ z : Int64, (∀ n, n < 64 → (bL z n = true ↔ bL (σ1.2.1 5 (i * 16 + w)) n = true ∧ (w * 64 + n).testBit k = b)) → tq_wp st_Th_leaveHalf Q (3, [nI i, nI k, iB b, nI w + 1], [], lput σ1 5 (i * 16 + w) z) := by
      intro z hz
      rw [tq_inc]
      refine ih (w + 1, lput σ1 5 (i * 16 + w) z) ⟨by dsimp only; omega, f1.tr (fr.l (by decide)), fun j hj => ?_, fun τ hτ => ?_⟩ (by dsimp only; omega)
      · dsimp only at hj ⊢
        rw [lput_s, if_neg (by omega)]
        exact o1 j (by omega)
      · dsimp only at hτ ⊢
        by_cases e : τ < w * 64
        · rw [← g1 τ e, lf_0, lput_s, if_neg (by omega), lf_0]
        · have e2 : τ = w * 64 + τ % 64 := by omega
          have := hz (τ % 64) (by omega)
          rw [← e2] at this
          rw [lf_0, lput_s, if_pos (by omega), this, o1 _ (by omega), lf_0, show τ / 64 = w by omega]
    cases b with
    | false =>
      refine wi_t rfl (wi_g vi (wi_l (wi_l (wi_s (nx _ (fun n hn => ?_))))))
      rw [bL_and, bL_not _ hn, y2 n hn, Bool.and_eq_true_iff]
      simp
    | true =>
      refine wi_f (by decide) (wi_g vi (wi_l (wi_l (wi_s (nx _ (fun n hn => ?_))))))
      rw [bL_and, y2 n hn, Bool.and_eq_true_iff]
