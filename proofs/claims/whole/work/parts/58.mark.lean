/-! GoodTypes.markUnserved -/
def seesP (T : ab_T) (rl : Nat → Nat → Bool) (τ u r : Nat) : Prop := ∀ c, c < T.1 → T.2.1 c = 6 → Und rl r (T.2.2.1 c) → τ.testBit (ac T.2.1 c) = false → vT T (T.2.2.2 c) u = false
/-- by type τ some SOME r A holds that no type of G with A, seen by τ, serves -/
def unsv (T : ab_T) (rl : Nat → Nat → Bool) (G : Nat → Prop) (r τ : Nat) : Prop := ∃ c, c < T.1 ∧ T.2.1 c = 6 ∧ T.2.2.1 c = r ∧ τ.testBit (ac T.2.1 c) = true ∧ ¬ ∃ u, u < 2 ^ aN T ∧ G u ∧ vT T (T.2.2.2 c) u = true ∧ seesP T rl τ u r
def gng (σ : tq_S) (τ : Nat) : Bool := bL (σ.2.1 3 (τ / 64)) (τ % 64)
theorem tq_1s : ∀ k, k < 64 → ∀ j, j < 64 → bL (jlshl 1 (nI k)) j = decide (j = k) := by decide +kernel
theorem or_ne0 {x y : Int32} (h : ∀ j, j < 32 → (bI x j = true → bI y j = true)) : x &&& (y ^^^ (-1)) = 0 := by
  apply bI_ext
  intro j hj
  have e : bI (y ^^^ (-1)) j = !(bI y j) := by
    simp only [bI, Int32.toBitVec_xor, BitVec.getLsbD_xor]
    have : (-1 : Int32).toBitVec.getLsbD j = true := by
      have e : (-1 : Int32).toBitVec = BitVec.allOnes 32 := by decide
      rw [e, BitVec.getLsbD_allOnes]; simp [hj]
    rw [this]; simp
  rw [bI_and, e, bI_0]
  cases hx : bI x j with
  | false => rfl
  | true => rw [h j hj hx]; rfl
theorem ne0_or {x y : Int32} (h : x &&& (y ^^^ (-1)) = 0) {j : Nat} (hj : j < 32) (hx : bI x j = true) : bI y j = true := by
  have e : bI (y ^^^ (-1)) j = !(bI y j) := by
    simp only [bI, Int32.toBitVec_xor, BitVec.getLsbD_xor]
    have : (-1 : Int32).toBitVec.getLsbD j = true := by
      have e : (-1 : Int32).toBitVec = BitVec.allOnes 32 := by decide
      rw [e, BitVec.getLsbD_allOnes]; simp [hj]
    rw [this]; simp
  have := congrArg (fun z => bI z j) h
  simp only [bI_and, e, bI_0, hx] at this
  cases hy : bI y j with
  | true => rfl
  | false => rw [hy] at this; cases this
theorem sp_mark {T : ab_T} {rl : Nat → Nat → Bool} {σ : tq_S} {r : Nat} (hw : wfT T) (hT : cTT T σ) (hO : cO T rl σ) (hr : r < 4) :
    ∃ σ', tq_fV st_Go_markUnserved (0, [nI r], [], σ) = some ((), σ') ∧ fr [12] [3] [] σ σ' ∧ (∀ τ, τ < 1024 → (gng σ' τ = true ↔ gng σ τ = true ∨ (τ < 2 ^ aN T ∧ thr σ τ = true ∧ unsv T rl (fun u => thr σ u = true) r τ))) := by
  have hm : aN T ≤ 10 := hw.2.2.1
  have hp := tq_pw1 hm
  have t6 := hT.2.2.2.2.2.2
  have atm : ∀ c, c < T.1 → T.2.1 c = 6 → ac T.2.1 c < 10 := fun c hc h6 => by
    have := ac_at (K := T.2.1) hc (by rw [h6]; rfl)
    have : ac T.2.1 c < aN T := this
    omega
  -- watched atoms and inner sets as numbers
  obtain ⟨W, hW, ew⟩ := small_of (x := σ.1 10 r) (fun k hk h32 => by
    cases e : bI (σ.1 10 r) k with
    | false => rfl
    | true =>
      obtain ⟨c, c1, c2, c3, -⟩ := ((hO r hr k h32).2).mp e
      have := atm c c1 c2
      omega)
  have hν0 : ∀ u, ∃ n, u < 1024 → n < 1024 ∧ σ.1 4 u = nI n := fun u => by
    by_cases hu : u < 1024
    · obtain ⟨n, n1, n2⟩ := small_of (x := σ.1 4 u) (fun k hk h32 => by
        cases e : bI (σ.1 4 u) k with
        | false => rfl
        | true =>
          obtain ⟨c, c1, c2, c3, -⟩ := (t6 u hu k h32).mp e
          have := atm c c1 c2
          omega)
      exact ⟨n, fun _ => ⟨n1, n2⟩⟩
    · exact ⟨0, fun h => absurd h hu⟩
  obtain ⟨ν, hν⟩ : ∃ ν : Nat → Nat, ∀ u, u < 1024 → ν u < 1024 ∧ σ.1 4 u = nI (ν u) := ⟨fun u => (hν0 u).choose, fun u => (hν0 u).choose_spec⟩
  obtain ⟨σ1, s1, s2, s3⟩ := sp_served (σ := σ) (m := aN T) (r := r) (W := W) (ν := ν) hm hT.2.1 hr hW ew (fun u hu => ⟨(hν u hu).2, (hν u hu).1⟩)
  have wb_ : ∀ k, k < 32 → (W.testBit k = true ↔ smR T (fun s => Und rl r s) k) := fun k hk => by
    rw [← bI_nI (show W < 4294967296 by omega) k, ← ew]; exact (hO r hr k hk).2
  have nb_ : ∀ u, u < 1024 → ∀ k, k < 32 → ((ν u).testBit k = true ↔ ∃ c, c < T.1 ∧ T.2.1 c = 6 ∧ ac T.2.1 c = k ∧ vT T (T.2.2.2 c) u = true) := fun u hu k hk => by
    have := (hν u hu)
    rw [← bI_nI (show ν u < 4294967296 by omega) k, ← this.2]; exact t6 u hu k hk
  have six : ∀ {c}, T.2.1 c = 6 → isAt (T.2.1 c) = true := fun h => by rw [h]; rfl
  have see : ∀ τ u, τ < 1024 → u < 1024 → ((ν u &&& W) &&& (τ &&& W) = (ν u &&& W) ↔ seesP T rl τ u r) := by
    intro τ u hτ hu
    rw [sub_tb]
    constructor
    · intro h c c1 c2 c3 c4
      cases hv : vT T (T.2.2.2 c) u with
      | false => rfl
      | true =>
        have ha := atm c c1 c2
        have := h (ac T.2.1 c) (by rw [Nat.testBit_and, (nb_ u hu _ (by omega)).mpr ⟨c, c1, c2, rfl, hv⟩, (wb_ _ (by omega)).mpr ⟨c, c1, c2, rfl, c3⟩]; rfl)
        rw [Nat.testBit_and, c4] at this
        cases this
    · intro h k hk
      rw [Nat.testBit_and] at hk ⊢
      obtain ⟨k1, k2⟩ := Bool.and_eq_true_iff.mp hk
      have h10 : k < 10 := by
        rcases Nat.lt_or_ge k 10 with q | q
        · exact q
        · rw [tb_big (hν u hu).1 q] at k1; cases k1
      obtain ⟨c, c1, c2, c3, c4⟩ := (nb_ u hu k (by omega)).mp k1
      obtain ⟨c', d1, d2, d3, d4⟩ := (wb_ k (by omega)).mp k2
      have ecc : c' = c := ac_inj (six d2) (six c2) (by rw [d3, c3])
      subst ecc
      rw [k2, Bool.and_true]
      cases ht : τ.testBit k with
      | true => rfl
      | false =>
        have := h c' c1 c2 d4 (by rw [c3]; exact ht)
        rw [c4] at this; cases this
  -- the test at a type
  have tst : ∀ τ, τ < 1024 → ((nI τ &&& σ.1 9 r) &&& (σ1.1 12 (τ &&& W) ^^^ (-1)) = 0 ↔ ¬ unsv T rl (fun u => thr σ u = true) r τ) := by
    intro τ hτ
    have sW : (τ &&& W) &&& W = τ &&& W := by rw [Nat.and_assoc, Nat.and_self]
    have sl : τ &&& W < 1024 := Nat.lt_of_le_of_lt Nat.and_le_right hW
    constructor
    · rintro h ⟨c, c1, c2, c3, c4, c5⟩
      have ha := atm c c1 c2
      have own : bI (σ.1 9 r) (ac T.2.1 c) = true := ((hO r hr _ (by omega)).1).mpr ⟨c, c1, c2, rfl, c3⟩
      have := ne0_or h (show ac T.2.1 c < 32 by omega) (by rw [bI_and, bI_nI (by omega), c4, own]; rfl)
      obtain ⟨u, u1, u2, u3, u4, u5⟩ := (s3 _ sl sW _ (by omega)).mp this
      have hu : u < 1024 := by omega
      obtain ⟨c', d1, d2, d3, d4⟩ := (nb_ u hu _ (by omega)).mp u4
      have ecc : c' = c := ac_inj (six d2) (six c2) d3
      subst ecc
      exact c5 ⟨u, u1, u2, d4, (see τ u hτ hu).mp u3⟩
    · intro h
      refine or_ne0 (fun j hj hx => ?_)
      rw [bI_and, bI_nI (by omega)] at hx
      obtain ⟨x1, x2⟩ := Bool.and_eq_true_iff.mp hx
      obtain ⟨c, c1, c2, c3, c4⟩ := ((hO r hr j hj).1).mp x2
      apply Classical.byContradiction
      intro hno
      refine h ⟨c, c1, c2, c4, by rw [c3]; exact x1, ?_⟩
      rintro ⟨u, u1, u2, u3, u4⟩
      have hu : u < 1024 := by omega
      exact hno ((s3 _ sl sW j hj).mpr ⟨u, u1, u2, (see τ u hτ hu).mpr u4, (nb_ u hu j hj).mpr ⟨c, c1, c2, c3, u3⟩, x2⟩)
  refine tq_fV_of (tq_at (by decide) ?_)
  show tq_wo (bk_Go_markUnserved_0 [nI r] [] σ) _
  rw [bk_Go_markUnserved_0]
  refine wi_o s1 (wi_o (sp_typeCount hm (by rw [s2.2.2 1 (by decide)]; exact hT.2.1)) (wi_s ?_))
  have s2' : fr [12] [3] [] σ σ1 := ⟨s2.1, fun k hk => s2.2.1 k (by simp), s2.2.2⟩
  refine tq_ind 15 (fun p : Nat × tq_S => ([nI r, nI (2 ^ aN T), nI p.1], [], p.2)) (fun p => p.1 ≤ 2 ^ aN T ∧ fr [12] [3] [] σ p.2 ∧ p.2.1 12 = σ1.1 12 ∧ ∀ τ, τ < 1024 → (gng p.2 τ = true ↔ gng σ τ = true ∨ (τ < p.1 ∧ thr σ τ = true ∧ unsv T rl (fun u => thr σ u = true) r τ))) (fun p => 2 ^ aN T - p.1) ?_ (0, σ1) ⟨Nat.zero_le _, s2', rfl, fun τ hτ => ?_⟩
  · rintro ⟨t, σ2⟩ ⟨ht, f2, e12, g2⟩ ih
    dsimp only at ht f2 e12 g2 ih ⊢
    refine tq_at (by decide) ?_
    show tq_wo (bk_Go_markUnserved_15 [nI r, nI (2 ^ aN T), nI t] [] σ2) _
    rw [bk_Go_markUnserved_15]
    refine wi_c (fun q => wi_s (tq_wp_rt ⟨_, rfl, f2, fun τ hτ => ?_⟩)) (fun q => ?_)
    · have : t = 2 ^ aN T := by
        have := (tq_le (a := 2 ^ aN T) (b := t) (by omega) (by omega)).mp q
        omega
      rw [← this]; exact g2 τ hτ
    · have hlt : t < 2 ^ aN T := tq_nle (by omega) (by omega) q
      have hth : thr σ2 t = thr σ t := by unfold thr; rw [f2.2.1 2 (by decide)]
      refine wi_f (fun q => absurd ((tq_le (a := 1024) (b := t) (by omega) (by omega)).mp q) (by omega)) (wi_o (sp_isThereG σ2 (by omega)) ?_)
      rw [hth]
      have stay : ¬ (thr σ t = true ∧ unsv T rl (fun u => thr σ u = true) r t) → tq_wp st_Go_markUnserved (fun d => ∃ σ', d = (tq_rt, [], [], σ') ∧ fr [12] [3] [] σ σ' ∧ (∀ τ, τ < 1024 → (gng σ' τ = true ↔ gng σ τ = true ∨ (τ < 2 ^ aN T ∧ thr σ τ = true ∧ unsv T rl (fun u => thr σ u = true) r τ)))) (15, [nI r, nI (2 ^ aN T), nI t + 1], [], σ2) := by
        intro hno
        rw [tq_inc]
        refine ih (t + 1, σ2) ⟨by omega, f2, e12, fun τ hτ => ?_⟩ (by dsimp only; omega)
        show gng σ2 τ = true ↔ gng σ τ = true ∨ (τ < t + 1 ∧ _)
        rw [g2 τ hτ]
        constructor
        · rintro (h | ⟨h1, h2⟩)
          · exact Or.inl h
          · exact Or.inr ⟨by omega, h2⟩
        · rintro (h | ⟨h1, h2⟩)
          · exact Or.inl h
          · by_cases e : τ = t
            · subst e; exact absurd h2 hno
            · exact Or.inr ⟨by omega, h2⟩
      cases hv : thr σ t with
      | false => exact wi_t rfl (wi_l (wi_s (stay (fun h => by rw [hv] at h; cases h.1))))
      | true =>
        have e10 : σ2.1 10 r = nI W := by rw [f2.1 10 (by decide)]; exact ew
        have e9 : σ2.1 9 = σ.1 9 := f2.1 9 (by decide)
        have vi : vp_in (nI r) 4 := tq_vin hr (by omega)
        have sl : t &&& W < 1024 := Nat.lt_of_le_of_lt Nat.and_le_right hW
        refine wi_f (by decide) (wi_g vi (wi_g vi ?_))
        simp only [ia, la]
        rw [tq_nc (show r < 2147483648 by omega), e10, nI_and (by omega) (by omega), tq_nc (show t &&& W < 2147483648 by omega), e9, e12]
        refine wi_g (tq_vin sl (by omega)) (wi_c (fun h0 => wi_l (wi_s (stay (fun h => (tst t (by omega)).mp h0 h.2)))) (fun h0 => ?_))
        have hun : unsv T rl (fun u => thr σ u = true) r t := Classical.byContradiction (fun h => h0 ((tst t (by omega)).mpr h))
        rw [tq_d64 (by omega), tq_r64 (by omega), tq_nc (show t / 64 < 2147483648 by omega)]
        have v16 : vp_in (nI (t / 64)) 16 := tq_vin (by omega) (by omega)
        refine wi_g v16 (wi_g v16 (wi_l (wi_l (wi_s ?_))))
        rw [tq_inc]
        refine ih (t + 1, _) ⟨by omega, f2.tr (fr.l (by decide)), e12, fun τ hτ => ?_⟩ (by dsimp only; omega)
        show bL ((lput σ2 3 (t / 64) _).2.1 3 (τ / 64)) (τ % 64) = true ↔ gng σ τ = true ∨ (τ < t + 1 ∧ _)
        have old := g2 τ hτ
        unfold gng at old
        rw [lput_s]
        by_cases e : τ / 64 = t / 64
        · rw [if_pos e, bL_or, Bool.or_eq_true_iff, tq_1s _ (by omega) _ (by omega), decide_eq_true_iff, ← e, old]
          constructor
          · rintro ((h | ⟨h1, h2⟩) | h)
            · exact Or.inl h
            · exact Or.inr ⟨by omega, h2⟩
            · have : τ = t := by omega
              subst this
              exact Or.inr ⟨by omega, hv, hun⟩
          · rintro (h | ⟨h1, h2⟩)
            · exact Or.inl (Or.inl h)
            · by_cases et : τ = t
              · exact Or.inr (by omega)
              · exact Or.inl (Or.inr ⟨by omega, h2⟩)
        · rw [if_neg e, old]
          constructor
          · rintro (h | ⟨h1, h2⟩)
            · exact Or.inl h
            · exact Or.inr ⟨by omega, h2⟩
          · rintro (h | ⟨h1, h2⟩)
            · exact Or.inl h
            · have : τ ≠ t := fun z => e (by rw [z])
              exact Or.inr ⟨by omega, h2⟩
  · show gng σ1 τ = true ↔ _
    have : gng σ1 τ = gng σ τ := by unfold gng; rw [s2.2.1 3 (by simp)]
    rw [this]
    exact ⟨fun h => Or.inl h, fun h => h.elim id (fun h => absurd h.1 (Nat.not_lt_zero _))⟩
