/-! Things.passOn, canExtend -/
def fitP (lk : Nat → Nat → Nat → Bool) (nu : Nat → Nat → Bool) (t j : Nat) (d : Int32) (u : Nat) : Prop := ∀ k, k < 10 → (bI d k = true → lk j t k = true → u.testBit k = true) ∧ (bI d (k + 10) = true → lk t j k = true → nu u k = false)
theorem bI_ne0 {x : Int64} : x = 0 ↔ ∀ n, n < 64 → bL x n = false := ⟨fun h n _ => by rw [h, bL_0], fun h => bL_ext (fun k hk => by rw [h k hk, bL_0])⟩
/-- Things.passOn -/
theorem sp_passOn {lk : Nat → Nat → Nat → Bool} {nu : Nat → Nat → Bool} {W L t o : Nat} {σ : tq_S} (hK : sK lk nu W σ) (hL : L < 4) (ht : t < 5) (ho : o < 32) (d : Int32) :
    ∃ b σ', tq_fI st_Th_passOn (0, [nI L, nI t, nI o, d], [], σ) = some (iB b, σ') ∧ fr [] [5] [] σ σ' ∧ (∀ j, j < (L + 1) * 80 → σ'.2.1 5 j = σ.2.1 5 j) ∧
      (b = false → ∃ j, j < 5 ∧ o.testBit j = true ∧ ∀ u, u < W * 64 → ¬ (lft σ L j u = true ∧ fitP lk nu t j d u)) ∧
      (b = true → ∀ j, j < 5 → o.testBit j = true → (∃ u, u < W * 64 ∧ lft σ' (L + 1) j u = true) ∧ ∀ u, u < W * 64 → (lft σ' (L + 1) j u = true ↔ lft σ L j u = true ∧ fitP lk nu t j d u)) := by
  obtain ⟨h9, hW, hlk, hnu, hin⟩ := id hK
  obtain ⟨r, σ', h1, b, rfl, h2⟩ := tq_fI_of (st := st_Th_passOn) (c := (0, [nI L, nI t, nI o, d], [], σ)) (P := fun r σ' => ∃ b, r = iB b ∧ fr [] [5] [] σ σ' ∧ (∀ j, j < (L + 1) * 80 → σ'.2.1 5 j = σ.2.1 5 j) ∧
      (b = false → ∃ j, j < 5 ∧ o.testBit j = true ∧ ∀ u, u < W * 64 → ¬ (lft σ L j u = true ∧ fitP lk nu t j d u)) ∧
      (b = true → ∀ j, j < 5 → o.testBit j = true → (∃ u, u < W * 64 ∧ lft σ' (L + 1) j u = true) ∧ ∀ u, u < W * 64 → (lft σ' (L + 1) j u = true ↔ lft σ L j u = true ∧ fitP lk nu t j d u))) (by
    refine tq_wpQ (fun Q hQ => tq_at (by decide) ?_)
    show tq_wo (bk_Th_passOn_0 [nI L, nI t, nI o, d] [] σ) _
    rw [bk_Th_passOn_0]
    refine wi_l (wi_s ?_)
    rw [show (10 : Int32) = nI 10 from rfl]
    refine tq_ind 10 (fun p : Nat × tq_S => ([nI L, nI t, nI o, d, d >>> (nI 10 &&& 31), nI p.1], [], p.2)) (fun p => p.1 ≤ 5 ∧ fr [] [5] [] σ p.2 ∧ (∀ j, j < (L + 1) * 80 → p.2.2.1 5 j = σ.2.1 5 j) ∧ ∀ j, j < p.1 → o.testBit j = true → (∃ u, u < W * 64 ∧ lft p.2 (L + 1) j u = true) ∧ ∀ u, u < W * 64 → (lft p.2 (L + 1) j u = true ↔ lft σ L j u = true ∧ fitP lk nu t j d u)) (fun p => 5 - p.1) ?_ (0, σ) ⟨Nat.zero_le _, fr.rf _ _ _ σ, fun _ _ => rfl, fun j hj => absurd hj (Nat.not_lt_zero _)⟩
    rintro ⟨j, σ1⟩ ⟨hj, f1, l1, g1⟩ ih
    dsimp only at hj f1 l1 g1 ih ⊢
    refine tq_at (by decide) ?_
    show tq_wo (bk_Th_passOn_10 [nI L, nI t, nI o, d, d >>> (nI 10 &&& 31), nI j] [] σ1) _
    rw [bk_Th_passOn_10]
    refine wi_c (fun q => wi_s (tq_wp_rt (hQ _ ⟨_, _, rfl, true, rfl, f1, l1, fun z => (by cases z), fun _ => ?_⟩))) (fun q => ?_)
    · have : j = 5 := by
        have := (tq_le (a := 5) (b := j) (by omega) (by omega)).mp q
        omega
      subst this
      exact g1
    · have hj5 : j < 5 := tq_nle (a := 5) (b := j) (by omega) (by omega) q
      have hbit := sp_hasBit (nI o).toInt64 (show j < 64 by omega) σ1
      rw [tq_o5 o ho j hj5] at hbit
      refine wi_o hbit ?_
      cases hv : o.testBit j with
      | false =>
        refine wi_f (fun z => z rfl) (wi_l (wi_s ?_))
        rw [tq_inc]
        refine ih (j + 1, σ1) ⟨by dsimp only; omega, f1, l1, fun i hi hi2 => ?_⟩ (by dsimp only; omega)
        dsimp only at hi
        have : i ≠ j := fun e => by rw [e, hv] at hi2; cases hi2
        exact g1 i (by omega) hi2
      | true =>
        have e14 : σ1.1 14 = σ.1 14 := f1.1 14 (by decide)
        have e1 : σ1.2.1 1 = σ.2.1 1 := f1.2.1 1 (by decide)
        simp only [ia, tq_m5, nI_add]
        rw [tq_nc (by omega), tq_nc (by omega), e14]
        refine wi_t (by decide) (wi_g (tq_vin (by omega) (by omega)) (wi_l (wi_g (tq_vin (by omega) (by omega)) (wi_l (wi_l (wi_s ?_))))))
        rw [tq_m80, tq_m16, nI_add]
        obtain ⟨nd, hnd⟩ : ∃ nd, nd = d &&& σ.1 14 (j * 5 + t) := ⟨_, rfl⟩
        obtain ⟨bn, hbn⟩ : ∃ bn, bn = (d >>> (nI 10 &&& 31)) &&& σ.1 14 (t * 5 + j) := ⟨_, rfl⟩
        rw [← hnd, ← hbn]
        have nd1 : ∀ k, k < 32 → bI nd k = (bI d k && lk j t k) := fun k hk => by rw [hnd, bI_and, hlk j t hj5 ht k hk]
        have bn1 : ∀ k, k < 10 → bI bn k = (bI d (k + 10) && lk t j k) := fun k hk => by rw [hbn, bI_and, hlk t j ht hj5 k (by omega), bI_shr (by omega) (by omega)]
        have bn2 : ∀ k, k < 32 → bI bn k = true → lk t j k = true := fun k hk q => by
          rw [hbn, bI_and, Bool.and_eq_true_iff, hlk t j ht hj5 k hk] at q
          exact q.2
        have fitI : ∀ u, fitP lk nu t j d u ↔ ∀ k, k < 10 → (bI nd k = true → u.testBit k = true) ∧ (bI bn k = true → nu u k = false) := fun u => by
          constructor
          · intro h k hk
            rw [nd1 k (by omega), bn1 k hk, Bool.and_eq_true_iff, Bool.and_eq_true_iff]
            exact ⟨fun q => (h k hk).1 q.1 q.2, fun q => (h k hk).2 q.1 q.2⟩
          · intro h k hk
            have := h k hk
            rw [nd1 k (by omega), bn1 k hk, Bool.and_eq_true_iff, Bool.and_eq_true_iff] at this
            exact ⟨fun q1 q2 => this.1 ⟨q1, q2⟩, fun q1 q2 => this.2 ⟨q1, q2⟩⟩
        refine tq_ind 79 (fun p : Nat × Int64 × tq_S => ([nI L, nI t, nI o, d, d >>> (nI 10 &&& 31), nI j, nd, bn, nI (L * 80 + j * 16), nI p.1], [p.2.1], p.2.2)) (fun p => p.1 ≤ W ∧ fr [] [5] [] σ p.2.2 ∧ (∀ i, ¬ ((L + 1) * 80 + j * 16 ≤ i ∧ i < (L + 1) * 80 + j * 16 + p.1) → p.2.2.2.1 5 i = σ1.2.1 5 i) ∧ (∀ u, u < p.1 * 64 → (lft p.2.2 (L + 1) j u = true ↔ lft σ L j u = true ∧ fitP lk nu t j d u)) ∧ (p.2.1 = 0 ↔ ∀ u, u < p.1 * 64 → lft p.2.2 (L + 1) j u = false)) (fun p => W - p.1) ?_ (0, 0, σ1) ⟨Nat.zero_le _, f1, fun _ _ => rfl, fun u hu => absurd hu (by dsimp only; omega), ⟨fun _ u hu => absurd hu (by dsimp only; omega), fun _ => rfl⟩⟩
        rintro ⟨w, y, σ2⟩ ⟨hw, f2, o2, g2, y2⟩ ih2
        dsimp only at hw f2 o2 g2 y2 ih2 ⊢
        have l2 : ∀ i, i < (L + 1) * 80 → σ2.2.1 5 i = σ.2.1 5 i := fun i hi => by rw [o2 i (by omega), l1 i hi]
        refine tq_at (by decide) ?_
        show tq_wo (bk_Th_passOn_79 [nI L, nI t, nI o, d, d >>> (nI 10 &&& 31), nI j, nd, bn, nI (L * 80 + j * 16), nI w] [y] σ2) _
        rw [bk_Th_passOn_79, f2.2.2 9 (by decide), h9]
        refine wi_c (fun q => ?_) (fun q => ?_)
        · have hwW : w = W := by
            have := (tq_le (a := W) (b := w) (by omega) (by omega)).mp q
            omega
          subst hwW
          refine wi_c (fun q => wi_l (wi_s ?_)) (fun q => wi_s (tq_wp_rt (hQ _ ⟨_, _, rfl, false, rfl, f2, l2, fun _ => ⟨j, hj5, hv, fun u hu hc => ?_⟩, fun z => (by cases z)⟩)))
          · rw [lg_cmp0, y2] at q
            have hex : ∃ u, u < w * 64 ∧ lft σ2 (L + 1) j u = true := by
              apply Classical.byContradiction
              intro hne
              apply q
              intro u hu
              cases e : lft σ2 (L + 1) j u with
              | false => rfl
              | true => exact absurd ⟨u, hu, e⟩ hne
            rw [tq_inc]
            refine ih (j + 1, σ2) ⟨by dsimp only; omega, f2, l2, fun i hi hi2 => ?_⟩ (by dsimp only; omega)
            dsimp only at hi ⊢
            by_cases e : i = j
            · subst e; exact ⟨hex, g2⟩
            · have eq : ∀ u, u < w * 64 → lft σ2 (L + 1) i u = lft σ1 (L + 1) i u := fun u hu => by
                unfold lft; rw [o2 _ (by omega)]
              obtain ⟨⟨u, u1, u2⟩, u3⟩ := g1 i (by omega) hi2
              exact ⟨⟨u, u1, by rw [eq u u1]; exact u2⟩, fun v hv => by rw [eq v hv]; exact u3 v hv⟩
          · have q := (lg_cmp0 _ _).mp (Classical.not_not.mp q)
            rw [y2] at q
            have := q u hu
            rw [(g2 u hu).mpr hc] at this
            cases this
        · have hwW : w < W := tq_nle (b := w) (a := W) (by omega) (by omega) q
          obtain ⟨z, z1, z2⟩ := sp_fitting (nu := nu) (σ := σ2) (w := w) (by omega) (σ2.2.1 5 (L * 80 + j * 16 + w)) nd bn (fun k hk q => by
            rw [nd1 k hk, Bool.and_eq_true_iff] at q
            exact (hin j t k hj5 ht hk q.2).1) (fun k hk q => by
            have := hin t j k ht hj5 hk (bn2 k hk q)
            refine ⟨this.1, fun n hn => ?_⟩
            rw [f2.2.1 1 (by decide)]
            exact this.2 w (by omega) n hn)
          simp only [la]
          rw [show (80 : Int32) = nI 80 from rfl, nI_add, nI_add, nI_add, tq_nc (by omega), tq_nc (by omega)]
          refine wi_g (tq_vin (by omega) (by omega)) (wi_o z1 (wi_g (tq_vin (by omega) (by omega)) (wi_l (wi_l (wi_l (wi_s ?_))))))
          rw [tq_inc]
          have ad : L * 80 + j * 16 + 80 + w = (L + 1) * 80 + j * 16 + w := by omega
          rw [ad]
          have new : ∀ n, n < 64 → (lft (lput σ2 5 ((L + 1) * 80 + j * 16 + w) z) (L + 1) j (w * 64 + n) = true ↔ lft σ L j (w * 64 + n) = true ∧ fitP lk nu t j d (w * 64 + n)) := fun n hn => by
            rw [lf_w hn, lput_s, if_pos rfl, z2 n hn, lf_w hn, l2 _ (by omega), fitI]
          have old : ∀ u, u < w * 64 → lft (lput σ2 5 ((L + 1) * 80 + j * 16 + w) z) (L + 1) j u = lft σ2 (L + 1) j u := fun u hu => by
            unfold lft
            rw [lput_s, if_neg (by omega)]
          refine ih2 (w + 1, y ||| z, lput σ2 5 ((L + 1) * 80 + j * 16 + w) z) ⟨by dsimp only; omega, f2.tr (fr.l (by decide)), fun i hi => ?_, fun u hu => ?_, ?_⟩ (by dsimp only; omega)
          · dsimp only at hi ⊢
            rw [lput_s, if_neg (by omega)]
            exact o2 i (by omega)
          · dsimp only at hu ⊢
            by_cases e : u < w * 64
            · rw [old u e]; exact g2 u e
            · have := new (u % 64) (by omega)
              rw [show w * 64 + u % 64 = u by omega] at this
              exact this
          · dsimp only
            rw [bI_ne0]
            constructor
            · intro h u hu
              by_cases e : u < w * 64
              · rw [old u e]
                refine y2.mp (bI_ne0.mpr (fun n hn => ?_)) u e
                have := h n hn
                rw [bL_or] at this
                exact (Bool.or_eq_false_iff.mp this).1
              · have := h (u % 64) (by omega)
                rw [bL_or] at this
                have h2 := (Bool.or_eq_false_iff.mp this).2
                rw [show u = w * 64 + u % 64 by omega, lf_w (by omega), lput_s, if_pos rfl]
                exact h2
            · intro h n hn
              rw [bL_or, Bool.or_eq_false_iff]
              refine ⟨bI_ne0.mp (y2.mpr (fun u hu => by rw [← old u hu]; exact h u (by omega))) n hn, ?_⟩
              have := h (w * 64 + n) (by omega)
              rw [lf_w hn, lput_s, if_pos rfl] at this
              exact this)
  exact ⟨b, σ', h1, h2⟩
def CmP (lk : Nat → Nat → Nat → Bool) (nu : Nat → Nat → Bool) (i j τ u : Nat) : Prop := ∀ k, k < 10 → lk i j k = true → nu u k = true → τ.testBit k = true
def Ext (lk : Nat → Nat → Nat → Bool) (nu : Nat → Nat → Bool) (U : Nat) (S : Nat → Nat → Prop) (o : Nat) : Prop :=
  ∃ a : Nat → Nat, (∀ i, i < 5 → o.testBit i = true → a i < U ∧ S i (a i)) ∧ ∀ i j, i < 5 → j < 5 → o.testBit i = true → o.testBit j = true → i ≠ j → CmP lk nu i j (a i) (a j)
theorem Ext_c {lk : Nat → Nat → Nat → Bool} {nu : Nat → Nat → Bool} {U : Nat} {S S' : Nat → Nat → Prop} {o : Nat} (h : ∀ i, i < 5 → o.testBit i = true → ∀ u, u < U → S i u → S' i u) (e : Ext lk nu U S o) : Ext lk nu U S' o := by
  obtain ⟨a, a1, a2⟩ := e
  exact ⟨a, fun i hi hi2 => ⟨(a1 i hi hi2).1, h i hi hi2 _ (a1 i hi hi2).1 (a1 i hi hi2).2⟩, a2⟩
theorem tq_pn1 : ∀ o, o < 32 → 1 ≤ pcw 32 o → ∃ i, i < 5 ∧ o.testBit i = true := by decide +kernel
theorem tq_pn2a : ∀ o, o < 32 → ∀ i, i < 5 → ∀ j, j < 5 → (!(pcw 32 o == 1) || !(o.testBit i) || !(o.testBit j) || i == j) = true := by decide +kernel
theorem tq_pn2 (o : Nat) (ho : o < 32) (h : pcw 32 o = 1) (i : Nat) (hi : i < 5) (j : Nat) (hj : j < 5) (h1 : o.testBit i = true) (h2 : o.testBit j = true) : i = j := by
  have := tq_pn2a o ho i hi j hj
  rw [h, h1, h2] at this
  simpa using this
/-- how many are open (kept shut) -/
def pcIs (o n : Nat) : Prop := pcw 32 o = n
theorem tq_rst : ∀ o, o < 32 → ∀ t, t < 5 → o.testBit t = true → (nI o &&& (((1 : Int32) <<< (nI t &&& 31)) ^^^ (-1))) = nI (o - 2 ^ t) ∧ pcw 32 (o - 2 ^ t) + 1 = pcw 32 o ∧ o - 2 ^ t < 32 := by decide +kernel
/-- one thing chosen, what it demands held against the rest -/
theorem Ext_dn {lk : Nat → Nat → Nat → Bool} {nu : Nat → Nat → Bool} {U : Nat} {S : Nat → Nat → Prop} {o t τ : Nat} {d : Int32} (ht : t < 5) (hot : o.testBit t = true) (hτ : τ < U) (hS : S t τ)
    (hd : ∀ k, k < 10 → (inQ lk (o - 2 ^ t) t k ∧ nu τ k = true → bI d k = true) ∧ (outQ lk (o - 2 ^ t) t k ∧ τ.testBit k = false → bI d (k + 10) = true))
    (e : Ext lk nu U (fun j u => S j u ∧ fitP lk nu t j d u) (o - 2 ^ t)) : Ext lk nu U S o := by
  obtain ⟨a, a1, a2⟩ := e
  have bit : ∀ i, i ≠ t → o.testBit i = true → (o - 2 ^ t).testBit i = true := fun i hi h => by rw [sub_bit hot, h]; simp [hi]
  refine ⟨fun i => if i = t then τ else a i, fun i hi hi2 => ?_, fun i j hi hj hi2 hj2 hne => ?_⟩
  · dsimp only
    by_cases e : i = t
    · rw [if_pos e, e]; exact ⟨hτ, hS⟩
    · rw [if_neg e]
      have := a1 i hi (bit i e hi2)
      exact ⟨this.1, this.2.1⟩
  · dsimp only
    by_cases e : i = t
    · subst e
      have hji : j ≠ i := fun z => hne z.symm
      rw [if_pos rfl, if_neg hji]
      have hfit := (a1 j hj (bit j hji hj2)).2.2
      intro k hk h1 h2
      cases hb : τ.testBit k with
      | true => rfl
      | false =>
        have := (hfit k hk).2 ((hd k hk).2 ⟨⟨j, hj, bit j hji hj2, h1⟩, hb⟩) h1
        rw [h2] at this; cases this
    · rw [if_neg e]
      by_cases e' : j = t
      · subst e'
        rw [if_pos rfl]
        have hfit := (a1 i hi (bit i e hi2)).2.2
        intro k hk h1 h2
        exact (hfit k hk).1 ((hd k hk).1 ⟨⟨i, hi, bit i e hi2, h1⟩, h2⟩) h1
      · rw [if_neg e']
        exact a2 i j hi hj (bit i e hi2) (bit j e' hj2) hne
theorem Ext_up {lk : Nat → Nat → Nat → Bool} {nu : Nat → Nat → Bool} {U : Nat} {S : Nat → Nat → Prop} {o t n : Nat} {D : Nat → Int32} (ht : t < 5) (hot : o.testBit t = true)
    (hD : ∀ τ, τ < U → S t τ → ∃ m, m < n ∧ ∀ k, k < 10 → (bI (D m) k = true → inQ lk (o - 2 ^ t) t k ∧ nu τ k = true) ∧ (bI (D m) (k + 10) = true → outQ lk (o - 2 ^ t) t k ∧ τ.testBit k = false))
    (e : Ext lk nu U S o) : ∃ m, m < n ∧ Ext lk nu U (fun j u => S j u ∧ fitP lk nu t j (D m) u) (o - 2 ^ t) := by
  obtain ⟨a, a1, a2⟩ := e
  obtain ⟨m, m1, m2⟩ := hD (a t) (a1 t ht hot).1 (a1 t ht hot).2
  have bit : ∀ i, (o - 2 ^ t).testBit i = true → i ≠ t ∧ o.testBit i = true := fun i h => by
    rw [sub_bit hot, Bool.and_eq_true_iff] at h
    exact ⟨by simpa using h.2, h.1⟩
  refine ⟨m, m1, a, fun i hi hi2 => ⟨(a1 i hi (bit i hi2).2).1, (a1 i hi (bit i hi2).2).2, fun k hk => ⟨fun h1 h2 => ?_, fun h1 h2 => ?_⟩⟩, fun i j hi hj hi2 hj2 hne => a2 i j hi hj (bit i hi2).2 (bit j hj2).2 hne⟩
  · exact a2 i t hi ht (bit i hi2).2 hot (bit i hi2).1 k hk h2 ((m2 k hk).1 h1).2
  · cases hb : nu (a i) k with
    | false => rfl
    | true =>
      have := a2 t i ht hi hot (bit i hi2).2 (fun z => (bit i hi2).1 z.symm) k hk h2 hb
      rw [((m2 k hk).2 h1).2] at this; cases this
theorem ex_a {L j : Nat} (h : j < L * 1024) : j < (L + 1) * 1024 := Nat.lt_of_lt_of_le h (Nat.mul_le_mul_right 1024 (Nat.le_succ L))
theorem ex_b {L j : Nat} (h : j < L * 1024) : ¬ (L * 1024 ≤ j ∧ j < L * 1024 + 1024) := by omega
theorem ex_c {L j : Nat} (h : j < (L + 1) * 80) : j < (L + 1 + 1) * 80 := Nat.lt_of_lt_of_le h (Nat.mul_le_mul_right 80 (Nat.le_succ (L + 1)))
theorem ex_d {L j W u : Nat} (hj : j < 5) (hW : W ≤ 16) (hu : u < W * 64) : L * 80 + j * 16 + u / 64 < (L + 1) * 80 := by omega
theorem ex_e {L p n : Nat} (h : p < n) (hn : n ≤ 1024) : L * 1024 + p < (L + 1) * 1024 := by omega
theorem ex_f {L p n : Nat} (hL : L < 4) (h : p < n) (hn : n ≤ 1024) : L * 1024 + p < 4096 := by omega
/-- Things.canExtend -/
theorem sp_canExtend {lk : Nat → Nat → Nat → Bool} {nu : Nat → Nat → Bool} {W : Nat} : ∀ (m L d o : Nat) (σ : tq_S), L + m = 4 → m < d → o < 32 → pcIs o (m + 1) → sK lk nu W σ → (L = 4 → ∃ i, i < 5 ∧ o.testBit i = true ∧ ∃ u, u < W * 64 ∧ lft σ L i u = true) →
    ∃ σ', fx_canExtend d (0, [nI L, nI o], [], σ) = some (iB (cD (Ext lk nu (W * 64) (fun i τ => lft σ L i τ = true) o)), σ') ∧ fr [15] [5] [] σ σ' ∧ (∀ j, j < (L + 1) * 80 → σ'.2.1 5 j = σ.2.1 5 j) ∧ (∀ j, j < L * 1024 → σ'.1 15 j = σ.1 15 j) := by
  intro m
  induction m with
  | zero =>
    intro L d o σ hLm hd ho hpc hK hne
    obtain ⟨d, rfl⟩ : ∃ d', d = d' + 1 := ⟨d - 1, by omega⟩
    have hL4 : L = 4 := by omega
    obtain ⟨i, i1, i2, u, u1, u2⟩ := hne hL4
    have hE : Ext lk nu (W * 64) (fun i τ => lft σ L i τ = true) o := by
      refine ⟨fun _ => u, fun j hj hj2 => ?_, fun j k hj hk hj2 hk2 hne => absurd (tq_pn2 o ho hpc j hj k hk hj2 hk2) hne⟩
      rw [tq_pn2 o ho hpc j hj i i1 hj2 i2]
      exact ⟨u1, u2⟩
    refine ⟨σ, ?_, fr.rf _ _ _ σ, fun _ _ => rfl, fun _ _ => rfl⟩
    rw [cD_t.mpr hE]
    show tq_fI (st_Th_canExtend (fx_canExtend d)) (0, [nI L, nI o], [], σ) = _
    refine tq_fI_e (tq_at (by decide) ?_)
    show tq_wo (bk_Th_canExtend_0 (fx_canExtend d) [nI L, nI o] [] σ) _
    rw [bk_Th_canExtend_0]
    refine wi_o (sp_bitCountI (by omega) σ) ?_
    rw [show pcw 32 o = 0 + 1 from hpc]
    exact wi_f (by decide) (wi_s (tq_wp_rt rfl))
  | succ m ihm =>
    intro L d o σ hLm hd ho hpc hK hne
    obtain ⟨d, rfl⟩ : ∃ d', d = d' + 1 := ⟨d - 1, by omega⟩
    obtain ⟨h9, hW, hlk, hnu, hin⟩ := id hK
    have hL4 : L < 4 := by omega
    obtain ⟨t, t1, t2, t3⟩ := sp_mostBound (W := W) (L := L) (o := o) (σ := σ) h9 hW (by omega) ho (tq_pn1 o ho (by rw [show pcw 32 o = m + 1 + 1 from hpc]; exact Nat.succ_le_succ (Nat.zero_le _)))
    obtain ⟨r1, r2, r3⟩ := tq_rst o ho t t1 t2
    have r4 : pcIs (o - 2 ^ t) (m + 1) := Nat.succ.inj (r2.trans hpc)
    have hpI : nI (pcw 32 o) = nI (m + 1 + 1) := by rw [show pcw 32 o = m + 1 + 1 from hpc]
    clear r2 hne
    obtain ⟨n, σ1, n1, n2, n3, n4, n5, n6⟩ := sp_findDemands (t := t) (o := o - 2 ^ t) hK hL4 t1 r3
    obtain ⟨E, hE⟩ : ∃ E, E = Ext lk nu (W * 64) (fun i τ => lft σ L i τ = true) o := ⟨_, rfl⟩
    rw [← hE]
    obtain ⟨r, σ', g1, rfl, g2⟩ := tq_fI_of (st := st_Th_canExtend (fx_canExtend d)) (c := (0, [nI L, nI o], [], σ)) (P := fun r σ' => r = iB (cD E) ∧ fr [15] [5] [] σ σ' ∧ (∀ j, j < (L + 1) * 80 → σ'.2.1 5 j = σ.2.1 5 j) ∧ (∀ j, j < L * 1024 → σ'.1 15 j = σ.1 15 j)) (by
      refine tq_wpQ (fun Q hQ => tq_at (by decide) ?_)
      show tq_wo (bk_Th_canExtend_0 (fx_canExtend d) [nI L, nI o] [] σ) _
      rw [bk_Th_canExtend_0]
      refine wi_o (sp_bitCountI (by omega) σ) ?_
      rw [hpI, tq_inc]
      refine wi_t ((tq_le (a := 2) (by omega) (by omega)).mpr (by omega)) (wi_t ((tq_lt (b := 5) (by omega) (by omega)).mpr (by omega)) (wi_o t3 (wi_l ?_)))
      rw [r1]
      refine wi_o n1 (wi_s ?_)
      refine tq_ind 48 (fun p : Nat × tq_S => ([nI L, nI t, nI (o - 2 ^ t), nI n, nI p.1], [], p.2)) (fun p => p.1 ≤ n ∧ fr [15] [5] [] σ p.2 ∧ (∀ j, j < (L + 1) * 80 → p.2.2.1 5 j = σ.2.1 5 j) ∧ (∀ j, j < (L + 1) * 1024 → p.2.1 15 j = σ1.1 15 j) ∧ ∀ i, i < p.1 → ¬ Ext lk nu (W * 64) (fun j u => lft σ L j u = true ∧ fitP lk nu t j (σ1.1 15 (L * 1024 + i)) u) (o - 2 ^ t)) (fun p => n - p.1) ?_ (0, σ1) ⟨Nat.zero_le _, n2.wk (by decide) (by decide) (by decide), fun j _ => by rw [n2.2.1 5 (by decide)], fun _ _ => rfl, fun i hi => absurd hi (Nat.not_lt_zero _)⟩
      rintro ⟨p, σ2⟩ ⟨hp, f2, l2, d2, e2⟩ ih
      dsimp only at hp f2 l2 d2 e2 ih ⊢
      have dl : ∀ j, j < L * 1024 → σ2.1 15 j = σ.1 15 j := fun j hj => by rw [d2 j (ex_a hj), n4 j (ex_b hj)]
      refine tq_at (by decide) ?_
      show tq_wo (bk_Th_canExtend_48 (fx_canExtend d) [nI L, nI t, nI (o - 2 ^ t), nI n, nI p] [] σ2) _
      rw [bk_Th_canExtend_48]
      refine wi_c (fun q => wi_s (tq_wp_rt (hQ _ ⟨_, _, rfl, ?_, f2, l2, dl⟩))) (fun q => ?_)
      · have hpn : p = n := by
          have := (tq_le (a := n) (b := p) (by omega) (by omega)).mp q
          omega
        subst hpn
        have : ¬ E := fun z => by
          rw [hE] at z
          obtain ⟨i, i1, i2⟩ := Ext_up (D := fun m => σ1.1 15 (L * 1024 + m)) t1 t2 n6 z
          exact e2 i i1 i2
        rw [cD_f.mpr this]; rfl
      · have hpn : p < n := tq_nle (b := p) (a := n) (by omega) (by omega) q
        simp only [ia]
        rw [tq_m1024, nI_add, tq_nc (Nat.lt_trans (ex_f hL4 hpn n3) (by decide)), d2 _ (ex_e hpn n3)]
        have hK2 : sK lk nu W σ2 := sK_fr hK (f2.1 14 (by decide)) (f2.1 4 (by decide)) (f2.2.1 1 (by decide)) (f2.2.2 9 (by decide))
        obtain ⟨b, σ3, b1, b2, b3, b4, b5⟩ := sp_passOn (t := t) (o := o - 2 ^ t) hK2 hL4 t1 r3 (σ1.1 15 (L * 1024 + p))
        have f3 : fr [15] [5] [] σ σ3 := f2.tr (b2.wk (by decide) (by decide) (by decide))
        have l3 : ∀ j, j < (L + 1) * 80 → σ3.2.1 5 j = σ.2.1 5 j := fun j hj => by rw [b3 j hj, l2 j hj]
        have d3 : ∀ j, j < (L + 1) * 1024 → σ3.1 15 j = σ1.1 15 j := fun j hj => by rw [b2.1 15 (by decide)]; exact d2 j hj
        have lf2 : ∀ j u, j < 5 → u < W * 64 → lft σ2 L j u = lft σ L j u := fun j u hj hu => by unfold lft; rw [l2 _ (ex_d hj hW hu)]
        refine wi_g (tq_vin (ex_f hL4 hpn n3) (by decide)) (wi_l (wi_o b1 ?_))
        have nx : ∀ σ4, fr [15] [5] [] σ σ4 → (∀ j, j < (L + 1) * 80 → σ4.2.1 5 j = σ.2.1 5 j) → (∀ j, j < (L + 1) * 1024 → σ4.1 15 j = σ1.1 15 j) → ¬ Ext lk nu (W * 64) (fun j u => lft σ L j u = true ∧ fitP lk nu t j (σ1.1 15 (L * 1024 + p)) u) (o - 2 ^ t) → tq_wp (st_Th_canExtend (fx_canExtend d)) Q (48, [nI L, nI t, nI (o - 2 ^ t), nI n, nI p + 1], [], σ4) := by
          intro σ4 f4 l4 d4 e4
          rw [tq_inc]
          refine ih (p + 1, σ4) ⟨by dsimp only; omega, f4, l4, d4, fun i hi => ?_⟩ (by dsimp only; omega)
          dsimp only at hi
          by_cases e : i = p
          · rw [e]; exact e4
          · exact e2 i (by omega)
        cases b with
        | false =>
          refine wi_t rfl (wi_l (wi_s (nx σ3 f3 l3 d3 (fun z => ?_))))
          obtain ⟨j, j1, j2, j3⟩ := b4 rfl
          obtain ⟨a, a1, -⟩ := z
          have := a1 j j1 j2
          refine j3 (a j) this.1 ⟨?_, this.2.2⟩
          rw [lf2 j _ j1 this.1]; exact this.2.1
        | true =>
          have b5 := b5 rfl
          have hK3 : sK lk nu W σ3 := sK_fr hK (f3.1 14 (by decide)) (f3.1 4 (by decide)) (f3.2.1 1 (by decide)) (f3.2.2 9 (by decide))
          obtain ⟨σ4, c1, c2, c3, c4⟩ := ihm (L + 1) d (o - 2 ^ t) σ3 (by omega) (by omega) r3 r4 hK3 (fun _ => by
            obtain ⟨i, i1, i2⟩ := tq_pn1 (o - 2 ^ t) r3 (by rw [show pcw 32 (o - 2 ^ t) = m + 1 from r4]; exact Nat.succ_le_succ (Nat.zero_le _))
            exact ⟨i, i1, i2, (b5 i i1 i2).1⟩)
          have f4 : fr [15] [5] [] σ σ4 := f3.tr c2
          have l4 : ∀ j, j < (L + 1) * 80 → σ4.2.1 5 j = σ.2.1 5 j := fun j hj => by rw [c3 j (ex_c hj), l3 j hj]
          have d4 : ∀ j, j < (L + 1) * 1024 → σ4.1 15 j = σ1.1 15 j := fun j hj => by rw [c4 j hj, d3 j hj]
          rw [← tq_inc] at c1
          refine wi_f (by decide) (wi_o c1 ?_)
          have eqv : Ext lk nu (W * 64) (fun i τ => lft σ3 (L + 1) i τ = true) (o - 2 ^ t) ↔ Ext lk nu (W * 64) (fun j u => lft σ L j u = true ∧ fitP lk nu t j (σ1.1 15 (L * 1024 + p)) u) (o - 2 ^ t) := by
            constructor
            · exact Ext_c (fun i hi hi2 u hu h => by
                have := ((b5 i hi hi2).2 u hu).mp h
                rw [lf2 i u hi hu] at this
                exact this)
            · exact Ext_c (fun i hi hi2 u hu h => ((b5 i hi hi2).2 u hu).mpr (by rw [lf2 i u hi hu]; exact h))
          cases hc : cD (Ext lk nu (W * 64) (fun i τ => lft σ3 (L + 1) i τ = true) (o - 2 ^ t)) with
          | false => exact wi_t rfl (wi_l (wi_s (nx σ4 f4 l4 d4 (fun z => cD_f.mp hc (eqv.mpr z)))))
          | true =>
            refine wi_f (by decide) (wi_s (tq_wp_rt (hQ _ ⟨_, _, rfl, ?_, f4, l4, fun j hj => by rw [d4 j (ex_a hj), n4 j (ex_b hj)]⟩)))
            have : E := by
              rw [hE]
              obtain ⟨τ, τ1, τ2, τ3⟩ := n5 p hpn
              exact Ext_dn t1 t2 τ1 τ2 (fun k hk => ⟨(τ3 k hk).1.mpr, (τ3 k hk).2.mpr⟩) (eqv.mp (cD_t.mp hc))
            rw [cD_t.mpr this]; rfl)
    exact ⟨σ', g1, g2⟩
