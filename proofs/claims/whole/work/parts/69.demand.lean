/-! Things.addDemand, findDemands -/
def sb (x y : Int32) : Prop := ∀ j, j < 32 → bI x j = true → bI y j = true
theorem sb_rf (x : Int32) : sb x x := fun _ _ h => h
theorem sb_tr {x y z : Int32} (h : sb x y) (h' : sb y z) : sb x z := fun j hj q => h' j hj (h j hj q)
theorem sb_iff {x y : Int32} : x &&& (y ^^^ (-1)) = 0 ↔ sb x y := ⟨fun h j hj q => ne0_or h hj q, fun h => or_ne0 h⟩
/-- Things.addDemand -/
theorem sp_addDemand {f n : Nat} {σ : tq_S} (d : Int32) (hf : f + 1024 ≤ 4096) (hn : n < 1024) :
    ∃ n' σ', tq_fI st_Th_addDemand (0, [nI f, nI n, d], [], σ) = some (nI n', σ') ∧ fr [15] [] [] σ σ' ∧ n' ≤ n + 1 ∧ (∀ j, ¬ (f ≤ j ∧ j < f + 1024) → σ'.1 15 j = σ.1 15 j) ∧
      (∀ m, m < n' → σ'.1 15 (f + m) = d ∨ ∃ m', m' < n ∧ σ'.1 15 (f + m) = σ.1 15 (f + m')) ∧
      (∀ m', m' < n → ∃ m, m < n' ∧ sb (σ'.1 15 (f + m)) (σ.1 15 (f + m'))) ∧ (∃ m, m < n' ∧ sb (σ'.1 15 (f + m)) d) := by
  obtain ⟨r, σ', h1, n', rfl, h2⟩ := tq_fI_of (st := st_Th_addDemand) (c := (0, [nI f, nI n, d], [], σ)) (P := fun r σ' => ∃ n', r = nI n' ∧ fr [15] [] [] σ σ' ∧ n' ≤ n + 1 ∧ (∀ j, ¬ (f ≤ j ∧ j < f + 1024) → σ'.1 15 j = σ.1 15 j) ∧
      (∀ m, m < n' → σ'.1 15 (f + m) = d ∨ ∃ m', m' < n ∧ σ'.1 15 (f + m) = σ.1 15 (f + m')) ∧
      (∀ m', m' < n → ∃ m, m < n' ∧ sb (σ'.1 15 (f + m)) (σ.1 15 (f + m'))) ∧ (∃ m, m < n' ∧ sb (σ'.1 15 (f + m)) d)) (by
    refine tq_wpQ (fun Q hQ => tq_at (by decide) ?_)
    show tq_wo (bk_Th_addDemand_0 [nI f, nI n, d] [] σ) _
    rw [bk_Th_addDemand_0]
    refine wi_s ?_
    refine tq_ind 3 (fun p : Nat => ([nI f, nI n, d, nI p], [], σ)) (fun p => p ≤ n) (fun p => n - p) ?_ 0 (Nat.zero_le _)
    rintro p hp ih
    refine tq_at (by decide) ?_
    show tq_wo (bk_Th_addDemand_3 [nI f, nI n, d, nI p] [] σ) _
    rw [bk_Th_addDemand_3]
    refine wi_c (fun q => wi_s ?_) (fun q => ?_)
    · clear ih
      refine tq_ind 39 (fun p : Nat × Nat × tq_S => ([nI f, nI n, d, nI p.1, nI p.2.1], [], p.2.2)) (fun p => p.1 ≤ p.2.1 ∧ p.2.1 ≤ n ∧ fr [15] [] [] σ p.2.2 ∧ (∀ j, ¬ (f ≤ j ∧ j < f + p.2.1) → p.2.2.1 15 j = σ.1 15 j) ∧ (∀ m, m < p.1 → ∃ m', m' < p.2.1 ∧ p.2.2.1 15 (f + m) = σ.1 15 (f + m')) ∧ (∀ m', m' < p.2.1 → (∃ m, m < p.1 ∧ p.2.2.1 15 (f + m) = σ.1 15 (f + m')) ∨ sb d (σ.1 15 (f + m')))) (fun p => n - p.2.1) ?_ (0, 0, σ) ⟨Nat.le_refl _, Nat.zero_le _, fr.rf _ _ _ σ, fun _ _ => rfl, fun m hm => absurd hm (Nat.not_lt_zero _), fun m hm => absurd hm (Nat.not_lt_zero _)⟩
      rintro ⟨k, p, σ1⟩ ⟨hkp, hpn, f1, o1, s1, c1⟩ ih
      dsimp only at hkp hpn f1 o1 s1 c1 ih ⊢
      refine tq_at (by decide) ?_
      show tq_wo (bk_Th_addDemand_39 [nI f, nI n, d, nI k, nI p] [] σ1) _
      rw [bk_Th_addDemand_39]
      simp only [ia]
      rw [nI_add, nI_add, tq_nc (show f + k < 2147483648 by omega), tq_nc (show f + p < 2147483648 by omega)]
      have vk : vp_in (nI (f + k)) 4096 := tq_vin (by omega) (by omega)
      have vp : vp_in (nI (f + p)) 4096 := tq_vin (by omega) (by omega)
      refine wi_c (fun q => wi_g vk (wi_l (wi_s (tq_wp_rt (hQ _ ?_))))) (fun q => wi_g vp ?_)
      · have : p = n := by
          have := (tq_le (a := n) (b := p) (by omega) (by omega)).mp q
          omega
        subst this
        rw [tq_inc]
        refine ⟨_, _, rfl, k + 1, rfl, f1.tr (fr.i (by decide)), by omega, fun j hj => ?_, fun m hm => ?_, fun m' hm' => ?_, ⟨k, by omega, ?_⟩⟩
        · rw [iput_s, if_neg (by omega)]; exact o1 j (by omega)
        · rw [iput_s]
          by_cases e : m = k
          · rw [if_pos (by omega)]; exact Or.inl rfl
          · rw [if_neg (by omega)]; exact Or.inr (s1 m (by omega))
        · rcases c1 m' hm' with ⟨m, m1, m2⟩ | hs
          · refine ⟨m, by omega, ?_⟩
            rw [iput_s, if_neg (by omega), m2]; exact sb_rf _
          · refine ⟨k, by omega, ?_⟩
            rw [iput_s, if_pos rfl]; exact hs
        · rw [iput_s, if_pos rfl]; exact sb_rf _
      · have hlt : p < n := tq_nle (b := p) (a := n) (by omega) (by omega) q
        have ep : σ1.1 15 (f + p) = σ.1 15 (f + p) := o1 _ (by omega)
        refine wi_c (fun q => wi_l (wi_s ?_)) (fun q => wi_g vp (wi_g vk (wi_l (wi_l (wi_l (wi_s ?_))))))
        · rw [tq_inc]
          rw [ep] at q
          refine ih (k, p + 1, σ1) ⟨by dsimp only; omega, by dsimp only; omega, f1, fun j hj => o1 j (by dsimp only at hj; omega), fun m hm => ?_, fun m' hm' => ?_⟩ (by dsimp only; omega)
          · obtain ⟨m', a, b⟩ := s1 m hm
            exact ⟨m', by dsimp only; omega, b⟩
          · dsimp only at hm'
            by_cases e : m' = p
            · subst e; exact Or.inr (sb_iff.mp q)
            · exact c1 m' (by omega)
        · rw [tq_inc, tq_inc, ep]
          refine ih (k + 1, p + 1, _) ⟨by dsimp only; omega, by dsimp only; omega, f1.tr (fr.i (by decide)), fun j hj => ?_, fun m hm => ?_, fun m' hm' => ?_⟩ (by dsimp only; omega)
          · show (iput σ1 15 (f + k) _).1 15 j = _
            dsimp only at hj
            rw [iput_s, if_neg (by omega)]
            exact o1 j (by omega)
          · show ∃ m', m' < p + 1 ∧ (iput σ1 15 (f + k) _).1 15 (f + m) = _
            dsimp only at hm
            rw [iput_s]
            by_cases e : m = k
            · rw [if_pos (by omega)]; exact ⟨p, by omega, rfl⟩
            · rw [if_neg (by omega)]
              obtain ⟨m', a, b⟩ := s1 m (by omega)
              exact ⟨m', by omega, b⟩
          · show (∃ m, m < k + 1 ∧ (iput σ1 15 (f + k) _).1 15 (f + m) = _) ∨ _
            dsimp only at hm'
            by_cases e : m' = p
            · subst e
              exact Or.inl ⟨k, by omega, by rw [iput_s, if_pos rfl]⟩
            · rcases c1 m' (by omega) with ⟨m, m1, m2⟩ | hs
              · exact Or.inl ⟨m, by omega, by rw [iput_s, if_neg (by omega)]; exact m2⟩
              · exact Or.inr hs
    · have hlt : p < n := tq_nle (b := p) (a := n) (by omega) (by omega) q
      simp only [ia, nI_add, tq_nc (show f + p < 2147483648 by omega)]
      refine wi_g (tq_vin (by omega) (by omega)) (wi_c (fun q => wi_l (wi_s ?_)) (fun q => wi_s (tq_wp_rt (hQ _ ?_))))
      · rw [tq_inc]
        exact ih (p + 1) (by omega) (by omega)
      · have q := sb_iff.mp (Classical.not_not.mp q)
        exact ⟨_, _, rfl, n, rfl, fr.rf _ _ _ σ, by omega, fun _ _ => rfl, fun m hm => Or.inr ⟨m, hm, rfl⟩, fun m' hm' => ⟨m', hm', sb_rf _⟩, ⟨p, hlt, q⟩⟩)
  exact ⟨n', σ', h1, h2⟩
def inQ (lk : Nat → Nat → Nat → Bool) (o t k : Nat) : Prop := ∃ j, j < 5 ∧ o.testBit j = true ∧ lk j t k = true
def outQ (lk : Nat → Nat → Nat → Bool) (o t k : Nat) : Prop := ∃ j, j < 5 ∧ o.testBit j = true ∧ lk t j k = true
theorem tq_m1024 (a : Nat) : nI a * 1024 = nI (a * 1024) := pk_mul a 1024
/-- Things.findDemands -/
theorem sp_findDemands {lk : Nat → Nat → Nat → Bool} {nu : Nat → Nat → Bool} {W L t o : Nat} {σ : tq_S} (hK : sK lk nu W σ) (hL : L < 4) (ht : t < 5) (ho : o < 32) :
    ∃ n σ', tq_fI st_Th_findDemands (0, [nI L, nI t, nI o], [], σ) = some (nI n, σ') ∧ fr [15] [] [] σ σ' ∧ n ≤ 1024 ∧ (∀ j, ¬ (L * 1024 ≤ j ∧ j < L * 1024 + 1024) → σ'.1 15 j = σ.1 15 j) ∧
      (∀ m, m < n → ∃ τ, τ < W * 64 ∧ lft σ L t τ = true ∧ ∀ k, k < 10 → (bI (σ'.1 15 (L * 1024 + m)) k = true ↔ inQ lk o t k ∧ nu τ k = true) ∧ (bI (σ'.1 15 (L * 1024 + m)) (k + 10) = true ↔ outQ lk o t k ∧ τ.testBit k = false)) ∧
      (∀ τ, τ < W * 64 → lft σ L t τ = true → ∃ m, m < n ∧ ∀ k, k < 10 → (bI (σ'.1 15 (L * 1024 + m)) k = true → inQ lk o t k ∧ nu τ k = true) ∧ (bI (σ'.1 15 (L * 1024 + m)) (k + 10) = true → outQ lk o t k ∧ τ.testBit k = false)) := by
  obtain ⟨h9, hW, hlk, hnu, hin⟩ := id hK
  obtain ⟨r, σ', h1, n, rfl, h2⟩ := tq_fI_of (st := st_Th_findDemands) (c := (0, [nI L, nI t, nI o], [], σ)) (P := fun r σ' => ∃ n, r = nI n ∧ fr [15] [] [] σ σ' ∧ n ≤ 1024 ∧ (∀ j, ¬ (L * 1024 ≤ j ∧ j < L * 1024 + 1024) → σ'.1 15 j = σ.1 15 j) ∧
      (∀ m, m < n → ∃ τ, τ < W * 64 ∧ lft σ L t τ = true ∧ ∀ k, k < 10 → (bI (σ'.1 15 (L * 1024 + m)) k = true ↔ inQ lk o t k ∧ nu τ k = true) ∧ (bI (σ'.1 15 (L * 1024 + m)) (k + 10) = true ↔ outQ lk o t k ∧ τ.testBit k = false)) ∧
      (∀ τ, τ < W * 64 → lft σ L t τ = true → ∃ m, m < n ∧ ∀ k, k < 10 → (bI (σ'.1 15 (L * 1024 + m)) k = true → inQ lk o t k ∧ nu τ k = true) ∧ (bI (σ'.1 15 (L * 1024 + m)) (k + 10) = true → outQ lk o t k ∧ τ.testBit k = false))) (by
    refine tq_wpQ (fun Q hQ => tq_at (by decide) ?_)
    show tq_wo (bk_Th_findDemands_0 [nI L, nI t, nI o] [] σ) _
    rw [bk_Th_findDemands_0]
    refine wi_s ?_
    -- out and in
    refine tq_ind 9 (fun p : Int32 × Int32 × Nat => ([nI L, nI t, nI o, p.1, p.2.1, nI p.2.2], [], σ)) (fun p => p.2.2 ≤ 5 ∧ ∀ k, k < 32 → (bI p.1 k = true ↔ ∃ j, j < p.2.2 ∧ o.testBit j = true ∧ lk t j k = true) ∧ (bI p.2.1 k = true ↔ ∃ j, j < p.2.2 ∧ o.testBit j = true ∧ lk j t k = true)) (fun p => 5 - p.2.2) ?_ (0, 0, 0) ⟨by decide, fun k hk => ⟨⟨fun q => absurd q (by rw [bI_0]; decide), fun ⟨j, hj, _⟩ => absurd hj (Nat.not_lt_zero _)⟩, ⟨fun q => absurd q (by rw [bI_0]; decide), fun ⟨j, hj, _⟩ => absurd hj (Nat.not_lt_zero _)⟩⟩⟩
    rintro ⟨a, b, j⟩ ⟨hj, hab⟩ ih
    dsimp only at hj hab ih ⊢
    refine tq_at (by decide) ?_
    show tq_wo (bk_Th_findDemands_9 [nI L, nI t, nI o, a, b, nI j] [] σ) _
    rw [bk_Th_findDemands_9]
    refine wi_c (fun q => wi_l (wi_s ?_)) (fun q => ?_)
    · clear ih
      have : j = 5 := by
        have := (tq_le (a := 5) (b := j) (by omega) (by omega)).mp q
        omega
      subst this
      rw [tq_m80, tq_m16, nI_add]
      -- the demand of a type
      obtain ⟨dm, hdm⟩ : ∃ dm : Nat → Int32, dm = fun τ => ((a &&& (nI τ ^^^ (-1))) <<< (nI 10 &&& 31)) ||| (b &&& σ.1 4 τ) := ⟨_, rfl⟩
      have dml : ∀ τ, τ < 1024 → ∀ k, k < 10 → (bI (dm τ) k = true ↔ inQ lk o t k ∧ nu τ k = true) ∧ (bI (dm τ) (k + 10) = true ↔ outQ lk o t k ∧ τ.testBit k = false) := by
        intro τ hτ k hk
        have a10 : bI b (k + 10) = false := by
          cases e : bI b (k + 10) with
          | false => rfl
          | true =>
            obtain ⟨j, j1, j2, j3⟩ := (hab (k + 10) (by omega)).2.mp e
            have := (hin j t (k + 10) j1 ht (by omega) j3).1
            omega
        rw [hdm]
        dsimp only
        rw [bI_or, bI_or, bI_shl (by omega) (by omega), bI_shl (by omega) (by omega), bI_and, bI_and, bI_and, bI_and, a10, show k + 10 - 10 = k by omega, bI_not _ (show k < 32 by omega), bI_nI (by omega), hnu τ hτ k (by omega)]
        have c1 : decide (10 ≤ k) = false := decide_eq_false (by omega)
        have c2 : decide (10 ≤ k + 10) = true := decide_eq_true (by omega)
        rw [c1, c2, Bool.false_and, Bool.false_or, Bool.false_and, Bool.or_false, Bool.true_and, Bool.and_eq_true_iff, Bool.and_eq_true_iff, (hab k (by omega)).1, (hab k (by omega)).2]
        exact ⟨Iff.rfl, by simp [outQ]⟩
      -- words
      obtain ⟨J, hJ⟩ : ∃ J : Nat → (Nat → Prop) → tq_S → Prop, J = fun n P σ' => fr [15] [] [] σ σ' ∧ (∀ j, ¬ (L * 1024 ≤ j ∧ j < L * 1024 + 1024) → σ'.1 15 j = σ.1 15 j) ∧ (∀ m, m < n → ∃ τ, τ < W * 64 ∧ lft σ L t τ = true ∧ σ'.1 15 (L * 1024 + m) = dm τ) ∧ (∀ τ, τ < W * 64 → P τ → lft σ L t τ = true → ∃ m, m < n ∧ sb (σ'.1 15 (L * 1024 + m)) (dm τ)) := ⟨_, rfl⟩
      refine tq_ind 80 (fun p : Nat × Nat × tq_S => ([nI L, a, b, nI (L * 80 + t * 16), nI p.1, nI p.2.1], [], p.2.2)) (fun p => p.2.1 ≤ W ∧ p.1 ≤ p.2.1 * 64 ∧ J p.1 (fun τ => τ < p.2.1 * 64) p.2.2) (fun p => W - p.2.1) ?_ (0, 0, σ) ⟨Nat.zero_le _, Nat.zero_le _, by rw [hJ]; exact ⟨fr.rf _ _ _ σ, fun _ _ => rfl, fun m hm => absurd hm (Nat.not_lt_zero _), fun τ _ q => absurd q (by dsimp only; omega)⟩⟩
      rintro ⟨n, w, σ1⟩ ⟨hw, hn, j1⟩ ih
      dsimp only at hw hn j1 ih ⊢
      have j1' := j1
      rw [hJ] at j1'
      obtain ⟨f1, o1, s1, c1⟩ := j1'
      refine tq_at (by decide) ?_
      show tq_wo (bk_Th_findDemands_80 [nI L, a, b, nI (L * 80 + t * 16), nI n, nI w] [] σ1) _
      rw [bk_Th_findDemands_80, f1.2.2 9 (by decide), h9]
      refine wi_c (fun q => wi_s (tq_wp_rt (hQ _ ⟨_, _, rfl, n, rfl, f1, by omega, o1, fun m hm => ?_, fun τ hτ hl => ?_⟩))) (fun q => ?_)
      · obtain ⟨τ, t1, t2, t3⟩ := s1 m hm
        refine ⟨τ, t1, t2, fun k hk => ?_⟩
        rw [t3]; exact dml τ (by omega) k hk
      · have hwW := (tq_le (a := W) (b := w) (by omega) (by omega)).mp q
        obtain ⟨m, m1, m2⟩ := c1 τ hτ (by dsimp only; omega) hl
        refine ⟨m, m1, fun k hk => ⟨fun z => (dml τ (by omega) k hk).1.mp (m2 k (by omega) z), fun z => (dml τ (by omega) k hk).2.mp (m2 (k + 10) (by omega) z)⟩⟩
      · have hwW : w < W := tq_nle (b := w) (a := W) (by omega) (by omega) q
        simp only [la]
        rw [nI_add, tq_nc (by omega), f1.2.1 5 (by decide)]
        refine wi_g (tq_vin (by omega) (by omega)) (wi_l (wi_o (sp_bitCountL _ σ1) (wi_s ?_)))
        obtain ⟨Y, hY⟩ : ∃ Y, Y = σ.2.1 5 (L * 80 + t * 16 + w) := ⟨_, rfl⟩
        rw [← hY]
        have hYl : ∀ i, i < 64 → bL Y i = lft σ L t (w * 64 + i) := fun i hi => by rw [lf_w hi, hY]
        refine tq_ind 108 (fun p : Nat × Int64 × tq_S => ([nI L, a, b, nI (L * 80 + t * 16), nI p.1, nI w, nI (cnt (bL p.2.1) 64)], [p.2.1], p.2.2)) (fun p => p.1 + cnt (bL p.2.1) 64 ≤ w * 64 + 64 ∧ (∀ i, i < 64 → bL p.2.1 i = true → bL Y i = true) ∧ J p.1 (fun τ => τ < w * 64 ∨ (τ / 64 = w ∧ bL p.2.1 (τ % 64) = false)) p.2.2) (fun p => cnt (bL p.2.1) 64) ?_ (n, Y, σ1) ⟨by have := cnt_le (bL Y) 64; dsimp only; omega, fun _ _ h => h, by
          rw [hJ]
          refine ⟨f1, o1, s1, fun τ hτ hp hl => ?_⟩
          rcases hp with hp | ⟨hp1, hp2⟩
          · exact c1 τ hτ hp hl
          · dsimp only at hp2
            rw [hYl _ (by omega), show w * 64 + τ % 64 = τ by omega, hl] at hp2
            cases hp2⟩
        rintro ⟨n2, y, σ2⟩ ⟨hc2, hs2, j2⟩ ih2
        dsimp only at hc2 hs2 j2 ih2 ⊢
        have hc64 := cnt_le (bL y) 64
        refine tq_at (by decide) ?_
        show tq_wo (bk_Th_findDemands_108 [nI L, a, b, nI (L * 80 + t * 16), nI n2, nI w, nI (cnt (bL y) 64)] [y] σ2) _
        rw [bk_Th_findDemands_108]
        refine wi_c (fun q => wi_l (wi_s ?_)) (fun q => ?_)
        · have h0 : cnt (bL y) 64 = 0 := by
            have := (tq_le (a := cnt (bL y) 64) (b := 0) (by omega) (by omega)).mp q
            omega
          have hz := cnt_0.mp h0
          rw [tq_inc]
          refine ih (n2, w + 1, σ2) ⟨by dsimp only; omega, by dsimp only; omega, ?_⟩ (by dsimp only; omega)
          rw [hJ] at j2 ⊢
          obtain ⟨f2, o2, s2, c2⟩ := j2
          refine ⟨f2, o2, s2, fun τ hτ hp hl => c2 τ hτ ?_ hl⟩
          dsimp only at hp
          by_cases e : τ < w * 64
          · exact Or.inl e
          · exact Or.inr ⟨by omega, hz _ (by omega)⟩
        · have hpos : cnt (bL y) 64 ≠ 0 := fun z => q (by rw [z]; decide)
          have hy : y ≠ 0 := fun z => hpos (cnt_0.mpr (fun i hi => by rw [z, bL_0]))
          have hk := nz_ff hy
          have hyk := ff_yes (p := bL y) hk
          have hcr := cnt_rest (p := bL y) (q := bL (y &&& (y - 1))) hyk 64 (fun i hi => lo_rest hy hi)
          rw [if_pos hk] at hcr
          rw [hJ] at j2
          obtain ⟨f2, o2, s2, c2⟩ := j2
          refine wi_o (sp_lowestBit hy σ2) (wi_l ?_)
          rw [tq_m64, nI_add]
          refine wi_o (sp_inners (by omega)) (wi_l ?_)
          rw [f2.1 4 (by decide), tq_m1024]
          have hlt : w * 64 + ff (bL y) 64 < W * 64 := by omega
          have hlf : lft σ L t (w * 64 + ff (bL y) 64) = true := by rw [← hYl _ hk]; exact hs2 _ hk hyk
          obtain ⟨n3, σ3, a1, a2, a3, a4, a5, a6, a7⟩ := sp_addDemand (f := L * 1024) (n := n2) (σ := σ2) (dm (w * 64 + ff (bL y) 64)) (by omega) (by omega)
          rw [show (10 : Int32) = nI 10 from rfl]
          refine wi_o (by rw [hdm] at a1; exact a1) (wi_l (wi_l (wi_s ?_)))
          have ec : nI (cnt (bL y) 64) + (-1) = nI (cnt (bL (y &&& (y - 1))) 64) := by rw [hcr]; exact pk_m1 _
          rw [ec]
          refine ih2 (n3, y &&& (y - 1), σ3) ⟨by dsimp only; omega, fun i hi h => ?_, ?_⟩ (by dsimp only; omega)
          · dsimp only at h
            rw [lo_rest hy hi] at h
            exact hs2 i hi (Bool.and_eq_true_iff.mp h).1
          · rw [hJ]
            refine ⟨f2.tr a2, fun j hj => by rw [a4 j hj, o2 j hj], fun m hm => ?_, fun τ hτ hp hl => ?_⟩
            · rcases a5 m hm with e | ⟨m', m1, m2⟩
              · exact ⟨_, hlt, hlf, e⟩
              · obtain ⟨τ, t1, t2, t3⟩ := s2 m' m1
                exact ⟨τ, t1, t2, by rw [m2]; exact t3⟩
            · dsimp only at hp
              have old : (τ < w * 64 ∨ (τ / 64 = w ∧ bL y (τ % 64) = false)) → ∃ m, m < n3 ∧ sb (σ3.1 15 (L * 1024 + m)) (dm τ) := fun z => by
                obtain ⟨m, m1, m2⟩ := c2 τ hτ z hl
                obtain ⟨m', m3, m4⟩ := a6 m m1
                exact ⟨m', m3, sb_tr m4 m2⟩
              rcases hp with hp | ⟨hp1, hp2⟩
              · exact old (Or.inl hp)
              · rw [lo_rest hy (by omega)] at hp2
                by_cases e : τ % 64 = ff (bL y) 64
                · have : τ = w * 64 + ff (bL y) 64 := by omega
                  rw [this]; exact a7
                · rw [decide_eq_false e, Bool.not_false, Bool.and_true] at hp2
                  exact old (Or.inr ⟨hp1, hp2⟩)
    · have hj5 : j < 5 := tq_nle (a := 5) (b := j) (by omega) (by omega) q
      have hbit := sp_hasBit (nI o).toInt64 (show j < 64 by omega) σ
      rw [tq_o5 o ho j hj5] at hbit
      refine wi_o hbit ?_
      cases hv : o.testBit j with
      | false =>
        refine wi_t rfl (wi_l (wi_s ?_))
        rw [tq_inc]
        have no : ∀ (g : Nat → Bool), (∃ i, i < j ∧ o.testBit i = true ∧ g i = true) ↔ (∃ i, i < j + 1 ∧ o.testBit i = true ∧ g i = true) := fun g => by
          constructor
          · rintro ⟨i, i1, i2⟩; exact ⟨i, by omega, i2⟩
          · rintro ⟨i, i1, i2, i3⟩
            have : i ≠ j := fun e => by rw [e, hv] at i2; cases i2
            exact ⟨i, by omega, i2, i3⟩
        exact ih (a, b, j + 1) ⟨by dsimp only; omega, fun k hk => ⟨(hab k hk).1.trans (no (fun i => lk t i k)), (hab k hk).2.trans (no (fun i => lk i t k))⟩⟩ (by dsimp only; omega)
      | true =>
        simp only [ia, tq_m5, nI_add]
        rw [tq_nc (by omega), tq_nc (by omega)]
        refine wi_f (by decide) (wi_g (tq_vin (by omega) (by omega)) (wi_l (wi_g (tq_vin (by omega) (by omega)) (wi_l (wi_l (wi_s ?_))))))
        rw [tq_inc]
        have yes : ∀ (g : Nat → Bool) (x y : Int32) (k : Nat), (bI x k = true ↔ ∃ i, i < j ∧ o.testBit i = true ∧ g i = true) → bI y k = g j → (bI (x ||| y) k = true ↔ ∃ i, i < j + 1 ∧ o.testBit i = true ∧ g i = true) := fun g x y k hx hy => by
          rw [bI_or, Bool.or_eq_true_iff, hx, hy]
          constructor
          · rintro (⟨i, i1, i2⟩ | h)
            · exact ⟨i, by omega, i2⟩
            · exact ⟨j, by omega, hv, h⟩
          · rintro ⟨i, i1, i2, i3⟩
            by_cases e : i = j
            · subst e; exact Or.inr i3
            · exact Or.inl ⟨i, by omega, i2, i3⟩
        exact ih (_, _, j + 1) ⟨by dsimp only; omega, fun k hk => ⟨yes (fun i => lk t i k) _ _ k (hab k hk).1 (hlk t j ht hj5 k hk), yes (fun i => lk i t k) _ _ k (hab k hk).2 (hlk j t hj5 ht k hk)⟩⟩ (by dsimp only; omega))
  exact ⟨n, σ', h1, h2⟩
