/-! Things: leaveFirst, leaveLeast -/
theorem tq_1sh {k : Nat} (hk : k < 64) {j : Nat} (hj : j < 64) : bL (jlshl 1 (nI k)) j = decide (j = k) := tq_1s k hk j hj
/-- Things.leaveFirst -/
theorem sp_leaveFirst {lk : Nat → Nat → Nat → Bool} {nu : Nat → Nat → Bool} {W i : Nat} {σ : tq_S} (hK : sK lk nu W σ) (hi : i < 5) (hne : ∃ a, Mdl lk nu (W * 64) (lv σ) a) :
    ∃ b σ', tq_fI st_Th_leaveFirst (0, [nI i], [], σ) = some (iB b, σ') ∧ fr [15] [5, 6] [] σ σ' ∧ (∀ j, j < 80 → ¬ (i * 16 ≤ j ∧ j < i * 16 + 16) → σ'.2.1 5 j = σ.2.1 5 j) ∧ ∃ m, m < W * 64 ∧ lft σ 0 i m = true ∧ (∀ τ, τ < W * 64 → lft σ 0 i τ = true → m ≤ τ) ∧
      (b = true → (∃ a, Mdl lk nu (W * 64) (lv σ') a) ∧ ∀ τ, τ < W * 64 → (lft σ' 0 i τ = true ↔ τ = m)) ∧
      (b = false → (¬ ∃ a, Mdl lk nu (W * 64) (lv σ) a ∧ a i = m) ∧ ∀ τ, τ < W * 64 → (lft σ' 0 i τ = true ↔ lft σ 0 i τ = true ∧ τ ≠ m)) := by
  obtain ⟨h9, hW, hlk, hnu, hin⟩ := id hK
  obtain ⟨a0, ha0⟩ := hne
  obtain ⟨m, hm⟩ : ∃ m, m = ff (lft σ 0 i) (W * 64) := ⟨_, rfl⟩
  obtain ⟨m1, m2, -⟩ := ff_lt (p := lft σ 0 i) (ha0.1 i hi).1 (ha0.1 i hi).2
  have m3 : ∀ τ, τ < W * 64 → lft σ 0 i τ = true → m ≤ τ := fun τ h1 h2 => by rw [hm]; exact (ff_lt h1 h2).2.2
  have fl := sp_firstLeft h9 hW hi ⟨_, (ha0.1 i hi).1, (ha0.1 i hi).2⟩
  rw [← hm] at m1 m2 fl
  obtain ⟨σ1, k1, k2, k3⟩ := sp_keepSpare (i := i) (σ := σ) hi
  obtain ⟨r, σ', g1, b, rfl, g2, g3, g4, g5⟩ := tq_fI_of (st := st_Th_leaveFirst) (c := (0, [nI i], [], σ)) (P := fun r σ' => ∃ b, r = iB b ∧ fr [15] [5, 6] [] σ σ' ∧ (∀ j, j < 80 → ¬ (i * 16 ≤ j ∧ j < i * 16 + 16) → σ'.2.1 5 j = σ.2.1 5 j) ∧
      (b = true → (∃ a, Mdl lk nu (W * 64) (lv σ') a) ∧ ∀ τ, τ < W * 64 → (lft σ' 0 i τ = true ↔ τ = m)) ∧
      (b = false → (¬ ∃ a, Mdl lk nu (W * 64) (lv σ) a ∧ a i = m) ∧ ∀ τ, τ < W * 64 → (lft σ' 0 i τ = true ↔ lft σ 0 i τ = true ∧ τ ≠ m))) (by
    refine tq_wpQ (fun Q hQ => tq_at (by decide) ?_)
    show tq_wo (bk_Th_leaveFirst_0 [nI i] [] σ) _
    rw [bk_Th_leaveFirst_0]
    refine wi_o fl (wi_o k1 (wi_s ?_))
    refine tq_ind 13 (fun p : Nat × tq_S => ([nI i, nI m, nI p.1], [], p.2)) (fun p => p.1 ≤ W ∧ fr [] [5] [] σ1 p.2 ∧ (∀ j, ¬ (i * 16 ≤ j ∧ j < i * 16 + p.1) → p.2.2.1 5 j = σ1.2.1 5 j) ∧ ∀ w, w < p.1 → p.2.2.1 5 (i * 16 + w) = 0) (fun p => W - p.1) ?_ (0, σ1) ⟨Nat.zero_le _, fr.rf _ _ _ _, fun _ _ => rfl, fun w h => absurd h (Nat.not_lt_zero _)⟩
    rintro ⟨w, σ2⟩ ⟨hw, f2, o2, z2⟩ ih
    dsimp only at hw f2 o2 z2 ih ⊢
    refine tq_at (by decide) ?_
    show tq_wo (bk_Th_leaveFirst_13 [nI i, nI m, nI w] [] σ2) _
    rw [bk_Th_leaveFirst_13, f2.2.2 9 (by decide), k2.2.2 9 (by decide), h9]
    refine wi_c (fun q => ?_) (fun q => ?_)
    · have hwW : w = W := by
        have := (tq_le (a := W) (b := w) (by omega) (by omega)).mp q
        omega
      subst hwW
      clear ih
      rw [tq_m16, tq_d64 (by omega), nI_add, tq_r64 (by omega)]
      refine wi_l (wi_l ?_)
      rw [tq_nc (by omega)]
      have vi : vp_in (nI (i * 16 + m / 64)) 400 := tq_vin (by omega) (by omega)
      refine wi_g vi (wi_l ?_)
      obtain ⟨σ3, e3⟩ : ∃ σ3, σ3 = lput σ2 5 (i * 16 + m / 64) (jlshl 1 (nI (m % 64))) := ⟨_, rfl⟩
      rw [← e3]
      have f3 : fr [15] [5, 6] [] σ σ3 := by
        rw [e3]
        exact ((k2.wk (by decide) (by decide) (by decide)).tr (f2.wk (by decide) (by decide) (by decide))).tr (fr.l (by decide))
      have o3 : ∀ j, ¬ (i * 16 ≤ j ∧ j < i * 16 + 16) → σ3.2.1 5 j = σ.2.1 5 j := fun j hj => by
        rw [e3, lput_s, if_neg (by omega), o2 j (by omega), k2.2.1 5 (by decide)]
      have s3 : σ3.2.1 6 = σ1.2.1 6 := by rw [e3, lput_n _ _ _ (by decide)]; exact f2.2.1 6 (by decide)
      have l3 : ∀ τ, τ < w * 64 → (lft σ3 0 i τ = true ↔ τ = m) := fun τ hτ => by
        rw [lf_0, e3, lput_s]
        by_cases e : τ / 64 = m / 64
        · rw [if_pos (by omega), tq_1sh (by omega) (by omega), decide_eq_true_iff]
          omega
        · rw [if_neg (by omega), z2 _ (by omega), bL_0]
          exact ⟨fun z => (by cases z), fun z => absurd (by rw [z]) e⟩
      have o3' : ∀ j τ, j < 5 → j ≠ i → τ < w * 64 → lft σ3 0 j τ = lft σ 0 j τ := fun j τ hj hne hτ => by
        rw [lf_0, lf_0, o3 _ (by omega)]
      have hK3 : sK lk nu w σ3 := sK_fr hK (f3.1 14 (by decide)) (f3.1 4 (by decide)) (f3.2.1 1 (by decide)) (f3.2.2 9 (by decide))
      obtain ⟨σ4, c1, c2, c3⟩ := sp_ext0 hK3
      have f4 : fr [15] [5, 6] [] σ σ4 := f3.tr (c2.wk (by decide) (by decide) (by decide))
      have lf4 : ∀ j τ, j < 5 → τ < w * 64 → lft σ4 0 j τ = lft σ3 0 j τ := fun j τ hj hτ => lf_80 c3 hj (by omega)
      refine wi_o c1 ?_
      cases hc : cD (∃ a, Mdl lk nu (w * 64) (lv σ3) a) with
      | true =>
        refine wi_f (by decide) (wi_s (tq_wp_rt (hQ _ ⟨_, _, rfl, true, rfl, f4, fun j hj hj2 => by rw [c3 j hj, o3 j hj2], fun _ => ⟨?_, fun τ hτ => by rw [lf4 i τ hi hτ]; exact l3 τ hτ⟩, fun z => (by cases z)⟩)))
        obtain ⟨a, ha⟩ := cD_t.mp hc
        exact ⟨a, Mdl_c ha (fun j hj hu h => by show lft σ4 0 j (a j) = true; rw [lf4 j _ hj hu]; exact h)⟩
      | false =>
        obtain ⟨σ5, s51, s52, s53, s54⟩ := sp_takeSpare (i := i) (σ := σ4) hi
        refine wi_t rfl (wi_o s51 (wi_g vi (wi_g vi (wi_l (wi_s (tq_wp_rt (hQ _ ⟨_, _, rfl, false, rfl, ?_, fun j hj hj2 => ?_, fun z => (by cases z), fun _ => ⟨?_, fun τ hτ => ?_⟩⟩)))))))
        · exact (f4.tr (s52.wk (by decide) (by decide) (by decide))).tr (fr.l (by decide))
        · rw [lput_s, if_neg (by omega), s54 j hj2, c3 j hj, o3 j hj2]
        · rintro ⟨a, ha, hae⟩
          refine cD_f.mp hc ⟨a, Mdl_c ha (fun j hj hu h => ?_)⟩
          show lft σ3 0 j (a j) = true
          by_cases e : j = i
          · subst e; exact (l3 _ hu).mpr hae
          · rw [o3' j _ hj e hu]; exact h
        · have sp6 : ∀ v, v < 16 → σ5.2.1 5 (i * 16 + v) = σ.2.1 5 (i * 16 + v) := fun v hv => by
            rw [s53 v hv, c2.2.1 6 (by decide), s3, k3 v hv]
          simp only [la]
          rw [tq_nc (by omega), lf_0, lf_0, lput_s]
          by_cases e : τ / 64 = m / 64
          · rw [if_pos (by omega), bL_and, bL_not _ (by omega), tq_1sh (by omega) (by omega), sp6 _ (by omega), Bool.and_eq_true_iff, e]
            constructor
            · rintro ⟨q1, q2⟩
              refine ⟨q1, fun z => ?_⟩
              rw [decide_eq_true (by omega)] at q2; cases q2
            · rintro ⟨q1, q2⟩
              refine ⟨q1, ?_⟩
              rw [decide_eq_false (by omega)]; rfl
          · rw [if_neg (by omega), sp6 _ (by omega)]
            exact ⟨fun z => ⟨z, fun q => e (by rw [q])⟩, fun z => z.1⟩
    · have hlt : w < W := tq_nle (b := w) (a := W) (by omega) (by omega) q
      rw [tq_m16, nI_add, tq_nc (by omega)]
      refine wi_g (tq_vin (by omega) (by omega)) (wi_l (wi_l (wi_s ?_)))
      rw [tq_inc]
      refine ih (w + 1, lput σ2 5 (i * 16 + w) 0) ⟨by dsimp only; omega, f2.tr (fr.l (by decide)), fun j hj => ?_, fun v hv => ?_⟩ (by dsimp only; omega)
      · dsimp only at hj ⊢
        rw [lput_s, if_neg (by omega)]
        exact o2 j (by omega)
      · dsimp only at hv ⊢
        rw [lput_s]
        by_cases e : v = w
        · rw [if_pos (by omega)]
        · rw [if_neg (by omega)]; exact z2 v (by omega))
  exact ⟨b, σ', g1, g2, g3, m, m1, m2, m3, g4, g5⟩
theorem cnt_all {p q : Nat → Bool} {n : Nat} (h : ∀ i, i < n → q i = true → p i = true) (e : cnt q n = cnt p n) {i : Nat} (hi : i < n) (hp : p i = true) : q i = true := by
  cases hq : q i with
  | true => rfl
  | false =>
    have := cnt_str (p := p) (q := q) h hi hp hq
    omega
/-- two numbers alike above bit k -/
def alk (k τ u : Nat) : Prop := ∀ j, k ≤ j → τ.testBit j = u.testBit j
theorem alk_lt {k τ u : Nat} (h : alk (k + 1) τ u) (ht : τ.testBit k = false) (hu : u.testBit k = true) : τ < u := by
  have e : τ / 2 ^ (k + 1) = u / 2 ^ (k + 1) := by
    apply Nat.eq_of_testBit_eq
    intro i
    rw [Nat.testBit_div_two_pow, Nat.testBit_div_two_pow]
    exact h _ (by omega)
  have t1 := Nat.div_add_mod τ (2 ^ (k + 1))
  have u1 := Nat.div_add_mod u (2 ^ (k + 1))
  have t2 : τ % 2 ^ (k + 1) < 2 ^ k := by
    apply Nat.lt_pow_two_of_testBit
    intro i hi
    rw [Nat.testBit_mod_two_pow]
    by_cases hk : i < k + 1
    · have : i = k := by omega
      rw [this, ht]; simp
    · simp [hk]
  have u2 : 2 ^ k ≤ u % 2 ^ (k + 1) := by
    apply Nat.ge_two_pow_of_testBit
    rw [Nat.testBit_mod_two_pow, hu]; simp
  rw [e] at t1
  omega
/-- Things.leaveLeast -/
theorem sp_leaveLeast {lk : Nat → Nat → Nat → Bool} {nu : Nat → Nat → Bool} {W i n : Nat} {σ : tq_S} (hK : sK lk nu W σ) (hi : i < 5) (hn : n ≤ 10) (h1 : σ.2.2 1 = nI n) (hlo : ∀ τ, τ < W * 64 → lft σ 0 i τ = true → τ < 2 ^ n) (hne : ∃ a, Mdl lk nu (W * 64) (lv σ) a) :
    ∃ σ', tq_fV st_Th_leaveLeast (0, [nI i], [], σ) = some ((), σ') ∧ fr [15] [5, 6] [] σ σ' ∧ (∀ j, j < 80 → ¬ (i * 16 ≤ j ∧ j < i * 16 + 16) → σ'.2.1 5 j = σ.2.1 5 j) ∧ (∃ a, Mdl lk nu (W * 64) (lv σ') a) ∧
      ∃ m, m < W * 64 ∧ lft σ 0 i m = true ∧ (∀ τ, τ < W * 64 → (lft σ' 0 i τ = true ↔ τ = m)) ∧ ∀ a, Mdl lk nu (W * 64) (lv σ) a → m ≤ a i := by
  obtain ⟨h9, hW, hlk, hnu, hin⟩ := id hK
  refine tq_fV_of (tq_wpQ (fun Q hQ => tq_at (by decide) ?_))
  show tq_wo (bk_Th_leaveLeast_0 [nI i] [] σ) _
  rw [bk_Th_leaveLeast_0]
  refine wi_o (sp_atomCt σ) (wi_l (wi_s ?_))
  rw [h1]
  refine tq_ind 10 (fun p : Nat × tq_S => ([nI i, nI p.1 - 1], [], p.2)) (fun p => p.1 ≤ n ∧ fr [15] [5, 6] [] σ p.2 ∧ (∀ j, j < 80 → ¬ (i * 16 ≤ j ∧ j < i * 16 + 16) → p.2.2.1 5 j = σ.2.1 5 j) ∧ (∃ a, Mdl lk nu (W * 64) (lv p.2) a) ∧ (∀ τ, τ < W * 64 → lft p.2 0 i τ = true → lft σ 0 i τ = true) ∧ (∀ τ u, τ < W * 64 → u < W * 64 → lft p.2 0 i τ = true → lft p.2 0 i u = true → alk p.1 τ u) ∧ (∀ a, Mdl lk nu (W * 64) (lv σ) a → lft p.2 0 i (a i) = true ∨ ∀ τ, τ < W * 64 → lft p.2 0 i τ = true → τ < a i)) (fun p => p.1) ?_ (n, σ) ⟨Nat.le_refl _, fr.rf _ _ _ _, fun _ _ _ => rfl, hne, fun _ _ h => h, fun τ u hτ hu h1 h2 j hj => ?_, fun a ha => Or.inl (ha.1 i hi).2⟩
  · rintro ⟨k, σ1⟩ ⟨hk, f1, o1, e1, s1, a1, l1⟩ ih
    dsimp only at hk f1 o1 e1 s1 a1 l1 ih ⊢
    have hK1 : sK lk nu W σ1 := sK_fr hK (f1.1 14 (by decide)) (f1.1 4 (by decide)) (f1.2.1 1 (by decide)) (f1.2.2 9 (by decide))
    have h91 : σ1.2.2 9 = nI W := hK1.1
    have o1' : ∀ j τ, j < 5 → j ≠ i → τ < W * 64 → lft σ1 0 j τ = lft σ 0 j τ := fun j τ hj hne hτ => by
      rw [lf_0, lf_0, o1 _ (by omega) (by omega)]
    refine tq_at (by decide) ?_
    show tq_wo (bk_Th_leaveLeast_10 [nI i, nI k - 1] [] σ1) _
    rw [bk_Th_leaveLeast_10]
    cases k with
    | zero =>
      refine wi_t (by decide) (wi_s (tq_wp_rt (hQ _ ⟨_, rfl, f1, o1, e1, ?_⟩)))
      obtain ⟨a, ha⟩ := e1
      have hai := ha.1 i hi
      have uq : ∀ τ, τ < W * 64 → lft σ1 0 i τ = true → τ = a i := fun τ hτ h => Nat.eq_of_testBit_eq (fun j => a1 τ (a i) hτ hai.1 h hai.2 j (Nat.zero_le _))
      refine ⟨a i, hai.1, s1 _ hai.1 hai.2, fun τ hτ => ⟨uq τ hτ, fun z => by rw [z]; exact hai.2⟩, fun c hc => ?_⟩
      rcases l1 c hc with z | z
      · rw [uq _ (hc.1 i hi).1 z]; exact Nat.le_refl _
      · exact Nat.le_of_lt (z _ hai.1 hai.2)
    | succ k =>
      have ek : nI (k + 1) - 1 = nI k := pk_sub (a := k + 1) (b := 1) (by omega)
      rw [ek]
      obtain ⟨σ2, k1, k2, k3⟩ := sp_keepSpare (i := i) (σ := σ1) hi
      have h92 : σ2.2.2 9 = nI W := by rw [k2.2.2 9 (by decide)]; exact h91
      have l2 : ∀ j τ, lft σ2 0 j τ = lft σ1 0 j τ := fun j τ => by unfold lft; rw [k2.2.1 5 (by decide)]
      obtain ⟨σ3, b1, b2, b3, b4⟩ := sp_leaveHalf (k := k) h92 hW hi (by omega) false
      have h93 : σ3.2.2 9 = nI W := by rw [b2.2.2 9 (by decide)]; exact h92
      have f3 : fr [15] [5, 6] [] σ σ3 := (f1.tr (k2.wk (by decide) (by decide) (by decide))).tr (b2.wk (by decide) (by decide) (by decide))
      have o3 : ∀ j, j < 80 → ¬ (i * 16 ≤ j ∧ j < i * 16 + 16) → σ3.2.1 5 j = σ.2.1 5 j := fun j hj hj2 => by rw [b3 j hj2, k2.2.1 5 (by decide), o1 j hj hj2]
      have o3' : ∀ j τ, j < 5 → j ≠ i → τ < W * 64 → lft σ3 0 j τ = lft σ 0 j τ := fun j τ hj hne hτ => by
        rw [lf_0, lf_0, o3 _ (by omega) (by omega)]
      have l3 : ∀ τ, τ < W * 64 → (lft σ3 0 i τ = true ↔ lft σ1 0 i τ = true ∧ τ.testBit k = false) := fun τ hτ => by rw [b4 τ hτ, l2]
      have hc1 := cnt_le (lft σ1 0 i) (W * 64)
      have hc3 := cnt_le (lft σ3 0 i) (W * 64)
      refine wi_f (tq_n0 (by omega)) (wi_o (sp_countLeft (L := 0) h91 hW (by decide) hi) (wi_o k1 (wi_o b1 (wi_o (sp_countLeft (L := 0) h93 hW (by decide) hi) ?_))))
      have back : ∀ σ4, fr [15] [5, 6] [] σ σ4 → (∀ j, j < 80 → ¬ (i * 16 ≤ j ∧ j < i * 16 + 16) → σ4.2.1 5 j = σ.2.1 5 j) → (∃ a, Mdl lk nu (W * 64) (lv σ4) a) → (∀ τ, τ < W * 64 → lft σ4 0 i τ = true → lft σ1 0 i τ = true) → (∀ τ u, τ < W * 64 → u < W * 64 → lft σ4 0 i τ = true → lft σ4 0 i u = true → τ.testBit k = u.testBit k) → (∀ a, Mdl lk nu (W * 64) (lv σ) a → lft σ1 0 i (a i) = true → lft σ4 0 i (a i) = true ∨ ∀ τ, τ < W * 64 → lft σ4 0 i τ = true → τ < a i) → tq_wp st_Th_leaveLeast Q (10, [nI i, nI k + (-1)], [], σ4) := by
        intro σ4 f4 o4 e4 s4 a4 l4
        rw [show nI k + (-1) = nI k - 1 from (Int32.sub_eq_add_neg _ _).symm]
        refine ih (k, σ4) ⟨by dsimp only; omega, f4, o4, e4, fun τ hτ h => s1 τ hτ (s4 τ hτ h), fun τ u hτ hu h1 h2 j hj => ?_, fun a ha => ?_⟩ (by dsimp only; omega)
        · by_cases e : j = k
          · rw [e]; exact a4 τ u hτ hu h1 h2
          · exact a1 τ u hτ hu (s4 τ hτ h1) (s4 u hu h2) j (by dsimp only at hj; omega)
        · rcases l1 a ha with z | z
          · exact l4 a ha z
          · exact Or.inr (fun τ hτ h => z τ hτ (s4 τ hτ h))
      refine wi_c (fun q => wi_l (wi_s (back σ3 f3 o3 ?_ (fun τ hτ h => ((l3 τ hτ).mp h).1) (fun τ u hτ hu h1 h2 => by rw [((l3 τ hτ).mp h1).2, ((l3 u hu).mp h2).2]) (fun a ha h => Or.inl ?_)))) (fun q => ?_)
      · -- nothing went
        have q := (tq_eq (by omega) (by omega)).mp q
        have all := fun τ (hτ : τ < W * 64) (h : lft σ1 0 i τ = true) => cnt_all (p := lft σ1 0 i) (q := lft σ3 0 i) (fun j hj z => ((l3 j hj).mp z).1) q hτ h
        obtain ⟨a, ha⟩ := e1
        refine ⟨a, Mdl_c ha (fun j hj hu h => ?_)⟩
        show lft σ3 0 j (a j) = true
        by_cases e : j = i
        · subst e; exact all _ hu h
        · rw [o3' j _ hj e hu, ← o1' j _ hj e hu]; exact h
      · have q := (tq_eq (by omega) (by omega)).mp q
        exact cnt_all (p := lft σ1 0 i) (q := lft σ3 0 i) (fun j hj z => ((l3 j hj).mp z).1) q (ha.1 i hi).1 h
      · have hK3 : sK lk nu W σ3 := sK_fr hK (f3.1 14 (by decide)) (f3.1 4 (by decide)) (f3.2.1 1 (by decide)) (f3.2.2 9 (by decide))
        obtain ⟨σ4, c1, c2, c3⟩ := sp_ext0 hK3
        have f4 : fr [15] [5, 6] [] σ σ4 := f3.tr (c2.wk (by decide) (by decide) (by decide))
        have o4 : ∀ j, j < 80 → ¬ (i * 16 ≤ j ∧ j < i * 16 + 16) → σ4.2.1 5 j = σ.2.1 5 j := fun j hj hj2 => by rw [c3 j hj, o3 j hj hj2]
        have lf4 : ∀ j τ, j < 5 → τ < W * 64 → lft σ4 0 j τ = lft σ3 0 j τ := fun j τ hj hτ => lf_80 c3 hj (by omega)
        refine wi_o c1 ?_
        cases hc : cD (∃ a, Mdl lk nu (W * 64) (lv σ3) a) with
        | true =>
          refine wi_t (by decide) (wi_l (wi_s (back σ4 f4 o4 ?_ (fun τ hτ h => ((l3 τ hτ).mp (by rw [← lf4 i τ hi hτ]; exact h)).1) (fun τ u hτ hu h1 h2 => by rw [((l3 τ hτ).mp (by rw [← lf4 i τ hi hτ]; exact h1)).2, ((l3 u hu).mp (by rw [← lf4 i u hi hu]; exact h2)).2]) (fun a ha h => ?_))))
          · obtain ⟨a, ha⟩ := cD_t.mp hc
            exact ⟨a, Mdl_c ha (fun j hj hu h => by show lft σ4 0 j (a j) = true; rw [lf4 j _ hj hu]; exact h)⟩
          · have hai := ha.1 i hi
            cases hb : (a i).testBit k with
            | false => exact Or.inl (by rw [lf4 i _ hi hai.1]; exact (l3 _ hai.1).mpr ⟨h, hb⟩)
            | true =>
              refine Or.inr (fun τ hτ hl => ?_)
              rw [lf4 i τ hi hτ] at hl
              have hl := (l3 τ hτ).mp hl
              exact alk_lt (a1 τ (a i) hτ hai.1 hl.1 h) hl.2 hb
        | false =>
          obtain ⟨σ5, s51, s52, s53, s54⟩ := sp_takeSpare (i := i) (σ := σ4) hi
          have h95 : σ5.2.2 9 = nI W := by rw [s52.2.2 9 (by decide), f4.2.2 9 (by decide)]; exact h9
          obtain ⟨σ6, d1, d2, d3, d4⟩ := sp_leaveHalf (k := k) h95 hW hi (by omega) true
          have sp6 : ∀ v, v < 16 → σ5.2.1 5 (i * 16 + v) = σ1.2.1 5 (i * 16 + v) := fun v hv => by
            rw [s53 v hv, c2.2.1 6 (by decide), b2.2.1 6 (by decide), k3 v hv]
          have l5 : ∀ τ, τ < W * 64 → lft σ5 0 i τ = lft σ1 0 i τ := fun τ hτ => by rw [lf_0, lf_0, sp6 _ (by omega)]
          have l6 : ∀ τ, τ < W * 64 → (lft σ6 0 i τ = true ↔ lft σ1 0 i τ = true ∧ τ.testBit k = true) := fun τ hτ => by rw [d4 τ hτ, l5 τ hτ]
          have f6 : fr [15] [5, 6] [] σ σ6 := (f4.tr (s52.wk (by decide) (by decide) (by decide))).tr (d2.wk (by decide) (by decide) (by decide))
          have o6 : ∀ j, j < 80 → ¬ (i * 16 ≤ j ∧ j < i * 16 + 16) → σ6.2.1 5 j = σ.2.1 5 j := fun j hj hj2 => by rw [d3 j hj2, s54 j hj2, o4 j hj hj2]
          have o6' : ∀ j τ, j < 5 → j ≠ i → τ < W * 64 → lft σ6 0 j τ = lft σ 0 j τ := fun j τ hj hne hτ => by
            rw [lf_0, lf_0, o6 _ (by omega) (by omega)]
          -- a model of what was left has bit k
          have key : ∀ a, Mdl lk nu (W * 64) (lv σ1) a → (a i).testBit k = true := fun a ha => by
            cases hb : (a i).testBit k with
            | true => rfl
            | false =>
              exfalso
              refine cD_f.mp hc ⟨a, Mdl_c ha (fun j hj hu h => ?_)⟩
              show lft σ3 0 j (a j) = true
              by_cases e : j = i
              · subst e; exact (l3 _ hu).mpr ⟨h, hb⟩
              · rw [o3' j _ hj e hu, ← o1' j _ hj e hu]; exact h
          refine wi_f (fun z => z rfl) (wi_o s51 (wi_o d1 (wi_l (wi_s (back σ6 f6 o6 ?_ (fun τ hτ h => ((l6 τ hτ).mp h).1) (fun τ u hτ hu h1 h2 => by rw [((l6 τ hτ).mp h1).2, ((l6 u hu).mp h2).2]) (fun a ha h => Or.inl ?_))))))
          · obtain ⟨a, ha⟩ := e1
            refine ⟨a, Mdl_c ha (fun j hj hu h => ?_)⟩
            show lft σ6 0 j (a j) = true
            by_cases e : j = i
            · subst e; exact (l6 _ hu).mpr ⟨h, key a ha⟩
            · rw [o6' j _ hj e hu, ← o1' j _ hj e hu]; exact h
          · have hai := ha.1 i hi
            refine (l6 _ hai.1).mpr ⟨h, key a (Mdl_c ha (fun j hj hu h' => ?_))⟩
            show lft σ1 0 j (a j) = true
            by_cases e : j = i
            · subst e; exact h
            · rw [o1' j _ hj e hu]; exact h'
  · have b : ∀ x, x < 2 ^ n → x.testBit j = false := fun x hx => Nat.testBit_lt_two_pow (Nat.lt_of_lt_of_le hx (Nat.pow_le_pow_right (by decide) hj))
    rw [b τ (hlo τ hτ h1), b u (hlo u hu h2)]
