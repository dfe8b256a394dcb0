/-! makeAll; the reference's find, make -/
noncomputable def mkA (T : ab_T) (r b : Nat) : Option Nat × ab_T := match mk T 3 b 0 with
  | (none, T1) => (none, T1)
  | (some x, T1) => match mk T1 6 r x with
    | (none, T2) => (none, T2)
    | (some _, T2) => mk T2 7 r b
theorem fd_mt {T : ab_T} {k a b : Nat} (h : fdT T k a b < T.1) : T.2.1 (fdT T k a b) = k ∧ T.2.2.1 (fdT T k a b) = a ∧ T.2.2.2 (fdT T k a b) = b := by
  have := ff_yes (p := mt T.2.1 T.2.2.1 T.2.2.2 k a b) h
  unfold mt at this
  simp only [Bool.and_eq_true, beq_iff_eq] at this
  exact this
theorem mkA_old {T : ab_T} (hw : wfT T) {r b : Nat} (h : fdT T 7 r b < T.1) : mkA T r b = (some (fdT T 7 r b), T) := by
  obtain ⟨m1, m2, m3⟩ := fd_mt h
  obtain ⟨h1, h2, h3, h4, h5, h6⟩ := hw
  have hc : 2 ≤ fdT T 7 r b := by
    rcases (show fdT T 7 r b = 0 ∨ fdT T 7 r b = 1 ∨ 2 ≤ fdT T 7 r b by omega) with q | q | q
    · rw [q] at m1; omega
    · rw [q] at m1; omega
    · exact q
  rcases h6 _ hc h with g | g | g | g | g | g
  · omega
  · omega
  · omega
  · omega
  · omega
  · obtain ⟨-, g2, g3, g4, g5⟩ := g
    rw [m3] at g4
    rw [m2, m3] at g5
    have e3 : fdT T 3 b 0 = fd T.2.1 T.2.2.1 T.2.2.2 3 b 0 (fdT T 7 r b) := ff_stable g4 (by omega)
    have e6 : fdT T 6 r (fdT T 3 b 0) = fd T.2.1 T.2.2.1 T.2.2.2 6 r (fdT T 3 b 0) (fdT T 7 r b) := ff_stable (by rw [e3]; exact g5) (by omega)
    unfold mkA
    rw [mk_old (show fdT T 3 b 0 < T.1 by omega)]
    dsimp only
    rw [mk_old (show fdT T 6 r (fdT T 3 b 0) < T.1 by rw [e6, e3]; omega)]
    dsimp only
    exact mk_old h
theorem an_3 {c : Nat} (h : c < 2147483648) : ¬ nI c = -3 := fun q => absurd (show nI c < 0 by rw [q]; decide) (tq_n0 h)
theorem an_1 {c : Nat} (h : c < 2147483648) : ¬ nI c = -1 := fun q => absurd (show nI c < 0 by rw [q]; decide) (tq_n0 h)
/-- Concepts.makeAll -/
theorem sp_makeAll {T : ab_T} {σ : tq_S} (hw : wfT T) (hT : cTT T σ) {r b : Nat} (hr : r < 4) (hb : b < T.1) :
    ∃ σ', tq_fI st_Co_makeAll (0, [nI r, nI b], [], σ) = some (an (mkA T r b).1, σ') ∧ cTT (mkA T r b).2 σ' ∧ frC σ σ' ∧ wfT (mkA T r b).2 := by
  have h80 := hw.2.1
  have hf := sp_find (wf_wb hw) hT.1 hT.2.2.1 (k := 7) (a := r) (b := b) (by omega) (by omega) (by omega)
  have run : ∀ x σ', tq_wo (bk_Co_makeAll_0 [nI r, nI b] [] σ) (tq_wp st_Co_makeAll (fun d => d = (tq_rt, [x], [], σ'))) → tq_fI st_Co_makeAll (0, [nI r, nI b], [], σ) = some (x, σ') := fun x σ' h => tq_fI_e (tq_at (by decide) h)
  by_cases h7 : fdT T 7 r b < T.1
  · rw [mkA_old hw h7]
    rw [if_pos h7] at hf
    refine ⟨σ, run _ _ ?_, hT, frC.rf σ, hw⟩
    rw [bk_Co_makeAll_0]
    exact wi_o hf (wi_f (an_1 (show fdT T 7 r b < 2147483648 by omega)) (wi_s (tq_wp_rt rfl)))
  · rw [if_neg h7] at hf
    have ok3 : okN T 3 b 0 := Or.inr (Or.inl ⟨rfl, hb, rfl⟩)
    obtain ⟨σ1, f1, t1, fr1⟩ := sp_make (wf_wb hw) hT (k := 3) (a := b) (b := 0) (by omega) (by omega) (by omega) (fun _ => hb) (fun q => by omega) (fun q => by omega)
    have w1 := wf_mk hw ok3
    have n7 := fd_none (T := T) (k := 3) (a := b) (b := 0) (x := 7) (y := r) (z := b) (by omega) h7
    have s3 := @mk_some T 3 b 0
    have mn := mk_n (T := T) (k := 3) (a := b) (b := 0)
    unfold mkA
    rcases hm : mk T 3 b 0 with ⟨_ | x, T1⟩
    · rw [hm] at f1 t1 w1
      refine ⟨σ1, run _ _ ?_, t1, fr1, w1⟩
      rw [bk_Co_makeAll_0]
      exact wi_o hf (wi_t rfl (wi_o f1 (wi_f (fun q => q rfl) (wi_s (tq_wp_rt rfl)))))
    · rw [hm] at f1 t1 w1 n7 s3 mn
      obtain ⟨q1, q2⟩ := s3 rfl
      dsimp only at q1 q2 f1 t1 w1 n7 mn ⊢
      have w180 := w1.2.1
      have ok6 : okN T1 6 r x := Or.inr (Or.inr (Or.inr (Or.inr (Or.inl ⟨rfl, hr, q1⟩))))
      obtain ⟨σ2, f2, t2, fr2⟩ := sp_make (wf_wb w1) t1 (k := 6) (a := r) (b := x) (by omega) (by omega) (by omega) (fun q => by omega) (fun _ => q1) (fun q => by omega)
      have w2 := wf_mk w1 ok6
      have n7' := fd_none (T := T1) (k := 6) (a := r) (b := x) (x := 7) (y := r) (z := b) (by omega) n7
      have k3 := fd_keep (T := T1) (k := 6) (a := r) (b := x) (x := 3) (y := b) (z := 0) (by rw [q2]; exact q1)
      have s6 := @mk_some T1 6 r x
      have mn2 := mk_n (T := T1) (k := 6) (a := r) (b := x)
      rcases hm2 : mk T1 6 r x with ⟨_ | y, T2⟩
      · rw [hm2] at f2 t2 w2
        refine ⟨σ2, run _ _ ?_, t2, fr1.tr fr2, w2⟩
        rw [bk_Co_makeAll_0]
        exact wi_o hf (wi_t rfl (wi_o f1 (wi_t (an_3 (by omega)) (wi_o f2 (wi_f (fun q => q rfl) (wi_s (tq_wp_rt rfl)))))))
      · rw [hm2] at f2 t2 w2 n7' k3 s6 mn2
        obtain ⟨p1, p2⟩ := s6 rfl
        dsimp only at p1 p2 f2 t2 w2 n7' k3 mn2 ⊢
        rw [q2] at k3
        have w280 := w2.2.1
        have e3 : fdT T2 3 b 0 < T2.1 := by rw [k3]; omega
        have e6 : fdT T2 6 r (fdT T2 3 b 0) < T2.1 := by rw [k3, p2]; exact p1
        have ok7 : okN T2 7 r b := Or.inr (Or.inr (Or.inr (Or.inr (Or.inr ⟨rfl, hr, by omega, e3, e6⟩))))
        obtain ⟨a1, a2⟩ := sp_add (wf_wb w2) t2 (k := 7) (a := r) (b := b) (by omega) (by omega) (by omega) (fun q => by omega) (fun q => by omega) (fun _ => ⟨e3, e6⟩)
        have w3 := wf_mk w2 ok7
        by_cases h2 : fullT T2 7
        · rw [mk_full n7' h2] at w3 ⊢
          refine ⟨σ2, run _ _ ?_, t2, fr1.tr fr2, w3⟩
          rw [bk_Co_makeAll_0]
          exact wi_o hf (wi_t rfl (wi_o f1 (wi_t (an_3 (by omega)) (wi_o f2 (wi_t (an_3 (by omega)) (wi_o (a1 h2) (wi_s (tq_wp_rt rfl))))))))
        · rw [mk_new n7' h2] at w3 ⊢
          obtain ⟨σ3, g1, g2, g3⟩ := a2 h2
          refine ⟨σ3, run _ _ ?_, g2, (fr1.tr fr2).tr g3, w3⟩
          rw [bk_Co_makeAll_0]
          exact wi_o hf (wi_t rfl (wi_o f1 (wi_t (an_3 (by omega)) (wi_o f2 (wi_t (an_3 (by omega)) (wi_o g1 (wi_s (tq_wp_rt rfl))))))))
/-! the reference -/
def mT (K F S : Nat → Nat) (n : Nat) (σ : tq_S) : Prop :=
  σ.2.2 13 = nI n ∧ σ.2.2 14 = nI (ac K n) ∧ (∀ c, c < n → σ.1 17 c = nI (K c) ∧ σ.1 18 c = nI (F c) ∧ σ.1 19 c = nI (S c)) ∧ (∀ c, c < n → isAt (K c) = true → σ.1 20 (ac K c) = nI c)
abbrev mTT (T : ab_T) (σ : tq_S) : Prop := mT T.2.1 T.2.2.1 T.2.2.2 T.1 σ
/-- only the reference's table has changed; if so, nothing is known -/
def frT (σ σ' : tq_S) : Prop := (∀ k, (k < 17 ∨ 21 ≤ k) → σ'.1 k = σ.1 k) ∧ σ'.2.1 = σ.2.1 ∧ (∀ k, k ≠ 13 → k ≠ 14 → k ≠ 18 → σ'.2.2 k = σ.2.2 k) ∧ (σ' = σ ∨ σ'.2.2 18 = 0)
theorem frT.rf (σ : tq_S) : frT σ σ := ⟨fun _ _ => rfl, rfl, fun _ _ _ _ => rfl, Or.inl rfl⟩
theorem frT.tr {a b c : tq_S} (h : frT a b) (h' : frT b c) : frT a c := by
  refine ⟨fun k hk => (h'.1 k hk).trans (h.1 k hk), h'.2.1.trans h.2.1, fun k h1 h2 h3 => (h'.2.2.1 k h1 h2 h3).trans (h.2.2.1 k h1 h2 h3), ?_⟩
  rcases h'.2.2.2 with e | e
  · rw [e]; exact h.2.2.2
  · exact Or.inr e
theorem sp_Mo_find {K F S : Nat → Nat} {n : Nat} {σ : tq_S} (hw : wb K F S n) (hc : σ.2.2 13 = nI n) (ht : ∀ c, c < n → σ.1 17 c = nI (K c) ∧ σ.1 18 c = nI (F c) ∧ σ.1 19 c = nI (S c)) {k a b : Nat} (hk : k < 2147483648) (ha : a < 2147483648) (hb : b < 2147483648) :
    tq_fI st_Mo_find (0, [nI k, nI a, nI b], [], σ) = some (nI (fd K F S k a b n), σ) := by
  have hn := hw.1
  have e : ff (mtc (σ.1 17) (σ.1 18) (σ.1 19) (nI k) (nI a) (nI b)) n = fd K F S k a b n := ff_congr (fun c hc => by
    have := hw.2.2 c hc
    exact mtc_mt (ht c hc) (by omega) (by omega) (by omega) hk ha hb)
  rw [← e]
  obtain ⟨p, hp⟩ : ∃ p, p = mtc (σ.1 17) (σ.1 18) (σ.1 19) (nI k) (nI a) (nI b) := ⟨_, rfl⟩
  rw [← hp]
  refine tq_fI_e (tq_at (by decide) ?_)
  show tq_wo (bk_Mo_find_0 [nI k, nI a, nI b] [] σ) _
  rw [bk_Mo_find_0]
  refine wi_s ?_
  refine tq_ind 3 (fun j : Nat => ([nI k, nI a, nI b, nI j], [], σ)) (fun j => j ≤ n ∧ ∀ i, i < j → p i = false) (fun j => n - j) ?_ 0 ⟨Nat.zero_le _, fun i h => absurd h (Nat.not_lt_zero _)⟩
  rintro j ⟨hj, hno⟩ ih
  refine tq_at (by decide) ?_
  show tq_wo (bk_Mo_find_3 [nI k, nI a, nI b, nI j] [] σ) _
  rw [bk_Mo_find_3, hc]
  simp only [ia]
  have nx : j < n → ¬ (σ.1 17 j = nI k ∧ σ.1 18 j = nI a ∧ σ.1 19 j = nI b) → tq_wp st_Mo_find (fun d => d = (tq_rt, [nI (ff p n)], [], σ)) (3, [nI k, nI a, nI b, nI j + 1], [], σ) := by
    intro h1 h2
    rw [tq_inc]
    refine ih (j + 1) ⟨by omega, fun i hi => ?_⟩ (by omega)
    by_cases e : i = j
    · rw [e, hp]; exact mtc_f h2
    · exact hno i (by omega)
  refine wi_c (fun h => wi_s (tq_wp_rt ?_)) (fun h => ?_)
  · have : j = n := by
      have := (tq_le (a := n) (b := j) (by omega) (by omega)).mp h
      omega
    subst this
    rw [ff_of (Nat.le_refl j) hno (fun q => absurd q (Nat.lt_irrefl _))]
  · have hlt : j < n := tq_nle (by omega) (by omega) h
    simp only [tq_nc (show j < 2147483648 by omega)]
    have vi : vp_in (nI j) 80 := tq_vin (by omega) (by omega)
    refine wi_g vi (wi_c (fun h1 => wi_l (wi_s (nx hlt (fun q => h1 q.1)))) (fun h1 => wi_g vi (wi_c (fun h2 => wi_l (wi_s (nx hlt (fun q => h2 q.2.1)))) (fun h2 => wi_g vi (wi_c (fun h3 => wi_s (tq_wp_rt ?_)) (fun h3 => wi_l (wi_s (nx hlt (fun q => h3 q.2.2)))))))))
    have hy : p j = true := by rw [hp]; exact mtc_iff.mpr ⟨Classical.not_not.mp h1, Classical.not_not.mp h2, h3⟩
    rw [ff_of (by omega) hno (fun _ => hy)]
theorem sp_Mo_make {T : ab_T} {σ : tq_S} (hw : wbT T) (hT : mTT T σ) {k a b : Nat} (hk : k < 8) (ha : a < 100) (hb : b < 100) :
    ∃ σ', tq_fI st_Mo_make (0, [nI k, nI a, nI b], [], σ) = some (an (mk T k a b).1, σ') ∧ mTT (mk T k a b).2 σ' ∧ frT σ σ' := by
  obtain ⟨t0, t1, t2, t3⟩ := id hT
  have hn := hw.1
  have hac := hw.2.1
  have hf := sp_Mo_find hw t0 t2 (k := k) (a := a) (b := b) (by omega) (by omega) (by omega)
  have hle : fdT T k a b ≤ T.1 := ff_le _ _
  have is2 : (nI k = 2 ↔ k = 2) := tq_eq (b := 2) (by omega) (by omega)
  have is6 : (nI k = 6 ↔ k = 6) := tq_eq (b := 6) (by omega) (by omega)
  have c80 : (nI T.1 = 80 ↔ T.1 = 80) := tq_eq (b := 80) (by omega) (by omega)
  have c10 : (nI (ac T.2.1 T.1) = 10 ↔ ac T.2.1 T.1 = 10) := tq_eq (b := 10) (by omega) (by omega)
  have at2 : k = 2 ∨ k = 6 ↔ isAt k = true := by simp [isAt]
  have go : ∀ Q : tq_C → Prop, (fdT T k a b < T.1 → Q (tq_rt, [nI (fdT T k a b)], [], σ)) → (¬ fdT T k a b < T.1 → fullT T k → Q (tq_rt, [-3], [], σ)) → (¬ fdT T k a b < T.1 → ¬ fullT T k → tq_wp st_Mo_make Q (65, [nI k, nI a, nI b, nI T.1, if isAt k then 1 else 0], [], σ)) → tq_wp st_Mo_make Q (0, [nI k, nI a, nI b], [], σ) := by
    intro Q h1 h2 h3
    refine tq_at (by decide) ?_
    show tq_wo (bk_Mo_make_0 [nI k, nI a, nI b] [] σ) _
    rw [bk_Mo_make_0]
    refine wi_o hf ?_
    rw [t0]
    refine wi_c (fun h => ?_) (fun h => wi_s (tq_wp_rt (h1 (tq_nle (by omega) (by omega) h))))
    have e : fdT T k a b = T.1 := by
      have : T.1 ≤ fdT T k a b := (tq_le (by omega) (by omega)).mp h
      omega
    have nf : ¬ fdT T k a b < T.1 := by omega
    rw [show fd T.2.1 T.2.2.1 T.2.2.2 k a b T.1 = T.1 from e]
    have b32 : isAt k = true → tq_wp st_Mo_make Q (32, [nI k, nI a, nI b, nI T.1], [], σ) := by
      intro hat
      refine tq_at (by decide) ?_
      show tq_wo (bk_Mo_make_32 [nI k, nI a, nI b, nI T.1] [] σ) _
      rw [bk_Mo_make_32, t0, t1]
      refine wi_c (fun h => wi_s (tq_wp_rt (h2 nf (Or.inl (by rw [c80.mp h]; exact Nat.le_refl _))))) (fun h => wi_c (fun h' => wi_s ?_) (fun h' => wi_s (tq_wp_rt (h2 nf (Or.inr ⟨hat, by rw [c10.mp (Classical.not_not.mp h')]; exact Nat.le_refl _⟩)))))
      have := h3 nf (fun q => q.elim (fun q => h (c80.mpr (by omega))) (fun q => h' (c10.mpr (by omega))))
      rw [hat] at this
      exact this
    refine wi_c (fun h => wi_s (b32 (at2.mp (Or.inl (is2.mp h))))) (fun h => wi_c (fun h' => wi_c (fun h'' => wi_s (tq_wp_rt (h2 nf (Or.inl (by rw [c80.mp h'']; exact Nat.le_refl _))))) (fun h'' => wi_s ?_)) (fun h' => wi_s (b32 (at2.mp (Or.inr (is6.mp (Classical.not_not.mp h')))))))
    have hat : isAt k = false := by
      cases e : isAt k with
      | false => rfl
      | true => exact absurd (at2.mpr e) (fun q => q.elim (fun q => h (is2.mpr q)) (fun q => h' (is6.mpr q)))
    have := h3 nf (fun q => q.elim (fun q => h'' (c80.mpr (by omega))) (fun q => by rw [hat] at q; cases q.1))
    rw [hat] at this
    exact this
  by_cases h1 : fdT T k a b < T.1
  · rw [mk_old h1]
    exact ⟨σ, tq_fI_e (go _ (fun _ => rfl) (fun h => absurd h1 h) (fun h => absurd h1 h)), hT, frT.rf σ⟩
  · by_cases h2 : fullT T k
    · rw [mk_full h1 h2]
      exact ⟨σ, tq_fI_e (go _ (fun h => absurd h h1) (fun _ _ => rfl) (fun _ h => absurd h2 h)), hT, frT.rf σ⟩
    · rw [mk_new h1 h2]
      have hlt : T.1 < 80 := by
        rcases Nat.lt_or_ge T.1 80 with q | q
        · exact q
        · exact absurd (Or.inl q) h2
      obtain ⟨σ3, h3⟩ : ∃ σ3, σ3 = iput (iput (iput σ 17 T.1 (nI k)) 18 T.1 (nI a)) 19 T.1 (nI b) := ⟨_, rfl⟩
      obtain ⟨σ4, h4⟩ : ∃ σ4, σ4 = (if isAt k then fput (iput σ3 20 (ac T.2.1 T.1) (nI T.1)) 14 (nI (ac T.2.1 T.1 + 1)) else σ3) := ⟨_, rfl⟩
      obtain ⟨σ5, h5⟩ : ∃ σ5, σ5 = fput (fput σ4 13 (nI (T.1 + 1))) 18 0 := ⟨_, rfl⟩
      have vi : vp_in (nI T.1) 80 := tq_vin hlt (by omega)
      have f413 : σ4.2.2 13 = nI T.1 := by
        rw [h4]
        cases isAt k with
        | false => rw [h3]; exact t0
        | true => rw [h3]; exact t0
      refine ⟨σ5, tq_fI_e (go _ (fun h => absurd h h1) (fun _ h => absurd h h2) (fun _ _ => ?_)), ?_, ?_⟩
      · have end5 : tq_wp st_Mo_make (fun d => d = (tq_rt, [an (some T.1)], [], σ5)) (115, [nI T.1], [], σ4) := by
          refine tq_at (by decide) ?_
          show tq_wo (bk_Mo_make_115 [nI T.1] [] σ4) _
          rw [bk_Mo_make_115]
          refine wi_l (wi_l (wi_s (tq_wp_rt ?_)))
          rw [f413, tq_inc, h5]
          rfl
        refine tq_at (by decide) ?_
        show tq_wo (bk_Mo_make_65 [nI k, nI a, nI b, nI T.1, if isAt k then 1 else 0] [] σ) _
        rw [bk_Mo_make_65, tq_nc (by omega)]
        refine wi_g vi (wi_l (wi_g vi (wi_l (wi_g vi (wi_l ?_)))))
        rw [← h3]
        have f314 : σ3.2.2 14 = nI (ac T.2.1 T.1) := by rw [h3]; exact t1
        cases hat : isAt k with
        | false =>
          refine wi_t rfl (wi_s ?_)
          rw [hat] at h4
          rw [show σ3 = σ4 from h4.symm]
          exact end5
        | true =>
          have hm10 : ac T.2.1 T.1 < 10 := by
            rcases Nat.lt_or_ge (ac T.2.1 T.1) 10 with z | z
            · exact z
            · exact absurd (Or.inr ⟨hat, z⟩) h2
          refine wi_f (by decide) ?_
          rw [f314, tq_nc (by omega)]
          refine wi_g (tq_vin hm10 (by omega)) (wi_l (wi_l (wi_s ?_)))
          rw [hat] at h4
          have : fput (iput σ3 20 (ac T.2.1 T.1) (nI T.1)) 14 ((iput σ3 20 (ac T.2.1 T.1) (nI T.1)).2.2 14 + 1) = σ4 := by
            rw [h4]
            show fput _ 14 (σ3.2.2 14 + 1) = fput _ 14 _
            rw [f314, tq_inc]
          rw [this]
          exact end5
      · have l3 : ∀ c, σ3.1 17 c = (if c = T.1 then nI k else σ.1 17 c) ∧ σ3.1 18 c = (if c = T.1 then nI a else σ.1 18 c) ∧ σ3.1 19 c = (if c = T.1 then nI b else σ.1 19 c) := fun c => by rw [h3]; exact ⟨rfl, rfl, rfl⟩
        have l4 : ∀ x, x ≠ 20 → σ4.1 x = σ3.1 x := fun x hx => by
          rw [h4]
          cases isAt k with
          | false => rfl
          | true =>
            show (if x = 20 then _ else σ3.1 x) = _
            rw [if_neg hx]
        have l5 : σ5.1 = σ4.1 := by rw [h5]; rfl
        refine ⟨by rw [h5]; rfl, ?_, fun c hc => ?_, fun c hc hat2 => ?_⟩
        · rw [ac_up, h5]
          show σ4.2.2 14 = _
          rw [h4]
          cases isAt k with
          | false => show σ3.2.2 14 = _; rw [h3]; exact t1
          | true => rfl
        · rw [l5, l4 17 (by decide), l4 18 (by decide), l4 19 (by decide), (l3 c).1, (l3 c).2.1, (l3 c).2.2]
          by_cases e : c = T.1
          · rw [if_pos e, if_pos e, if_pos e, e]
            show nI k = nI (va_up _ _ _ _) ∧ nI a = nI (va_up _ _ _ _) ∧ nI b = nI (va_up _ _ _ _)
            rw [va_up_self, va_up_self, va_up_self]
            exact ⟨rfl, rfl, rfl⟩
          · have hc : c < T.1 + 1 := hc
            rw [if_neg e, if_neg e, if_neg e]
            show _ = nI (va_up _ _ _ _) ∧ _ = nI (va_up _ _ _ _) ∧ _ = nI (va_up _ _ _ _)
            rw [va_up_ne _ _ e, va_up_ne _ _ e, va_up_ne _ _ e]
            exact t2 c (by omega)
        · have hc : c < T.1 + 1 := hc
          have hat2 : isAt (va_up T.2.1 T.1 k c) = true := hat2
          show σ5.1 20 (ac (va_up T.2.1 T.1 k) c) = _
          rw [ac_congr (fun i hi => va_lt (by omega)), l5, h4]
          by_cases e : c = T.1
          · rw [e, va_up_self] at hat2
            rw [hat2, e]
            show upd _ (ac T.2.1 T.1) _ (ac T.2.1 T.1) = _
            rw [pk_us]
          · rw [va_up_ne _ _ e] at hat2
            have hlt2 := ac_at (K := T.2.1) (show c < T.1 by omega) hat2
            have o3 : σ3.1 20 = σ.1 20 := by rw [h3]; rfl
            cases isAt k with
            | false => show σ3.1 20 _ = _; rw [o3]; exact t3 c (by omega) hat2
            | true =>
              show upd (σ3.1 20) (ac T.2.1 T.1) _ (ac T.2.1 c) = _
              rw [pk_un (by omega), o3]; exact t3 c (by omega) hat2
      · refine ⟨fun x hx => ?_, ?_, fun x x1 x2 x3 => ?_, Or.inr (by rw [h5]; rfl)⟩
        · have e3 : σ3.1 x = σ.1 x := by
            rw [h3]
            show (if x = 19 then _ else (if x = 18 then _ else (if x = 17 then _ else σ.1 x))) = _
            rw [if_neg (by omega), if_neg (by omega), if_neg (by omega)]
          rw [h5]
          show σ4.1 x = _
          rw [h4]
          cases isAt k with
          | false => exact e3
          | true =>
            show (if x = 20 then _ else σ3.1 x) = _
            rw [if_neg (by omega)]; exact e3
        · rw [h5]
          show σ4.2.1 = _
          rw [h4]
          cases isAt k with
          | false => rw [h3]; rfl
          | true => rw [h3]; rfl
        · rw [h5]
          show (if x = 18 then _ else (if x = 13 then _ else σ4.2.2 x)) = _
          rw [if_neg x3, if_neg x1, h4]
          cases isAt k with
          | false => rw [h3]; rfl
          | true =>
            show (if x = 14 then _ else σ3.2.2 x) = _
            rw [if_neg x2, h3]; rfl
