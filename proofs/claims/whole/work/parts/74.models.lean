/-! MODELs; Things.settle -/
theorem CmP_iff {T : ab_T} (hw : wfT T) {rl : Nat → Nat → Bool} {M : ab_L} {i j τ u : Nat} : CmP (lkB T rl M) (nuB T) i j τ u ↔ ∀ l, l < M.1 → M.2.1 l = i → M.2.2.2 l = j → seesP T rl τ u (M.2.2.1 l) := by
  constructor
  · intro h l l1 l2 l3 c c1 c2 c3 c4
    cases e : vT T (T.2.2.2 c) u with
    | false => rfl
    | true =>
      have := h (ac T.2.1 c) (smR_10 hw (P := fun _ => True) ⟨c, c1, c2, rfl, trivial⟩) (cD_t.mpr ⟨l, l1, l2, l3, c, c1, c2, rfl, c3⟩) (cD_t.mpr ⟨c, c1, c2, rfl, e⟩)
      rw [c4] at this; cases this
  · intro h k hk h1 h2
    obtain ⟨l, l1, l2, l3, c, c1, c2, c3, c4⟩ := cD_t.mp h1
    obtain ⟨c', d1, d2, d3, d4⟩ := cD_t.mp h2
    have : c' = c := ac_inj (K := T.2.1) (by rw [d2]; rfl) (by rw [c2]; rfl) (by rw [d3, c3])
    subst this
    cases e : τ.testBit k with
    | true => rfl
    | false =>
      have := h l l1 l2 l3 c' c1 c2 c4 (by rw [c3]; exact e)
      rw [d4] at this; cases this
/-- what begin leaves to each thing -/
def S0 (T : ab_T) (X : ab_X) (rl : Nat → Nat → Bool) (B : ab_X) (M : ab_L) (i τ : Nat) : Prop := GG T X rl τ ∧ saidP T B i τ ∧ CmP (lkB T rl M) (nuB T) i i τ τ
theorem Mo_iff {T : ab_T} (hw : wfT T) {X : ab_X} {rl : Nat → Nat → Bool} {B : ab_X} {M : ab_L} (hM : wM M) {a : Nat → Nat} : Mdl (lkB T rl M) (nuB T) (wc (aN T) * 64) (S0 T X rl B M) a ↔ Mo T X rl B M a := by
  have hm : aN T ≤ 10 := hw.2.2.1
  obtain ⟨w1, w2, w3⟩ := wc_le (aN T) (by omega)
  constructor
  · rintro ⟨h1, h2⟩
    refine ⟨fun i hi => ⟨(h1 i hi).2.1, (h1 i hi).2.2.1⟩, fun k hk => ?_⟩
    obtain ⟨k1, k2, k3⟩ := hM.2 k hk
    by_cases e : M.2.1 k = M.2.2.2 k
    · have := (CmP_iff hw).mp (h1 _ k1).2.2.2 k hk rfl e.symm
      rw [← e]; exact this
    · exact (CmP_iff hw).mp (h2 _ _ k1 k3 e) k hk rfl rfl
  · rintro ⟨h1, h2⟩
    refine ⟨fun i hi => ⟨?_, (h1 i hi).1, (h1 i hi).2, (CmP_iff hw).mpr (fun l l1 l2 l3 => ?_)⟩, fun i j hi hj _ => (CmP_iff hw).mpr (fun l l1 l2 l3 => ?_)⟩
    · have := w3 _ (GG_lt (h1 i hi).1)
      omega
    · have := h2 l l1
      rw [l2, l3] at this; exact this
    · have := h2 l l1
      rw [l2, l3] at this; exact this
/-- the least MODEL -/
def Lx (T : ab_T) (X : ab_X) (rl : Nat → Nat → Bool) (B : ab_X) (M : ab_L) (m : Nat → Nat) : Prop := Mo T X rl B M m ∧ ∀ a, Mo T X rl B M a → ∀ i, i < 5 → (∀ j, j < i → a j = m j) → m i ≤ a i
theorem Lx_u {T : ab_T} {X : ab_X} {rl : Nat → Nat → Bool} {B : ab_X} {M : ab_L} {m m' : Nat → Nat} (h : Lx T X rl B M m) (h' : Lx T X rl B M m') : ∀ n i, i < n → i < 5 → m i = m' i := by
  intro n
  induction n with
  | zero => intro i hi; exact absurd hi (Nat.not_lt_zero _)
  | succ n ih =>
    intro i hi hi5
    have e : ∀ j, j < i → m j = m' j := fun j hj => ih j (by omega) (by omega)
    have h1 := h.2 m' h'.1 i hi5 (fun j hj => (e j hj).symm)
    have h2 := h'.2 m h.1 i hi5 (fun j hj => e j hj)
    omega
def vS (T : ab_T) (X : ab_X) (rl : Nat → Nat → Bool) (B : ab_X) (M : ab_L) (σ : tq_S) : Prop := cLk T rl M σ ∧ ((σ.2.2 10 = 1 ∧ ∃ m, Lx T X rl B M m ∧ ∀ i, i < 5 → σ.1 16 i = nI (m i)) ∨ (σ.2.2 10 = 0 ∧ (¬ ∃ a, Mo T X rl B M a) ∧ ∀ i, i < 5 → σ.1 16 i = -2))
theorem Mdl_e {lk : Nat → Nat → Nat → Bool} {nu : Nat → Nat → Bool} {U : Nat} {S : Nat → Nat → Prop} {a b : Nat → Nat} (h : Mdl lk nu U S a) (e : ∀ i, i < 5 → a i = b i) : Mdl lk nu U S b := ⟨fun i hi => by rw [← e i hi]; exact h.1 i hi, fun i j hi hj hne => by rw [← e i hi, ← e j hj]; exact h.2 i j hi hj hne⟩
/-- one thing settled: both ways -/
theorem sp_one {lk : Nat → Nat → Nat → Bool} {nu : Nat → Nat → Bool} {W i n : Nat} {σ : tq_S} (hK : sK lk nu W σ) (hi : i < 5) (hn : n ≤ 10) (h1 : σ.2.2 1 = nI n) (h10 : σ.2.2 10 = 1) (hlo : ∀ τ, τ < W * 64 → lft σ 0 i τ = true → τ < 2 ^ n) (hne : ∃ a, Mdl lk nu (W * 64) (lv σ) a) (Q : tq_C → Prop)
    (fin : ∀ σ' m, fr [15] [5, 6] [] σ σ' → (∀ j, j < 80 → ¬ (i * 16 ≤ j ∧ j < i * 16 + 16) → σ'.2.1 5 j = σ.2.1 5 j) → (∃ a, Mdl lk nu (W * 64) (lv σ') a) → m < W * 64 → lft σ 0 i m = true → (∀ τ, τ < W * 64 → (lft σ' 0 i τ = true ↔ τ = m)) → (∀ a, Mdl lk nu (W * 64) (lv σ) a → m ≤ a i) → tq_wp st_Th_settle Q (43, [nI i + 1], [], iput σ' 16 i (nI m))) :
    tq_wp st_Th_settle Q (43, [nI i], [], σ) := by
  obtain ⟨h9, hW, hlk, hnu, hin⟩ := id hK
  have at68 : ∀ σ' m, fr [15] [5, 6] [] σ σ' → (∀ j, j < 80 → ¬ (i * 16 ≤ j ∧ j < i * 16 + 16) → σ'.2.1 5 j = σ.2.1 5 j) → (∃ a, Mdl lk nu (W * 64) (lv σ') a) → m < W * 64 → lft σ 0 i m = true → (∀ τ, τ < W * 64 → (lft σ' 0 i τ = true ↔ τ = m)) → (∀ a, Mdl lk nu (W * 64) (lv σ) a → m ≤ a i) → tq_wp st_Th_settle Q (68, [nI i], [], σ') := by
    intro σ' m f o e m1 m2 m3 m4
    have h9' : σ'.2.2 9 = nI W := by rw [f.2.2 9 (by decide)]; exact h9
    have h10' : σ'.2.2 10 = 1 := by rw [f.2.2 10 (by decide)]; exact h10
    have fl := sp_firstLeft h9' hW hi ⟨m, m1, (m3 m m1).mpr rfl⟩
    obtain ⟨q1, q2, q3⟩ := ff_lt (p := lft σ' 0 i) m1 ((m3 m m1).mpr rfl)
    rw [(m3 _ q1).mp q2] at fl
    refine tq_at (by decide) ?_
    show tq_wo (bk_Th_settle_68 [nI i] [] σ') _
    rw [bk_Th_settle_68]
    refine wi_f (by rw [h10']; decide) (wi_o fl (wi_g (tq_vin hi (by omega)) (wi_l (wi_l (wi_s ?_)))))
    rw [tq_nc (by omega)]
    exact fin σ' m f o e m1 m2 m3 m4
  refine tq_at (by decide) ?_
  show tq_wo (bk_Th_settle_43 [nI i] [] σ) _
  rw [bk_Th_settle_43]
  obtain ⟨b, σ1, b1, b2, b3, m, m1, m2, m3, b4, b5⟩ := sp_leaveFirst hK hi hne
  refine wi_f (nI_ge hi (by decide)) (wi_f (by rw [h10]; decide) (wi_o b1 ?_))
  cases b with
  | true =>
    obtain ⟨c1, c2⟩ := b4 rfl
    exact wi_t (by decide) (wi_s (at68 σ1 m b2 b3 c1 m1 m2 c2 (fun a ha => m3 _ (ha.1 i hi).1 (ha.1 i hi).2)))
  | false =>
    obtain ⟨c1, c2⟩ := b5 rfl
    have dn : ∀ a, Mdl lk nu (W * 64) (lv σ) a → Mdl lk nu (W * 64) (lv σ1) a := fun a ha => Mdl_c ha (fun j hj hu h => by
      show lft σ1 0 j (a j) = true
      by_cases e : j = i
      · subst e; exact (c2 _ hu).mpr ⟨h, fun z => c1 ⟨a, ha, z⟩⟩
      · rw [lf_0, b3 _ (by omega) (by omega), ← lf_0]; exact h)
    have hK1 : sK lk nu W σ1 := sK_fr hK (b2.1 14 (by decide)) (b2.1 4 (by decide)) (b2.2.1 1 (by decide)) (b2.2.2 9 (by decide))
    obtain ⟨σ2, d1, d2, d3, d4, m', e1, e2, e3, e4⟩ := sp_leaveLeast (n := n) hK1 hi hn (by rw [b2.2.2 1 (by decide)]; exact h1) (fun τ hτ h => hlo τ hτ ((c2 τ hτ).mp h).1) (hne.elim (fun a ha => ⟨a, dn a ha⟩))
    exact wi_f (fun z => z rfl) (wi_o d1 (wi_s (at68 σ2 m' (b2.tr d2) (fun j hj hj2 => by rw [d3 j hj hj2, b3 j hj hj2]) d4 e1 ((c2 m' e1).mp e2).1 e3 (fun a ha => e4 a (dn a ha)))))
theorem sp_settle {T : ab_T} {X : ab_X} {rl : Nat → Nat → Bool} {B : ab_X} {M : ab_L} {σ : tq_S} (hw : wfT T) (hT : cTT T σ) (hV : vG T X rl σ) (hB : cB T B σ) (hM : cL M σ) (hwM : wM M) (hc : ¬ (σ.2.2 11 = 0 ∧ σ.2.2 12 = σ.2.2 6)) :
    ∃ σ', tq_fV st_Th_settle (0, [], [], σ) = some ((), σ') ∧ fr [14, 15, 16] [5, 6] [9, 10, 11, 12] σ σ' ∧ vS T X rl B M σ' ∧ σ'.2.2 11 = 0 ∧ σ'.2.2 12 = σ.2.2 6 := by
  have hm : aN T ≤ 10 := hw.2.2.1
  obtain ⟨w1, w2, w3⟩ := wc_le (aN T) (by omega)
  refine tq_fV_of (tq_wpQ (fun Q hQ => ?_))
  have at22 : tq_wp st_Th_settle Q (22, [], [], σ) := by
    obtain ⟨σ1, a1, a2, a3⟩ := sp_sortLinks hV.1 hM hwM
    have hT1 : cTT T σ1 := fr_c a2 (by decide) (by decide) (by decide) hT
    have hV1 : vG T X rl σ1 := vG_fr hV (a2.1 9 (by decide)) (a2.1 10 (by decide)) (a2.1 11 (by decide)) (a2.2.1 2 (by decide)) (a2.2.2 3 (by decide))
    have hB1 : cB T B σ1 := ⟨by rw [a2.2.2 7 (by decide)]; exact hB.1, fun i τ hi hτ => by rw [a2.2.1 4 (by decide)]; exact hB.2 i τ hi hτ⟩
    obtain ⟨σ2, b1, b2, hK2, b4⟩ := sp_tbegin hw hT1 hV1 hB1 a3
    obtain ⟨σ3, c1, c2, c3⟩ := sp_ext0 hK2
    obtain ⟨U, hU⟩ : ∃ U, U = wc (aN T) * 64 := ⟨_, rfl⟩
    have mo2 : ∀ a, Mdl (lkB T rl M) (nuB T) (wc (aN T) * 64) (lv σ2) a ↔ Mo T X rl B M a := fun a => by
      rw [← Mo_iff hw hwM]
      exact ⟨fun h => Mdl_c h (fun i hi hu q => (b4 i _ hi hu).mp q), fun h => Mdl_c h (fun i hi hu q => (b4 i _ hi hu).mpr q)⟩
    have f3 : fr [14, 15, 16] [5, 6] [9, 10, 11, 12] σ σ3 := ((a2.wk (by decide) (by decide) (by decide)).tr (b2.wk (by decide) (by decide) (by decide))).tr (c2.wk (by decide) (by decide) (by decide))
    refine tq_at (by decide) ?_
    show tq_wo (bk_Th_settle_22 [] [] σ) _
    rw [bk_Th_settle_22]
    refine wi_o a1 (wi_o b1 (wi_o c1 (wi_b (iB_01 _) (wi_l (wi_s ?_)))))
    have lk14 : ∀ σ', σ'.1 14 = σ3.1 14 → cLk T rl M σ' := fun σ' e i j hi hj k hk => by
      rw [e, c2.1 14 (by decide), b2.1 14 (by decide)]; exact a3 i j hi hj k hk
    -- the end
    have fin : ∀ σ', fr [14, 15, 16] [5, 6] [9, 10, 11, 12] σ σ' → σ'.1 14 = σ3.1 14 → ((σ'.2.2 10 = 1 ∧ ∃ m, Lx T X rl B M m ∧ ∀ i, i < 5 → σ'.1 16 i = nI (m i)) ∨ (σ'.2.2 10 = 0 ∧ (¬ ∃ a, Mo T X rl B M a) ∧ ∀ i, i < 5 → σ'.1 16 i = -2)) → tq_wp st_Th_settle Q (43, [nI 5], [], σ') := by
      intro σ' f e14 hv
      refine tq_at (by decide) ?_
      show tq_wo (bk_Th_settle_43 [nI 5] [] σ') _
      rw [bk_Th_settle_43]
      refine wi_t (by decide) (wi_l (wi_o (sp_version _) (wi_l (wi_s (tq_wp_rt (hQ _ ⟨_, rfl, ?_, ⟨lk14 _ e14, ?_⟩, ?_, ?_⟩))))))
      · exact (f.tr (fr.f (by decide))).tr (fr.f (by decide))
      · rw [fput_n _ _ (show (10 : Nat) ≠ 12 by decide), fput_n _ _ (show (10 : Nat) ≠ 11 by decide)]
        exact hv
      · rw [fput_n _ _ (show (11 : Nat) ≠ 12 by decide), fput_s]
      · rw [fput_s, fput_n _ _ (show (6 : Nat) ≠ 11 by decide), f.2.2 6 (by decide)]
    cases hf : cD (∃ a, Mdl (lkB T rl M) (nuB T) (wc (aN T) * 64) (lv σ2) a) with
    | false =>
      have no : ¬ ∃ a, Mo T X rl B M a := fun ⟨a, ha⟩ => cD_f.mp hf ⟨a, (mo2 a).mpr ha⟩
      refine tq_ind 43 (fun p : Nat × tq_S => ([nI p.1], [], p.2)) (fun p => p.1 ≤ 5 ∧ fr [14, 15, 16] [5, 6] [9, 10, 11, 12] σ p.2 ∧ p.2.1 14 = σ3.1 14 ∧ p.2.2.2 10 = 0 ∧ ∀ i, i < p.1 → p.2.1 16 i = -2) (fun p => 5 - p.1) ?_ (0, fput σ3 10 (iB false)) ⟨Nat.zero_le _, f3.tr (fr.f (by decide)), rfl, fput_s _ _ _, fun i h => absurd h (Nat.not_lt_zero _)⟩
      rintro ⟨i, σ4⟩ ⟨hi, f4, e4, t4, g4⟩ ih
      dsimp only at hi f4 e4 t4 g4 ih ⊢
      by_cases e5 : i = 5
      · subst e5; exact fin σ4 f4 e4 (Or.inr ⟨t4, no, g4⟩)
      · have hi5 : i < 5 := by omega
        refine tq_at (by decide) ?_
        show tq_wo (bk_Th_settle_43 [nI i] [] σ4) _
        rw [bk_Th_settle_43]
        refine wi_f (nI_ge hi5 (by decide)) (wi_t t4 (wi_s (tq_at (by decide) ?_)))
        show tq_wo (bk_Th_settle_68 [nI i] [] σ4) _
        rw [bk_Th_settle_68]
        refine wi_t t4 (wi_g (tq_vin hi5 (by omega)) (wi_l (wi_l (wi_s ?_))))
        rw [tq_inc, tq_nc (by omega)]
        refine ih (i + 1, iput σ4 16 i (-2)) ⟨by dsimp only; omega, f4.tr (fr.i (by decide)), by dsimp only; rw [iput_n _ _ _ (by decide)]; exact e4, t4, fun j hj => ?_⟩ (by dsimp only; omega)
        dsimp only at hj ⊢
        rw [iput_s]
        by_cases e : j = i
        · rw [if_pos e]
        · rw [if_neg e]; exact g4 j (by omega)
    | true =>
      have l3 : ∀ j τ, j < 5 → τ < wc (aN T) * 64 → lft (fput σ3 10 (iB true)) 0 j τ = lft σ2 0 j τ := fun j τ hj hτ => lf_80 (σ' := σ3) c3 hj (by omega)
      obtain ⟨a0, ha0⟩ := cD_t.mp hf
      refine tq_ind 43 (fun p : Nat × (Nat → Nat) × tq_S => ([nI p.1], [], p.2.2)) (fun p => p.1 ≤ 5 ∧ fr [14, 15, 16] [5, 6] [9, 10, 11, 12] σ p.2.2 ∧ p.2.2.1 14 = σ3.1 14 ∧ p.2.2.2.2 10 = 1 ∧ sK (lkB T rl M) (nuB T) (wc (aN T)) p.2.2 ∧ (∃ a, Mdl (lkB T rl M) (nuB T) (wc (aN T) * 64) (lv p.2.2) a) ∧ (∀ j, j < p.1 → (∀ τ, τ < wc (aN T) * 64 → (lft p.2.2 0 j τ = true ↔ τ = p.2.1 j)) ∧ p.2.1 j < wc (aN T) * 64 ∧ lft σ2 0 j (p.2.1 j) = true ∧ p.2.2.1 16 j = nI (p.2.1 j) ∧ ∀ a, Mo T X rl B M a → (∀ e, e < j → a e = p.2.1 e) → p.2.1 j ≤ a j) ∧ (∀ j, p.1 ≤ j → j < 5 → ∀ τ, τ < wc (aN T) * 64 → lft p.2.2 0 j τ = lft σ2 0 j τ)) (fun p => 5 - p.1) ?_ (0, fun _ => 0, fput σ3 10 (iB true)) ⟨Nat.zero_le _, f3.tr (fr.f (by decide)), rfl, fput_s _ _ _, ?_, ?_, fun i h => absurd h (Nat.not_lt_zero _), fun j _ hj τ hτ => l3 j τ hj hτ⟩
      · rintro ⟨i, m, σ4⟩ ⟨hi, f4, e4, t4, hK4, x4, g4, o4⟩ ih
        dsimp only at hi f4 e4 t4 hK4 x4 g4 o4 ih ⊢
        by_cases e5 : i = 5
        · subst e5
          refine fin σ4 f4 e4 (Or.inl ⟨t4, m, ⟨?_, fun a ha j hj he => (g4 j hj).2.2.2.2 a ha he⟩, fun j hj => (g4 j hj).2.2.2.1⟩)
          obtain ⟨a, ha⟩ := x4
          have ea : ∀ j, j < 5 → a j = m j := fun j hj => ((g4 j hj).1 _ (ha.1 j hj).1).mp (ha.1 j hj).2
          have hm4 := Mdl_e ha ea
          exact (mo2 m).mp ⟨fun j hj => ⟨(g4 j hj).2.1, (g4 j hj).2.2.1⟩, hm4.2⟩
        · have hi5 : i < 5 := by omega
          refine sp_one (n := aN T) hK4 hi5 hm (by rw [f4.2.2 1 (by decide)]; exact hT.2.1) t4 (fun τ hτ h => ?_) x4 Q (fun σ5 mi f5 o5 x5 m1 m2 m3 m4 => ?_)
          · rw [o4 i (Nat.le_refl _) hi5 τ hτ] at h
            exact GG_lt ((b4 i τ hi5 hτ).mp h).1
          · have lo5 : ∀ j τ, j < 5 → j ≠ i → τ < wc (aN T) * 64 → lft σ5 0 j τ = lft σ4 0 j τ := fun j τ hj hne hτ => by
              rw [lf_0, lf_0, o5 _ (by omega) (by omega)]
            rw [tq_inc]
            refine ih (i + 1, fun j => if j = i then mi else m j, iput σ5 16 i (nI mi)) ⟨by dsimp only; omega, (f4.tr (f5.wk (by decide) (by decide) (by decide))).tr (fr.i (by decide)), ?_, ?_, ?_, x5, fun j hj => ?_, fun j hij hj τ hτ => ?_⟩ (by dsimp only; omega)
            · dsimp only
              rw [iput_n _ _ _ (by decide), f5.1 14 (by decide)]; exact e4
            · show σ5.2.2 10 = 1
              rw [f5.2.2 10 (by decide)]; exact t4
            · exact sK_fr hK4 (by dsimp only; rw [iput_n _ _ _ (by decide), f5.1 14 (by decide)]) (by dsimp only; rw [iput_n _ _ _ (by decide), f5.1 4 (by decide)]) (f5.2.1 1 (by decide)) (f5.2.2 9 (by decide))
            · dsimp only at hj ⊢
              by_cases e : j = i
              · subst e
                rw [if_pos rfl]
                refine ⟨fun τ hτ => m3 τ hτ, m1, by rw [← o4 j (Nat.le_refl _) hi5 mi m1]; exact m2, by rw [iput_s, if_pos rfl], fun a ha he => ?_⟩
                refine m4 a (Mdl_c ((mo2 a).mpr ha) (fun q hq hu h => ?_))
                show lft σ4 0 q (a q) = true
                by_cases hqj : q < j
                · have := he q hqj
                  rw [if_neg (by omega)] at this
                  exact ((g4 q hqj).1 _ hu).mpr this
                · rw [o4 q (by omega) hq _ hu]; exact h
              · have hj' : j < i := by omega
                obtain ⟨q1, q2, q3, q4, q5⟩ := g4 j hj'
                rw [if_neg e]
                refine ⟨fun τ hτ => ?_, q2, q3, by rw [iput_s, if_neg e, f5.1 16 (by decide)]; exact q4, fun a ha he => q5 a ha (fun z hz => ?_)⟩
                · rw [← q1 τ hτ]
                  show lft σ5 0 j τ = true ↔ _
                  rw [lo5 j τ (by omega) e hτ]
                · have := he z hz
                  rw [if_neg (by omega)] at this
                  exact this
            · dsimp only at hij ⊢
              show lft σ5 0 j τ = _
              rw [lo5 j τ hj (by omega) hτ]
              exact o4 j (by omega) hj τ hτ
      · exact sK_fr hK2 (c2.1 14 (by decide)) (c2.1 4 (by decide)) (c2.2.1 1 (by decide)) (by dsimp only; rw [fput_n _ _ (by decide)]; exact c2.2.2 9 (by decide))
      · exact ⟨a0, Mdl_c ha0 (fun i hi hu h => by show lft (fput σ3 10 (iB true)) 0 i (a0 i) = true; rw [l3 i _ hi hu]; exact h)⟩
  refine tq_at (by decide) ?_
  show tq_wo (bk_Th_settle_0 [] [] σ) _
  rw [bk_Th_settle_0]
  refine wi_c (fun _ => wi_s at22) (fun q => wi_o (sp_version σ) (wi_t (fun z => hc ⟨Classical.not_not.mp q, z⟩) (wi_s at22)))
theorem sp_settle0 {σ : tq_S} (h1 : σ.2.2 11 = 0) (h2 : σ.2.2 12 = σ.2.2 6) : tq_fV st_Th_settle (0, [], [], σ) = some ((), σ) := by
  refine tq_fV_e (tq_at (by decide) ?_)
  show tq_wo (bk_Th_settle_0 [] [] σ) _
  rw [bk_Th_settle_0]
  exact wi_f (fun z => z h1) (wi_o (sp_version σ) (wi_f (fun z => z h2) (wi_s (tq_wp_rt rfl))))
