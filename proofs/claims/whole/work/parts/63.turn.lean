/-! the reference: forbids, sees, isThere, turn -/
def mU (rl : Nat → Nat → Bool) (σ : tq_S) : Prop := ∀ r s, r < 4 → s < 4 → σ.1 32 (4 * r + s) = iB (cD (Und rl r s))
def mH (T : ab_T) (σ : tq_S) : Prop := ∀ t c, t < 2 ^ aN T → c < T.1 → σ.1 29 (80 * t + c) = iB (vT T c t)
def ownP (T : ab_T) (t j : Nat) : Prop := ∃ c, c < T.1 ∧ T.2.1 c = 6 ∧ ac T.2.1 c = j ∧ vT T (T.2.2.2 c) t = true
def mO (T : ab_T) (σ : tq_S) : Prop := ∀ t, t < 2 ^ aN T → ∀ j, j < 32 → (bI (σ.1 30 t) j = true ↔ ownP T t j)
def fbd (T : ab_T) (rl : Nat → Nat → Bool) (t r j : Nat) : Prop := smR T (fun s => Und rl r s) j ∧ t.testBit j = false
theorem and0 {x y : Int32} : x &&& y = 0 ↔ ∀ j, j < 32 → ¬ (bI x j = true ∧ bI y j = true) := by
  constructor
  · intro h j hj hb
    have := congrArg (fun z => bI z j) h
    simp only [bI_and, bI_0, hb.1, hb.2] at this
    cases this
  · intro h
    apply bI_ext
    intro j hj
    rw [bI_and, bI_0]
    have := h j hj
    cases h1 : bI x j with
    | false => rfl
    | true =>
      cases h2 : bI y j with
      | false => rfl
      | true => exact absurd ⟨h1, h2⟩ this
theorem ac_10 {T : ab_T} (hw : wfT T) {c : Nat} (hc : c < T.1) (h6 : T.2.1 c = 6) : ac T.2.1 c < aN T ∧ aN T ≤ 10 := ⟨ac_at hc (by rw [h6]; rfl), hw.2.2.1⟩
theorem own_sm {T : ab_T} (hw : wfT T) {x : Int32} {t : Nat} (h : ∀ j, j < 32 → (bI x j = true ↔ ownP T t j)) : ∃ n, n < 1024 ∧ x = nI n := small_of (fun k hk h32 => by
  cases e : bI x k with
  | false => rfl
  | true =>
    obtain ⟨c, c1, c2, c3, -⟩ := (h k h32).mp e
    have := ac_10 hw c1 c2
    omega)
theorem fb_sees {T : ab_T} (hw : wfT T) {rl : Nat → Nat → Bool} {x y : Int32} {t u r : Nat} (hx : ∀ j, j < 32 → (bI x j = true ↔ fbd T rl t r j)) (hy : ∀ j, j < 32 → (bI y j = true ↔ ownP T u j)) : x &&& y = 0 ↔ seesP T rl t u r := by
  rw [and0]
  constructor
  · intro h c c1 c2 c3 c4
    have ha := ac_10 hw c1 c2
    cases hv : vT T (T.2.2.2 c) u with
    | false => rfl
    | true => exact absurd ⟨(hx _ (by omega)).mpr ⟨⟨c, c1, c2, rfl, c3⟩, c4⟩, (hy _ (by omega)).mpr ⟨c, c1, c2, rfl, hv⟩⟩ (h (ac T.2.1 c) (by omega))
  · intro h j hj hb
    obtain ⟨⟨c, c1, c2, c3, c4⟩, c5⟩ := (hx j hj).mp hb.1
    obtain ⟨d, d1, d2, d3, d4⟩ := (hy j hj).mp hb.2
    have e : d = c := ac_inj (K := T.2.1) (by rw [d2]; rfl) (by rw [c2]; rfl) (by rw [d3, c3])
    subst e
    have := h d c1 c2 c4 (by rw [c3]; exact c5)
    rw [d4] at this
    cases this
theorem tq_4 (r s : Nat) : (4 : Int32) * nI r + nI s = nI (4 * r + s) := by
  rw [show (4 : Int32) = nI 4 from rfl, pk_mul, nI_add]
theorem mo_forbids {T : ab_T} {rl : Nat → Nat → Bool} {σ : tq_S} (hw : wfT T) (hT : mTT T σ) (hU : mU rl σ) {t r : Nat} (ht : t < 1024) (hr : r < 4) :
    ∃ y, tq_fI st_Mo_forbids (0, [nI t, nI r], [], σ) = some (y, σ) ∧ ∀ j, j < 32 → (bI y j = true ↔ fbd T rl t r j) := by
  have h80 := hw.2.1
  have hm : aN T ≤ 10 := hw.2.2.1
  obtain ⟨t0, t1, t2, t3⟩ := id hT
  have t1 : σ.2.2 14 = nI (aN T) := t1
  obtain ⟨y, σ', e1, e2, e3⟩ := tq_fI_of (st := st_Mo_forbids) (c := (0, [nI t, nI r], [], σ)) (P := fun y σ' => σ' = σ ∧ ∀ j, j < 32 → (bI y j = true ↔ fbd T rl t r j)) (by
    refine tq_at (by decide) ?_
    show tq_wo (bk_Mo_forbids_0 [nI t, nI r] [] σ) _
    rw [bk_Mo_forbids_0]
    refine wi_s ?_
    refine tq_ind 5 (fun p : Nat × Int32 => ([nI t, nI r, p.2, nI p.1], [], σ)) (fun p => p.1 ≤ aN T ∧ ∀ j, j < 32 → (bI p.2 j = true ↔ j < p.1 ∧ fbd T rl t r j)) (fun p => aN T - p.1) ?_ (0, 0) ⟨Nat.zero_le _, fun j hj => ⟨fun h => (by rw [show ((0 : Nat), (0 : Int32)).2 = 0 from rfl, bI_0] at h; cases h), fun h => absurd h.1 (Nat.not_lt_zero _)⟩⟩
    rintro ⟨k, y⟩ ⟨hk, hy⟩ ih
    dsimp only at hk hy ih ⊢
    refine tq_at (by decide) ?_
    show tq_wo (bk_Mo_forbids_5 [nI t, nI r, y, nI k] [] σ) _
    rw [bk_Mo_forbids_5, t1]
    refine wi_c (fun q => wi_s (tq_wp_rt ⟨_, _, rfl, rfl, fun j hj => ?_⟩)) (fun q => ?_)
    · have : k = aN T := by
        have := (tq_le (a := aN T) (b := k) (by omega) (by omega)).mp q
        omega
      subst this
      rw [hy j hj]
      refine ⟨fun h => h.2, fun h => ⟨?_, h⟩⟩
      obtain ⟨⟨c, c1, c2, c3, -⟩, -⟩ := h
      have := ac_10 hw c1 c2
      omega
    · have hlt : k < aN T := tq_nle (by omega) (by omega) q
      obtain ⟨a1, a2, a3⟩ := axi_ok (K := T.2.1) (n := T.1) hlt
      obtain ⟨e17, e18, e19⟩ := t2 _ a1
      have wbT := (wf_wb hw).2.2 _ a1
      have skip : ¬ fbd T rl t r k → tq_wp st_Mo_forbids (fun d => ∃ r_1 σ', d = (tq_rt, [r_1], [], σ') ∧ σ' = σ ∧ ∀ j, j < 32 → (bI r_1 j = true ↔ fbd T rl t r j)) (5, [nI t, nI r, y, nI k + 1], [], σ) := by
        intro hno
        rw [tq_inc]
        refine ih (k + 1, y) ⟨by omega, fun j hj => ?_⟩ (by dsimp only; omega)
        show bI y j = true ↔ j < k + 1 ∧ _
        rw [hy j hj]
        refine ⟨fun h => ⟨by omega, h.2⟩, fun h => ⟨?_, h.2⟩⟩
        have : j ≠ k := fun e => by subst e; exact hno h.2
        omega
      refine wi_g (tq_vin (by omega) (by omega)) (wi_l ?_)
      simp only [ia, tq_nc (show k < 2147483648 by omega), mo_at hT hlt, tq_nc (show axi T.2.1 T.1 k < 2147483648 by omega), e17]
      have vx : vp_in (nI (axi T.2.1 T.1 k)) 80 := tq_vin (by omega) (by omega)
      refine wi_g vx (wi_c (fun q6 => wi_l (wi_s (skip ?_))) (fun q6 => ?_))
      · rintro ⟨h, -⟩
        exact q6 (by rw [(smR_iff.mp h).1.2]; rfl)
      · have h6 : T.2.1 (axi T.2.1 T.1 k) = 6 := (tq_eq (b := 6) (by omega) (by omega)).mp (Classical.not_not.mp q6)
        have hF := (wf_some hw a1 h6).1
        rw [e18, tq_4, tq_nc (by omega), hU r _ hr hF]
        refine wi_g vx (wi_g (tq_vin (by omega) (by omega)) (wi_c (fun qu => wi_l (wi_s (skip ?_))) (fun qu => ?_)))
        · rintro ⟨h, -⟩
          exact cD_f.mp (iB_z.mp qu) (smR_iff.mp h).2
        · have hu : Und rl r (T.2.2.1 (axi T.2.1 T.1 k)) := by
            cases e : cD (Und rl r (T.2.2.1 (axi T.2.1 T.1 k))) with
            | true => exact cD_t.mp e
            | false => exact absurd (iB_z.mpr e) qu
          rw [rb (by omega) (by omega)]
          refine wi_c (fun qb => wi_l (wi_s (skip ?_))) (fun qb => wi_l (wi_l (wi_s ?_)))
          · rintro ⟨-, h⟩
            exact qb (iB_z.mpr h)
          · have hb : t.testBit k = false := iB_z.mp (Classical.not_not.mp qb)
            have yes : fbd T rl t r k := ⟨smR_iff.mpr ⟨⟨hlt, h6⟩, hu⟩, hb⟩
            rw [tq_inc]
            refine ih (k + 1, _) ⟨by omega, fun j hj => ?_⟩ (by dsimp only; omega)
            show bI (y ||| _) j = true ↔ j < k + 1 ∧ _
            rw [bI_or, Bool.or_eq_true_iff, bI_bit k (by omega) j hj, decide_eq_true_iff, hy j hj]
            constructor
            · rintro (h | h)
              · exact ⟨by omega, h.2⟩
              · subst h; exact ⟨by omega, yes⟩
            · rintro ⟨h1, h2⟩
              by_cases e : j = k
              · exact Or.inr e
              · exact Or.inl ⟨by omega, h2⟩)
  subst e2
  exact ⟨y, e1, e3⟩
theorem mo_sees {T : ab_T} {rl : Nat → Nat → Bool} {σ : tq_S} (hw : wfT T) (hT : mTT T σ) (hU : mU rl σ) (hO : mO T σ) {t u r : Nat} (ht : t < 2 ^ aN T) (hu : u < 2 ^ aN T) (hr : r < 4) :
    tq_fI st_Mo_sees (0, [nI t, nI u, nI r], [], σ) = some (iB (cD (seesP T rl t u r)), σ) := by
  have hm : aN T ≤ 10 := hw.2.2.1
  have hp := tq_pw1 hm
  obtain ⟨y, y1, y2⟩ := mo_forbids hw hT hU (show t < 1024 by omega) hr
  have key := fb_sees hw y2 (hO u hu)
  refine tq_fI_e (tq_at (by decide) ?_)
  show tq_wo (bk_Mo_sees_0 [nI t, nI u, nI r] [] σ) _
  rw [bk_Mo_sees_0]
  refine wi_o y1 (wi_g (tq_vin (by omega) (by omega)) ?_)
  simp only [ia, tq_nc (show u < 2147483648 by omega)]
  refine wi_c (fun q => wi_s (tq_wp_rt ?_)) (fun q => wi_s (tq_wp_rt ?_))
  · rw [cD_f.mpr (fun h => q (key.mpr h))]; rfl
  · rw [cD_t.mpr (key.mp (Classical.not_not.mp q))]; rfl
theorem mo_isThere {T : ab_T} {σ : tq_S} (hw : wfT T) (hT : mTT T σ) (hO : mO T σ) {k : Nat} (hk : k < 10) (x z : Int32) :
    tq_fI st_Mo_isThere (0, [x, nI k, z], [], σ) = some (iB (cD (∃ u, u < 2 ^ aN T ∧ (σ.1 31 u = 0 ∨ σ.1 31 u = z) ∧ bI (σ.1 30 u) k = true ∧ σ.1 30 u &&& x = 0)), σ) := by
  have hm : aN T ≤ 10 := hw.2.2.1
  have hp := tq_pw1 hm
  obtain ⟨P, hP⟩ : ∃ P : Nat → Prop, ∀ u, P u ↔ ((σ.1 31 u = 0 ∨ σ.1 31 u = z) ∧ bI (σ.1 30 u) k = true ∧ σ.1 30 u &&& x = 0) := ⟨_, fun _ => Iff.rfl⟩
  have eP : cD (∃ u, u < 2 ^ aN T ∧ (σ.1 31 u = 0 ∨ σ.1 31 u = z) ∧ bI (σ.1 30 u) k = true ∧ σ.1 30 u &&& x = 0) = cD (∃ u, u < 2 ^ aN T ∧ P u) := cD_c ⟨fun ⟨u, h1, h2⟩ => ⟨u, h1, (hP u).mpr h2⟩, fun ⟨u, h1, h2⟩ => ⟨u, h1, (hP u).mp h2⟩⟩
  rw [eP]
  refine tq_fI_e (tq_at (by decide) ?_)
  show tq_wo (bk_Mo_isThere_0 [x, nI k, z] [] σ) _
  rw [bk_Mo_isThere_0]
  refine wi_s ?_
  refine tq_ind 6 (fun p : Nat × Bool => ([x, nI k, z, iB p.2, nI p.1], [], σ)) (fun p => p.1 ≤ 2 ^ aN T ∧ ((p.2 = false ∧ ∀ u, u < p.1 → ¬ P u) ∨ (p.2 = true ∧ ∃ u, u < 2 ^ aN T ∧ P u))) (fun p => 2 ^ aN T - p.1) ?_ (0, false) ⟨Nat.zero_le _, Or.inl ⟨rfl, fun u h => absurd h (Nat.not_lt_zero _)⟩⟩
  rintro ⟨u, b⟩ ⟨hu, hb⟩ ih
  dsimp only at hu hb ih ⊢
  refine tq_at (by decide) ?_
  show tq_wo (bk_Mo_isThere_6 [x, nI k, z, iB b, nI u] [] σ) _
  rw [bk_Mo_isThere_6]
  refine wi_o (mo_size hw hT) (wi_c (fun q => wi_b (iB_01 b) (wi_s (tq_wp_rt ?_))) (fun q => ?_))
  · have : u = 2 ^ aN T := by
      have := (tq_le (a := 2 ^ aN T) (b := u) (by omega) (by omega)).mp q
      omega
    subst this
    rcases hb with ⟨rfl, h⟩ | ⟨rfl, h⟩
    · rw [cD_f.mpr (fun ⟨u, h1, h2⟩ => h u h1 h2)]
    · rw [cD_t.mpr h]
  · have hlt : u < 2 ^ aN T := tq_nle (by omega) (by omega) q
    refine wi_c (fun q => wi_b (iB_01 b) (wi_s (tq_wp_rt ?_))) (fun q => ?_)
    · rcases hb with ⟨rfl, h⟩ | ⟨rfl, h⟩
      · exact absurd rfl q
      · rw [cD_t.mpr h]
    · have b0 : b = false := iB_z.mp (Classical.not_not.mp q)
      subst b0
      have hno : ∀ v, v < u → ¬ P v := hb.elim (fun h => h.2) (fun h => absurd h.1 (by decide))
      have skip : ¬ P u → tq_wp st_Mo_isThere (fun d => d = (tq_rt, [iB (cD (∃ u, u < 2 ^ aN T ∧ P u))], [], σ)) (6, [x, nI k, z, 0, nI u + 1], [], σ) := by
        intro h
        rw [tq_inc]
        refine ih (u + 1, false) ⟨by omega, Or.inl ⟨rfl, fun v hv => ?_⟩⟩ (by dsimp only; omega)
        by_cases e : v = u
        · rw [e]; exact h
        · dsimp only at hv; exact hno v (by omega)
      have vi : vp_in (nI u) 1024 := tq_vin (by omega) (by omega)
      have m41 : (σ.1 31 u = 0 ∨ σ.1 31 u = z) → tq_wp st_Mo_isThere (fun d => d = (tq_rt, [iB (cD (∃ u, u < 2 ^ aN T ∧ P u))], [], σ)) (41, [x, nI k, z, nI u], [], σ) := by
        intro hg
        refine tq_at (by decide) ?_
        show tq_wo (bk_Mo_isThere_41 [x, nI k, z, nI u] [] σ) _
        rw [bk_Mo_isThere_41]
        simp only [ia, tq_nc (show u < 2147483648 by omega)]
        obtain ⟨n, n1, n2⟩ := own_sm hw (hO u hlt)
        have ex : ((σ.1 30 u >>> (nI k &&& 31)) &&& 1) = iB (bI (σ.1 30 u) k) := by rw [n2, rb (by omega) (by omega), bI_nI (by omega)]
        rw [ex]
        refine wi_g vi (wi_c (fun q => wi_l (wi_s (skip ?_))) (fun q => wi_g vi (wi_c (fun q2 => wi_l (wi_s (skip ?_))) (fun q2 => wi_l (wi_s ?_)))))
        · intro h
          exact q (iB_o.mpr ((hP u).mp h).2.1)
        · intro h
          exact q2 ((hP u).mp h).2.2
        · rw [tq_inc]
          exact ih (u + 1, true) ⟨by omega, Or.inr ⟨rfl, u, hlt, (hP u).mpr ⟨hg, iB_o.mp (Classical.not_not.mp q), Classical.not_not.mp q2⟩⟩⟩ (by dsimp only; omega)
      simp only [ia, tq_nc (show u < 2147483648 by omega)]
      refine wi_g vi (wi_c (fun q => wi_s (m41 (Or.inl q))) (fun q => wi_g vi (wi_c (fun q2 => wi_l (wi_s (skip ?_))) (fun q2 => wi_s (m41 (Or.inr (Classical.not_not.mp q2)))))))
      intro h
      exact ((hP u).mp h).1.elim q q2
theorem dpt_or {T : ab_T} {X : ab_X} {rl : Nat → Nat → Bool} {j τ : Nat} {z : Int32} (hj : j < 2000000000) (h : dpt T X rl j τ z ∨ dpt T X rl (j + 1) τ z) : (z = 0 ∨ z = nI (j + 1)) ↔ Gs T X rl j τ := by
  have ne2 : ¬ ((-2 : Int32) = nI (j + 1)) := fun q => by
    have := tq_n0 (n := j + 1) (by omega)
    rw [← q] at this
    exact this (by decide)
  rcases h with h | h
  · rcases h with ⟨h1, rfl⟩ | ⟨h1, rfl⟩ | ⟨i, i1, i2, i3, rfl⟩
    · exact ⟨fun q => q.elim (fun q => absurd q (by decide)) (fun q => absurd q ne2), fun q => absurd (Gs_dn (Nat.zero_le _) q) h1⟩
    · exact ⟨fun _ => h1, fun _ => Or.inl rfl⟩
    · refine ⟨fun q => q.elim (fun q => absurd ((tq_eq (b := 0) (by omega) (by omega)).mp q) (by omega)) (fun q => absurd ((tq_eq (by omega) (by omega)).mp q) (by omega)), fun q => absurd (Gs_dn (by omega) q) i3⟩
  · rcases h with ⟨h1, rfl⟩ | ⟨h1, rfl⟩ | ⟨i, i1, i2, i3, rfl⟩
    · exact ⟨fun q => q.elim (fun q => absurd q (by decide)) (fun q => absurd q ne2), fun q => absurd (Gs_dn (Nat.zero_le _) q) h1⟩
    · exact ⟨fun _ => h1.1, fun _ => Or.inl rfl⟩
    · by_cases e : i = j
      · subst e
        exact ⟨fun _ => i2, fun _ => Or.inr rfl⟩
      · refine ⟨fun q => q.elim (fun q => absurd ((tq_eq (b := 0) (by omega) (by omega)).mp q) (by omega)) (fun q => absurd ((tq_eq (by omega) (by omega)).mp q) (by omega)), fun q => absurd (Gs_dn (by omega) q) i3⟩
