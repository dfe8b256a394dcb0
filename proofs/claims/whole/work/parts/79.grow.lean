/-! the table grows: what stays -/
def tEx (T T' : ab_T) : Prop := T.1 ≤ T'.1 ∧ ∀ i, i < T.1 → T.2.1 i = T'.2.1 i ∧ T.2.2.1 i = T'.2.2.1 i ∧ T.2.2.2 i = T'.2.2.2 i
theorem tEx.rf (T : ab_T) : tEx T T := ⟨Nat.le_refl _, fun _ _ => ⟨rfl, rfl, rfl⟩⟩
theorem tEx.tr {A B C : ab_T} (h : tEx A B) (h' : tEx B C) : tEx A C := ⟨Nat.le_trans h.1 h'.1, fun i hi => by
  obtain ⟨a, b, c⟩ := h.2 i hi
  obtain ⟨a', b', c'⟩ := h'.2 i (Nat.lt_of_lt_of_le hi h.1)
  exact ⟨a.trans a', b.trans b', c.trans c'⟩⟩
theorem tEx_up (T : ab_T) (k a b : Nat) : tEx T (upT T k a b) := ⟨Nat.le_succ _, fun i hi => by
  refine ⟨?_, ?_, ?_⟩
  · show _ = va_up _ _ _ _; rw [va_up_ne _ _ (by omega)]
  · show _ = va_up _ _ _ _; rw [va_up_ne _ _ (by omega)]
  · show _ = va_up _ _ _ _; rw [va_up_ne _ _ (by omega)]⟩
theorem tEx_mk (T : ab_T) (k a b : Nat) : tEx T (mk T k a b).2 := by
  by_cases h : fdT T k a b < T.1
  · rw [mk_old h]; exact tEx.rf T
  · by_cases hf : fullT T k
    · rw [mk_full h hf]; exact tEx.rf T
    · rw [mk_new h hf]; exact tEx_up T k a b
theorem vT_ex {T T' : ab_T} (h : tEx T T') {c : Nat} (hc : c < T.1) (τ : Nat) : vT T' c τ = vT T c τ := by
  show ve _ _ _ _ _ _ = ve _ _ _ _ _ _
  rw [ve_stable hc h.1]
  exact (ve_congr (fun i hi => h.2 i hi)).symm
theorem ac_ext {T T' : ab_T} (h : tEx T T') {c : Nat} (hc : c ≤ T.1) : ac T'.2.1 c = ac T.2.1 c := (ac_congr (fun i hi => (h.2 i (by omega)).1)).symm
theorem aN_ex {T T' : ab_T} (h : tEx T T') : aN T ≤ aN T' := by
  have := ac_mono (K := T'.2.1) h.1
  rw [ac_ext h (Nat.le_refl _)] at this
  exact this
theorem at_ex {T T' : ab_T} (h : tEx T T') (ha : aN T' = aN T) {c : Nat} (hc : c < T'.1) (h6 : T'.2.1 c = 6) : c < T.1 ∧ T.2.1 c = 6 ∧ ac T.2.1 c = ac T'.2.1 c ∧ T.2.2.1 c = T'.2.2.1 c ∧ T.2.2.2 c = T'.2.2.2 c := by
  have hlt : c < T.1 := by
    rcases Nat.lt_or_ge c T.1 with q | q
    · exact q
    · exfalso
      have h1 := ac_at (K := T'.2.1) hc (by rw [h6]; rfl)
      have h2 := ac_mono (K := T'.2.1) q
      rw [ac_ext h (Nat.le_refl _)] at h2
      have h3 : ac T'.2.1 T'.1 = ac T.2.1 T.1 := ha
      omega
  exact ⟨hlt, by rw [(h.2 c hlt).1]; exact h6, (ac_ext h (by omega)).symm, (h.2 c hlt).2.1, (h.2 c hlt).2.2⟩
theorem at_up {T T' : ab_T} (h : tEx T T') {c : Nat} (hc : c < T.1) (h6 : T.2.1 c = 6) : c < T'.1 ∧ T'.2.1 c = 6 ∧ ac T'.2.1 c = ac T.2.1 c ∧ T'.2.2.1 c = T.2.2.1 c ∧ T'.2.2.2 c = T.2.2.2 c := ⟨Nat.lt_of_lt_of_le hc h.1, by rw [← (h.2 c hc).1]; exact h6, ac_ext h (by omega), (h.2 c hc).2.1.symm, (h.2 c hc).2.2.symm⟩
theorem smR_ex {T T' : ab_T} (h : tEx T T') (ha : aN T' = aN T) {P : Nat → Prop} {k : Nat} : smR T' P k ↔ smR T P k := by
  constructor
  · rintro ⟨c, c1, c2, c3, c4⟩
    obtain ⟨d1, d2, d3, d4, d5⟩ := at_ex h ha c1 c2
    exact ⟨c, d1, d2, by rw [d3]; exact c3, by rw [d4]; exact c4⟩
  · rintro ⟨c, c1, c2, c3, c4⟩
    obtain ⟨d1, d2, d3, d4, d5⟩ := at_up h c1 c2
    exact ⟨c, d1, d2, by rw [d3]; exact c3, by rw [d4]; exact c4⟩
theorem ownP_ex {T T' : ab_T} (hw : wfT T) (h : tEx T T') (ha : aN T' = aN T) {u k : Nat} : ownP T' u k ↔ ownP T u k := by
  constructor
  · rintro ⟨c, c1, c2, c3, c4⟩
    obtain ⟨d1, d2, d3, d4, d5⟩ := at_ex h ha c1 c2
    have hS := (wf_some hw d1 d2).2
    refine ⟨c, d1, d2, by rw [d3]; exact c3, ?_⟩
    rw [← vT_ex h (by omega), d5]; exact c4
  · rintro ⟨c, c1, c2, c3, c4⟩
    obtain ⟨d1, d2, d3, d4, d5⟩ := at_up h c1 c2
    have hS := (wf_some hw c1 c2).2
    refine ⟨c, d1, d2, by rw [d3]; exact c3, ?_⟩
    rw [d5, vT_ex h (by omega)]; exact c4
theorem sees_ex {T T' : ab_T} (hw : wfT T) (h : tEx T T') (ha : aN T' = aN T) {rl : Nat → Nat → Bool} {τ u r : Nat} : seesP T' rl τ u r ↔ seesP T rl τ u r := by
  constructor
  · intro q c c1 c2 c3 c4
    obtain ⟨d1, d2, d3, d4, d5⟩ := at_up h c1 c2
    have hS := (wf_some hw c1 c2).2
    rw [← vT_ex h (by omega), ← d5]
    exact q c d1 d2 (by rw [d4]; exact c3) (by rw [d3]; exact c4)
  · intro q c c1 c2 c3 c4
    obtain ⟨d1, d2, d3, d4, d5⟩ := at_ex h ha c1 c2
    have hS := (wf_some hw d1 d2).2
    rw [← d5, vT_ex h (by omega)]
    exact q c d1 d2 (by rw [d4]; exact c3) (by rw [d3]; exact c4)
theorem lost_ex {T T' : ab_T} (hw : wfT T) (h : tEx T T') (ha : aN T' = aN T) {rl : Nat → Nat → Bool} {G : Nat → Prop} {τ : Nat} : lost T' rl G τ ↔ lost T rl G τ := by
  have ha2 : aN T' = aN T := ha
  constructor
  · rintro ⟨c, c1, c2, c3, c4⟩
    obtain ⟨d1, d2, d3, d4, d5⟩ := at_ex h ha c1 c2
    have hS := (wf_some hw d1 d2).2
    refine ⟨c, d1, d2, by rw [d3]; exact c3, fun ⟨u, u1, u2, u3, u4⟩ => c4 ⟨u, by rw [ha2]; exact u1, u2, ?_, ?_⟩⟩
    · rw [← d5, vT_ex h (by omega)]; exact u3
    · rw [sees_ex hw h ha, ← d4]; exact u4
  · rintro ⟨c, c1, c2, c3, c4⟩
    obtain ⟨d1, d2, d3, d4, d5⟩ := at_up h c1 c2
    have hS := (wf_some hw c1 c2).2
    refine ⟨c, d1, d2, by rw [d3]; exact c3, fun ⟨u, u1, u2, u3, u4⟩ => c4 ⟨u, by rw [← ha2]; exact u1, u2, ?_, ?_⟩⟩
    · rw [← vT_ex h (by omega), ← d5]; exact u3
    · rw [← sees_ex hw h ha, ← d4]; exact u4
theorem g0_ex {T T' : ab_T} (h : tEx T T') {X : ab_X} (hx : wX T X) {τ : Nat} : g0 T' X τ ↔ g0 T X τ := by
  constructor
  · intro q a ha
    have := q a ha
    rw [vT_ex h (hx.2 a ha).1, vT_ex h (hx.2 a ha).2] at this; exact this
  · intro q a ha
    rw [vT_ex h (hx.2 a ha).1, vT_ex h (hx.2 a ha).2]; exact q a ha
theorem Gs_ex {T T' : ab_T} (hw : wfT T) (h : tEx T T') (ha : aN T' = aN T) {X : ab_X} (hx : wX T X) {rl : Nat → Nat → Bool} : Gs T' X rl = Gs T X rl := by
  funext i
  induction i with
  | zero =>
    funext τ
    apply propext
    show (τ < 2 ^ aN T' ∧ g0 T' X τ) ↔ (τ < 2 ^ aN T ∧ g0 T X τ)
    rw [ha, g0_ex h hx]
  | succ i ih =>
    funext τ
    apply propext
    show (Gs T' X rl i τ ∧ ¬ lost T' rl (Gs T' X rl i) τ) ↔ (Gs T X rl i τ ∧ ¬ lost T rl (Gs T X rl i) τ)
    rw [ih, lost_ex hw h ha]
theorem isR_ex {T T' : ab_T} (hw : wfT T) (h : tEx T T') (ha : aN T' = aN T) {X : ab_X} (hx : wX T X) {rl : Nat → Nat → Bool} {ρ : Nat} : isR T' X rl ρ ↔ isR T X rl ρ := by
  unfold isR went
  rw [Gs_ex hw h ha hx]
theorem dpt_ex {T T' : ab_T} (hw : wfT T) (h : tEx T T') (ha : aN T' = aN T) {X : ab_X} (hx : wX T X) {rl : Nat → Nat → Bool} {j τ : Nat} {z : Int32} : dpt T' X rl j τ z ↔ dpt T X rl j τ z := by
  unfold dpt
  rw [Gs_ex hw h ha hx]
theorem GG_ex {T T' : ab_T} (hw : wfT T) (h : tEx T T') (ha : aN T' = aN T) {X : ab_X} (hx : wX T X) {rl : Nat → Nat → Bool} {τ : Nat} : GG T' X rl τ ↔ GG T X rl τ := by
  unfold GG
  constructor
  · rintro ⟨ρ, h1, h2⟩; exact ⟨ρ, (isR_ex hw h ha hx).mp h1, by rw [← Gs_ex hw h ha hx]; exact h2⟩
  · rintro ⟨ρ, h1, h2⟩; exact ⟨ρ, (isR_ex hw h ha hx).mpr h1, by rw [Gs_ex hw h ha hx]; exact h2⟩
theorem vG_ex {T T' : ab_T} (hw : wfT T) (h : tEx T T') (ha : aN T' = aN T) {X : ab_X} (hx : wX T X) {rl : Nat → Nat → Bool} {σ : tq_S} (hV : vG T X rl σ) : vG T' X rl σ := by
  obtain ⟨v1, ρ, v2, v3, v4, v5⟩ := hV
  refine ⟨fun r hr k hk => ⟨(v1 r hr k hk).1.trans (smR_ex h ha).symm, (v1 r hr k hk).2.trans (smR_ex h ha).symm⟩, ρ, (isR_ex hw h ha hx).mpr v2, v3, fun τ hτ => ?_, fun τ hτ => (dpt_ex hw h ha hx).mpr (v5 τ (by rw [← ha]; exact hτ))⟩
  rw [Gs_ex hw h ha hx]; exact v4 τ hτ
theorem saidP_ex {T T' : ab_T} (h : tEx T T') {B : ab_X} (hb : wB T B) {i τ : Nat} : saidP T' B i τ ↔ saidP T B i τ := by
  constructor
  · intro q k hk he
    rw [← vT_ex h (hb.2 k hk).2]; exact q k hk he
  · intro q k hk he
    rw [vT_ex h (hb.2 k hk).2]; exact q k hk he
theorem Mo_ex {T T' : ab_T} (hw : wfT T) (h : tEx T T') (ha : aN T' = aN T) {X : ab_X} (hx : wX T X) {rl : Nat → Nat → Bool} {B : ab_X} (hb : wB T B) {M : ab_L} : Mo T' X rl B M = Mo T X rl B M := by
  funext a
  apply propext
  unfold Mo
  constructor
  · rintro ⟨h1, h2⟩; exact ⟨fun i hi => ⟨(GG_ex hw h ha hx).mp (h1 i hi).1, (saidP_ex h hb).mp (h1 i hi).2⟩, fun k hk => (sees_ex hw h ha).mp (h2 k hk)⟩
  · rintro ⟨h1, h2⟩; exact ⟨fun i hi => ⟨(GG_ex hw h ha hx).mpr (h1 i hi).1, (saidP_ex h hb).mpr (h1 i hi).2⟩, fun k hk => (sees_ex hw h ha).mpr (h2 k hk)⟩
theorem lkB_ex {T T' : ab_T} (h : tEx T T') (ha : aN T' = aN T) {rl : Nat → Nat → Bool} {M : ab_L} {i j k : Nat} : lkB T' rl M i j k = lkB T rl M i j k := by
  refine cD_c ⟨?_, ?_⟩
  · rintro ⟨l, l1, l2, l3, l4⟩; exact ⟨l, l1, l2, l3, (smR_ex h ha).mp l4⟩
  · rintro ⟨l, l1, l2, l3, l4⟩; exact ⟨l, l1, l2, l3, (smR_ex h ha).mpr l4⟩
theorem vS_ex {T T' : ab_T} (hw : wfT T) (h : tEx T T') (ha : aN T' = aN T) {X : ab_X} (hx : wX T X) {rl : Nat → Nat → Bool} {B : ab_X} (hb : wB T B) {M : ab_L} {σ : tq_S} (hS : vS T X rl B M σ) : vS T' X rl B M σ := by
  obtain ⟨s1, s2⟩ := hS
  refine ⟨fun i j hi hj k hk => by rw [lkB_ex h ha]; exact s1 i j hi hj k hk, ?_⟩
  unfold Lx at s2 ⊢
  rw [Mo_ex hw h ha hx hb]; exact s2
theorem vS_fr {T : ab_T} {X : ab_X} {rl : Nat → Nat → Bool} {B : ab_X} {M : ab_L} {σ σ' : tq_S} (h : vS T X rl B M σ) (e14 : σ'.1 14 = σ.1 14) (e16 : σ'.1 16 = σ.1 16) (f10 : σ'.2.2 10 = σ.2.2 10) : vS T X rl B M σ' := by
  refine ⟨fun i j hi hj k hk => by rw [e14]; exact h.1 i j hi hj k hk, ?_⟩
  rw [e16, f10]; exact h.2
theorem mV_ex {T T' : ab_T} (hw : wfT T) (h : tEx T T') (hn : T'.1 = T.1) {X : ab_X} (hx : wX T X) {rl : Nat → Nat → Bool} {σ : tq_S} (hV : mV T X rl σ) : mV T' X rl σ := by
  have ha : aN T' = aN T := by
    show ac T'.2.1 T'.1 = ac T.2.1 T.1
    rw [hn, ac_ext h (Nat.le_refl _)]
  obtain ⟨v1, v2, v3, ρ, v4, v5, v6⟩ := hV
  refine ⟨v1, fun t c ht hc => ?_, fun t ht j hj => (v3 t (by rw [← ha]; exact ht) j hj).trans (ownP_ex hw h ha).symm, ρ, (isR_ex hw h ha hx).mpr v4, v5, fun t ht => (dpt_ex hw h ha hx).mpr (v6 t (by rw [← ha]; exact ht))⟩
  rw [hn] at hc
  rw [vT_ex h hc]
  exact v2 t c (by rw [← ha]; exact ht) hc
