/-! making a concept: the plain table, the class, the reference -/
abbrev ab_T : Type := Nat × (Nat → Nat) × (Nat → Nat) × (Nat → Nat)
abbrev fdT (T : ab_T) (k a b : Nat) : Nat := fd T.2.1 T.2.2.1 T.2.2.2 k a b T.1
abbrev wfT (T : ab_T) : Prop := wf T.2.1 T.2.2.1 T.2.2.2 T.1
abbrev wbT (T : ab_T) : Prop := wb T.2.1 T.2.2.1 T.2.2.2 T.1
abbrev cTT (T : ab_T) (σ : tq_S) : Prop := cT T.2.1 T.2.2.1 T.2.2.2 T.1 σ
abbrev upT (T : ab_T) (k a b : Nat) : ab_T := (T.1 + 1, va_up T.2.1 T.1 k, va_up T.2.2.1 T.1 a, va_up T.2.2.2 T.1 b)
def fullT (T : ab_T) (k : Nat) : Prop := 80 ≤ T.1 ∨ (isAt k = true ∧ 10 ≤ ac T.2.1 T.1)
noncomputable def mk (T : ab_T) (k a b : Nat) : Option Nat × ab_T :=
  @ite _ (fdT T k a b < T.1) (Classical.propDecidable _) (some (fdT T k a b), T) (@ite _ (fullT T k) (Classical.propDecidable _) (none, T) (some T.1, upT T k a b))
theorem mk_old {T : ab_T} {k a b : Nat} (h : fdT T k a b < T.1) : mk T k a b = (some (fdT T k a b), T) := by unfold mk; rw [if_pos h]
theorem mk_full {T : ab_T} {k a b : Nat} (h : ¬ fdT T k a b < T.1) (hf : fullT T k) : mk T k a b = (none, T) := by unfold mk; rw [if_neg h, if_pos hf]
theorem mk_new {T : ab_T} {k a b : Nat} (h : ¬ fdT T k a b < T.1) (hf : ¬ fullT T k) : mk T k a b = (some T.1, upT T k a b) := by unfold mk; rw [if_neg h, if_neg hf]
def an (o : Option Nat) : Int32 := match o with
  | some c => nI c
  | none => -3
theorem wf_wb {K F S : Nat → Nat} {n : Nat} (h : wf K F S n) : wb K F S n := by
  obtain ⟨h1, h2, h3, h4, h5, h6⟩ := h
  refine ⟨h2, h3, fun c hc => ?_⟩
  rcases (show c = 0 ∨ c = 1 ∨ 2 ≤ c by omega) with rfl | rfl | q
  · refine ⟨by omega, by omega, by omega, fun z => by omega⟩
  · refine ⟨by omega, by omega, by omega, fun z => by omega⟩
  · rcases h6 c q hc with g | g | g | g | g | g <;> refine ⟨by omega, by omega, by omega, fun z => by omega⟩
/-- what a new concept's numbers may be -/
def okN (T : ab_T) (k a b : Nat) : Prop := (k = 2 ∧ a < 10 ∧ b = 0) ∨ (k = 3 ∧ a < T.1 ∧ b = 0) ∨ (k = 4 ∧ a < T.1 ∧ b < T.1) ∨ (k = 5 ∧ a < T.1 ∧ b < T.1) ∨ (k = 6 ∧ a < 4 ∧ b < T.1) ∨ (k = 7 ∧ a < 4 ∧ b < T.1 ∧ fdT T 3 b 0 < T.1 ∧ fdT T 6 a (fdT T 3 b 0) < T.1)
theorem up_lt {T : ab_T} {k a b i : Nat} (h : i < T.1) : va_up T.2.1 T.1 k i = T.2.1 i ∧ va_up T.2.2.1 T.1 a i = T.2.2.1 i ∧ va_up T.2.2.2 T.1 b i = T.2.2.2 i := ⟨va_lt h, va_lt h, va_lt h⟩
theorem fd_up {T : ab_T} {k a b x y z m : Nat} (h : m ≤ T.1) : fd (va_up T.2.1 T.1 k) (va_up T.2.2.1 T.1 a) (va_up T.2.2.2 T.1 b) x y z m = fd T.2.1 T.2.2.1 T.2.2.2 x y z m := fd_congr (fun i hi => up_lt (by omega))
theorem ac_up {T : ab_T} {k a b : Nat} : ac (upT T k a b).2.1 (upT T k a b).1 = ac T.2.1 T.1 + (if isAt k then 1 else 0) := by
  show ac (va_up T.2.1 T.1 k) T.1 + (if isAt (va_up T.2.1 T.1 k T.1) then 1 else 0) = _
  rw [ac_congr (fun i hi => va_lt hi), va_up_self]
theorem wf_up {T : ab_T} {k a b : Nat} (h : wfT T) (ho : okN T k a b) (hf : ¬ fullT T k) : wfT (upT T k a b) := by
  obtain ⟨h1, h2, h3, h4, h5, h6⟩ := h
  have hn : T.1 < 80 := by
    rcases Nat.lt_or_ge T.1 80 with q | q
    · exact q
    · exact absurd (Or.inl q) hf
  show wf (va_up T.2.1 T.1 k) (va_up T.2.2.1 T.1 a) (va_up T.2.2.2 T.1 b) (T.1 + 1)
  refine ⟨by omega, by omega, ?_, ?_, ?_, ?_⟩
  · rw [show ac (va_up T.2.1 T.1 k) (T.1 + 1) = _ from ac_up (T := T) (k := k) (a := a) (b := b)]
    cases e : isAt k with
    | false => simp; exact h3
    | true =>
      have : ¬ 10 ≤ ac T.2.1 T.1 := fun q => hf (Or.inr ⟨e, q⟩)
      simp; omega
  · have := up_lt (T := T) (k := k) (a := a) (b := b) (i := 0) (by omega)
    rw [this.1, this.2.1, this.2.2]; exact h4
  · have := up_lt (T := T) (k := k) (a := a) (b := b) (i := 1) (by omega)
    rw [this.1, this.2.1, this.2.2]; exact h5
  · intro c hc1 hc
    have hc : c < T.1 + 1 := hc
    rw [fd_up (m := c) (by omega), fd_up (m := c) (by omega)]
    by_cases e : c = T.1
    · subst e
      rw [va_up_self, va_up_self, va_up_self]
      exact ho
    · have := up_lt (T := T) (k := k) (a := a) (b := b) (i := c) (by omega)
      rw [this.1, this.2.1, this.2.2]
      exact h6 c hc1 (by omega)
theorem wf_mk {T : ab_T} {k a b : Nat} (h : wfT T) (ho : okN T k a b) : wfT (mk T k a b).2 := by
  by_cases h1 : fdT T k a b < T.1
  · rw [mk_old h1]; exact h
  · by_cases h2 : fullT T k
    · rw [mk_full h1 h2]; exact h
    · rw [mk_new h1 h2]; exact wf_up h ho h2
theorem mt_up {T : ab_T} {k a b : Nat} : mt (va_up T.2.1 T.1 k) (va_up T.2.2.1 T.1 a) (va_up T.2.2.2 T.1 b) k a b T.1 = true := by
  unfold mt; rw [va_up_self, va_up_self, va_up_self]; simp
theorem mt_upn {T : ab_T} {k a b x y z : Nat} (h : x ≠ k) : mt (va_up T.2.1 T.1 k) (va_up T.2.2.1 T.1 a) (va_up T.2.2.2 T.1 b) x y z T.1 = false := by
  unfold mt; rw [va_up_self]
  have : (k == x) = false := by simp; exact fun q => h q.symm
  rw [this]; rfl
/-- where something was found, it is found still, at the same place -/
theorem fd_keep {T : ab_T} {k a b x y z : Nat} (h : fdT T x y z < T.1) : fdT (mk T k a b).2 x y z = fdT T x y z := by
  by_cases h1 : fdT T k a b < T.1
  · rw [mk_old h1]
  · by_cases h2 : fullT T k
    · rw [mk_full h1 h2]
    · rw [mk_new h1 h2]
      have e := fd_up (T := T) (k := k) (a := a) (b := b) (x := x) (y := y) (z := z) (m := T.1) (Nat.le_refl _)
      have : fdT (upT T k a b) x y z = fd (va_up T.2.1 T.1 k) (va_up T.2.2.1 T.1 a) (va_up T.2.2.2 T.1 b) x y z T.1 := ff_stable (by rw [show ff _ T.1 = _ from e]; exact h) (Nat.le_succ _)
      rw [this, e]
theorem fd_none {T : ab_T} {k a b x y z : Nat} (hx : x ≠ k) (h : ¬ fdT T x y z < T.1) : ¬ fdT (mk T k a b).2 x y z < (mk T k a b).2.1 := by
  by_cases h1 : fdT T k a b < T.1
  · rw [mk_old h1]; exact h
  · by_cases h2 : fullT T k
    · rw [mk_full h1 h2]; exact h
    · rw [mk_new h1 h2]
      have e := fd_up (T := T) (k := k) (a := a) (b := b) (x := x) (y := y) (z := z) (m := T.1) (Nat.le_refl _)
      have hl : fdT T x y z = T.1 := by
        have := ff_le (mt T.2.1 T.2.2.1 T.2.2.2 x y z) T.1
        have : fdT T x y z ≤ T.1 := this
        omega
      have : fdT (upT T k a b) x y z = T.1 + 1 := by
        refine ff_of (Nat.le_refl _) (fun i hi => ?_) (fun q => absurd q (Nat.lt_irrefl _))
        by_cases ei : i = T.1
        · rw [ei]; exact mt_upn hx
        · have : i < ff (mt (va_up T.2.1 T.1 k) (va_up T.2.2.1 T.1 a) (va_up T.2.2.2 T.1 b) x y z) T.1 := by
            rw [show ff _ T.1 = _ from e]
            have : fd T.2.1 T.2.2.1 T.2.2.2 x y z T.1 = T.1 := hl
            omega
          exact ff_no this
      rw [this]
      exact Nat.lt_irrefl _
theorem mk_n {T : ab_T} {k a b : Nat} : T.1 ≤ (mk T k a b).2.1 := by
  by_cases h1 : fdT T k a b < T.1
  · rw [mk_old h1]; exact Nat.le_refl _
  · by_cases h2 : fullT T k
    · rw [mk_full h1 h2]; exact Nat.le_refl _
    · rw [mk_new h1 h2]; exact Nat.le_succ _
theorem mk_some {T : ab_T} {k a b c : Nat} (h : (mk T k a b).1 = some c) : c < (mk T k a b).2.1 ∧ fdT (mk T k a b).2 k a b = c := by
  by_cases h1 : fdT T k a b < T.1
  · rw [mk_old h1] at h ⊢
    cases h
    exact ⟨h1, rfl⟩
  · by_cases h2 : fullT T k
    · rw [mk_full h1 h2] at h; cases h
    · rw [mk_new h1 h2] at h ⊢
      cases h
      refine ⟨Nat.lt_succ_self _, ff_of (Nat.le_succ _) (fun i hi => ?_) (fun _ => mt_up)⟩
      have e := fd_up (T := T) (k := k) (a := a) (b := b) (x := k) (y := a) (z := b) (m := T.1) (Nat.le_refl _)
      have hl : fdT T k a b ≤ T.1 := ff_le _ _
      have : i < ff (mt (va_up T.2.1 T.1 k) (va_up T.2.2.1 T.1 a) (va_up T.2.2.2 T.1 b) k a b) T.1 := by
        rw [show ff _ T.1 = _ from e]
        have : fd T.2.1 T.2.2.1 T.2.2.2 k a b T.1 = fdT T k a b := rfl
        omega
      exact ff_no this
/-- Concepts.make -/
theorem sp_make {T : ab_T} {σ : tq_S} (hw : wbT T) (hT : cTT T σ) {k a b : Nat} (hk : k < 8) (ha : a < 100) (hb : b < 100) (ca : k = 3 ∨ k = 4 ∨ k = 5 → a < T.1) (cb : k = 4 ∨ k = 5 ∨ k = 6 → b < T.1) (c7 : k = 7 → fdT T 3 b 0 < T.1 ∧ fdT T 6 a (fdT T 3 b 0) < T.1) :
    ∃ σ', tq_fI st_Co_make (0, [nI k, nI a, nI b], [], σ) = some (an (mk T k a b).1, σ') ∧ cTT (mk T k a b).2 σ' ∧ frC σ σ' := by
  have hf := sp_find hw hT.1 hT.2.2.1 (k := k) (a := a) (b := b) (by omega) (by omega) (by omega)
  have run : ∀ r σ', (tq_wo (tq_ob (tq_fI st_Co_find (0, [nI k, nI a, nI b], [], σ)) (fun r2 σ3 => if ¬ r2 = (-1) then some (tq_rt, [r2], [], σ3) else tq_ob (tq_fI st_Co_add (0, [nI k, nI a, nI b], [], σ3)) (fun r6 σ7 => some (tq_rt, [r6], [], σ7)))) (tq_wp st_Co_make (fun d => d = (tq_rt, [r], [], σ')))) → tq_fI st_Co_make (0, [nI k, nI a, nI b], [], σ) = some (r, σ') := by
    intro r σ' h
    refine tq_fI_e (tq_at (by decide) ?_)
    show tq_wo (bk_Co_make_0 [nI k, nI a, nI b] [] σ) _
    rw [bk_Co_make_0]
    exact h
  by_cases h1 : fdT T k a b < T.1
  · rw [mk_old h1]
    rw [if_pos h1] at hf
    have h80 := hw.1
    refine ⟨σ, run _ _ (wi_o hf (wi_t (fun q => ?_) (wi_s (tq_wp_rt rfl)))), hT, frC.rf σ⟩
    have : nI (fdT T k a b) < 0 := by rw [show nI (fdT T k a b) = -1 from q]; decide
    exact absurd this (tq_n0 (by omega))
  · rw [if_neg h1] at hf
    obtain ⟨a1, a2⟩ := sp_add hw hT hk ha hb ca cb c7
    by_cases h2 : fullT T k
    · rw [mk_full h1 h2]
      exact ⟨σ, run _ _ (wi_o hf (wi_f (by decide) (wi_o (a1 h2) (wi_s (tq_wp_rt rfl))))), hT, frC.rf σ⟩
    · rw [mk_new h1 h2]
      obtain ⟨σ', g1, g2, g3⟩ := a2 h2
      exact ⟨σ', run _ _ (wi_o hf (wi_f (by decide) (wi_o g1 (wi_s (tq_wp_rt rfl))))), g2, g3⟩
