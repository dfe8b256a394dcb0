/-! typeCount, wordCount, typesInWord, isSome, roleOfSome, sortSomes -/
theorem tq_pw : ∀ m, m < 11 → (1 : Int32) <<< (nI m &&& 31) = nI (2 ^ m) := by decide +kernel
theorem tq_pw1 {m : Nat} (h : m ≤ 10) : 2 ^ m ≤ 1024 ∧ 1 ≤ 2 ^ m := ⟨(Nat.pow_le_pow_right (by decide) h : 2 ^ m ≤ 2 ^ 10), Nat.one_le_two_pow⟩
theorem sp_typeCount {m : Nat} {σ : tq_S} (hm : m ≤ 10) (h1 : σ.2.2 1 = nI m) : tq_fI st_Co_typeCount (0, [], [], σ) = some (nI (2 ^ m), σ) := by
  refine tq_fI_e (tq_at (by decide) ?_)
  show tq_wo (bk_Co_typeCount_0 [] [] σ) _
  rw [bk_Co_typeCount_0, h1]
  exact wi_s (tq_wp_rt (by rw [tq_pw m (by omega)]))
/-- how many words have types -/
def wc (m : Nat) : Nat := (2 ^ m + 63) / 64
theorem tq_wcI : ∀ m, m < 11 → ((nI (2 ^ m) + 64) - 1) / 64 = nI (wc m) := by decide +kernel
theorem wc_le : ∀ m, m < 11 → 1 ≤ wc m ∧ wc m ≤ 16 ∧ ∀ τ, τ < 2 ^ m → τ / 64 < wc m := by
  intro m hm
  have h1 := tq_pw1 (show m ≤ 10 by omega)
  unfold wc
  refine ⟨by omega, by omega, fun τ hτ => by omega⟩
theorem sp_wordCount {m : Nat} {σ : tq_S} (hm : m ≤ 10) (h1 : σ.2.2 1 = nI m) : tq_fI st_Co_wordCount (0, [], [], σ) = some (nI (wc m), σ) := by
  refine tq_fI_e (tq_at (by decide) ?_)
  show tq_wo (bk_Co_wordCount_0 [] [] σ) _
  rw [bk_Co_wordCount_0]
  exact wi_o (sp_typeCount hm h1) (wi_s (tq_wp_rt (by rw [tq_wcI m (by omega)])))
theorem tq_tiw : ∀ m, m < 6 → ∀ w, w < 16 → ∀ i, i < 64 → bL (jlshl 1 (nI (2 ^ m)) - 1) i = decide (i < 2 ^ m) := by decide +kernel
theorem sp_typesInWord {m : Nat} {σ : tq_S} (hm : m ≤ 10) (h1 : σ.2.2 1 = nI m) : ∃ y, tq_fL st_Co_typesInWord (0, [], [], σ) = some (y, σ) ∧ ∀ w, w < wc m → ∀ i, i < 64 → bL y i = decide (w * 64 + i < 2 ^ m) := by
  have hp := tq_pw1 hm
  by_cases h6 : m < 6
  · have hlt : 2 ^ m ≤ 32 := (Nat.pow_le_pow_right (by decide) (by omega) : 2 ^ m ≤ 2 ^ 5)
    refine ⟨jlshl 1 (nI (2 ^ m)) - 1, tq_fL_e (tq_at (by decide) ?_), fun w hw i hi => ?_⟩
    · show tq_wo (bk_Co_typesInWord_0 [] [] σ) _
      rw [bk_Co_typesInWord_0]
      exact wi_o (sp_typeCount hm h1) (wi_f (fun q => absurd ((tq_le (a := 64) (by omega) (by omega)).mp q) (by omega)) (wi_o (sp_typeCount hm h1) (wi_s (tq_wp_rt rfl))))
    · have : w = 0 := by unfold wc at hw; omega
      subst this
      rw [tq_tiw m h6 0 (by omega) i hi, Nat.zero_mul, Nat.zero_add]
  · have hge : 64 ≤ 2 ^ m := (Nat.pow_le_pow_right (by decide) (by omega) : 2 ^ 6 ≤ 2 ^ m)
    refine ⟨-1, tq_fL_e (tq_at (by decide) ?_), fun w hw i hi => ?_⟩
    · show tq_wo (bk_Co_typesInWord_0 [] [] σ) _
      rw [bk_Co_typesInWord_0]
      exact wi_o (sp_typeCount hm h1) (wi_t ((tq_le (a := 64) (by omega) (by omega)).mpr hge) (wi_s (tq_wp_rt rfl)))
    · rw [bL_m1 hi]
      have h64 : 2 ^ m = 64 * 2 ^ (m - 6) := by
        rw [show m = 6 + (m - 6) by omega, Nat.pow_add, show 6 + (m - 6) - 6 = m - 6 by omega]
      have : w * 64 + i < 2 ^ m := by unfold wc at hw; omega
      exact (decide_eq_true this).symm
/-- the concept that is atom k -/
def axi (K : Nat → Nat) (n k : Nat) : Nat := ff (fun c => isAt (K c) && (ac K c == k)) n
theorem axi_ok {K : Nat → Nat} {n k : Nat} (h : k < ac K n) : axi K n k < n ∧ isAt (K (axi K n k)) = true ∧ ac K (axi K n k) = k := by
  obtain ⟨c, h1, h2, h3⟩ := ac_ex h
  have hle := ff_le (fun c => isAt (K c) && (ac K c == k)) n
  have hlt : axi K n k < n := by
    rcases Nat.lt_or_ge (axi K n k) n with q | q
    · exact q
    · have : ff (fun c => isAt (K c) && (ac K c == k)) n = n := by unfold axi at q; omega
      have := ff_no (p := fun c => isAt (K c) && (ac K c == k)) (n := n) (j := c) (by omega)
      simp [h2, h3] at this
  have := ff_yes (p := fun c => isAt (K c) && (ac K c == k)) hlt
  simp only [Bool.and_eq_true, beq_iff_eq] at this
  exact ⟨hlt, this.1, this.2⟩
theorem axi_eq {K : Nat → Nat} {n c : Nat} (hc : c < n) (ha : isAt (K c) = true) : axi K n (ac K c) = c := by
  obtain ⟨h1, h2, h3⟩ := axi_ok (K := K) (n := n) (ac_at hc ha)
  exact ac_inj h2 ha h3
theorem sp_isSome {T : ab_T} {σ : tq_S} (hw : wfT T) (hT : cTT T σ) {k : Nat} (hk : k < 10) : ∃ z, tq_fI st_Co_isSome (0, [nI k], [], σ) = some (z, σ) ∧ ((z = 0 ∧ ¬ (k < ac T.2.1 T.1 ∧ T.2.1 (axi T.2.1 T.1 k) = 6)) ∨ (z = 1 ∧ k < ac T.2.1 T.1 ∧ T.2.1 (axi T.2.1 T.1 k) = 6)) := by
  have h80 := hw.2.1
  have hm := hw.2.2.1
  obtain ⟨t0, t1, t2, t3, t4, t5, t6⟩ := id hT
  have go : ∀ z, tq_wo (bk_Co_isSome_0 [nI k] [] σ) (tq_wp st_Co_isSome (fun d => d = (tq_rt, [z], [], σ))) → tq_fI st_Co_isSome (0, [nI k], [], σ) = some (z, σ) := fun z h => tq_fI_e (tq_at (by decide) h)
  by_cases hlt : k < ac T.2.1 T.1
  · obtain ⟨a1, a2, a3⟩ := axi_ok hlt
    have e3 := t3 _ a1 a2
    rw [a3] at e3
    have e0 := (t2 _ a1).1
    have hb8 := (wf_wb hw).2.2 _ a1
    by_cases h6 : T.2.1 (axi T.2.1 T.1 k) = 6
    · refine ⟨1, go _ ?_, Or.inr ⟨rfl, hlt, h6⟩⟩
      rw [bk_Co_isSome_0]
      refine wi_o (by rw [t1]; exact sp_bf (nbd hlt (by omega))) (wi_f (by decide) (wi_g (tq_vin hk (by omega)) ?_))
      simp only [ia, tq_nc (show k < 2147483648 by omega), e3, tq_nc (show axi T.2.1 T.1 k < 2147483648 by omega)]
      exact wi_g (tq_vin (by omega) (by omega)) (wi_f (fun q => q (by rw [e0, h6]; rfl)) (wi_s (tq_wp_rt rfl)))
    · refine ⟨0, go _ ?_, Or.inl ⟨rfl, fun q => h6 q.2⟩⟩
      rw [bk_Co_isSome_0]
      refine wi_o (by rw [t1]; exact sp_bf (nbd hlt (by omega))) (wi_f (by decide) (wi_g (tq_vin hk (by omega)) ?_))
      simp only [ia, tq_nc (show k < 2147483648 by omega), e3, tq_nc (show axi T.2.1 T.1 k < 2147483648 by omega)]
      exact wi_g (tq_vin (by omega) (by omega)) (wi_t (fun q => h6 ((tq_eq (b := 6) (by omega) (by omega)).mp (by rw [← e0]; exact q))) (wi_s (tq_wp_rt rfl)))
  · refine ⟨0, go _ ?_, Or.inl ⟨rfl, fun q => hlt q.1⟩⟩
    rw [bk_Co_isSome_0]
    exact wi_o (by rw [t1]; exact sp_bt (Or.inr ((tq_le (by omega) (by omega)).mpr (by omega)))) (wi_t rfl (wi_s (tq_wp_rt rfl)))
theorem sp_roleOfSome {T : ab_T} {σ : tq_S} (hw : wfT T) (hT : cTT T σ) {k : Nat} (hk : k < 10) (hs : k < ac T.2.1 T.1 ∧ T.2.1 (axi T.2.1 T.1 k) = 6) : tq_fI st_Co_roleOfSome (0, [nI k], [], σ) = some (nI (T.2.2.1 (axi T.2.1 T.1 k)), σ) := by
  have h80 := hw.2.1
  obtain ⟨t0, t1, t2, t3, t4, t5, t6⟩ := id hT
  obtain ⟨a1, a2, a3⟩ := axi_ok hs.1
  have e3 := t3 _ a1 a2
  rw [a3] at e3
  obtain ⟨z, z1, z2⟩ := sp_isSome hw hT hk
  have hz : z = 1 := z2.elim (fun q => absurd hs q.2) (fun q => q.1)
  subst hz
  refine tq_fI_e (tq_at (by decide) ?_)
  show tq_wo (bk_Co_roleOfSome_0 [nI k] [] σ) _
  rw [bk_Co_roleOfSome_0]
  refine wi_o z1 (wi_f (by decide) (wi_g (tq_vin hk (by omega)) ?_))
  simp only [ia, tq_nc (show k < 2147483648 by omega), e3, tq_nc (show axi T.2.1 T.1 k < 2147483648 by omega)]
  exact wi_g (tq_vin (by omega) (by omega)) (wi_s (tq_wp_rt (by rw [(t2 _ a1).2.1])))
/-- atom k is a SOME s A with s such -/
def smR (T : ab_T) (P : Nat → Prop) (k : Nat) : Prop := ∃ c, c < T.1 ∧ T.2.1 c = 6 ∧ ac T.2.1 c = k ∧ P (T.2.2.1 c)
theorem smR_iff {T : ab_T} {P : Nat → Prop} {k : Nat} : smR T P k ↔ (k < ac T.2.1 T.1 ∧ T.2.1 (axi T.2.1 T.1 k) = 6) ∧ P (T.2.2.1 (axi T.2.1 T.1 k)) := by
  constructor
  · rintro ⟨c, h1, h2, rfl, h4⟩
    have ha : isAt (T.2.1 c) = true := by rw [h2]; rfl
    rw [axi_eq h1 ha]
    exact ⟨⟨ac_at h1 ha, h2⟩, h4⟩
  · rintro ⟨⟨h1, h2⟩, h3⟩
    obtain ⟨a1, a2, a3⟩ := axi_ok h1
    exact ⟨_, a1, h2, a3, h3⟩
/-- own and watched atoms of each role -/
def cO (T : ab_T) (rl : Nat → Nat → Bool) (σ : tq_S) : Prop := ∀ r, r < 4 → ∀ k, k < 32 → (bI (σ.1 9 r) k = true ↔ smR T (fun s => s = r) k) ∧ (bI (σ.1 10 r) k = true ↔ smR T (fun s => Und rl r s) k)
