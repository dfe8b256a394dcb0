/-! Things: the small pieces of the search -/
theorem sp_watched {σ : tq_S} {r : Nat} (hr : r < 4) : tq_fI st_Go_watched (0, [nI r], [], σ) = some (σ.1 10 r, σ) := by
  refine tq_fI_e (tq_at (by decide) ?_)
  show tq_wo (bk_Go_watched_0 [nI r] [] σ) _
  rw [bk_Go_watched_0]
  simp only [ia, tq_nc (show r < 2147483648 by omega)]
  exact wi_o (sp_bf (n := 4) (nbd hr (by omega))) (wi_f (by decide) (wi_g (tq_vin hr (by omega)) (wi_s (tq_wp_rt rfl))))
theorem sp_gword {σ : tq_S} {w : Nat} (hw : w < 16) : tq_fL st_Go_word (0, [nI w], [], σ) = some (σ.2.1 2 w, σ) := by
  refine tq_fL_e (tq_at (by decide) ?_)
  show tq_wo (bk_Go_word_0 [nI w] [] σ) _
  rw [bk_Go_word_0]
  simp only [la, tq_nc (show w < 2147483648 by omega)]
  exact wi_o (sp_bf (n := 16) (nbd hw (by omega))) (wi_f (by decide) (wi_g (tq_vin hw (by omega)) (wi_s (tq_wp_rt rfl))))
theorem sp_version (σ : tq_S) : tq_fI st_Go_version (0, [], [], σ) = some (σ.2.2 6, σ) := by
  refine tq_fI_e (tq_at (by decide) ?_)
  show tq_wo (bk_Go_version_0 [] [] σ) _
  rw [bk_Go_version_0]
  exact wi_s (tq_wp_rt rfl)
theorem sp_innerWord {σ : tq_S} {k w : Nat} (hk : k < 10) (hw : w < 16) : tq_fL st_Co_innerWord (0, [nI k, nI w], [], σ) = some (σ.2.1 1 (k * 16 + w), σ) := by
  refine tq_fL_e (tq_at (by decide) ?_)
  show tq_wo (bk_Co_innerWord_0 [nI k, nI w] [] σ) _
  rw [bk_Co_innerWord_0]
  simp only [la, tq_m16, nI_add]
  rw [tq_nc (by omega)]
  exact wi_f (tq_n0 (by omega)) (wi_f (nI_ge hk (by decide)) (wi_f (tq_n0 (by omega)) (wi_f (nI_ge hw (by decide)) (wi_g (tq_vin (by omega) (by omega)) (wi_s (tq_wp_rt rfl))))))
theorem bI_shr {x : Int32} {k i : Nat} (hk : k < 32) (h : i + k < 32) : bI (x >>> (nI k &&& 31)) i = bI x (i + k) := by
  unfold bI
  rw [Int32.toBitVec_shiftRight, BitVec.sshiftRight_eq', tq_sm k hk, BitVec.getLsbD_sshiftRight, if_pos (by omega), Nat.add_comm]
  simp
  intro _
  omega
theorem bI_shl {x : Int32} {k i : Nat} (hk : k < 32) (h : i < 32) : bI (x <<< (nI k &&& 31)) i = (decide (k ≤ i) && bI x (i - k)) := by
  unfold bI
  rw [Int32.toBitVec_shiftLeft, BitVec.shiftLeft_eq', tq_sm k hk, BitVec.getLsbD_shiftLeft]
  by_cases e : i < k
  · have : ¬ k ≤ i := by omega
    simp [e, this, h]
  · have : k ≤ i := by omega
    simp [e, this, h]
theorem bI_not (x : Int32) {k : Nat} (h : k < 32) : bI (x ^^^ (-1)) k = !(bI x k) := by
  simp only [bI, Int32.toBitVec_xor, BitVec.getLsbD_xor]
  have : (-1 : Int32).toBitVec.getLsbD k = true := by
    have e : (-1 : Int32).toBitVec = BitVec.allOnes 32 := by decide
    rw [e, BitVec.getLsbD_allOnes]; simp [h]
  rw [this]; simp
/-- what the search stands on: links, insides, the number of words -/
def sK (lk : Nat → Nat → Nat → Bool) (nu : Nat → Nat → Bool) (W : Nat) (σ : tq_S) : Prop :=
  σ.2.2 9 = nI W ∧ W ≤ 16 ∧ (∀ i j, i < 5 → j < 5 → ∀ k, k < 32 → bI (σ.1 14 (i * 5 + j)) k = lk i j k) ∧ (∀ u, u < 1024 → ∀ k, k < 32 → bI (σ.1 4 u) k = nu u k) ∧
  (∀ i j k, i < 5 → j < 5 → k < 32 → lk i j k = true → k < 10 ∧ ∀ w, w < 16 → ∀ n, n < 64 → bL (σ.2.1 1 (k * 16 + w)) n = nu (w * 64 + n) k)
theorem sK_fr {lk : Nat → Nat → Nat → Bool} {nu : Nat → Nat → Bool} {W : Nat} {σ σ' : tq_S} (h : sK lk nu W σ) (e14 : σ'.1 14 = σ.1 14) (e4 : σ'.1 4 = σ.1 4) (l1 : σ'.2.1 1 = σ.2.1 1) (f9 : σ'.2.2 9 = σ.2.2 9) : sK lk nu W σ' := by
  obtain ⟨h1, h2, h3, h4, h5⟩ := h
  exact ⟨by rw [f9]; exact h1, h2, fun i j hi hj k hk => by rw [e14]; exact h3 i j hi hj k hk, fun u hu k hk => by rw [e4]; exact h4 u hu k hk, fun i j k hi hj hk q => ⟨(h5 i j k hi hj hk q).1, fun w hw n hn => by rw [l1]; exact (h5 i j k hi hj hk q).2 w hw n hn⟩⟩
def lft (σ : tq_S) (L i τ : Nat) : Bool := bL (σ.2.1 5 (L * 80 + i * 16 + τ / 64)) (τ % 64)
theorem lf_w {σ : tq_S} {L i w n : Nat} (hn : n < 64) : lft σ L i (w * 64 + n) = bL (σ.2.1 5 (L * 80 + i * 16 + w)) n := by
  unfold lft
  rw [(tq_dm hn).1, (tq_dm hn).2]
/-- Things.seeingThemselves -/
theorem sp_seeing {nu : Nat → Nat → Bool} {σ : tq_S} {w : Nat} (hw : w < 16) (y : Int64) (a : Int32) (ha : ∀ k, k < 32 → bI a k = true → k < 10 ∧ ∀ n, n < 64 → bL (σ.2.1 1 (k * 16 + w)) n = nu (w * 64 + n) k) :
    ∃ y', tq_fL st_Th_seeingThemselves (0, [a, nI w], [y], σ) = some (y', σ) ∧ ∀ n, n < 64 → (bL y' n = true ↔ bL y n = true ∧ ∀ k, k < 10 → bI a k = true → nu (w * 64 + n) k = true → (w * 64 + n).testBit k = true) := by
  obtain ⟨y', σ', h1, rfl, h2⟩ := tq_fL_of (st := st_Th_seeingThemselves) (c := (0, [a, nI w], [y], σ)) (P := fun y' σ' => σ' = σ ∧ ∀ n, n < 64 → (bL y' n = true ↔ bL y n = true ∧ ∀ k, k < 10 → bI a k = true → nu (w * 64 + n) k = true → (w * 64 + n).testBit k = true)) (by
    refine tq_wpQ (fun Q hQ => tq_at (by decide) ?_)
    show tq_wo (bk_Th_seeingThemselves_0 [a, nI w] [y] σ) _
    rw [bk_Th_seeingThemselves_0]
    refine wi_s ?_
    refine tq_ind 6 (fun p : Nat × Int64 => ([a, nI w, nI p.1], [p.2], σ)) (fun p => p.1 ≤ 10 ∧ ∀ n, n < 64 → (bL p.2 n = true ↔ bL y n = true ∧ ∀ k, k < p.1 → bI a k = true → nu (w * 64 + n) k = true → (w * 64 + n).testBit k = true)) (fun p => 10 - p.1) ?_ (0, y) ⟨Nat.zero_le _, fun n hn => ⟨fun q => ⟨q, fun k hk => absurd hk (Nat.not_lt_zero _)⟩, fun q => q.1⟩⟩
    rintro ⟨k, z⟩ ⟨hk, hz⟩ ih
    dsimp only at hk hz ih ⊢
    refine tq_at (by decide) ?_
    show tq_wo (bk_Th_seeingThemselves_6 [a, nI w, nI k] [z] σ) _
    rw [bk_Th_seeingThemselves_6]
    refine wi_c (fun q => wi_s (tq_wp_rt (hQ _ ⟨_, _, rfl, rfl, ?_⟩))) (fun q => ?_)
    · have : k = 10 := by
        have := (tq_le (a := 10) (b := k) (by omega) (by omega)).mp q
        omega
      subst this
      exact hz
    · have hk10 : k < 10 := tq_nle (a := 10) (b := k) (by omega) (by omega) q
      refine wi_c (fun q => wi_s (tq_wp_rt (hQ _ ⟨_, _, rfl, rfl, ?_⟩))) (fun _ => ?_)
      · rw [lg_cmp0] at q
        subst q
        intro n hn
        refine ⟨fun q => absurd q (by rw [bL_0]; decide), fun q => ?_⟩
        exact (hz n hn).mpr ⟨q.1, fun j hj => q.2 j (by omega)⟩
      · have hb := sp_hasBit a.toInt64 (show k < 64 by omega) σ
        rw [bL_i (show k < 32 by omega)] at hb
        refine wi_o hb ?_
        cases hv : bI a k with
        | false =>
          refine wi_t rfl (wi_l (wi_s ?_))
          rw [tq_inc]
          refine ih (k + 1, z) ⟨by omega, fun n hn => (hz n hn).trans ⟨fun q => ⟨q.1, fun j hj hj2 => ?_⟩, fun q => ⟨q.1, fun j hj => q.2 j (by dsimp only; omega)⟩⟩⟩ (by dsimp only; omega)
          dsimp only at hj
          by_cases e : j = k
          · rw [e, hv] at hj2; cases hj2
          · exact q.2 j (by omega) hj2
        | true =>
          obtain ⟨b, b1, b2⟩ := sp_atomWord hk10 hw σ
          refine wi_f (by decide) (wi_o b1 (wi_o (sp_innerWord hk10 hw) (wi_l (wi_l (wi_s ?_)))))
          rw [tq_inc]
          refine ih (k + 1, _) ⟨by omega, fun n hn => ?_⟩ (by dsimp only; omega)
          dsimp only
          rw [bL_and, bL_or, bL_not _ hn, b2 n hn, (ha k (by omega) hv).2 n hn, Bool.and_eq_true_iff, hz n hn]
          constructor
          · rintro ⟨⟨q1, q2⟩, q3⟩
            refine ⟨q1, fun j hj hj2 hj3 => ?_⟩
            by_cases e : j = k
            · subst e
              rw [hj3] at q3
              simpa using q3
            · exact q2 j (by omega) hj2 hj3
          · rintro ⟨q1, q2⟩
            refine ⟨⟨q1, fun j hj => q2 j (by omega)⟩, ?_⟩
            cases hn2 : nu (w * 64 + n) k with
            | false => simp
            | true => rw [q2 k (by omega) hv hn2]; rfl)
  exact ⟨y', h1, h2⟩
/-- Things.fitting -/
theorem sp_fitting {nu : Nat → Nat → Bool} {σ : tq_S} {w : Nat} (hw : w < 16) (y : Int64) (a b : Int32) (ha : ∀ k, k < 32 → bI a k = true → k < 10) (hb : ∀ k, k < 32 → bI b k = true → k < 10 ∧ ∀ n, n < 64 → bL (σ.2.1 1 (k * 16 + w)) n = nu (w * 64 + n) k) :
    ∃ y', tq_fL st_Th_fitting (0, [a, b, nI w], [y], σ) = some (y', σ) ∧ ∀ n, n < 64 → (bL y' n = true ↔ bL y n = true ∧ ∀ k, k < 10 → (bI a k = true → (w * 64 + n).testBit k = true) ∧ (bI b k = true → nu (w * 64 + n) k = false)) := by
  obtain ⟨y', σ', h1, rfl, h2⟩ := tq_fL_of (st := st_Th_fitting) (c := (0, [a, b, nI w], [y], σ)) (P := fun y' σ' => σ' = σ ∧ ∀ n, n < 64 → (bL y' n = true ↔ bL y n = true ∧ ∀ k, k < 10 → (bI a k = true → (w * 64 + n).testBit k = true) ∧ (bI b k = true → nu (w * 64 + n) k = false))) (by
    refine tq_wpQ (fun Q hQ => tq_at (by decide) ?_)
    show tq_wo (bk_Th_fitting_0 [a, b, nI w] [y] σ) _
    rw [bk_Th_fitting_0]
    refine wi_l (wi_s ?_)
    refine tq_ind 12 (fun p : Nat × Int64 => ([a, b, nI w, a ||| b, nI p.1], [p.2], σ)) (fun p => p.1 ≤ 10 ∧ ∀ n, n < 64 → (bL p.2 n = true ↔ bL y n = true ∧ ∀ k, k < p.1 → (bI a k = true → (w * 64 + n).testBit k = true) ∧ (bI b k = true → nu (w * 64 + n) k = false))) (fun p => 10 - p.1) ?_ (0, y) ⟨Nat.zero_le _, fun n hn => ⟨fun q => ⟨q, fun k hk => absurd hk (Nat.not_lt_zero _)⟩, fun q => q.1⟩⟩
    rintro ⟨k, z⟩ ⟨hk, hz⟩ ih
    dsimp only at hk hz ih ⊢
    refine tq_at (by decide) ?_
    show tq_wo (bk_Th_fitting_12 [a, b, nI w, a ||| b, nI k] [z] σ) _
    rw [bk_Th_fitting_12]
    refine wi_c (fun q => wi_s (tq_wp_rt (hQ _ ⟨_, _, rfl, rfl, ?_⟩))) (fun q => ?_)
    · have : k = 10 := by
        have := (tq_le (a := 10) (b := k) (by omega) (by omega)).mp q
        omega
      subst this
      exact hz
    · have hk10 : k < 10 := tq_nle (a := 10) (b := k) (by omega) (by omega) q
      refine wi_c (fun q => wi_s (tq_wp_rt (hQ _ ⟨_, _, rfl, rfl, ?_⟩))) (fun _ => ?_)
      · rw [lg_cmp0] at q
        subst q
        intro n hn
        refine ⟨fun q => absurd q (by rw [bL_0]; decide), fun q => ?_⟩
        exact (hz n hn).mpr ⟨q.1, fun j hj => q.2 j (by omega)⟩
      · refine wi_c (fun q => wi_s (tq_wp_rt (hQ _ ⟨_, _, rfl, rfl, fun n hn => (hz n hn).trans ⟨fun q2 => ⟨q2.1, fun j hj => ?_⟩, fun q2 => ⟨q2.1, fun j hj => q2.2 j (by omega)⟩⟩⟩))) (fun _ => ?_)
        · by_cases e : j < k
          · exact q2.2 j e
          · have hz0 := bI_shr (x := a ||| b) (k := k) (i := j - k) (by omega) (by omega)
            rw [q, bI_0, show j - k + k = j by omega, bI_or] at hz0
            have hz1 : bI a j = false ∧ bI b j = false := by
              cases h1 : bI a j <;> cases h2 : bI b j <;> simp [h1, h2] at hz0 ⊢
            exact ⟨fun q => (by rw [hz1.1] at q; cases q), fun q => by rw [hz1.2] at q; cases q⟩
        · -- the second half
          have half : ∀ z' : Int64, (∀ n, n < 64 → (bL z' n = true ↔ bL z n = true ∧ (bI a k = true → (w * 64 + n).testBit k = true))) → tq_wp st_Th_fitting Q (60, [a, b, nI w, a ||| b, nI k], [z'], σ) := by
            intro z' hz'
            have hbb := sp_hasBit b.toInt64 (show k < 64 by omega) σ
            rw [bL_i (show k < 32 by omega)] at hbb
            refine tq_at (by decide) ?_
            show tq_wo (bk_Th_fitting_60 [a, b, nI w, a ||| b, nI k] [z'] σ) _
            rw [bk_Th_fitting_60]
            refine wi_o hbb ?_
            have fin : ∀ z'' : Int64, (∀ n, n < 64 → (bL z'' n = true ↔ bL z' n = true ∧ (bI b k = true → nu (w * 64 + n) k = false))) → tq_wp st_Th_fitting Q (12, [a, b, nI w, a ||| b, nI k + 1], [z''], σ) := by
              intro z'' hz''
              rw [tq_inc]
              refine ih (k + 1, z'') ⟨by omega, fun n hn => ?_⟩ (by dsimp only; omega)
              dsimp only
              rw [hz'' n hn, hz' n hn, hz n hn]
              constructor
              · rintro ⟨⟨⟨q1, q2⟩, q3⟩, q4⟩
                refine ⟨q1, fun j hj => ?_⟩
                by_cases e : j = k
                · subst e; exact ⟨q3, q4⟩
                · exact q2 j (by omega)
              · rintro ⟨q1, q2⟩
                exact ⟨⟨⟨q1, fun j hj => q2 j (by omega)⟩, (q2 k (by omega)).1⟩, (q2 k (by omega)).2⟩
            cases hv : bI b k with
            | false => exact wi_t rfl (wi_l (wi_s (fin z' (fun n hn => ⟨fun q => ⟨q, fun q2 => by rw [hv] at q2; cases q2⟩, fun q => q.1⟩))))
            | true =>
              refine wi_f (by decide) (wi_o (sp_innerWord hk10 hw) (wi_l (wi_l (wi_s (fin _ (fun n hn => ?_))))))
              rw [bL_and, bL_not _ hn, (hb k (by omega) hv).2 n hn, Bool.and_eq_true_iff, hv]
              simp
          have haa := sp_hasBit a.toInt64 (show k < 64 by omega) σ
          rw [bL_i (show k < 32 by omega)] at haa
          refine wi_o haa ?_
          cases hv : bI a k with
          | false => exact wi_t rfl (wi_s (half z (fun n hn => ⟨fun q => ⟨q, fun q2 => by rw [hv] at q2; cases q2⟩, fun q => q.1⟩)))
          | true =>
            obtain ⟨c, c1, c2⟩ := sp_atomWord hk10 hw σ
            refine wi_f (by decide) (wi_o c1 (wi_l (wi_s (half _ (fun n hn => ?_)))))
            rw [bL_and, c2 n hn, Bool.and_eq_true_iff, hv]
            simp)
  exact ⟨y', h1, h2⟩
theorem tq_m80 (a : Nat) : nI a * 80 = nI (a * 80) := pk_mul a 80
/-- Things.countLeft -/
theorem sp_countLeft {W L i : Nat} {σ : tq_S} (h9 : σ.2.2 9 = nI W) (hW : W ≤ 16) (hL : L < 5) (hi : i < 5) : tq_fI st_Th_countLeft (0, [nI L, nI i], [], σ) = some (nI (cnt (lft σ L i) (W * 64)), σ) := by
  refine tq_fI_e (tq_at (by decide) ?_)
  show tq_wo (bk_Th_countLeft_0 [nI L, nI i] [] σ) _
  rw [bk_Th_countLeft_0]
  refine wi_l (wi_s ?_)
  rw [tq_m80, tq_m16, nI_add]
  refine tq_ind 16 (fun w : Nat => ([nI (L * 80 + i * 16), nI (cnt (lft σ L i) (w * 64)), nI w], [], σ)) (fun w => w ≤ W) (fun w => W - w) ?_ 0 (Nat.zero_le _)
  rintro w hw ih
  refine tq_at (by decide) ?_
  show tq_wo (bk_Th_countLeft_16 [nI (L * 80 + i * 16), nI (cnt (lft σ L i) (w * 64)), nI w] [] σ) _
  rw [bk_Th_countLeft_16, h9]
  refine wi_c (fun q => wi_s (tq_wp_rt ?_)) (fun q => ?_)
  · have : w = W := by
      have := (tq_le (a := W) (b := w) (by omega) (by omega)).mp q
      omega
    subst this
    rfl
  · have hlt : w < W := tq_nle (b := w) (a := W) (by omega) (by omega) q
    simp only [la]
    rw [nI_add, tq_nc (by omega)]
    refine wi_g (tq_vin (by omega) (by omega)) (wi_o (sp_bitCountL _ σ) (wi_l (wi_l (wi_s ?_))))
    rw [tq_inc, nI_add]
    have e : cnt (lft σ L i) (w * 64) + cnt (bL (σ.2.1 5 (L * 80 + i * 16 + w))) 64 = cnt (lft σ L i) ((w + 1) * 64) := by
      rw [show (w + 1) * 64 = w * 64 + 64 by omega, cnt_add]
      congr 1
      exact cnt_congr (fun i hi => (lf_w hi).symm)
    rw [e]
    exact ih (w + 1) (by omega) (by omega)
theorem tq_o5 : ∀ o, o < 32 → ∀ i, i < 5 → bL ((nI o).toInt64) i = o.testBit i := by decide +kernel
/-- Things.mostBound -/
theorem sp_mostBound {W L o : Nat} {σ : tq_S} (h9 : σ.2.2 9 = nI W) (hW : W ≤ 16) (hL : L < 5) (ho : o < 32) (hne : ∃ i, i < 5 ∧ o.testBit i = true) : ∃ t, t < 5 ∧ o.testBit t = true ∧ tq_fI st_Th_mostBound (0, [nI L, nI o], [], σ) = some (nI t, σ) := by
  obtain ⟨r, σ', h1, t, t1, t2, rfl, rfl⟩ := tq_fI_of (st := st_Th_mostBound) (c := (0, [nI L, nI o], [], σ)) (P := fun r σ' => ∃ t, t < 5 ∧ o.testBit t = true ∧ r = nI t ∧ σ' = σ) (by
    refine tq_wpQ (fun Q hQ => tq_at (by decide) ?_)
    show tq_wo (bk_Th_mostBound_0 [nI L, nI o] [] σ) _
    rw [bk_Th_mostBound_0]
    refine wi_s ?_
    refine tq_ind 10 (fun p : Nat × Nat × Nat => ([nI L, nI o, nI p.1, nI p.2.1, nI p.2.2], [], σ)) (fun p => p.1 < 5 ∧ p.2.1 ≤ 1025 ∧ p.2.2 ≤ 5 ∧ (p.2.1 < 1025 → o.testBit p.1 = true) ∧ (p.2.1 = 1025 → ∀ j, j < p.2.2 → o.testBit j = false)) (fun p => 5 - p.2.2) ?_ (0, 1025, 0) ⟨by decide, by decide, by decide, fun q => absurd q (by decide), fun _ j hj => absurd hj (Nat.not_lt_zero _)⟩
    rintro ⟨b, f, i⟩ ⟨hb, hf, hi, h1, h2⟩ ih
    dsimp only at hb hf hi h1 h2 ih ⊢
    refine tq_at (by decide) ?_
    show tq_wo (bk_Th_mostBound_10 [nI L, nI o, nI b, nI f, nI i] [] σ) _
    rw [bk_Th_mostBound_10]
    refine wi_c (fun q => wi_s (tq_wp_rt (hQ _ ⟨_, _, rfl, b, hb, ?_, rfl, rfl⟩))) (fun q => ?_)
    · have : i = 5 := by
        have := (tq_le (a := 5) (b := i) (by omega) (by omega)).mp q
        omega
      subst this
      by_cases e : f < 1025
      · exact h1 e
      · obtain ⟨j, j1, j2⟩ := hne
        rw [h2 (by omega) j j1] at j2; cases j2
    · have hi5 : i < 5 := tq_nle (a := 5) (b := i) (by omega) (by omega) q
      have hbit := sp_hasBit (nI o).toInt64 (show i < 64 by omega) σ
      rw [tq_o5 o ho i hi5] at hbit
      refine wi_o hbit ?_
      cases hv : o.testBit i with
      | false =>
        refine wi_t rfl (wi_t (Int32.le_refl _) (wi_l (wi_s ?_)))
        rw [tq_inc]
        refine ih (b, f, i + 1) ⟨hb, hf, by dsimp only; omega, h1, fun e j hj => ?_⟩ (by dsimp only; omega)
        dsimp only at hj e
        by_cases ej : j = i
        · rw [ej]; exact hv
        · exact h2 e j (by omega)
      | true =>
        have hc := cnt_le (lft σ L i) (W * 64)
        refine wi_f (by decide) (wi_o (sp_countLeft h9 hW hL hi5) ?_)
        refine wi_c (fun q => wi_l (wi_s ?_)) (fun q => wi_l (wi_s ?_))
        · have hle := (tq_le (by omega) (by omega)).mp q
          rw [tq_inc]
          exact ih (b, f, i + 1) ⟨hb, hf, by dsimp only; omega, h1, fun e => by dsimp only at e; omega⟩ (by dsimp only; omega)
        · have hlt := tq_nle (by omega) (by omega) q
          rw [tq_inc]
          exact ih (i, _, i + 1) ⟨hi5, by dsimp only; omega, by dsimp only; omega, fun _ => hv, fun e => by dsimp only at e; omega⟩ (by dsimp only; omega))
  exact ⟨t, t1, t2, h1⟩
