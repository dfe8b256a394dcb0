/-! the reference: size, atomOf, isHeld, weigh -/
theorem tq_sm : ∀ k, k < 32 → ((nI k &&& 31).toBitVec.smod 32).toNat = k := by decide +kernel
theorem rb {n k : Nat} (hn : n < 2147483648) (hk : k < 32) : (nI n >>> (nI k &&& 31)) &&& 1 = iB (n.testBit k) := by
  rw [pk_shrN (by omega) _ k (tq_sm k hk), pk_andN (Nat.lt_of_le_of_lt (Nat.div_le_self _ _) (by omega)) 1 (by decide), Nat.testBit_eq_decide_div_mod_eq]
  have : n / 2 ^ k % 2 ^ 1 = 0 ∨ n / 2 ^ k % 2 ^ 1 = 1 := by
    have := Nat.mod_lt (n / 2 ^ k) (show 0 < 2 ^ 1 by decide)
    omega
  rcases this with h | h
  · rw [h]; rfl
  · rw [h]; rfl
theorem jz_i (b : Bool) : jz (iB b) = iB b := by cases b <;> decide
theorem iB_t {b : Bool} (h : b = true) : iB b = 1 := by rw [h]; rfl
theorem iB_f {b : Bool} (h : b = false) : iB b = 0 := by rw [h]; rfl
theorem iB_01 (b : Bool) : iB b = 0 ∨ iB b = 1 := by cases b; exact Or.inl rfl; exact Or.inr rfl
theorem iB_z {b : Bool} : iB b = 0 ↔ b = false := by cases b <;> decide
theorem iB_o {b : Bool} : iB b = 1 ↔ b = true := by cases b <;> decide
theorem iB_j {b c : Bool} : iB b = iB c ↔ b = c := by cases b <;> cases c <;> decide
theorem tq_80 (t c : Nat) : (80 : Int32) * nI t + nI c = nI (80 * t + c) := by
  rw [show (80 : Int32) = nI 80 from rfl, pk_mul, nI_add]
theorem mo_size {T : ab_T} {σ : tq_S} (hw : wfT T) (hT : mTT T σ) : tq_fI st_Mo_size (0, [], [], σ) = some (nI (2 ^ aN T), σ) := by
  have hm : aN T ≤ 10 := hw.2.2.1
  refine tq_fI_e (tq_at (by decide) ?_)
  show tq_wo (bk_Mo_size_0 [] [] σ) _
  rw [bk_Mo_size_0, hT.2.1]
  exact wi_s (tq_wp_rt (by rw [tq_pw (aN T) (by omega)]))
theorem mo_at {T : ab_T} {σ : tq_S} (hT : mTT T σ) {k : Nat} (hk : k < aN T) : σ.1 20 k = nI (axi T.2.1 T.1 k) := by
  obtain ⟨a1, a2, a3⟩ := axi_ok hk
  have := hT.2.2.2 _ a1 a2
  rw [a3] at this
  exact this
theorem mo_atomOf {T : ab_T} {σ : tq_S} (hw : wfT T) (hT : mTT T σ) {c : Nat} (hc : c < T.1) (ha : isAt (T.2.1 c) = true) : tq_fI st_Mo_atomOf (0, [nI c], [], σ) = some (nI (ac T.2.1 c), σ) := by
  have h80 := hw.2.1
  have hm : aN T ≤ 10 := hw.2.2.1
  have hlt : ac T.2.1 c < aN T := ac_at hc ha
  refine tq_fI_e (tq_at (by decide) ?_)
  show tq_wo (bk_Mo_atomOf_0 [nI c] [] σ) _
  rw [bk_Mo_atomOf_0]
  refine wi_s ?_
  refine tq_ind 2 (fun k : Nat => ([nI c, nI k], [], σ)) (fun k => k ≤ ac T.2.1 c) (fun k => ac T.2.1 c - k) ?_ 0 (Nat.zero_le _)
  rintro k hk ih
  refine tq_at (by decide) ?_
  show tq_wo (bk_Mo_atomOf_2 [nI c, nI k] [] σ) _
  rw [bk_Mo_atomOf_2]
  refine wi_g (tq_vin (by omega) (by omega)) ?_
  simp only [ia, tq_nc (show k < 2147483648 by omega), mo_at hT (show k < aN T by omega)]
  obtain ⟨a1, a2, a3⟩ := axi_ok (K := T.2.1) (n := T.1) (show k < aN T by omega)
  refine wi_c (fun q => wi_s (tq_wp_rt ?_)) (fun q => wi_l (wi_s ?_))
  · have := (tq_eq (by omega) (by omega)).mp q
    rw [this] at a3
    rw [a3]
  · rw [tq_inc]
    have : k ≠ ac T.2.1 c := by
      intro e
      rw [e, axi_eq hc ha] at q
      exact q rfl
    exact ih (k + 1) (by omega) (by omega)
theorem mo_isHeld {σ : tq_S} {t c : Nat} (ht : t < 1024) (hc : c < 80) {b : Bool} (h : σ.1 29 (80 * t + c) = iB b) : tq_fI st_Mo_isHeld (0, [nI t, nI c], [], σ) = some (iB b, σ) := by
  refine tq_fI_e (tq_at (by decide) ?_)
  show tq_wo (bk_Mo_isHeld_0 [nI t, nI c] [] σ) _
  rw [bk_Mo_isHeld_0, tq_80]
  simp only [ia, tq_nc (show 80 * t + c < 2147483648 by omega), h]
  exact wi_g (tq_vin (by omega) (by omega)) (wi_b (iB_01 b) (wi_s (tq_wp_rt rfl)))
theorem vT_step {T : ab_T} (hw : wfT T) {c : Nat} (hc : c < T.1) (τ : Nat) :
    (T.2.1 c = 0 ∧ vT T c τ = true) ∨ (T.2.1 c = 1 ∧ vT T c τ = false) ∨ (T.2.1 c = 2 ∧ vT T c τ = τ.testBit (ac T.2.1 c)) ∨ (T.2.1 c = 3 ∧ T.2.2.1 c < c ∧ vT T c τ = !(vT T (T.2.2.1 c) τ)) ∨
    (T.2.1 c = 4 ∧ T.2.2.1 c < c ∧ T.2.2.2 c < c ∧ vT T c τ = (vT T (T.2.2.1 c) τ && vT T (T.2.2.2 c) τ)) ∨ (T.2.1 c = 5 ∧ T.2.2.1 c < c ∧ T.2.2.2 c < c ∧ vT T c τ = (vT T (T.2.2.1 c) τ || vT T (T.2.2.2 c) τ)) ∨
    (T.2.1 c = 6 ∧ vT T c τ = τ.testBit (ac T.2.1 c)) ∨ (T.2.1 c = 7 ∧ fd T.2.1 T.2.2.1 T.2.2.2 6 (T.2.2.1 c) (fd T.2.1 T.2.2.1 T.2.2.2 3 (T.2.2.2 c) 0 T.1) T.1 < c ∧ fd T.2.1 T.2.2.1 T.2.2.2 3 (T.2.2.2 c) 0 T.1 < c ∧ vT T c τ = !(vT T (fd T.2.1 T.2.2.1 T.2.2.2 6 (T.2.2.1 c) (fd T.2.1 T.2.2.1 T.2.2.2 3 (T.2.2.2 c) 0 T.1) T.1) τ)) := by
  obtain ⟨h2, h80, hac, h0, h1, hall⟩ := hw
  have old : ∀ d, d < c → ve T.2.1 T.2.2.1 T.2.2.2 τ c d = vT T d τ := fun d hd => (ve_stable hd (by omega)).symm
  have e0 : vT T c τ = ve T.2.1 T.2.2.1 T.2.2.2 τ (c + 1) c := ve_stable (by omega) (by omega)
  conv at e0 => rhs; unfold ve
  rw [if_pos rfl] at e0
  rw [e0]
  by_cases c2 : c < 2
  · have : c = 0 ∨ c = 1 := by omega
    rcases this with e | e
    · rw [e, h0.1]; exact Or.inl ⟨rfl, rfl⟩
    · rw [e, h1.1]; exact Or.inr (Or.inl ⟨rfl, rfl⟩)
  · rcases hall c (by omega) hc with h | h | h | h | h | h
    · rw [h.1]; exact Or.inr (Or.inr (Or.inl ⟨rfl, rfl⟩))
    · rw [h.1]; exact Or.inr (Or.inr (Or.inr (Or.inl ⟨rfl, h.2.1, by rw [← old _ h.2.1]; rfl⟩)))
    · rw [h.1]; exact Or.inr (Or.inr (Or.inr (Or.inr (Or.inl ⟨rfl, h.2.1, h.2.2, by rw [← old _ h.2.1, ← old _ h.2.2]; rfl⟩))))
    · rw [h.1]; exact Or.inr (Or.inr (Or.inr (Or.inr (Or.inr (Or.inl ⟨rfl, h.2.1, h.2.2, by rw [← old _ h.2.1, ← old _ h.2.2]; rfl⟩)))))
    · rw [h.1]; exact Or.inr (Or.inr (Or.inr (Or.inr (Or.inr (Or.inr (Or.inl ⟨rfl, rfl⟩))))))
    · obtain ⟨k1, k2, k3, k4, k5⟩ := h
      have s1 : fd T.2.1 T.2.2.1 T.2.2.2 3 (T.2.2.2 c) 0 T.1 = fd T.2.1 T.2.2.1 T.2.2.2 3 (T.2.2.2 c) 0 c := ff_stable k4 (by omega)
      have s2 : fd T.2.1 T.2.2.1 T.2.2.2 6 (T.2.2.1 c) (fd T.2.1 T.2.2.1 T.2.2.2 3 (T.2.2.2 c) 0 c) T.1 = fd T.2.1 T.2.2.1 T.2.2.2 6 (T.2.2.1 c) (fd T.2.1 T.2.2.1 T.2.2.2 3 (T.2.2.2 c) 0 c) c := ff_stable k5 (by omega)
      rw [s1, s2, k1]
      exact Or.inr (Or.inr (Or.inr (Or.inr (Or.inr (Or.inr (Or.inr ⟨rfl, k5, k4, by rw [← old _ k5]; rfl⟩))))))
theorem mo_weigh {T : ab_T} {σ : tq_S} (hw : wfT T) (hT : mTT T σ) {t c : Nat} (ht : t < 1024) (hc : c < T.1) (hh : ∀ d, d < c → σ.1 29 (80 * t + d) = iB (vT T d t)) : tq_fI st_Mo_weigh (0, [nI t, nI c], [], σ) = some (iB (vT T c t), σ) := by
  have h80 := hw.2.1
  have hm : aN T ≤ 10 := hw.2.2.1
  obtain ⟨t0, t1, t2, t3⟩ := id hT
  obtain ⟨e17, e18, e19⟩ := t2 c hc
  have wbT := wf_wb hw
  obtain ⟨b1, b2, b3, b4⟩ := wbT.2.2 c hc
  have vi : vp_in (nI c) 80 := tq_vin (by omega) (by omega)
  refine tq_fI_e (tq_at (by decide) ?_)
  show tq_wo (bk_Mo_weigh_0 [nI t, nI c] [] σ) _
  rw [bk_Mo_weigh_0]
  simp only [ia, tq_nc (show c < 2147483648 by omega), e17, e18, e19]
  refine wi_g vi (wi_l (wi_g vi (wi_l (wi_g vi (wi_l ?_)))))
  have held : ∀ d, d < c → tq_fI st_Mo_isHeld (0, [nI t, nI d], [], σ) = some (iB (vT T d t), σ) := fun d hd => mo_isHeld ht (by omega) (hh d hd)
  have atm : isAt (T.2.1 c) = true → tq_fI st_Mo_atomOf (0, [nI c], [], σ) = some (nI (ac T.2.1 c), σ) ∧ ac T.2.1 c < 32 := fun ha => ⟨mo_atomOf hw hT hc ha, by
    have := ac_at (K := T.2.1) hc ha
    have : ac T.2.1 c < aN T := this
    omega⟩
  rcases vT_step hw hc t with ⟨k, v⟩ | ⟨k, v⟩ | ⟨k, v⟩ | ⟨k, f, v⟩ | ⟨k, f, g, v⟩ | ⟨k, f, g, v⟩ | ⟨k, v⟩ | ⟨k, f, g, v⟩
  · rw [k, v]
    exact wi_t rfl (wi_s (tq_wp_rt rfl))
  · rw [k, v]
    exact wi_f (by decide) (wi_t rfl (wi_s (tq_wp_rt rfl)))
  · obtain ⟨a1, a2⟩ := atm (by rw [k]; rfl)
    rw [k, v]
    refine wi_f (by decide) (wi_f (by decide) (wi_t rfl (wi_o a1 ?_)))
    rw [rb (by omega) a2]
    cases t.testBit (ac T.2.1 c) with
    | true => exact wi_f (fun q => q rfl) (wi_s (tq_wp_rt rfl))
    | false => exact wi_t (by decide) (wi_s (tq_wp_rt rfl))
  · rw [k, v]
    refine wi_f (by decide) (wi_f (by decide) (wi_f (by decide) (wi_t rfl (wi_o (held _ f) ?_))))
    cases vT T (T.2.2.1 c) t with
    | true => exact wi_t (by decide) (wi_s (tq_wp_rt rfl))
    | false => exact wi_f (fun q => q rfl) (wi_s (tq_wp_rt rfl))
  · rw [k, v]
    refine wi_f (by decide) (wi_f (by decide) (wi_f (by decide) (wi_f (by decide) (wi_t rfl (wi_o (held _ f) ?_)))))
    cases vT T (T.2.2.1 c) t with
    | false => exact wi_t rfl (wi_s (tq_wp_rt rfl))
    | true =>
      refine wi_f (by decide) (wi_o (held _ g) ?_)
      cases vT T (T.2.2.2 c) t with
      | false => exact wi_t rfl (wi_s (tq_wp_rt rfl))
      | true => exact wi_f (by decide) (wi_s (tq_wp_rt rfl))
  · rw [k, v]
    refine wi_f (by decide) (wi_f (by decide) (wi_f (by decide) (wi_f (by decide) (wi_f (by decide) (wi_t rfl (wi_o (held _ f) ?_))))))
    cases vT T (T.2.2.1 c) t with
    | true => exact wi_t (by decide) (wi_s (tq_wp_rt rfl))
    | false =>
      refine wi_f (fun q => q rfl) (wi_o (held _ g) ?_)
      cases vT T (T.2.2.2 c) t with
      | false => exact wi_t rfl (wi_s (tq_wp_rt rfl))
      | true => exact wi_f (by decide) (wi_s (tq_wp_rt rfl))
  · obtain ⟨a1, a2⟩ := atm (by rw [k]; rfl)
    rw [k, v]
    refine wi_f (by decide) (wi_f (by decide) (wi_f (by decide) (wi_f (by decide) (wi_f (by decide) (wi_f (by decide) (wi_t rfl (wi_o a1 ?_)))))))
    rw [rb (by omega) a2]
    cases t.testBit (ac T.2.1 c) with
    | true => exact wi_f (fun q => q rfl) (wi_s (tq_wp_rt rfl))
    | false => exact wi_t (by decide) (wi_s (tq_wp_rt rfl))
  · rw [k, v]
    refine wi_f (by decide) (wi_f (by decide) (wi_f (by decide) (wi_f (by decide) (wi_f (by decide) (wi_f (by decide) (wi_f (by decide) (wi_t rfl (wi_o (sp_Mo_find wbT t0 t2 (k := 3) (b := 0) (by omega) (by omega) (by omega)) (wi_o (sp_Mo_find wbT t0 t2 (k := 6) (by omega) (by omega) (by omega)) (wi_o (held _ f) ?_))))))))))
    cases vT T (fd T.2.1 T.2.2.1 T.2.2.2 6 (T.2.2.1 c) (fd T.2.1 T.2.2.1 T.2.2.2 3 (T.2.2.2 c) 0 T.1) T.1) t with
    | true => exact wi_t (by decide) (wi_s (tq_wp_rt rfl))
    | false => exact wi_f (fun q => q rfl) (wi_s (tq_wp_rt rfl))
