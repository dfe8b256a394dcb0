/-! the subsets of a mask, one after another; Integer.bitCount -/
def nxw (w m s : Nat) : Nat := (s + 2 ^ w - m) % 2 ^ w &&& m
def sE : Nat → Nat → Nat → Nat
  | 0, _, _ => 0
  | w + 1, m, r => if m % 2 = 1 then 2 * sE w (m / 2) (r / 2) + r % 2 else 2 * sE w (m / 2) r
def pcw : Nat → Nat → Nat
  | 0, _ => 0
  | w + 1, m => pcw w (m / 2) + m % 2
theorem b2_and {q b m c : Nat} (hb : b < 2) (hc : c < 2) : (2 * q + b) &&& (2 * m + c) = 2 * (q &&& m) + (b &&& c) := by
  have hbc : b &&& c < 2 := Nat.and_lt_two_pow (n := 1) b hc
  apply Nat.eq_of_testBit_eq
  intro j
  have t : ∀ {x y : Nat}, y < 2 → (2 * x + y).testBit j = if j < 1 then y.testBit j else x.testBit (j - 1) := fun {x y} hy => Nat.testBit_two_pow_mul_add x (i := 1) hy j
  rw [Nat.testBit_and, t hb, t hc, t hbc]
  split
  · rw [Nat.testBit_and]
  · rw [Nat.testBit_and]
theorem sub_split {s m : Nat} (h : s &&& m = s) : (s / 2) &&& (m / 2) = s / 2 ∧ (s % 2) &&& (m % 2) = s % 2 := by
  have e := b2_and (q := s / 2) (b := s % 2) (m := m / 2) (c := m % 2) (by omega) (by omega)
  rw [show 2 * (s / 2) + s % 2 = s by omega, show 2 * (m / 2) + m % 2 = m by omega, h] at e
  have hlt : s % 2 &&& m % 2 < 2 := Nat.and_lt_two_pow (n := 1) _ (by omega)
  omega
theorem sub_join {s m b c : Nat} (h : s &&& m = s) (hb : b < 2) (hc : c < 2) (hbc : b &&& c = b) : (2 * s + b) &&& (2 * m + c) = 2 * s + b := by
  rw [b2_and hb hc, h, hbc]
theorem sE_sub : ∀ w m r, sE w m r &&& m = sE w m r := by
  intro w
  induction w with
  | zero => intro m r; exact Nat.zero_and m
  | succ w ih =>
    intro m r
    unfold sE
    split
    · next h =>
      have := sub_join (ih (m / 2) (r / 2)) (b := r % 2) (c := 1) (by omega) (by omega) (by
        rcases (show r % 2 = 0 ∨ r % 2 = 1 by omega) with q | q <;> rw [q] <;> rfl)
      rw [show 2 * (m / 2) + 1 = m by omega] at this
      exact this
    · next h =>
      have := sub_join (ih (m / 2) r) (b := 0) (c := 0) (by omega) (by omega) rfl
      rw [show 2 * (m / 2) + 0 = m by omega, Nat.add_zero] at this
      exact this
theorem sub_le {s m : Nat} (h : s &&& m = s) : s ≤ m := by rw [← h]; exact Nat.and_le_right
/-- what is left of the complement -/
theorem comp_and : ∀ w m s, m < 2 ^ w → s &&& m = s → (s + 2 ^ w - 1 - m) &&& m = s := by
  intro w
  induction w with
  | zero =>
    intro m s hm h
    have hm0 : m = 0 := by omega
    subst hm0
    have := sub_le h
    rw [Nat.and_zero]; omega
  | succ w ih =>
    intro m s hm h
    obtain ⟨h1, h2⟩ := sub_split h
    have hp : 2 ^ (w + 1) = 2 * 2 ^ w := by rw [Nat.pow_succ]; omega
    have hm2 : m / 2 < 2 ^ w := by omega
    have e := ih (m / 2) (s / 2) hm2 h1
    have hle := sub_le h1
    have hle0 := sub_le h2
    have es : s + 2 ^ (w + 1) - 1 - m = 2 * (s / 2 + 2 ^ w - 1 - m / 2) + (1 + s % 2 - m % 2) := by omega
    conv => lhs; rw [es, show m = 2 * (m / 2) + m % 2 by omega]
    rw [show (2 * (m / 2) + m % 2) / 2 = m / 2 by omega, show (2 * (m / 2) + m % 2) % 2 = m % 2 by omega]
    rw [b2_and (by omega) (by omega), e]
    have : (1 + s % 2 - m % 2) &&& (m % 2) = s % 2 := by
      rcases (show (s % 2 = 0 ∧ m % 2 = 0) ∨ (s % 2 = 0 ∧ m % 2 = 1) ∨ (s % 2 = 1 ∧ m % 2 = 1) by omega) with ⟨a, b⟩ | ⟨a, b⟩ | ⟨a, b⟩ <;> rw [a, b] <;> rfl
    rw [this]; omega
theorem sE_next : ∀ w m r, m < 2 ^ w → r + 1 < 2 ^ pcw w m → nxw w m (sE w m r) = sE w m (r + 1) := by
  intro w
  induction w with
  | zero => intro m r hm h; exact absurd h (by show ¬ r + 1 < 1; omega)
  | succ w ih =>
    intro m r hm h
    have hp : 2 ^ (w + 1) = 2 * 2 ^ w := by rw [Nat.pow_succ]; omega
    have hm2 : m / 2 < 2 ^ w := by omega
    have hpos : 0 < 2 ^ w := Nat.two_pow_pos w
    by_cases hb : m % 2 = 1
    · have hpc : 2 ^ pcw (w + 1) m = 2 * 2 ^ pcw w (m / 2) := by
        show 2 ^ (pcw w (m / 2) + m % 2) = _
        rw [hb, Nat.pow_succ]; omega
      rw [hpc] at h
      have hsub := sE_sub w (m / 2) (r / 2)
      have hle := sub_le hsub
      have e1 : sE (w + 1) m r = 2 * sE w (m / 2) (r / 2) + r % 2 := by
        show (if m % 2 = 1 then _ else _) = _
        rw [if_pos hb]
      have e2 : sE (w + 1) m (r + 1) = 2 * sE w (m / 2) ((r + 1) / 2) + (r + 1) % 2 := by
        show (if m % 2 = 1 then _ else _) = _
        rw [if_pos hb]
      rw [e1, e2]
      unfold nxw
      rcases (show r % 2 = 0 ∨ r % 2 = 1 by omega) with hr | hr
      · rw [hr, show (r + 1) / 2 = r / 2 by omega, show (r + 1) % 2 = 1 by omega, Nat.add_zero]
        generalize sE w (m / 2) (r / 2) = S at hsub hle ⊢
        have cc := comp_and w (m / 2) S hm2 hsub
        have ed : (2 * S + 2 ^ (w + 1) - m) % 2 ^ (w + 1) = 2 * (S + 2 ^ w - 1 - m / 2) + 1 := by
          rw [Nat.mod_eq_of_lt (by omega)]; omega
        rw [ed]
        conv => lhs; rw [show m = 2 * (m / 2) + 1 by omega]
        rw [show (2 * (m / 2) + 1) / 2 = m / 2 by omega, b2_and (by omega) (by omega), cc]
        rfl
      · rw [hr, show (r + 1) / 2 = r / 2 + 1 by omega, show (r + 1) % 2 = 0 by omega, Nat.add_zero]
        have hi := ih (m / 2) (r / 2) hm2 (by omega)
        unfold nxw at hi
        rw [← hi]
        generalize sE w (m / 2) (r / 2) = S at hsub hle ⊢
        have ed : (2 * S + 1 + 2 ^ (w + 1) - m) % 2 ^ (w + 1) = 2 * ((S + 2 ^ w - m / 2) % 2 ^ w) + 0 := by
          rw [show 2 * S + 1 + 2 ^ (w + 1) - m = 2 * (S + 2 ^ w - m / 2) by omega, hp, Nat.mul_mod_mul_left, Nat.add_zero]
        rw [ed]
        conv => lhs; rw [show m = 2 * (m / 2) + 1 by omega]
        rw [show (2 * (m / 2) + 1) / 2 = m / 2 by omega, b2_and (by omega) (by omega)]
        rfl
    · have hb0 : m % 2 = 0 := by omega
      have hpc : pcw (w + 1) m = pcw w (m / 2) := by
        show pcw w (m / 2) + m % 2 = _
        omega
      rw [hpc] at h
      have hi := ih (m / 2) r hm2 h
      have e1 : ∀ r, sE (w + 1) m r = 2 * sE w (m / 2) r := fun r => by
        show (if m % 2 = 1 then _ else _) = _
        rw [if_neg hb]
      have hle := sub_le (sE_sub w (m / 2) r)
      rw [e1, e1, ← hi]
      unfold nxw
      generalize sE w (m / 2) r = S at hle ⊢
      have ed : (2 * S + 2 ^ (w + 1) - m) % 2 ^ (w + 1) = 2 * ((S + 2 ^ w - m / 2) % 2 ^ w) + 0 := by
        rw [show 2 * S + 2 ^ (w + 1) - m = 2 * (S + 2 ^ w - m / 2) by omega, hp, Nat.mul_mod_mul_left, Nat.add_zero]
      rw [ed]
      conv => lhs; rw [show m = 2 * (m / 2) + 0 by omega]
      rw [show (2 * (m / 2) + 0) / 2 = m / 2 by omega, b2_and (by omega) (by omega)]
      rfl
theorem sE_surj : ∀ w m s, m < 2 ^ w → s &&& m = s → ∃ r, r < 2 ^ pcw w m ∧ sE w m r = s := by
  intro w
  induction w with
  | zero =>
    intro m s hm h
    have := sub_le h
    exact ⟨0, by show 0 < 1; omega, by show 0 = s; omega⟩
  | succ w ih =>
    intro m s hm h
    have hp : 2 ^ (w + 1) = 2 * 2 ^ w := by rw [Nat.pow_succ]; omega
    obtain ⟨h1, h2⟩ := sub_split h
    obtain ⟨r, r1, r2⟩ := ih (m / 2) (s / 2) (by omega) h1
    have hle0 := sub_le h2
    by_cases hb : m % 2 = 1
    · refine ⟨2 * r + s % 2, ?_, ?_⟩
      · show 2 * r + s % 2 < 2 ^ (pcw w (m / 2) + m % 2)
        rw [hb, Nat.pow_succ]; omega
      · show (if m % 2 = 1 then 2 * sE w (m / 2) ((2 * r + s % 2) / 2) + (2 * r + s % 2) % 2 else _) = _
        rw [if_pos hb, show (2 * r + s % 2) / 2 = r by omega, r2]
        omega
    · refine ⟨r, ?_, ?_⟩
      · show r < 2 ^ (pcw w (m / 2) + m % 2)
        rw [show m % 2 = 0 by omega]; exact r1
      · show (if m % 2 = 1 then _ else 2 * sE w (m / 2) r) = _
        rw [if_neg hb, r2]
        omega
theorem sE_0 : ∀ w m, sE w m 0 = 0 := by
  intro w
  induction w with
  | zero => intro m; rfl
  | succ w ih =>
    intro m
    unfold sE
    rw [show (0 : Nat) / 2 = 0 from rfl, ih]
    split <;> rfl
theorem nI_nx {m s : Nat} (hm : m < 1024) (hs : s < 1024) : (nI s - nI m) &&& nI m = nI (nxw 32 m s) := by
  apply Int32.toBitVec_inj.mp
  apply BitVec.eq_of_toNat_eq
  have h1 : nxw 32 m s < 2 ^ 32 := Nat.lt_of_le_of_lt Nat.and_le_right (by omega)
  rw [Int32.toBitVec_and, BitVec.toNat_and, Int32.toBitVec_sub, BitVec.toNat_sub, pk_tn (by omega), pk_tn (by omega), pk_tn h1]
  unfold nxw
  rw [show 2 ^ 32 - m + s = s + 2 ^ 32 - m by omega]
theorem tq_bcI : ∀ n, n < 1024 → (let v1 := nI n - (jiushr (nI n) 1 &&& 1431655765); let v2 := (v1 &&& 858993459) + (jiushr v1 2 &&& 858993459); let v3 := (v2 + jiushr v2 4) &&& 252645135; let v4 := v3 + jiushr v3 8; let v5 := v4 + jiushr v4 16; v5 &&& 63) = nI (pcw 32 n) ∧ pcw 32 n ≤ 10 := by decide +kernel
theorem sp_bitCountI {n : Nat} (h : n < 1024) (σ : tq_S) : tq_fI st_Ji_bitCount (0, [nI n], [], σ) = some (nI (pcw 32 n), σ) := by
  refine tq_fI_e (tq_at (by decide) ?_)
  show tq_wo (bk_Ji_bitCount_0 [nI n] [] σ) _
  rw [bk_Ji_bitCount_0]
  refine wi_l (wi_l (wi_l (wi_l (wi_l (wi_s (tq_wp_rt ?_))))))
  rw [← (tq_bcI n h).1]
