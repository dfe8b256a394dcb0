/-! Leaves: isBelow, hasBit, atomWord, word, newWord. (ts_bit, wb_cu: from kit/laws/BITS.to-paste.) -/
theorem tq_fI_e {st : tq_C → Option tq_C} {c : tq_C} {r : Int32} {σ' : tq_S} (h : tq_wp st (fun d => d = (tq_rt, [r], [], σ')) c) : tq_fI st c = some (r, σ') := by
  obtain ⟨n, d, h1, rfl⟩ := h
  unfold tq_fI; rw [tq_res_of h1]; rfl
theorem tq_fL_e {st : tq_C → Option tq_C} {c : tq_C} {r : Int64} {σ' : tq_S} (h : tq_wp st (fun d => d = (tq_rt, [], [r], σ')) c) : tq_fL st c = some (r, σ') := by
  obtain ⟨n, d, h1, rfl⟩ := h
  unfold tq_fL; rw [tq_res_of h1]; rfl
theorem tq_fV_e {st : tq_C → Option tq_C} {c : tq_C} {σ' : tq_S} (h : tq_wp st (fun d => d = (tq_rt, [], [], σ')) c) : tq_fV st c = some ((), σ') := by
  obtain ⟨n, d, h1, rfl⟩ := h
  unfold tq_fV; rw [tq_res_of h1]; rfl
/-! a block, goal first -/
theorem wi_t {c : Prop} {i : Decidable c} {a b : Option tq_C} {R : tq_C → Prop} (hc : c) (h : tq_wo a R) : tq_wo (@ite _ c i a b) R := by rw [if_pos hc]; exact h
theorem wi_f {c : Prop} {i : Decidable c} {a b : Option tq_C} {R : tq_C → Prop} (hc : ¬ c) (h : tq_wo b R) : tq_wo (@ite _ c i a b) R := by rw [if_neg hc]; exact h
theorem wi_c {c : Prop} {i : Decidable c} {a b : Option tq_C} {R : tq_C → Prop} (h : c → tq_wo a R) (h' : ¬ c → tq_wo b R) : tq_wo (@ite _ c i a b) R := tq_wo_ite.mpr ⟨h, h'⟩
theorem wi_g {i : Int32} {n : Nat} {k : Option tq_C} {R : tq_C → Prop} (hi : vp_in i n) (h : tq_wo k R) : tq_wo (tq_gd i n k) R := tq_wo_gd.mpr ⟨hi, h⟩
theorem wi_z {y : Int32} {k : Option tq_C} {R : tq_C → Prop} (hy : ¬ y = 0) (h : tq_wo k R) : tq_wo (tq_gz y k) R := tq_wo_gz.mpr ⟨hy, h⟩
theorem wi_b {y : Int32} {k : Option tq_C} {R : tq_C → Prop} (hy : y = 0 ∨ y = 1) (h : tq_wo k R) : tq_wo (tq_gb y k) R := tq_wo_gb.mpr ⟨hy, h⟩
theorem wi_p {P : Prop} {k : Option tq_C} {R : tq_C → Prop} (hy : P) (h : tq_wo k R) : tq_wo (tq_gp P k) R := tq_wo_gp.mpr ⟨hy, h⟩
theorem wi_l {α : Type} {x : α} {k : α → Option tq_C} {R : tq_C → Prop} (h : tq_wo (k x) R) : tq_wo (tq_lj x k) R := h
theorem wi_o {α : Type} {e : Option (α × tq_S)} {k : α → tq_S → Option tq_C} {R : tq_C → Prop} {r : α} {σ : tq_S} (he : e = some (r, σ)) (h : tq_wo (k r σ) R) : tq_wo (tq_ob e k) R := tq_wo_ob.mpr ⟨r, σ, he, h⟩
theorem wi_s {a : tq_C} {R : tq_C → Prop} (h : R a) : tq_wo (some a) R := tq_wo_some.mpr h
theorem tq_ind {st : tq_C → Option tq_C} {Q : tq_C → Prop} {α : Type} (k : Nat) (g : α → List Int32 × List Int64 × tq_S) (I : α → Prop) (μ : α → Nat)
    (h : ∀ a, I a → (∀ a', I a' → μ a' < μ a → tq_wp st Q (k, g a')) → tq_wp st Q (k, g a)) : ∀ a, I a → tq_wp st Q (k, g a) := by
  have key : ∀ n a, μ a < n → I a → tq_wp st Q (k, g a) := by
    intro n
    induction n with
    | zero => intro a h; exact absurd h (Nat.not_lt_zero _)
    | succ n ih => intro a hn hI; exact h a hI (fun a' hI' hm => ih a' (by omega) hI')
  intro a hI
  exact key (μ a + 1) a (by omega) hI
theorem tq_nle {a b : Nat} (ha : a < 2147483648) (hb : b < 2147483648) (h : ¬ nI a ≤ nI b) : b < a := by
  rcases Nat.lt_or_ge b a with q | q
  · exact q
  · exact absurd ((tq_le ha hb).mpr q) h
theorem ts_bit {w : Int64} {s : UInt64} {j : Nat} (hj : j < 64) (hs : s.toNat = j) : ((w.toUInt64 >>> s).toInt64 &&& 1) = 0 ↔ w.toBitVec.getLsbD j = false := by
  have e : (w.toUInt64 >>> s).toInt64.toBitVec = w.toBitVec >>> j := by
    apply BitVec.eq_of_toNat_eq
    show (w.toUInt64 >>> s).toNat = _
    rw [UInt64.toNat_shiftRight, hs, Nat.mod_eq_of_lt hj, BitVec.toNat_ushiftRight]
    rfl
  rw [← Int64.toBitVec_inj, Int64.toBitVec_and, e]
  show w.toBitVec >>> j &&& 1#64 = 0#64 ↔ _
  constructor
  · intro h
    have t := congrArg (fun x => x.getLsbD 0) h
    simpa using t
  · intro h
    apply BitVec.eq_of_getLsbD_eq
    intro i hi
    cases i with
    | zero => simp [h]
    | succ i => simp
theorem wb_cu : ∀ k, k < 64 → ((nI k).toInt64.toUInt64 &&& Int64.toUInt64 63) = UInt64.ofNat k := by decide +kernel
theorem tq_bit {y : Int64} {k : Nat} (hk : k < 64) : (jlushr y (nI k) &&& 1) = 0 ↔ bL y k = false := by
  refine ts_bit hk ?_
  rw [wb_cu k hk, UInt64.toNat_ofNat', Nat.mod_eq_of_lt (by omega)]
theorem lg_cmp0 (x y : Int64) : lg_cmp x y = 0 ↔ x = y := by
  unfold lg_cmp
  by_cases h1 : x > y
  · rw [if_pos h1]
    refine ⟨fun h => absurd h (by decide), fun h => ?_⟩
    subst h
    exact absurd h1 (by simp)
  · rw [if_neg h1]
    by_cases h2 : x = y
    · rw [if_pos h2]; exact ⟨fun _ => h2, fun _ => rfl⟩
    · rw [if_neg h2]; exact ⟨fun h => absurd h (by decide), fun h => absurd h h2⟩
theorem sp_isBelow (x y : Int32) (σ : tq_S) : tq_fI st_Tn_isBelow (0, [x, y], [], σ) = some (if x < 0 then 0 else if y ≤ x then 0 else 1, σ) := by
  refine tq_fI_e (tq_at (by decide) ?_)
  show tq_wo (bk_Tn_isBelow_0 [x, y] [] σ) _
  unfold bk_Tn_isBelow_0
  simp only [tq_wo_ite, tq_wo_some]
  refine ⟨fun h => tq_wp_rt ?_, fun h => ⟨fun h2 => tq_wp_rt ?_, fun h2 => tq_wp_rt ?_⟩⟩
  · rw [if_pos h]
  · rw [if_neg h, if_pos h2]
  · rw [if_neg h, if_neg h2]
theorem sp_hasBit (y : Int64) {k : Nat} (hk : k < 64) (σ : tq_S) : tq_fI st_Tn_hasBit (0, [nI k], [y], σ) = some (if bL y k then 1 else 0, σ) := by
  refine tq_fI_e (tq_at (by decide) ?_)
  show tq_wo (bk_Tn_hasBit_0 [nI k] [y] σ) _
  unfold bk_Tn_hasBit_0
  simp only [tq_wo_ite, tq_wo_some]
  rw [lg_cmp0, tq_bit hk]
  refine ⟨fun h => tq_wp_rt ?_, fun h => tq_wp_rt ?_⟩
  · rw [h]; rfl
  · rw [Bool.not_eq_false] at h; rw [h]; rfl
theorem tq_m16 (a : Nat) : nI a * 16 = nI (a * 16) := pk_mul a 16
theorem tq_m64 (a : Nat) : nI a * 64 = nI (a * 64) := pk_mul a 64
theorem tq_low : ∀ k, k < 6 → ∀ w, w < 16 → ∀ n, n < 64 → bL (tq_lowA k) n = (w * 64 + n).testBit k := by decide +kernel
theorem tq_hiA : ∀ k, k < 10 → 6 ≤ k → ∀ w, w < 16 → (((nI w >>> ((nI k - 6) &&& 31)) &&& 1) = 0 ↔ ∀ n, n < 64 → (w * 64 + n).testBit k = false) := by decide +kernel
theorem tq_hiB : ∀ k, k < 10 → 6 ≤ k → ∀ w, w < 16 → (¬ ((nI w >>> ((nI k - 6) &&& 31)) &&& 1) = 0 ↔ ∀ n, n < 64 → (w * 64 + n).testBit k = true) := by decide +kernel
theorem sp_atomWord {k w : Nat} (hk : k < 10) (hw : w < 16) (σ : tq_S) : ∃ y, tq_fL st_Co_atomWord (0, [nI k, nI w], [], σ) = some (y, σ) ∧ ∀ n, n < 64 → bL y n = (w * 64 + n).testBit k := by
  by_cases h6 : k < 6
  · refine ⟨tq_lowA k, tq_fL_e (tq_at (by decide) ?_), fun n hn => tq_low k h6 w hw n hn⟩
    show tq_wo (bk_Co_atomWord_0 [nI k, nI w] [] σ) _
    unfold bk_Co_atomWord_0
    simp only [tq_wo_ite, tq_wo_some, tq_wo_gd]
    refine ⟨fun h => absurd h (tq_n0 (by omega)), fun _ => ⟨fun h => absurd h (nI_ge h6 (by decide)), fun _ => ⟨tq_vin h6 (by omega), tq_wp_rt ?_⟩⟩⟩
    rw [tq_nc (by omega)]
  · refine ⟨if ((nI w >>> ((nI k - 6) &&& 31)) &&& 1) = 0 then 0 else -1, tq_fL_e (tq_at (by decide) ?_), fun n hn => ?_⟩
    · show tq_wo (bk_Co_atomWord_0 [nI k, nI w] [] σ) _
      unfold bk_Co_atomWord_0
      simp only [tq_wo_ite, tq_wo_some, tq_wo_gd]
      refine ⟨fun h => absurd h (tq_n0 (by omega)), fun _ => ⟨fun _ => tq_at (by decide) ?_, fun h => absurd ((tq_le (a := 6) (by omega) (by omega)).mpr (by omega)) h⟩⟩
      show tq_wo (bk_Co_atomWord_16 [nI k, nI w] [] σ) _
      unfold bk_Co_atomWord_16
      simp only [tq_wo_ite, tq_wo_some]
      exact ⟨fun h => tq_wp_rt (by rw [if_pos h]), fun h => tq_wp_rt (by rw [if_neg h])⟩
    · by_cases h : ((nI w >>> ((nI k - 6) &&& 31)) &&& 1) = 0
      · rw [if_pos h, (tq_hiA k hk (by omega) w hw).mp h n hn, bL_0]
      · rw [if_neg h, (tq_hiB k hk (by omega) w hw).mp h n hn, bL_m1 hn]
theorem sp_word {σ : tq_S} {n c w : Nat} (hn : n ≤ 80) (hs : σ.2.2 0 = nI n) (hc : c < n) (hw : w < 16) : tq_fL st_Co_word (0, [nI c, nI w], [], σ) = some (σ.2.1 0 (c * 16 + w), σ) := by
  refine tq_fL_e (tq_at (by decide) ?_)
  show tq_wo (bk_Co_word_0 [nI c, nI w] [] σ) _
  unfold bk_Co_word_0
  simp only [tq_wo_ite, tq_wo_some, tq_wo_gd, hs, la, tq_m16, nI_add]
  refine ⟨fun h => absurd h (tq_n0 (by omega)), fun _ => ⟨fun h => absurd h (nI_ge hc (by omega)), fun _ => ⟨fun h => absurd h (tq_n0 (by omega)), fun _ => ⟨fun h => absurd h (nI_ge hw (by decide)), fun _ => ⟨tq_vin (by omega) (by omega), tq_wp_rt ?_⟩⟩⟩⟩⟩
  rw [tq_nc (by omega)]
