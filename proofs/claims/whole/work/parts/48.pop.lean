/-! Long.bitCount, Integer.bitCount, lowestBit (wb_ rows: from kit/laws/BITS.to-paste) -/
theorem wb_tb (n : Nat) : (lN n).toBitVec = BitVec.ofNat 64 n := rfl
theorem wb_inj {a b : Int64} (h : a.toBitVec = b.toBitVec) : a = b := Int64.toBitVec_inj.mp h
theorem wb_tn {n : Nat} (h : n < 2 ^ 64) : (lN n).toBitVec.toNat = n := by rw [wb_tb, BitVec.toNat_ofNat, Nat.mod_eq_of_lt h]
theorem wb_of (x : Int64) : ∃ n, n < 2 ^ 64 ∧ x = lN n := ⟨x.toBitVec.toNat, x.toBitVec.isLt, wb_inj (by rw [wb_tb]; simp)⟩
theorem wb_shr {n k : Nat} (hn : n < 2 ^ 64) (hk : k < 64) : ((lN n).toUInt64 >>> ((nI k).toInt64.toUInt64 &&& Int64.toUInt64 63)).toInt64 = lN (n / 2 ^ k) := by
  rw [wb_cu k hk]
  apply wb_inj
  apply BitVec.eq_of_toNat_eq
  show ((lN n).toUInt64 >>> UInt64.ofNat k).toNat = (BitVec.ofNat 64 _).toNat
  have h1 : (UInt64.ofNat k).toNat = k := by
    show (BitVec.ofNat 64 k).toNat = k
    rw [BitVec.toNat_ofNat, Nat.mod_eq_of_lt (by omega)]
  have h2 : (lN n).toUInt64.toNat = n := wb_tn hn
  rw [UInt64.toNat_shiftRight, h1, h2, Nat.mod_eq_of_lt hk, Nat.shiftRight_eq_div_pow, BitVec.toNat_ofNat, Nat.mod_eq_of_lt (Nat.lt_of_le_of_lt (Nat.div_le_self _ _) hn)]
theorem wb_and {a b : Nat} (ha : a < 2 ^ 64) (hb : b < 2 ^ 64) : lN a &&& lN b = lN (a &&& b) := by
  apply wb_inj
  rw [Int64.toBitVec_and, wb_tb, wb_tb, wb_tb]
  apply BitVec.eq_of_toNat_eq
  rw [BitVec.toNat_and, BitVec.toNat_ofNat, BitVec.toNat_ofNat, BitVec.toNat_ofNat, Nat.mod_eq_of_lt ha, Nat.mod_eq_of_lt hb, Nat.mod_eq_of_lt (Nat.and_lt_two_pow _ hb)]
def cnt (p : Nat → Bool) : Nat → Nat
  | 0 => 0
  | n + 1 => cnt p n + (if p n then 1 else 0)
theorem cnt_add (p : Nat → Bool) (a : Nat) : ∀ b, cnt p (a + b) = cnt p a + cnt (fun j => p (a + j)) b := by
  intro b
  induction b with
  | zero => rfl
  | succ b ih =>
    show cnt p (a + b) + (if p (a + b) then 1 else 0) = cnt p a + (cnt (fun j => p (a + j)) b + (if p (a + b) then 1 else 0))
    rw [ih]; omega
theorem cnt_congr {p q : Nat → Bool} : ∀ {n : Nat}, (∀ i, i < n → p i = q i) → cnt p n = cnt q n := by
  intro n
  induction n with
  | zero => intro _; rfl
  | succ n ih =>
    intro h
    show cnt p n + (if p n then 1 else 0) = cnt q n + (if q n then 1 else 0)
    rw [ih (fun i hi => h i (by omega)), h n (by omega)]
theorem cnt_le (p : Nat → Bool) : ∀ n, cnt p n ≤ n := by
  intro n
  induction n with
  | zero => exact Nat.le_refl _
  | succ n ih =>
    show cnt p n + (if p n then 1 else 0) ≤ n + 1
    split <;> omega
def rep (c : Nat) : Nat → Nat
  | 0 => 0
  | n + 1 => 256 * rep c n + c
theorem by_tb {q b : Nat} (hb : b < 256) (j : Nat) : (256 * q + b).testBit j = if j < 8 then b.testBit j else q.testBit (j - 8) := Nat.testBit_two_pow_mul_add q (i := 8) hb j
theorem by_and {q b m c : Nat} (hb : b < 256) (hc : c < 256) : (256 * q + b) &&& (256 * m + c) = 256 * (q &&& m) + (b &&& c) := by
  apply Nat.eq_of_testBit_eq
  intro j
  have hbc : b &&& c < 256 := Nat.and_lt_two_pow (n := 8) b hc
  rw [Nat.testBit_and, by_tb hb, by_tb hc, by_tb hbc]
  split
  · rw [Nat.testBit_and]
  · rw [Nat.testBit_and]
theorem by_shr {q b m c s : Nat} (hb : b < 256) (hs : s ≤ 8) (hc : c < 2 ^ (8 - s)) : ((256 * q + b) / 2 ^ s) &&& (256 * m + c) = 256 * ((q / 2 ^ s) &&& m) + ((b / 2 ^ s) &&& c) := by
  have hc8 : c < 256 := Nat.lt_of_lt_of_le hc (show 2 ^ (8 - s) ≤ 2 ^ 8 from Nat.pow_le_pow_right (by decide) (by omega))
  have hbc : (b / 2 ^ s) &&& c < 256 := Nat.and_lt_two_pow (n := 8) _ hc8
  apply Nat.eq_of_testBit_eq
  intro j
  rw [Nat.testBit_and, by_tb hbc, by_tb hc8, Nat.testBit_div_two_pow, by_tb hb]
  by_cases h8 : j < 8
  · rw [if_pos h8, if_pos h8, Nat.testBit_and, Nat.testBit_div_two_pow]
    by_cases h : s + j < 8
    · rw [if_pos (by omega)]
    · have : c.testBit j = false := Nat.testBit_lt_two_pow (Nat.lt_of_lt_of_le hc (Nat.pow_le_pow_right (by decide) (by omega)))
      rw [this]; simp
  · rw [if_neg h8, if_neg h8, if_neg (by omega), Nat.testBit_and, Nat.testBit_div_two_pow]
    congr 2
    omega
def p1 (b : Nat) : Nat := b - ((b / 2) &&& 85)
def p2 (b : Nat) : Nat := (b &&& 51) + ((b / 4) &&& 51)
def pz (b : Nat) : Nat := p2 (p1 b)
def P1 (n x : Nat) : Nat := x - ((x / 2) &&& rep 85 n)
def P2 (n x : Nat) : Nat := (x &&& rep 51 n) + ((x / 4) &&& rep 51 n)
def PZ (n x : Nat) : Nat := P2 n (P1 n x)
def PT (n x : Nat) : Nat := (PZ n x + PZ n x / 16) &&& rep 15 n
theorem pz_ok : ∀ b, b < 256 → p1 b < 256 ∧ pz b < 256 ∧ pz b % 16 ≤ 4 ∧ pz b / 16 ≤ 4 ∧ pz b % 16 + pz b / 16 = cnt (fun j => b.testBit j) 8 := by decide +kernel
theorem P1_s {n q b : Nat} (hb : b < 256) : P1 (n + 1) (256 * q + b) = 256 * P1 n q + p1 b := by
  unfold P1 p1
  have e := by_shr (q := q) (b := b) (m := rep 85 n) (c := 85) (s := 1) hb (by decide) (by decide)
  rw [show rep 85 (n + 1) = 256 * rep 85 n + 85 from rfl]
  rw [Nat.pow_one] at e
  rw [e]
  have h1 : q / 2 &&& rep 85 n ≤ q / 2 := Nat.and_le_left
  have h2 : b / 2 &&& 85 ≤ b / 2 := Nat.and_le_left
  omega
theorem P2_s {n q b : Nat} (hb : b < 256) : P2 (n + 1) (256 * q + b) = 256 * P2 n q + p2 b := by
  unfold P2 p2
  have e := by_shr (q := q) (b := b) (m := rep 51 n) (c := 51) (s := 2) hb (by decide) (by decide)
  have e2 := by_and (q := q) (b := b) (m := rep 51 n) (c := 51) hb (by decide)
  rw [show rep 51 (n + 1) = 256 * rep 51 n + 51 from rfl]
  rw [show (2 : Nat) ^ 2 = 4 from rfl] at e
  rw [e, e2]
  omega
theorem PZ_s {n q b : Nat} (hb : b < 256) : PZ (n + 1) (256 * q + b) = 256 * PZ n q + pz b := by
  unfold PZ
  rw [P1_s hb, P2_s (pz_ok b hb).1]
  rfl
theorem PZ_x {n x : Nat} : PZ (n + 1) x = 256 * PZ n (x / 256) + pz (x % 256) := by
  conv => lhs; rw [show x = 256 * (x / 256) + x % 256 by omega]
  exact PZ_s (by omega)
theorem PZ_lo : ∀ n x, PZ n x % 16 ≤ 4 := by
  intro n x
  cases n with
  | zero => simp [PZ, P2, rep]
  | succ n =>
    rw [PZ_x]
    have := (pz_ok (x % 256) (by omega)).2.2.1
    omega
theorem PT_x {n x : Nat} : PT (n + 1) x = 256 * PT n (x / 256) + cnt (fun j => (x % 256).testBit j) 8 := by
  obtain ⟨-, h2, h3, h4, h5⟩ := pz_ok (x % 256) (by omega)
  have hlo := PZ_lo n (x / 256)
  rw [← h5]
  unfold PT
  rw [PZ_x]
  generalize PZ n (x / 256) = Z at hlo ⊢
  generalize pz (x % 256) = z at h2 h3 h4 ⊢
  have e : 256 * Z + z + (256 * Z + z) / 16 = 256 * (Z + Z / 16) + (16 * (Z % 16) + z + z / 16) := by omega
  rw [e, show rep 15 (n + 1) = 256 * rep 15 n + 15 from rfl, by_and (by omega) (by decide)]
  have e15 : (16 * (Z % 16) + z + z / 16) &&& 15 = (16 * (Z % 16) + z + z / 16) % 16 := Nat.and_two_pow_sub_one_eq_mod _ 4
  rw [e15]
  omega
theorem cnt_x {n x : Nat} : cnt (fun j => x.testBit j) (8 + 8 * n) = cnt (fun j => (x % 256).testBit j) 8 + cnt (fun j => (x / 256).testBit j) (8 * n) := by
  rw [cnt_add]
  congr 1
  · exact cnt_congr (fun i hi => by
      show x.testBit i = (x % 2 ^ 8).testBit i
      rw [Nat.testBit_mod_two_pow]; simp [hi])
  · exact cnt_congr (fun i hi => by
      show x.testBit (8 + i) = (x / 2 ^ 8).testBit i
      rw [Nat.testBit_div_two_pow, Nat.add_comm])
theorem pop_sum {a b c d e f g h : Nat} (ha : a ≤ 8) (hb : b ≤ 8) (hc : c ≤ 8) (hd : d ≤ 8) (he : e ≤ 8) (hf : f ≤ 8) (hg : g ≤ 8) (hh : h ≤ 8) (t t1 t2 t3 : Nat)
    (h0 : t = 256 * (256 * (256 * (256 * (256 * (256 * (256 * (256 * 0 + h) + g) + f) + e) + d) + c) + b) + a) (h1 : t1 = t + t / 256) (h2 : t2 = t1 + t1 / 65536) (h3 : t3 = t2 + t2 / 4294967296) : t3 % 128 = a + b + c + d + e + f + g + h ∧ t3 < 18446744073709551616 ∧ t2 < 18446744073709551616 ∧ t1 < 18446744073709551616 ∧ t < 18446744073709551616 := by
  have q1 : t / 256 = b + 256 * c + 65536 * d + 16777216 * e + 4294967296 * f + 1099511627776 * g + 281474976710656 * h := by omega
  have w1 : t1 = (a + b) + 256 * (b + c) + 65536 * (c + d) + 16777216 * (d + e) + 4294967296 * (e + f) + 1099511627776 * (f + g) + 281474976710656 * (g + h) + 72057594037927936 * h := by rw [h1, q1, h0]; omega
  have q2 : t1 / 65536 = (c + d) + 256 * (d + e) + 65536 * (e + f) + 16777216 * (f + g) + 4294967296 * (g + h) + 1099511627776 * h := by omega
  have w2 : t2 = (a + b + c + d) + 256 * (b + c + d + e) + 65536 * (c + d + e + f) + 16777216 * (d + e + f + g) + 4294967296 * (e + f + g + h) + 1099511627776 * (f + g + h) + 281474976710656 * (g + h) + 72057594037927936 * h := by rw [h2, q2, w1]; omega
  have q3 : t2 / 4294967296 = (e + f + g + h) + 256 * (f + g + h) + 65536 * (g + h) + 16777216 * h := by omega
  have w3 : t3 = (a + b + c + d + e + f + g + h) + 256 * ((b + c + d + e) + (f + g + h) + 256 * (c + d + e + f + (g + h)) + 65536 * (d + e + f + g + h) + 16777216 * (e + f + g + h) + 4294967296 * (f + g + h) + 1099511627776 * (g + h) + 281474976710656 * h) := by rw [h3, q3, w2]; omega
  refine ⟨?_, ?_, ?_, ?_, ?_⟩
  · clear q1 w1 q2 w2 q3 h0 h1 h2 h3; omega
  · clear q1 w1 q2 w2 q3 h0 h1 h2 h3; omega
  · clear q1 w1 q2 w3 q3 h0 h1 h2 h3; omega
  · clear q1 w3 q2 w2 q3 h0 h1 h2 h3; omega
  · clear q1 w1 q2 w2 q3 w3 h1 h2 h3; omega
theorem bL_lN {n : Nat} (h : n < 2 ^ 64) (k : Nat) : bL (lN n) k = n.testBit k := by
  unfold bL
  rw [wb_tb, BitVec.getLsbD_ofNat]
  by_cases hk : k < 64
  · simp [hk]
  · have : n.testBit k = false := Nat.testBit_lt_two_pow (Nat.lt_of_lt_of_le h (Nat.pow_le_pow_right (by decide) (by omega)))
    simp [hk, this]
theorem sp_bitCountL (y : Int64) (σ : tq_S) : tq_fI st_Jl_bitCount (0, [], [y], σ) = some (nI (cnt (bL y) 64), σ) := by
  obtain ⟨X, hX, rfl⟩ := wb_of y
  refine tq_fI_e (tq_at (by decide) ?_)
  show tq_wo (bk_Jl_bitCount_0 [] [lN X] σ) _
  rw [bk_Jl_bitCount_0]
  have r55 : (6148914691236517205 : Int64) = lN (rep 85 8) := by decide +kernel
  have r33 : (3689348814741910323 : Int64) = lN (rep 51 8) := by decide +kernel
  have r0f : (1085102592571150095 : Int64) = lN (rep 15 8) := by decide +kernel
  have b55 : rep 85 8 < 2 ^ 64 := by decide +kernel
  have b33 : rep 51 8 < 2 ^ 62 := by decide +kernel
  have b0f : rep 15 8 < 2 ^ 60 := by decide +kernel
  have z0 : PZ 0 (X / 256 / 256 / 256 / 256 / 256 / 256 / 256 / 256) = 0 := by simp [PZ, P2, rep]
  -- the eight bytes
  have cb : ∀ p : Nat → Bool, cnt p 8 ≤ 8 := fun p => cnt_le p 8
  have hT : PT 8 X = 256 * (256 * (256 * (256 * (256 * (256 * (256 * (256 * 0 + cnt (fun j => (X / 256 / 256 / 256 / 256 / 256 / 256 / 256 % 256).testBit j) 8) + cnt (fun j => (X / 256 / 256 / 256 / 256 / 256 / 256 % 256).testBit j) 8) + cnt (fun j => (X / 256 / 256 / 256 / 256 / 256 % 256).testBit j) 8) + cnt (fun j => (X / 256 / 256 / 256 / 256 % 256).testBit j) 8) + cnt (fun j => (X / 256 / 256 / 256 % 256).testBit j) 8) + cnt (fun j => (X / 256 / 256 % 256).testBit j) 8) + cnt (fun j => (X / 256 % 256).testBit j) 8) + cnt (fun j => (X % 256).testBit j) 8 := by
    rw [PT_x, PT_x, PT_x, PT_x, PT_x, PT_x, PT_x, PT_x]
    have : PT 0 (X / 256 / 256 / 256 / 256 / 256 / 256 / 256 / 256) = 0 := by simp [PT, rep]
    rw [this]
  have hC : cnt (bL (lN X)) 64 = cnt (fun j => (X % 256).testBit j) 8 + cnt (fun j => (X / 256 % 256).testBit j) 8 + cnt (fun j => (X / 256 / 256 % 256).testBit j) 8 + cnt (fun j => (X / 256 / 256 / 256 % 256).testBit j) 8 + cnt (fun j => (X / 256 / 256 / 256 / 256 % 256).testBit j) 8 + cnt (fun j => (X / 256 / 256 / 256 / 256 / 256 % 256).testBit j) 8 + cnt (fun j => (X / 256 / 256 / 256 / 256 / 256 / 256 % 256).testBit j) 8 + cnt (fun j => (X / 256 / 256 / 256 / 256 / 256 / 256 / 256 % 256).testBit j) 8 := by
    rw [cnt_congr (q := fun j => X.testBit j) (fun i _ => bL_lN hX i)]
    rw [show 64 = 8 + 8 * 7 from rfl, cnt_x, show 8 * 7 = 8 + 8 * 6 from rfl, cnt_x, show 8 * 6 = 8 + 8 * 5 from rfl, cnt_x, show 8 * 5 = 8 + 8 * 4 from rfl, cnt_x, show 8 * 4 = 8 + 8 * 3 from rfl, cnt_x, show 8 * 3 = 8 + 8 * 2 from rfl, cnt_x, show 8 * 2 = 8 + 8 * 1 from rfl, cnt_x, show 8 * 1 = 8 + 8 * 0 from rfl, cnt_x]
    show _ = _
    simp only [Nat.mul_zero, cnt]
    omega
  obtain ⟨s1, s2, s3, s4, s5⟩ := pop_sum (cb _) (cb _) (cb _) (cb _) (cb _) (cb _) (cb _) (cb _) (PT 8 X) _ _ _ hT rfl rfl rfl
  have P1lt : P1 8 X < 2 ^ 64 := Nat.lt_of_le_of_lt (Nat.sub_le _ _) hX
  have e1 : lN X - (jlushr (lN X) 1 &&& 6148914691236517205) = lN (P1 8 X) := by
    rw [show jlushr (lN X) 1 = lN (X / 2 ^ 1) from wb_shr hX (k := 1) (by decide), r55, wb_and (Nat.lt_of_le_of_lt (Nat.div_le_self _ _) hX) b55, Nat.pow_one]
    exact lN_sub (Nat.le_trans Nat.and_le_left (Nat.div_le_self _ _))
  have a1 : P1 8 X &&& rep 51 8 < 2 ^ 62 := Nat.and_lt_two_pow _ b33
  have a2 : P1 8 X / 4 &&& rep 51 8 < 2 ^ 62 := Nat.and_lt_two_pow _ b33
  have PZlt : PZ 8 X < 2 ^ 63 := by unfold PZ P2; omega
  have e2 : (lN (P1 8 X) &&& 3689348814741910323) + (jlushr (lN (P1 8 X)) 2 &&& 3689348814741910323) = lN (PZ 8 X) := by
    rw [show jlushr (lN (P1 8 X)) 2 = lN (P1 8 X / 2 ^ 2) from wb_shr P1lt (k := 2) (by decide), r33, wb_and P1lt (by omega), wb_and (Nat.lt_of_le_of_lt (Nat.div_le_self _ _) P1lt) (by omega), lN_add]
    rfl
  have e3 : (lN (PZ 8 X) + jlushr (lN (PZ 8 X)) 4) &&& 1085102592571150095 = lN (PT 8 X) := by
    rw [show jlushr (lN (PZ 8 X)) 4 = lN (PZ 8 X / 2 ^ 4) from wb_shr (by omega) (k := 4) (by decide), lN_add, r0f, wb_and (by omega) (by omega)]
    rfl
  refine wi_l ?_
  rw [e1]
  refine wi_l ?_
  rw [e2]
  refine wi_l ?_
  rw [e3]
  refine wi_l ?_
  rw [show jlushr (lN (PT 8 X)) 8 = lN (PT 8 X / 2 ^ 8) from wb_shr (by omega) (k := 8) (by decide), lN_add, show (2 : Nat) ^ 8 = 256 from rfl]
  refine wi_l ?_
  rw [show jlushr (lN (PT 8 X + PT 8 X / 256)) 16 = lN ((PT 8 X + PT 8 X / 256) / 2 ^ 16) from wb_shr (by omega) (k := 16) (by decide), lN_add, show (2 : Nat) ^ 16 = 65536 from rfl]
  refine wi_l ?_
  rw [show jlushr (lN (PT 8 X + PT 8 X / 256 + (PT 8 X + PT 8 X / 256) / 65536)) 32 = lN ((PT 8 X + PT 8 X / 256 + (PT 8 X + PT 8 X / 256) / 65536) / 2 ^ 32) from wb_shr (by omega) (k := 32) (by decide), lN_add, show (2 : Nat) ^ 32 = 4294967296 from rfl]
  refine wi_s (tq_wp_rt ?_)
  rw [lN_i, pk_and _ 7 (by decide), hC, ← s1]
  have : (nI (PT 8 X + PT 8 X / 256 + (PT 8 X + PT 8 X / 256) / 65536 + (PT 8 X + PT 8 X / 256 + (PT 8 X + PT 8 X / 256) / 65536) / 4294967296)).toBitVec.toNat % 2 ^ 7 = (PT 8 X + PT 8 X / 256 + (PT 8 X + PT 8 X / 256) / 65536 + (PT 8 X + PT 8 X / 256 + (PT 8 X + PT 8 X / 256) / 65536) / 4294967296) % 128 := by
    show (BitVec.ofNat 32 _).toNat % 128 = _
    rw [BitVec.toNat_ofNat]
    omega
  rw [this]
