/-! Long.bitCount, Integer.bitCount, lowestBit (wb_ rows: from kit/laws/BITS.to-paste) -/
theorem wb_tb (n : Nat) : (lN n).toBitVec = BitVec.ofNat 64 n := rfl
theorem wb_inj {a b : Int64} (h : a.toBitVec = b.toBitVec) : a = b := Int64.toBitVec_inj.mp h
theorem wb_tn {n : Nat} (h : n < 2 ^ 64) : (lN n).toBitVec.toNat = n := by rw [wb_tb, BitVec.toNat_ofNat, Nat.mod_eq_of_lt h]
theorem wb_of (x : Int64) : ∃ n, n < 2 ^ 64 ∧ x = lN n := ⟨x.toBitVec.toNat, x.toBitVec.isLt, wb_inj (by rw [wb_tb]; simp)⟩
theorem wb_shr {n k : Nat} (hn : n < 2 ^ 64) (hk : k < 64) : ((lN n).toUInt64 >>> ((nI k).toInt64.toUInt64 &&& Int64.toUInt64 63)).toInt64 = lN (n / 2 ^ k) := by
  rw [wb_cu k hk]
  apply wb_inj
  apply BitVec.eq_of_toNat_eq
  show ((lN n).toUInt64 >>> UInt64.ofNat k).toNat = (BitVec.ofNat 64 _).toNat
  have h1 : (UInt64.ofNat k).toNat = k := by
    show (BitVec.ofNat 64 k).toNat = k
    rw [BitVec.toNat_ofNat, Nat.mod_eq_of_lt (by omega)]
  have h2 : (lN n).toUInt64.toNat = n := wb_tn hn
  rw [UInt64.toNat_shiftRight, h1, h2, Nat.mod_eq_of_lt hk, Nat.shiftRight_eq_div_pow, BitVec.toNat_ofNat, Nat.mod_eq_of_lt (Nat.lt_of_le_of_lt (Nat.div_le_self _ _) hn)]
theorem wb_and {a b : Nat} (ha : a < 2 ^ 64) (hb : b < 2 ^ 64) : lN a &&& lN b = lN (a &&& b) := by
  apply wb_inj
  rw [Int64.toBitVec_and, wb_tb, wb_tb, wb_tb]
  apply BitVec.eq_of_toNat_eq
  rw [BitVec.toNat_and, BitVec.toNat_ofNat, BitVec.toNat_ofNat, BitVec.toNat_ofNat, Nat.mod_eq_of_lt ha, Nat.mod_eq_of_lt hb, Nat.mod_eq_of_lt (Nat.and_lt_two_pow _ hb)]
def cnt (p : Nat → Bool) : Nat → Nat
  | 0 => 0
  | n + 1 => cnt p n + (if p n then 1 else 0)
theorem cnt_add (p : Nat → Bool) (a : Nat) : ∀ b, cnt p (a + b) = cnt p a + cnt (fun j => p (a + j)) b := by
  intro b
  induction b with
  | zero => rfl
  | succ b ih =>
    show cnt p (a + b) + (if p (a + b) then 1 else 0) = cnt p a + (cnt (fun j => p (a + j)) b + (if p (a + b) then 1 else 0))
    rw [ih]; omega
theorem cnt_congr {p q : Nat → Bool} : ∀ {n : Nat}, (∀ i, i < n → p i = q i) → cnt p n = cnt q n := by
  intro n
  induction n with
  | zero => intro _; rfl
  | succ n ih =>
    intro h
    show cnt p n + (if p n then 1 else 0) = cnt q n + (if q n then 1 else 0)
    rw [ih (fun i hi => h i (by omega)), h n (by omega)]
theorem cnt_le (p : Nat → Bool) : ∀ n, cnt p n ≤ n := by
  intro n
  induction n with
  | zero => exact Nat.le_refl _
  | succ n ih =>
    show cnt p n + (if p n then 1 else 0) ≤ n + 1
    split <;> omega
def rep (c : Nat) : Nat → Nat
  | 0 => 0
  | n + 1 => 256 * rep c n + c
theorem by_tb {q b : Nat} (hb : b < 256) (j : Nat) : (256 * q + b).testBit j = if j < 8 then b.testBit j else q.testBit (j - 8) := Nat.testBit_two_pow_mul_add q (i := 8) hb j
theorem by_and {q b m c : Nat} (hb : b < 256) (hc : c < 256) : (256 * q + b) &&& (256 * m + c) = 256 * (q &&& m) + (b &&& c) := by
  apply Nat.eq_of_testBit_eq
  intro j
  have hbc : b &&& c < 256 := Nat.and_lt_two_pow (n := 8) b hc
  rw [Nat.testBit_and, by_tb hb, by_tb hc, by_tb hbc]
  split
  · rw [Nat.testBit_and]
  · rw [Nat.testBit_and]
theorem by_shr {q b m c s : Nat} (hb : b < 256) (hs : s ≤ 8) (hc : c < 2 ^ (8 - s)) : ((256 * q + b) / 2 ^ s) &&& (256 * m + c) = 256 * ((q / 2 ^ s) &&& m) + ((b / 2 ^ s) &&& c) := by
  have hc8 : c < 256 := Nat.lt_of_lt_of_le hc (show 2 ^ (8 - s) ≤ 2 ^ 8 from Nat.pow_le_pow_right (by decide) (by omega))
  have hbc : (b / 2 ^ s) &&& c < 256 := Nat.and_lt_two_pow (n := 8) _ hc8
  apply Nat.eq_of_testBit_eq
  intro j
  rw [Nat.testBit_and, by_tb hbc, by_tb hc8, Nat.testBit_div_two_pow, by_tb hb]
  by_cases h8 : j < 8
  · rw [if_pos h8, if_pos h8, Nat.testBit_and, Nat.testBit_div_two_pow]
    by_cases h : s + j < 8
    · rw [if_pos (by omega)]
    · have : c.testBit j = false := Nat.testBit_lt_two_pow (Nat.lt_of_lt_of_le hc (Nat.pow_le_pow_right (by decide) (by omega)))
      rw [this]; simp
  · rw [if_neg h8, if_neg h8, if_neg (by omega), Nat.testBit_and, Nat.testBit_div_two_pow]
    congr 2
    omega
def p1 (b : Nat) : Nat := b - ((b / 2) &&& 85)
def p2 (b : Nat) : Nat := (b &&& 51) + ((b / 4) &&& 51)
def pz (b : Nat) : Nat := p2 (p1 b)
def P1 (n x : Nat) : Nat := x - ((x / 2) &&& rep 85 n)
def P2 (n x : Nat) : Nat := (x &&& rep 51 n) + ((x / 4) &&& rep 51 n)
def PZ (n x : Nat) : Nat := P2 n (P1 n x)
def PT (n x : Nat) : Nat := (PZ n x + PZ n x / 16) &&& rep 15 n
theorem pz_ok : ∀ b, b < 256 → p1 b < 256 ∧ pz b < 256 ∧ pz b % 16 ≤ 4 ∧ pz b / 16 ≤ 4 ∧ pz b % 16 + pz b / 16 = cnt (fun j => b.testBit j) 8 := by decide +kernel
theorem P1_s {n q b : Nat} (hb : b < 256) : P1 (n + 1) (256 * q + b) = 256 * P1 n q + p1 b := by
  unfold P1 p1
  have e := by_shr (q := q) (b := b) (m := rep 85 n) (c := 85) (s := 1) hb (by decide) (by decide)
  rw [show rep 85 (n + 1) = 256 * rep 85 n + 85 from rfl]
  rw [Nat.pow_one] at e
  rw [e]
  have h1 : q / 2 &&& rep 85 n ≤ q / 2 := Nat.and_le_left
  have h2 : b / 2 &&& 85 ≤ b / 2 := Nat.and_le_left
  omega
theorem P2_s {n q b : Nat} (hb : b < 256) : P2 (n + 1) (256 * q + b) = 256 * P2 n q + p2 b := by
  unfold P2 p2
  have e := by_shr (q := q) (b := b) (m := rep 51 n) (c := 51) (s := 2) hb (by decide) (by decide)
  have e2 := by_and (q := q) (b := b) (m := rep 51 n) (c := 51) hb (by decide)
  rw [show rep 51 (n + 1) = 256 * rep 51 n + 51 from rfl]
  rw [show (2 : Nat) ^ 2 = 4 from rfl] at e
  rw [e, e2]
  omega
theorem PZ_s {n q b : Nat} (hb : b < 256) : PZ (n + 1) (256 * q + b) = 256 * PZ n q + pz b := by
  unfold PZ
  rw [P1_s hb, P2_s (pz_ok b hb).1]
  rfl
theorem PZ_x {n x : Nat} : PZ (n + 1) x = 256 * PZ n (x / 256) + pz (x % 256) := by
  conv => lhs; rw [show x = 256 * (x / 256) + x % 256 by omega]
  exact PZ_s (by omega)
theorem PZ_lo : ∀ n x, PZ n x % 16 ≤ 4 := by
  intro n x
  cases n with
  | zero => simp [PZ, P2, rep]
  | succ n =>
    rw [PZ_x]
    have := (pz_ok (x % 256) (by omega)).2.2.1
    omega
theorem PT_x {n x : Nat} : PT (n + 1) x = 256 * PT n (x / 256) + cnt (fun j => (x % 256).testBit j) 8 := by
  obtain ⟨-, h2, h3, h4, h5⟩ := pz_ok (x % 256) (by omega)
  have hlo := PZ_lo n (x / 256)
  rw [← h5]
  unfold PT
  rw [PZ_x]
  generalize PZ n (x / 256) = Z at hlo ⊢
  generalize pz (x % 256) = z at h2 h3 h4 ⊢
  have e : 256 * Z + z + (256 * Z + z) / 16 = 256 * (Z + Z / 16) + (16 * (Z % 16) + z + z / 16) := by omega
  rw [e, show rep 15 (n + 1) = 256 * rep 15 n + 15 from rfl, by_and (by omega) (by decide)]
  have e15 : (16 * (Z % 16) + z + z / 16) &&& 15 = (16 * (Z % 16) + z + z / 16) % 16 := Nat.and_two_pow_sub_one_eq_mod _ 4
  rw [e15]
  omega
theorem cnt_x {n x : Nat} : cnt (fun j => x.testBit j) (8 + 8 * n) = cnt (fun j => (x % 256).testBit j) 8 + cnt (fun j => (x / 256).testBit j) (8 * n) := by
  rw [cnt_add]
  congr 1
  · exact cnt_congr (fun i hi => by
      show x.testBit i = (x % 2 ^ 8).testBit i
      rw [Nat.testBit_mod_two_pow]; simp [hi])
  · exact cnt_congr (fun i hi => by
      show x.testBit (8 + i) = (x / 2 ^ 8).testBit i
      rw [Nat.testBit_div_two_pow, Nat.add_comm])
theorem ps_div {t r q d : Nat} (hd : 0 < d) (h : r < d) (e : t = r + d * q) : t / d = q := by
  rw [e, Nat.add_mul_div_left r q hd, Nat.div_eq_of_lt h, Nat.zero_add]
theorem pop_sum {a b c d e f g h : Nat} (ha : a ≤ 8) (hb : b ≤ 8) (hc : c ≤ 8) (hd : d ≤ 8) (he : e ≤ 8) (hf : f ≤ 8) (hg : g ≤ 8) (hh : h ≤ 8) (t t1 t2 t3 : Nat)
    (h0 : t = 256 * (256 * (256 * (256 * (256 * (256 * (256 * (256 * 0 + h) + g) + f) + e) + d) + c) + b) + a) (h1 : t1 = t + t / 256) (h2 : t2 = t1 + t1 / 65536) (h3 : t3 = t2 + t2 / 4294967296) : t3 % 128 = a + b + c + d + e + f + g + h ∧ t3 < 18446744073709551616 ∧ t2 < 18446744073709551616 ∧ t1 < 18446744073709551616 ∧ t < 18446744073709551616 := by
  obtain ⟨z, hz⟩ : ∃ z, z = g + 256 * h := ⟨_, rfl⟩
  obtain ⟨y, hy⟩ : ∃ y, y = f + 256 * z := ⟨_, rfl⟩
  obtain ⟨x, hx⟩ : ∃ x, x = e + 256 * y := ⟨_, rfl⟩
  obtain ⟨w, hw⟩ : ∃ w, w = d + 256 * x := ⟨_, rfl⟩
  obtain ⟨v, hv⟩ : ∃ v, v = c + 256 * w := ⟨_, rfl⟩
  obtain ⟨u, hu⟩ : ∃ u, u = b + 256 * v := ⟨_, rfl⟩
  have k0 : t = a + 256 * u := by
    rw [h0, hu, hv, hw, hx, hy, hz, Nat.mul_zero, Nat.zero_add, Nat.add_comm (256 * h) g, Nat.add_comm (256 * (g + 256 * h)) f, Nat.add_comm (256 * (f + 256 * (g + 256 * h))) e, Nat.add_comm (256 * (e + 256 * (f + 256 * (g + 256 * h)))) d, Nat.add_comm (256 * (d + 256 * (e + 256 * (f + 256 * (g + 256 * h))))) c, Nat.add_comm (256 * (c + 256 * (d + 256 * (e + 256 * (f + 256 * (g + 256 * h)))))) b, Nat.add_comm _ a]
  clear h0
  have d1 : t / 256 = u := ps_div (by decide) (by omega) k0
  have k1 : t1 = (a + b) + 256 * (u + v) := by rw [h1, d1, k0]; clear h1 h2 h3 d1 k0 hv hw hx hy hz; omega
  have s1 : u + v = (b + c) + 256 * (v + w) := by clear h1 h2 h3 d1 k0 k1 hw hx hy hz; omega
  have s2 : v + w = (c + d) + 256 * (w + x) := by clear h1 h2 h3 d1 k0 k1 s1 hu hx hy hz; omega
  have s3 : w + x = (d + e) + 256 * (x + y) := by clear h1 h2 h3 d1 k0 k1 s1 s2 hu hv hy hz; omega
  have s4 : x + y = (e + f) + 256 * (y + z) := by clear h1 h2 h3 d1 k0 k1 s1 s2 s3 hu hv hw hz; omega
  have s5 : y + z = (f + g) + 256 * (z + h) := by clear h1 h2 h3 d1 k0 k1 s1 s2 s3 s4 hu hv hw hx; omega
  have l1 : t1 = ((a + b) + 256 * (b + c)) + 65536 * (v + w) := by rw [k1, s1]; clear h1 h2 h3 d1 k0 k1 s1 s2 s3 s4 s5 hu hv hw hx hy hz; omega
  have d2 : t1 / 65536 = v + w := ps_div (by decide) (by clear h1 h2 h3 d1 k0 k1 s1 s2 s3 s4 s5 hu hv hw hx hy hz l1; omega) l1
  have k2 : t2 = (a + b + c + d) + 256 * (b + c + d + e) + 65536 * ((c + d + e + f) + 256 * (d + e + f + g)) + 4294967296 * ((x + y) + (z + h)) := by
    rw [h2, d2, l1]
    generalize y + z = q5 at s4 s5
    generalize x + y = q4 at s3 s4 ⊢
    generalize w + x = q3 at s2 s3
    generalize v + w = q2 at s2 ⊢
    generalize z + h = q6 at s5 ⊢
    subst s2
    subst s3
    clear h1 h2 h3 d1 k0 k1 s1 hu hv hw hx hy hz l1 d2
    omega
  have d3 : t2 / 4294967296 = (x + y) + (z + h) := ps_div (by decide) (by clear h1 h2 h3 d1 k0 k1 s1 s2 s3 s4 s5 hu hv hw hx hy hz l1 d2 k2; omega) k2
  have s6 : z + h = (g + h) + 256 * h := by clear h1 h2 h3 d1 k0 k1 s1 s2 s3 s4 s5 hu hv hw hx hy l1 d2 k2 d3; omega
  have k3 : t3 = (a + b + c + d + e + f + g + h) + 128 * (2 * ((b + c + d + e) + (y + z) + h + 256 * ((c + d + e + f) + 256 * (d + e + f + g)) + 16777216 * ((x + y) + (z + h)))) := by
    rw [h3, d3, k2]
    generalize y + z = q5 at s4 ⊢
    generalize z + h = q6 at s6 ⊢
    generalize x + y = q4 at s4 ⊢
    clear h1 h2 h3 d1 k0 k1 s1 s2 s3 s5 hu hv hw hx hy hz l1 d2 k2 d3
    omega
  have bz : z ≤ 2056 := by clear h1 h2 h3 d1 k0 k1 s1 s2 s3 s4 s5 hu hv hw hx hy l1 d2 k2 d3 k3 s6; omega
  have by_ : y ≤ 526344 := by clear h1 h2 h3 d1 k0 k1 s1 s2 s3 s4 s5 hu hv hw hx hz l1 d2 k2 d3 k3 s6; omega
  have bx : x ≤ 134744072 := by clear h1 h2 h3 d1 k0 k1 s1 s2 s3 s4 s5 hu hv hw hy hz l1 d2 k2 d3 k3 s6; omega
  have bw : w ≤ 34494482440 := by clear h1 h2 h3 d1 k0 k1 s1 s2 s3 s4 s5 hu hv hx hy hz l1 d2 k2 d3 k3 s6; omega
  have bv : v ≤ 8830587504648 := by clear h1 h2 h3 d1 k0 k1 s1 s2 s3 s4 s5 hu hw hx hy hz l1 d2 k2 d3 k3 s6; omega
  have bu : u ≤ 2260630401189896 := by clear h1 h2 h3 d1 k0 k1 s1 s2 s3 s4 s5 hv hw hx hy hz l1 d2 k2 d3 k3 s6; omega
  refine ⟨?_, ?_, ?_, ?_, ?_⟩
  · rw [k3, Nat.add_mul_mod_self_left]
    apply Nat.mod_eq_of_lt
    clear h1 h2 h3 d1 k0 k1 s1 s2 s3 s4 s5 hu hv hw hx hy hz l1 d2 k2 d3 k3 s6 bz by_ bx bw bv bu
    omega
  · rw [k3]
    clear h1 h2 h3 d1 k0 k1 s1 s2 s3 s4 s5 hu hv hw hx hy hz l1 d2 k2 d3 k3 s6 bw bv bu
    omega
  · rw [k2]
    clear h1 h2 h3 d1 k0 k1 s1 s2 s3 s4 s5 hu hv hw hx hy hz l1 d2 k2 d3 k3 s6 bw bv bu
    omega
  · rw [k1]
    clear h1 h2 h3 d1 k0 k1 s1 s2 s3 s4 s5 hu hv hw hx hy hz l1 d2 k2 d3 k3 s6 bz by_ bx bw
    omega
  · rw [k0]
    clear h1 h2 h3 d1 k0 k1 s1 s2 s3 s4 s5 hu hv hw hx hy hz l1 d2 k2 d3 k3 s6 bz by_ bx bw bv
    omega
