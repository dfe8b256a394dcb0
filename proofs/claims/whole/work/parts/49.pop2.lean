theorem bL_lN {n : Nat} (h : n < 2 ^ 64) (k : Nat) : bL (lN n) k = n.testBit k := by
  unfold bL
  rw [wb_tb, BitVec.getLsbD_ofNat]
  by_cases hk : k < 64
  · simp [hk]
  · have : n.testBit k = false := Nat.testBit_lt_two_pow (Nat.lt_of_lt_of_le h (Nat.pow_le_pow_right (by decide) (by omega)))
    simp [hk, this]
theorem sp_bitCountL (y : Int64) (σ : tq_S) : tq_fI st_Jl_bitCount (0, [], [y], σ) = some (nI (cnt (bL y) 64), σ) := by
  obtain ⟨X, hX, rfl⟩ := wb_of y
  refine tq_fI_e (tq_at (by decide) ?_)
  show tq_wo (bk_Jl_bitCount_0 [] [lN X] σ) _
  rw [bk_Jl_bitCount_0]
  have r55 : (6148914691236517205 : Int64) = lN (rep 85 8) := by decide +kernel
  have r33 : (3689348814741910323 : Int64) = lN (rep 51 8) := by decide +kernel
  have r0f : (1085102592571150095 : Int64) = lN (rep 15 8) := by decide +kernel
  have b55 : rep 85 8 < 2 ^ 64 := by decide +kernel
  have b33 : rep 51 8 < 2 ^ 62 := by decide +kernel
  have b0f : rep 15 8 < 2 ^ 60 := by decide +kernel
  have z0 : PZ 0 (X / 256 / 256 / 256 / 256 / 256 / 256 / 256 / 256) = 0 := by simp [PZ, P2, rep]
  -- the eight bytes
  have cb : ∀ p : Nat → Bool, cnt p 8 ≤ 8 := fun p => cnt_le p 8
  have hT : PT 8 X = 256 * (256 * (256 * (256 * (256 * (256 * (256 * (256 * 0 + cnt (fun j => (X / 256 / 256 / 256 / 256 / 256 / 256 / 256 % 256).testBit j) 8) + cnt (fun j => (X / 256 / 256 / 256 / 256 / 256 / 256 % 256).testBit j) 8) + cnt (fun j => (X / 256 / 256 / 256 / 256 / 256 % 256).testBit j) 8) + cnt (fun j => (X / 256 / 256 / 256 / 256 % 256).testBit j) 8) + cnt (fun j => (X / 256 / 256 / 256 % 256).testBit j) 8) + cnt (fun j => (X / 256 / 256 % 256).testBit j) 8) + cnt (fun j => (X / 256 % 256).testBit j) 8) + cnt (fun j => (X % 256).testBit j) 8 := by
    rw [PT_x, PT_x, PT_x, PT_x, PT_x, PT_x, PT_x, PT_x]
    have : PT 0 (X / 256 / 256 / 256 / 256 / 256 / 256 / 256 / 256) = 0 := by simp [PT, rep]
    rw [this]
  have hC : cnt (bL (lN X)) 64 = cnt (fun j => (X % 256).testBit j) 8 + cnt (fun j => (X / 256 % 256).testBit j) 8 + cnt (fun j => (X / 256 / 256 % 256).testBit j) 8 + cnt (fun j => (X / 256 / 256 / 256 % 256).testBit j) 8 + cnt (fun j => (X / 256 / 256 / 256 / 256 % 256).testBit j) 8 + cnt (fun j => (X / 256 / 256 / 256 / 256 / 256 % 256).testBit j) 8 + cnt (fun j => (X / 256 / 256 / 256 / 256 / 256 / 256 % 256).testBit j) 8 + cnt (fun j => (X / 256 / 256 / 256 / 256 / 256 / 256 / 256 % 256).testBit j) 8 := by
    rw [cnt_congr (q := fun j => X.testBit j) (fun i _ => bL_lN hX i)]
    rw [show 64 = 8 + 8 * 7 from rfl, cnt_x, show 8 * 7 = 8 + 8 * 6 from rfl, cnt_x, show 8 * 6 = 8 + 8 * 5 from rfl, cnt_x, show 8 * 5 = 8 + 8 * 4 from rfl, cnt_x, show 8 * 4 = 8 + 8 * 3 from rfl, cnt_x, show 8 * 3 = 8 + 8 * 2 from rfl, cnt_x, show 8 * 2 = 8 + 8 * 1 from rfl, cnt_x, show 8 * 1 = 8 + 8 * 0 from rfl, cnt_x]
    show _ = _
    simp only [Nat.mul_zero, cnt]
    omega
  obtain ⟨s1, s2, s3, s4, s5⟩ := pop_sum (cb _) (cb _) (cb _) (cb _) (cb _) (cb _) (cb _) (cb _) (PT 8 X) _ _ _ hT rfl rfl rfl
  have P1lt : P1 8 X < 2 ^ 64 := Nat.lt_of_le_of_lt (Nat.sub_le _ _) hX
  have e1 : lN X - (jlushr (lN X) 1 &&& 6148914691236517205) = lN (P1 8 X) := by
    rw [show jlushr (lN X) 1 = lN (X / 2 ^ 1) from wb_shr hX (k := 1) (by decide), r55, wb_and (Nat.lt_of_le_of_lt (Nat.div_le_self _ _) hX) b55, Nat.pow_one]
    exact lN_sub (Nat.le_trans Nat.and_le_left (Nat.div_le_self _ _))
  have a1 : P1 8 X &&& rep 51 8 < 2 ^ 62 := Nat.and_lt_two_pow _ b33
  have a2 : P1 8 X / 4 &&& rep 51 8 < 2 ^ 62 := Nat.and_lt_two_pow _ b33
  have PZlt : PZ 8 X < 2 ^ 63 := by unfold PZ P2; omega
  have e2 : (lN (P1 8 X) &&& 3689348814741910323) + (jlushr (lN (P1 8 X)) 2 &&& 3689348814741910323) = lN (PZ 8 X) := by
    rw [show jlushr (lN (P1 8 X)) 2 = lN (P1 8 X / 2 ^ 2) from wb_shr P1lt (k := 2) (by decide), r33, wb_and P1lt (by omega), wb_and (Nat.lt_of_le_of_lt (Nat.div_le_self _ _) P1lt) (by omega), lN_add]
    rfl
  have e3 : (lN (PZ 8 X) + jlushr (lN (PZ 8 X)) 4) &&& 1085102592571150095 = lN (PT 8 X) := by
    rw [show jlushr (lN (PZ 8 X)) 4 = lN (PZ 8 X / 2 ^ 4) from wb_shr (by omega) (k := 4) (by decide), lN_add, r0f, wb_and (by omega) (by omega)]
    rfl
  refine wi_l ?_
  rw [e1]
  refine wi_l ?_
  rw [e2]
  refine wi_l ?_
  rw [e3]
  refine wi_l ?_
  rw [show jlushr (lN (PT 8 X)) 8 = lN (PT 8 X / 2 ^ 8) from wb_shr (by omega) (k := 8) (by decide), lN_add, show (2 : Nat) ^ 8 = 256 from rfl]
  refine wi_l ?_
  rw [show jlushr (lN (PT 8 X + PT 8 X / 256)) 16 = lN ((PT 8 X + PT 8 X / 256) / 2 ^ 16) from wb_shr (by omega) (k := 16) (by decide), lN_add, show (2 : Nat) ^ 16 = 65536 from rfl]
  refine wi_l ?_
  rw [show jlushr (lN (PT 8 X + PT 8 X / 256 + (PT 8 X + PT 8 X / 256) / 65536)) 32 = lN ((PT 8 X + PT 8 X / 256 + (PT 8 X + PT 8 X / 256) / 65536) / 2 ^ 32) from wb_shr (by omega) (k := 32) (by decide), lN_add, show (2 : Nat) ^ 32 = 4294967296 from rfl]
  refine wi_s (tq_wp_rt ?_)
  rw [lN_i, pk_and _ 7 (by decide), hC, ← s1]
  have : (nI (PT 8 X + PT 8 X / 256 + (PT 8 X + PT 8 X / 256) / 65536 + (PT 8 X + PT 8 X / 256 + (PT 8 X + PT 8 X / 256) / 65536) / 4294967296)).toBitVec.toNat % 2 ^ 7 = (PT 8 X + PT 8 X / 256 + (PT 8 X + PT 8 X / 256) / 65536 + (PT 8 X + PT 8 X / 256 + (PT 8 X + PT 8 X / 256) / 65536) / 4294967296) % 128 := by
    show (BitVec.ofNat 32 _).toNat % 128 = _
    rw [BitVec.toNat_ofNat]
    omega
  rw [this]
