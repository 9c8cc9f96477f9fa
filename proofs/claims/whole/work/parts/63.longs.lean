/-! LONGS: bits, division. -/
theorem qf_lnat {n : Nat} (h : n < 2 ^ 62) : (Int64.ofInt (n : Int)).toInt = n := Int64.toInt_ofInt_of_le (by omega) (by omega)
theorem qf_lbv {n : Nat} (k : Nat) (h : n < 2 ^ 62) : (Int64.ofInt (n : Int)).toBitVec.getLsbD k = n.testBit k := by
  rw [Int64.toBitVec_ofInt, BitVec.ofInt_natCast, BitVec.getLsbD_ofNat]
  by_cases hk : k < 64
  · simp [hk]
  · have : n.testBit k = false := Nat.testBit_lt_two_pow (Nat.lt_of_lt_of_le h (Nat.pow_le_pow_right (by omega) (by omega)))
    simp [hk, this]
theorem qf_lext {z : Int64} {n : Nat} (h : n < 2 ^ 62) (hb : ∀ k, k < 64 → z.toBitVec.getLsbD k = n.testBit k) : z.toInt = (n : Int) := by
  have : z = Int64.ofInt (n : Int) := Int64.toBitVec.inj (BitVec.eq_of_getLsbD_eq (fun k hk => by rw [hb k hk, qf_lbv k h]))
  rw [this, qf_lnat h]
theorem qf_lamt {j : Nat} (hj : j < 40) : (((Int32.ofInt (j : Int)).toInt64 &&& 63).toBitVec.smod 64).toNat = j := by
  have : ∀ j : Fin 40, (((Int32.ofInt (j.val : Int)).toInt64 &&& 63).toBitVec.smod 64).toNat = j.val := by decide +kernel
  exact this ⟨j, hj⟩
theorem qf_lbit {n j : Nat} (hn : n < 2 ^ 40) (hj : j < 40) : pj_land (pj_lshr (n : Int) (j : Int)) 1 = if n.testBit j then 1 else 0 := by
  have h62 : n < 2 ^ 62 := Nat.lt_of_lt_of_le hn (by decide)
  have e1 : pj_land (pj_lshr (n : Int) (j : Int)) 1 = (((if n.testBit j then 1 else 0 : Nat)) : Int) := by
    unfold pj_land pj_lshr
    rw [Int64.ofInt_toInt]
    refine qf_lext (by split <;> decide) (fun k hk => ?_)
    rw [Int64.toBitVec_and, BitVec.getLsbD_and, Int64.toBitVec_shiftRight, BitVec.getLsbD_sshiftRight', qf_lamt hj]
    have e2 : (Int64.ofInt 1).toBitVec.getLsbD k = (1 : Nat).testBit k := qf_lbv (n := 1) k (by decide)
    rw [e2]
    by_cases h0 : k = 0
    · subst h0
      have hd : (!decide (64 ≤ 0)) = true := by decide
      rw [if_pos (by omega), hd, Bool.true_and, Nat.add_zero, qf_lbv j h62]
      cases n.testBit j <;> decide
    · have e3 : (1 : Nat).testBit k = false := by
        rw [show (1 : Nat) = 2 ^ 0 from rfl, Nat.testBit_two_pow]
        exact decide_eq_false (by omega)
      rw [e3, Bool.and_false]
      cases n.testBit j
      · rw [if_neg (by decide), Nat.zero_testBit]
      · rw [if_pos rfl, e3]
  rw [e1]
  split <;> rfl
theorem qf_lset {n j : Nat} (hn : n < 2 ^ 40) (hj : j < 40) : pj_lor (n : Int) (pj_lshl 1 (j : Int)) = ((n ||| 2 ^ j : Nat) : Int) := by
  have h62 : n < 2 ^ 62 := Nat.lt_of_lt_of_le hn (by decide)
  have hj2 : (2 : Nat) ^ j < 2 ^ 40 := Nat.pow_lt_pow_right (by omega) hj
  have hor : n ||| 2 ^ j < 2 ^ 62 := Nat.lt_of_lt_of_le (Nat.or_lt_two_pow hn hj2) (by decide)
  have e0 : pj_lshl 1 (j : Int) = ((2 ^ j : Nat) : Int) := by
    have : ∀ j : Fin 40, pj_lshl 1 (j.val : Int) = ((2 ^ j.val : Nat) : Int) := by decide +kernel
    exact this ⟨j, hj⟩
  rw [e0]
  unfold pj_lor
  refine qf_lext hor (fun k hk => ?_)
  rw [Int64.toBitVec_or, BitVec.getLsbD_or, qf_lbv k h62, qf_lbv k (Nat.lt_of_lt_of_le hj2 (by decide)), Nat.testBit_or]
theorem qf_ldiv_nat {a b : Nat} (ha : a < 2 ^ 62) (hb : 0 < b) (hb2 : b < 2 ^ 62) : pj_ldiv (a : Int) (b : Int) = ((a / b : Nat) : Int) := by
  unfold pj_ldiv
  have e1 := qf_lnat ha
  have e2 := qf_lnat hb2
  rw [Int64.toInt_div_of_ne_left _ _ (by
    intro z
    rw [z] at e1
    have : Int64.minValue.toInt = -9223372036854775808 := by decide +kernel
    omega), e1, e2, Int.tdiv_eq_ediv_of_nonneg (by omega)]
  exact (Int.natCast_ediv a b).symm
theorem qf_lrem_nat {a b : Nat} (ha : a < 2 ^ 62) (hb : 0 < b) (hb2 : b < 2 ^ 62) : pj_lrem (a : Int) (b : Int) = ((a % b : Nat) : Int) := by
  have h1 := qf_ldiv_nat ha hb hb2
  unfold pj_ldiv at h1
  unfold pj_lrem
  have e1 := qf_lnat ha
  have e2 := qf_lnat hb2
  have hd : a / b * b + a % b = a := Nat.div_add_mod' a b
  have hp : ((a / b : Nat) : Int) * (b : Int) = ((a / b * b : Nat) : Int) := by rw [Int.natCast_mul]
  rw [Int64.toInt_sub, Int64.toInt_mul, h1, e1, e2, hp]
  have e3 : (((a / b * b : Nat) : Int)).bmod (2 ^ 64) = ((a / b * b : Nat) : Int) := by
    apply Int.bmod_eq_of_le <;> omega
  rw [e3]
  have e4 : (a : Int) - ((a / b * b : Nat) : Int) = ((a % b : Nat) : Int) := by omega
  rw [e4]
  apply Int.bmod_eq_of_le <;> omega
