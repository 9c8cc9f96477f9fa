/-! BITS of numbers, and what comparisons say. -/
theorem pj_nk {x : Int} {j : Nat} (e : x = (j : Int)) (h : j < 2147483648) : pj_nrm x = (j : Int) := by
  rw [e]
  exact pj_nrm_id (by omega) (by omega)
theorem pj_nrm_op (z : Int32) : pj_nrm z.toInt = z.toInt := by
  unfold pj_nrm
  rw [Int32.ofInt_toInt]
/-- bit k of a number -/
def pj_bt (x : Int) (k : Nat) : Bool := (Int32.ofInt x).toBitVec.getLsbD k
theorem pj_bt_toInt (z : Int32) (k : Nat) : pj_bt z.toInt k = z.toBitVec.getLsbD k := by
  unfold pj_bt
  rw [Int32.ofInt_toInt]
theorem pj_bt_nat {n : Nat} (k : Nat) (h : n < 2147483648) : pj_bt (n : Int) k = n.testBit k := by
  unfold pj_bt
  rw [Int32.toBitVec_ofInt, BitVec.ofInt_natCast, BitVec.getLsbD_ofNat]
  by_cases hk : k < 32
  · simp [hk]
  · have : n.testBit k = false := Nat.testBit_lt_two_pow (Nat.lt_of_lt_of_le (by omega : n < 2 ^ 31) (Nat.pow_le_pow_right (by omega) (by omega)))
    simp [hk, this]
theorem pj_bt_or (x y : Int) (k : Nat) : pj_bt (pj_or x y) k = (pj_bt x k || pj_bt y k) := by
  unfold pj_or
  rw [pj_bt_toInt, Int32.toBitVec_or, BitVec.getLsbD_or]
  rfl
theorem pj_bt_and (x y : Int) (k : Nat) : pj_bt (pj_and x y) k = (pj_bt x k && pj_bt y k) := by
  unfold pj_and
  rw [pj_bt_toInt, Int32.toBitVec_and, BitVec.getLsbD_and]
  rfl
theorem pj_bt_hi (x : Int) {k : Nat} (h : 32 ≤ k) : pj_bt x k = false := BitVec.getLsbD_of_ge _ _ h
theorem pj_bt_m1 {k : Nat} (h : k < 32) : pj_bt (-1) k = true := by
  have : ∀ k : Fin 32, pj_bt (-1) k.val = true := by decide +kernel
  exact this ⟨k, h⟩
theorem pj_bt_0 (k : Nat) : pj_bt 0 k = false := by
  have := pj_bt_nat (n := 0) k (by omega)
  rw [Nat.zero_testBit] at this
  exact this
theorem pj_bt_not (x : Int) {k : Nat} (h : k < 32) : pj_bt (pj_xor x (-1)) k = !pj_bt x k := by
  unfold pj_xor
  rw [pj_bt_toInt, Int32.toBitVec_xor, BitVec.getLsbD_xor]
  have := pj_bt_m1 h
  unfold pj_bt at this
  rw [this, Bool.xor_true]
  rfl
theorem pj_bt_shl1 {j k : Nat} (hj : j < 32) (hk : k < 32) : pj_bt (pj_shl 1 (j : Int)) k = decide (k = j) := by
  have : ∀ j k : Fin 32, pj_bt (pj_shl 1 (j.val : Int)) k.val = decide (k.val = j.val) := by decide +kernel
  exact this ⟨j, hj⟩ ⟨k, hk⟩
theorem pj_shl1_nat {j : Nat} (hj : j < 31) : pj_shl 1 (j : Int) = ((2 ^ j : Nat) : Int) := by
  have : ∀ j : Fin 31, pj_shl 1 (j.val : Int) = ((2 ^ j.val : Nat) : Int) := by decide +kernel
  exact this ⟨j, hj⟩
theorem pj_sh_amt {j : Nat} (hj : j < 32) : ((Int32.ofInt (j : Int) &&& 31).toBitVec.smod 32).toNat = j := by
  have : ∀ j : Fin 32, ((Int32.ofInt (j.val : Int) &&& 31).toBitVec.smod 32).toNat = j.val := by decide +kernel
  exact this ⟨j, hj⟩
theorem pj_bt_shr (x : Int) {j k : Nat} (hj : j < 32) (hk : k + j < 32) : pj_bt (pj_shr x (j : Int)) k = pj_bt x (k + j) := by
  unfold pj_shr
  rw [pj_bt_toInt, Int32.toBitVec_shiftRight, BitVec.getLsbD_sshiftRight', pj_sh_amt hj, if_pos (by omega)]
  have : (!decide (32 ≤ k)) = true := by simp; omega
  rw [this, Bool.true_and, Nat.add_comm j k]
  rfl
theorem pj_and_one (x : Int) : pj_and x 1 = if pj_bt x 0 then 1 else 0 := by
  have h : (Int32.ofInt x &&& Int32.ofInt 1) = if pj_bt x 0 then Int32.ofInt 1 else Int32.ofInt 0 := by
    apply Int32.toBitVec.inj
    apply BitVec.eq_of_getLsbD_eq
    intro k hk
    rw [Int32.toBitVec_and, BitVec.getLsbD_and]
    have e1 : ∀ k : Fin 32, (Int32.ofInt 1).toBitVec.getLsbD k.val = decide (k.val = 0) := by decide +kernel
    have e0 : ∀ k : Fin 32, (Int32.ofInt 0).toBitVec.getLsbD k.val = false := by decide +kernel
    have e1k := e1 ⟨k, hk⟩
    have e0k := e0 ⟨k, hk⟩
    dsimp only at e1k e0k
    rw [e1k]
    by_cases hz : k = 0
    · subst hz
      cases hb : pj_bt x 0 with
      | true => rw [if_pos rfl, e1k]; unfold pj_bt at hb; rw [hb]; rfl
      | false => rw [if_neg (by simp), e0k]; unfold pj_bt at hb; rw [hb]; rfl
    · rw [decide_eq_false hz, Bool.and_false]
      split
      · rw [e1k, decide_eq_false hz]
      · rw [e0k]
  unfold pj_and
  rw [h]
  split <;> decide +kernel
/-- a bit tested -/
theorem pj_bit1 (x : Int) {y : Int} {j : Nat} (e : y = (j : Int)) (hj : j < 32) : pj_and (pj_shr x y) 1 = if pj_bt x j then 1 else 0 := by
  rw [e, pj_and_one, pj_bt_shr x hj (by omega), Nat.zero_add]
theorem pj_tst {x y : Int} {j : Nat} (e : y = (j : Int)) (hj : j < 32) : pj_nrm (pj_and (pj_shr x y) 1) = if pj_bt x j then 1 else 0 := by
  rw [pj_bit1 x e hj]
  split <;> decide +kernel
theorem pj_bt_ext {x y : Int} (hx1 : -2147483648 ≤ x) (hx2 : x < 2147483648) (hy1 : -2147483648 ≤ y) (hy2 : y < 2147483648) (h : ∀ k, k < 32 → pj_bt x k = pj_bt y k) : x = y := by
  have : Int32.ofInt x = Int32.ofInt y := Int32.toBitVec.inj (BitVec.eq_of_getLsbD_eq h)
  have e := congrArg Int32.toInt this
  have ex : (Int32.ofInt x).toInt = x := pj_nrm_id hx1 hx2
  have ey : (Int32.ofInt y).toInt = y := pj_nrm_id hy1 hy2
  rw [ex, ey] at e
  exact e
theorem pj_op_rng (z : Int32) : -2147483648 ≤ z.toInt ∧ z.toInt < 2147483648 := ⟨Int32.le_toInt z, Int32.toInt_lt z⟩
theorem pj_and_rng (x y : Int) : -2147483648 ≤ pj_and x y ∧ pj_and x y < 2147483648 := pj_op_rng _
theorem pj_or_rng (x y : Int) : -2147483648 ≤ pj_or x y ∧ pj_or x y < 2147483648 := pj_op_rng _
theorem pj_xor_rng (x y : Int) : -2147483648 ≤ pj_xor x y ∧ pj_xor x y < 2147483648 := pj_op_rng _
theorem pj_shl_rng (x y : Int) : -2147483648 ≤ pj_shl x y ∧ pj_shl x y < 2147483648 := pj_op_rng _
theorem pj_shr_rng (x y : Int) : -2147483648 ≤ pj_shr x y ∧ pj_shr x y < 2147483648 := pj_op_rng _
/-- no bit from n on: a small number -/
theorem pj_bt_small {x : Int} {n : Nat} (hn : n < 32) (hx1 : -2147483648 ≤ x) (hx2 : x < 2147483648) (h : ∀ k, n ≤ k → k < 32 → pj_bt x k = false) : ∃ m : Nat, x = (m : Int) ∧ m < 2 ^ n := by
  let m := (Int32.ofInt x).toBitVec.toNat
  have hm : m < 2 ^ n := by
    apply Nat.lt_pow_two_of_testBit
    intro k hk
    by_cases hk2 : k < 32
    · exact h k hk hk2
    · exact pj_bt_hi x (by omega)
  have hm31 : m < 2147483648 := Nat.lt_of_lt_of_le hm (by
    have : 2 ^ n ≤ 2 ^ 31 := Nat.pow_le_pow_right (by omega) (by omega)
    omega)
  refine ⟨m, ?_, hm⟩
  refine pj_bt_ext hx1 hx2 (by omega) (by omega) (fun k hk => ?_)
  rw [pj_bt_nat k hm31]
  rfl
theorem pj_nat_ext {m n : Nat} (hm : m < 128) (hn : n < 128) (h : ∀ k, k < 7 → m.testBit k = n.testBit k) : m = n := by
  apply Nat.eq_of_testBit_eq
  intro k
  by_cases hk : k < 7
  · exact h k hk
  · rw [Nat.testBit_lt_two_pow (Nat.lt_of_lt_of_le (by omega : m < 2 ^ 7) (Nat.pow_le_pow_right (by omega) (by omega))), Nat.testBit_lt_two_pow (Nat.lt_of_lt_of_le (by omega : n < 2 ^ 7) (Nat.pow_le_pow_right (by omega) (by omega)))]
theorem pj_and0 {x y : Int} : pj_and x y = 0 ↔ ∀ k, k < 32 → pj_bt x k = true → pj_bt y k = false := by
  constructor
  · intro h k hk hx
    have := pj_bt_and x y k
    rw [h, pj_bt_0, hx, Bool.true_and] at this
    exact this.symm
  · intro h
    refine pj_bt_ext (pj_and_rng x y).1 (pj_and_rng x y).2 (by omega) (by omega) (fun k hk => ?_)
    rw [pj_bt_and, pj_bt_0]
    cases hx : pj_bt x k with
    | false => rfl
    | true => rw [h k hk hx]; rfl
theorem pj_ine0 {b : Bool} (h : (if b then (1 : Int) else 0) ≠ 0) : b = true := by cases b; exact absurd rfl h; rfl
theorem pj_ieq0 {b : Bool} (h : (if b then (1 : Int) else 0) = 0) : b = false := by cases b; rfl; exact absurd h (by decide)
theorem pj_ine1 {b : Bool} (h : (if b then (1 : Int) else 0) ≠ 1) : b = false := by cases b; rfl; exact absurd rfl h
theorem pj_ieq1 {b : Bool} (h : (if b then (1 : Int) else 0) = 1) : b = true := by cases b; exact absurd h (by decide); rfl
theorem pj_div_nat {a b : Nat} (ha : a < 2147483648) (hb : 0 < b) (hb2 : b < 2147483648) : pj_div (a : Int) (b : Int) = ((a / b : Nat) : Int) := by
  unfold pj_div
  have e1 : (Int32.ofInt (a : Int)).toInt = a := pj_nrm_id (by omega) (by omega)
  have e2 : (Int32.ofInt (b : Int)).toInt = b := pj_nrm_id (by omega) (by omega)
  rw [Int32.toInt_div_of_ne_left _ _ (by
    intro z
    rw [z] at e1
    have : Int32.minValue.toInt = -2147483648 := by decide +kernel
    omega), e1, e2, Int.tdiv_eq_ediv_of_nonneg (by omega)]
  exact (Int.natCast_ediv a b).symm
theorem pj_rem_nat {a b : Nat} (ha : a < 2147483648) (hb : 0 < b) (hb2 : b < 2147483648) : pj_rem (a : Int) (b : Int) = ((a % b : Nat) : Int) := by
  have h1 := pj_div_nat ha hb hb2
  unfold pj_div at h1
  unfold pj_rem
  have e1 : (Int32.ofInt (a : Int)).toInt = a := pj_nrm_id (by omega) (by omega)
  have e2 : (Int32.ofInt (b : Int)).toInt = b := pj_nrm_id (by omega) (by omega)
  have hd : a / b * b + a % b = a := Nat.div_add_mod' a b
  have hp : ((a / b : Nat) : Int) * (b : Int) = ((a / b * b : Nat) : Int) := by rw [Int.natCast_mul]
  rw [Int32.toInt_sub, Int32.toInt_mul, h1, e1, e2, hp]
  have e3 : (((a / b * b : Nat) : Int)).bmod (2 ^ 32) = ((a / b * b : Nat) : Int) := by
    apply Int.bmod_eq_of_le <;> omega
  rw [e3]
  have e4 : (a : Int) - ((a / b * b : Nat) : Int) = ((a % b : Nat) : Int) := by omega
  rw [e4]
  apply Int.bmod_eq_of_le <;> omega
theorem pj_ct_eq {X Y x y : Int} (hx : X = x) (hy : Y = y) (z : pj_cmp .eq X Y = true) : x = y := by
  subst hx
  subst hy
  exact of_decide_eq_true z
theorem pj_cf_eq {X Y x y : Int} (hx : X = x) (hy : Y = y) (z : pj_cmp .eq X Y = false) : x ≠ y := by
  subst hx
  subst hy
  exact of_decide_eq_false z
theorem pj_ct_ne {X Y x y : Int} (hx : X = x) (hy : Y = y) (z : pj_cmp .ne X Y = true) : x ≠ y := by
  subst hx
  subst hy
  exact of_decide_eq_true z
theorem pj_cf_ne {X Y x y : Int} (hx : X = x) (hy : Y = y) (z : pj_cmp .ne X Y = false) : x = y := by
  subst hx
  subst hy
  exact Decidable.of_not_not (of_decide_eq_false z)
theorem pj_ct_lt {X Y x y : Int} (hx : X = x) (hy : Y = y) (z : pj_cmp .lt X Y = true) : x < y := by
  subst hx
  subst hy
  exact of_decide_eq_true z
theorem pj_cf_lt {X Y x y : Int} (hx : X = x) (hy : Y = y) (z : pj_cmp .lt X Y = false) : y ≤ x := by
  subst hx
  subst hy
  exact Int.not_lt.mp (of_decide_eq_false z)
theorem pj_ct_ge {X Y x y : Int} (hx : X = x) (hy : Y = y) (z : pj_cmp .ge X Y = true) : y ≤ x := by
  subst hx
  subst hy
  exact of_decide_eq_true z
theorem pj_cf_ge {X Y x y : Int} (hx : X = x) (hy : Y = y) (z : pj_cmp .ge X Y = false) : x < y := by
  subst hx
  subst hy
  exact Int.not_le.mp (of_decide_eq_false z)
theorem pj_ct_gt {X Y x y : Int} (hx : X = x) (hy : Y = y) (z : pj_cmp .gt X Y = true) : y < x := by
  subst hx
  subst hy
  exact of_decide_eq_true z
theorem pj_cf_gt {X Y x y : Int} (hx : X = x) (hy : Y = y) (z : pj_cmp .gt X Y = false) : x ≤ y := by
  subst hx
  subst hy
  exact Int.not_lt.mp (of_decide_eq_false z)
theorem pj_ct_le {X Y x y : Int} (hx : X = x) (hy : Y = y) (z : pj_cmp .le X Y = true) : x ≤ y := by
  subst hx
  subst hy
  exact of_decide_eq_true z
theorem pj_cf_le {X Y x y : Int} (hx : X = x) (hy : Y = y) (z : pj_cmp .le X Y = false) : y < x := by
  subst hx
  subst hy
  exact Int.not_le.mp (of_decide_eq_false z)
