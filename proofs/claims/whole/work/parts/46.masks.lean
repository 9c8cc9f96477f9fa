/-! MASKS, and the numbers that a story allows. -/
def qf_msk (c : Nat → Bool) : Nat → Nat
  | 0 => 0
  | n + 1 => if c n then qf_msk c n ||| 2 ^ n else qf_msk c n
theorem qf_msk_bit (c : Nat → Bool) (k : Nat) : ∀ n, (qf_msk c n).testBit k = decide (k < n ∧ c k = true)
  | 0 => by
    rw [qf_msk, Nat.zero_testBit]
    exact (decide_eq_false (fun z => absurd z.1 (by omega))).symm
  | n + 1 => by
    rw [qf_msk]
    by_cases hc : c n = true
    · rw [if_pos hc, Nat.testBit_or, qf_msk_bit c k n, Nat.testBit_two_pow]
      by_cases e : n = k
      · subst e
        rw [decide_eq_true (rfl : n = n), Bool.or_true]
        exact (decide_eq_true ⟨by omega, hc⟩).symm
      · rw [decide_eq_false e, Bool.or_false]
        exact decide_eq_decide.mpr ⟨fun z => ⟨by omega, z.2⟩, fun z => ⟨by omega, z.2⟩⟩
    · rw [if_neg hc, qf_msk_bit c k n]
      refine decide_eq_decide.mpr ⟨fun z => ⟨by omega, z.2⟩, fun z => ⟨?_, z.2⟩⟩
      have : k ≠ n := fun y => hc (y ▸ z.2)
      omega
theorem qf_msk_lt (c : Nat → Bool) : ∀ n, qf_msk c n < 2 ^ n
  | 0 => Nat.one_pos
  | n + 1 => by
    have ih := qf_msk_lt c n
    have h2 : 2 ^ (n + 1) = 2 * 2 ^ n := by rw [Nat.pow_succ]; omega
    rw [qf_msk]
    split
    · exact Nat.or_lt_two_pow (by omega) (by omega)
    · omega
theorem qf_msk_lt7 (c : Nat → Bool) {n : Nat} (h : n ≤ 7) : qf_msk c n < 128 := Nat.lt_of_lt_of_le (qf_msk_lt c n) (Nat.pow_le_pow_right (n := 2) (by omega) h)
/-- the parts that may break -/
def qf_mayc (D : qf_D) (p : Nat) : Bool := decide (qf_kd D p ≠ 4 ∧ qf_sn D p = 0)
def qf_may (D : qf_D) : Nat := qf_msk (qf_mayc D) (qf_dP D)
/-- the parts that are no meters -/
def qf_nmc (D : qf_D) (p : Nat) : Bool := decide (qf_kd D p ≠ 4)
def qf_nm (D : qf_D) : Nat := qf_msk (qf_nmc D) (qf_dP D)
theorem qf_nat_ext3 {m n : Nat} (hm : m < 8) (hn : n < 8) (h : ∀ k, k < 3 → m.testBit k = n.testBit k) : m = n := by
  apply Nat.eq_of_testBit_eq
  intro k
  by_cases hk : k < 3
  · exact h k hk
  · rw [Nat.testBit_lt_two_pow (Nat.lt_of_lt_of_le (by omega : m < 2 ^ 3) (Nat.pow_le_pow_right (by omega) (by omega))), Nat.testBit_lt_two_pow (Nat.lt_of_lt_of_le (by omega : n < 2 ^ 3) (Nat.pow_le_pow_right (by omega) (by omega)))]
/-- the numbers of a place for a story, as bits -/
def qf_vmp (D : qf_D) (set k j : Nat) : Prop := k % 14 < qf_dW D ∧ k / 14 < qf_dT D ∧ ∃ ro, qf_rs D set ro ∧ ∃ v, qf_run D ro v ∧ v (k / 14) (k % 14) = j
noncomputable def qf_vm (D : qf_D) (set k : Nat) : Nat := qf_msk (fun j => @decide (qf_vmp D set k j) (Classical.propDecidable _)) 3
theorem qf_vm_bit {D : qf_D} {set k j : Nat} : (qf_vm D set k).testBit j = true ↔ j < 3 ∧ qf_vmp D set k j := by
  unfold qf_vm
  rw [qf_msk_bit, decide_eq_true_iff, @decide_eq_true_iff _ (Classical.propDecidable _)]
theorem qf_vm_lt {D : qf_D} {set k : Nat} : qf_vm D set k < 8 := qf_msk_lt _ 3
/-- pops, bit by bit -/
def qf_popn (s : Nat) : Nat → Nat
  | 0 => 0
  | k + 1 => qf_popn s k + if s.testBit k then 1 else 0
theorem qf_popn_8 : ∀ s : Fin 128, qf_popn s.val 8 = qf_pop s.val := by decide +kernel
theorem qf_popn_le (s : Nat) : ∀ k, qf_popn s k ≤ k
  | 0 => Nat.le_refl _
  | k + 1 => by
    have := qf_popn_le s k
    rw [qf_popn]
    split <;> omega
theorem qf_pop_le : ∀ s : Fin 128, qf_pop s.val ≤ 7 := by decide +kernel
/-- no bit of a beyond b -/
theorem qf_andn {a b : Nat} (ha : a < 128) (hb : b < 128) : pj_and (a : Int) (pj_xor (b : Int) (-1)) = 0 ↔ qf_sub a b := by
  rw [pj_and0]
  constructor
  · intro h p hp h1
    have := h p (by omega) (by rw [pj_bt_nat p (by omega)]; exact h1)
    rw [pj_bt_not _ (by omega), pj_bt_nat p (by omega)] at this
    simpa using this
  · intro h k hk h1
    rw [pj_bt_nat k (by omega)] at h1
    rw [pj_bt_not _ hk, pj_bt_nat k (by omega)]
    by_cases h7 : k < 7
    · rw [h k h7 h1]; rfl
    · rw [Nat.testBit_lt_two_pow (Nat.lt_of_lt_of_le (by omega : a < 2 ^ 7) (Nat.pow_le_pow_right (by omega) (by omega)))] at h1
      cases h1
