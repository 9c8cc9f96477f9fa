/-! refusals, isIn, status, on both sides. -/
theorem pj_nrm_m7 : pj_nrm (-7) = -7 := by decide +kernel
theorem pj_nrm_m8 : pj_nrm (-8) = -8 := by decide +kernel
theorem pj_nrm_m2 : pj_nrm (-2) = -2 := by decide +kernel
/-- a refusal counted: class (37), reference (56) -/
def pj_rfX (M : pj_M) (w : Nat) : pj_M := pj_up M 37 w (M 37 w + 1)
def pj_rfY (M : pj_M) (w : Nat) : pj_M := pj_up M 56 w (M 56 w + 1)
section PJR
variable {L d : Nat} {Q : Option pj_V → pj_M → Prop} {M : pj_M}
theorem pj_refuse (w : Nat) (hw : w < 9) (h : Q (some (pj_vI (-(w : Int)))) (pj_rfX M w)) : pj_G L d 77 0 [pj_vR 1, pj_vI (-(w : Int))] [] M Q := by
  have e : pj_nrm (- -(w : Int)) = w := by
    rw [Int.neg_neg]
    exact pj_nrm_id (by omega) (by omega)
  refine pj_B77_0 ⟨by omega, by omega⟩ ⟨by omega, by omega⟩ ?_
  rw [e, Int.toNat_natCast]
  exact h
theorem pj_no (w : Nat) (hw : w < 9) (h : Q (some (pj_vI (-(w : Int)))) (pj_rfY M w)) : pj_G L d 86 0 [pj_vR 38, pj_vI (-(w : Int))] [] M Q := by
  have e : pj_nrm (- -(w : Int)) = w := by
    rw [Int.neg_neg]
    exact pj_nrm_id (by omega) (by omega)
  refine pj_B86_0 ⟨by omega, by omega⟩ ⟨by omega, by omega⟩ ?_
  rw [e, Int.toNat_natCast]
  exact h
theorem pj_lcmp_id {x y : Int} (hx1 : -9223372036854775808 ≤ x) (hx2 : x < 9223372036854775808) (hy1 : -9223372036854775808 ≤ y) (hy2 : y < 9223372036854775808) : pj_lcmp x y = if y < x then 1 else if x = y then 0 else -1 := by
  have ex : (Int64.ofInt x).toInt = x := pj_nrl_id hx1 hx2
  have ey : (Int64.ofInt y).toInt = y := pj_nrl_id hy1 hy2
  have hgt : (Int64.ofInt x > Int64.ofInt y) ↔ y < x := by
    rw [gt_iff_lt, Int64.lt_iff_toInt_lt, ex, ey]
  have heq : (Int64.ofInt x = Int64.ofInt y) ↔ x = y := by
    rw [← Int64.toInt_inj, ex, ey]
  unfold pj_lcmp lg_cmp
  by_cases h1 : y < x
  · rw [if_pos (hgt.mpr h1), if_pos h1]
    rfl
  · rw [if_neg (fun z => h1 (hgt.mp z)), if_neg h1]
    by_cases h2 : x = y
    · rw [if_pos (heq.mpr h2), if_pos h2]
      rfl
    · rw [if_neg (fun z => h2 (heq.mp z)), if_neg h2]
      rfl
theorem pj_lcmp_cases {x y : Int} (hx1 : -9223372036854775808 ≤ x) (hx2 : x < 9223372036854775808) (hy1 : -9223372036854775808 ≤ y) (hy2 : y < 9223372036854775808) : (y < x ∧ pj_nrm (pj_lcmp x y) = 1) ∨ (x = y ∧ pj_nrm (pj_lcmp x y) = 0) ∨ (x < y ∧ pj_nrm (pj_lcmp x y) = -1) := by
  rw [pj_lcmp_id hx1 hx2 hy1 hy2]
  by_cases h1 : y < x
  · rw [if_pos h1]
    exact Or.inl ⟨h1, by decide +kernel⟩
  · rw [if_neg h1]
    by_cases h2 : x = y
    · rw [if_pos h2]
      exact Or.inr (Or.inl ⟨h2, by decide +kernel⟩)
    · rw [if_neg h2]
      exact Or.inr (Or.inr ⟨by omega, by decide +kernel⟩)
/-- the reference's isIn -/
theorem pj_isIn {v lo hi : Int} (hv1 : -9223372036854775808 ≤ v) (hv2 : v < 9223372036854775808) (hl1 : -9223372036854775808 ≤ lo) (hl2 : lo < 9223372036854775808) (hh1 : -9223372036854775808 ≤ hi) (hh2 : hi < 9223372036854775808) (h : Q (some (pj_vI (if lo ≤ v ∧ v ≤ hi then 1 else 0))) M) : pj_G L d 85 0 [pj_vL v, pj_vU, pj_vL lo, pj_vU, pj_vL hi, pj_vU] [] M Q := by
  have c1 := pj_lcmp_cases hv1 hv2 hl1 hl2
  have c2 := pj_lcmp_cases hv1 hv2 hh1 hh2
  refine pj_B85_0 (fun z => pj_B85_17 (pj_B85_18 (Or.inl rfl) ?_)) (fun z => pj_B85_6 (fun y => pj_B85_17 (pj_B85_18 (Or.inl rfl) ?_)) (fun y => pj_B85_13 (pj_B85_18 (Or.inr rfl) ?_)))
  · rw [if_neg (by omega)] at h
    exact h
  · rw [if_neg (by omega)] at h
    exact h
  · rw [if_pos (by omega)] at h
    exact h
theorem pj_statusX {x : Int} (h1 : -2147483648 ≤ x) (h2 : x < 2147483648) (ha : -8 ≤ x → x ≤ -2 → Q (some (pj_vI (M 37 (-x).toNat))) M) (hb : ¬ (-8 ≤ x ∧ x ≤ -2) → Q (some (pj_vI (-7))) (pj_rfX M 7)) : pj_G L (d + 1) 76 0 [pj_vR 1, pj_vI x] [] M Q := by
  have e : pj_nrm x = x := pj_nrm_id h1 h2
  have e8 := pj_nrm_m8
  have e2 := pj_nrm_m2
  have no : ¬ (-8 ≤ x ∧ x ≤ -2) → pj_G L (d + 1) 76 12 [pj_vR 1, pj_vI x] [] M Q := fun z => pj_B76_12 (pj_refuse 7 (by decide) (pj_B76_18 (hb z)))
  refine pj_B76_0 (fun c => no (by omega)) (fun c => pj_B76_6 (fun c2 => ?_) (fun c2 => no (by omega)))
  have e3 : pj_nrm (-x) = -x := pj_nrm_id (by omega) (by omega)
  refine pj_B76_19 ⟨by omega, by omega⟩ ?_
  rw [e3]
  exact ha (by omega) (by omega)
theorem pj_statusY {x : Int} (h1 : -2147483648 ≤ x) (h2 : x < 2147483648) (ha : -8 ≤ x → x ≤ -2 → Q (some (pj_vI (M 56 (-x).toNat))) M) (hb : ¬ (-8 ≤ x ∧ x ≤ -2) → Q (some (pj_vI (-7))) (pj_rfY M 7)) : pj_G L (d + 1) 149 0 [pj_vR 38, pj_vI x] [] M Q := by
  have e : pj_nrm x = x := pj_nrm_id h1 h2
  refine pj_B149_0 (pj_isIn (by omega) (by omega) (by omega) (by omega) (by omega) (by omega) ?_)
  by_cases z : -8 ≤ pj_nrm x ∧ pj_nrm x ≤ -2
  · rw [if_pos z]
    refine pj_B149_11 (fun c => absurd c (by decide +kernel)) (fun c => ?_)
    have e3 : pj_nrm (-x) = -x := pj_nrm_id (by omega) (by omega)
    refine pj_B149_14 ⟨by omega, by omega⟩ (pj_B149_30 ?_)
    rw [e3]
    exact ha (by omega) (by omega)
  · rw [if_neg z]
    exact pj_B149_11 (fun c => pj_B149_24 (pj_no 7 (by decide) (pj_B149_30 (hb (by omega))))) (fun c => absurd (by decide +kernel) c)
end PJR
