/-! isWire, isPart, isTick, on both sides. -/
section PJE
variable {L d : Nat} {Q : Option pj_V → pj_M → Prop} {M : pj_M}
theorem pj_isWireX {x : Int} (h1 : -2147483648 ≤ x) (h2 : x < 2147483648) (c1 : 0 ≤ M 2 0) (c2 : M 2 0 ≤ 100) (h : Q (some (pj_vI (if 0 ≤ x ∧ x < M 2 0 then 1 else 0))) M) : pj_G L d 78 0 [pj_vR 1, pj_vI x] [] M Q := by
  have e1 : pj_nrm x = x := pj_nrm_id h1 h2
  have e2 : pj_nrm (M 2 0) = M 2 0 := pj_nrm_id (by omega) (by omega)
  refine pj_B78_0 (fun z => pj_B78_19 (pj_B78_20 (Or.inl rfl) ?_)) (fun z => pj_B78_4 (fun y => pj_B78_19 (pj_B78_20 (Or.inl rfl) ?_)) (fun y => pj_B78_15 (pj_B78_20 (Or.inr rfl) ?_)))
  · rw [if_neg (by omega)] at h
    exact h
  · rw [if_neg (by omega)] at h
    exact h
  · rw [if_pos (by omega)] at h
    exact h
theorem pj_isPartX {x : Int} (h1 : -2147483648 ≤ x) (h2 : x < 2147483648) (c1 : 0 ≤ M 7 0) (c2 : M 7 0 ≤ 100) (h : Q (some (pj_vI (if 0 ≤ x ∧ x < M 7 0 then 1 else 0))) M) : pj_G L d 79 0 [pj_vR 1, pj_vI x] [] M Q := by
  have e1 : pj_nrm x = x := pj_nrm_id h1 h2
  have e2 : pj_nrm (M 7 0) = M 7 0 := pj_nrm_id (by omega) (by omega)
  refine pj_B79_0 (fun z => pj_B79_19 (pj_B79_20 (Or.inl rfl) ?_)) (fun z => pj_B79_4 (fun y => pj_B79_19 (pj_B79_20 (Or.inl rfl) ?_)) (fun y => pj_B79_15 (pj_B79_20 (Or.inr rfl) ?_)))
  · rw [if_neg (by omega)] at h
    exact h
  · rw [if_neg (by omega)] at h
    exact h
  · rw [if_pos (by omega)] at h
    exact h
theorem pj_isTickX {x : Int} (h1 : -2147483648 ≤ x) (h2 : x < 2147483648) (c1 : 0 ≤ M 2 1) (c2 : M 2 1 ≤ 100) (h : Q (some (pj_vI (if 0 ≤ x ∧ x < M 2 1 then 1 else 0))) M) : pj_G L d 80 0 [pj_vR 1, pj_vI x] [] M Q := by
  have e1 : pj_nrm x = x := pj_nrm_id h1 h2
  have e2 : pj_nrm (M 2 1) = M 2 1 := pj_nrm_id (by omega) (by omega)
  refine pj_B80_0 (fun z => pj_B80_19 (pj_B80_20 (Or.inl rfl) ?_)) (fun z => pj_B80_4 (fun y => pj_B80_19 (pj_B80_20 (Or.inl rfl) ?_)) (fun y => pj_B80_15 (pj_B80_20 (Or.inr rfl) ?_)))
  · rw [if_neg (by omega)] at h
    exact h
  · rw [if_neg (by omega)] at h
    exact h
  · rw [if_pos (by omega)] at h
    exact h
theorem pj_isWireY {x : Int} (h1 : -2147483648 ≤ x) (h2 : x < 2147483648) (c1 : 0 ≤ M 38 17) (c2 : M 38 17 ≤ 100) (h : Q (some (pj_vI (if 0 ≤ x ∧ x < M 38 17 then 1 else 0))) M) : pj_G L d 87 0 [pj_vR 38, pj_vI x] [] M Q := by
  have e1 : pj_nrm x = x := pj_nrm_id h1 h2
  have e2 : pj_nrm (M 38 17) = M 38 17 := pj_nrm_id (by omega) (by omega)
  refine pj_B87_0 (fun z => pj_B87_16 (pj_B87_17 (Or.inl rfl) ?_)) (fun z => pj_B87_4 (fun y => pj_B87_16 (pj_B87_17 (Or.inl rfl) ?_)) (fun y => pj_B87_12 (pj_B87_17 (Or.inr rfl) ?_)))
  · rw [if_neg (by omega)] at h
    exact h
  · rw [if_neg (by omega)] at h
    exact h
  · rw [if_pos (by omega)] at h
    exact h
theorem pj_isPartY {x : Int} (h1 : -2147483648 ≤ x) (h2 : x < 2147483648) (c1 : 0 ≤ M 38 18) (c2 : M 38 18 ≤ 100) (h : Q (some (pj_vI (if 0 ≤ x ∧ x < M 38 18 then 1 else 0))) M) : pj_G L d 88 0 [pj_vR 38, pj_vI x] [] M Q := by
  have e1 : pj_nrm x = x := pj_nrm_id h1 h2
  have e2 : pj_nrm (M 38 18) = M 38 18 := pj_nrm_id (by omega) (by omega)
  refine pj_B88_0 (fun z => pj_B88_16 (pj_B88_17 (Or.inl rfl) ?_)) (fun z => pj_B88_4 (fun y => pj_B88_16 (pj_B88_17 (Or.inl rfl) ?_)) (fun y => pj_B88_12 (pj_B88_17 (Or.inr rfl) ?_)))
  · rw [if_neg (by omega)] at h
    exact h
  · rw [if_neg (by omega)] at h
    exact h
  · rw [if_pos (by omega)] at h
    exact h
theorem pj_isTickY {x : Int} (h1 : -2147483648 ≤ x) (h2 : x < 2147483648) (c1 : 0 ≤ M 38 20) (c2 : M 38 20 ≤ 100) (h : Q (some (pj_vI (if 0 ≤ x ∧ x < M 38 20 then 1 else 0))) M) : pj_G L d 89 0 [pj_vR 38, pj_vI x] [] M Q := by
  have e1 : pj_nrm x = x := pj_nrm_id h1 h2
  have e2 : pj_nrm (M 38 20) = M 38 20 := pj_nrm_id (by omega) (by omega)
  refine pj_B89_0 (fun z => pj_B89_16 (pj_B89_17 (Or.inl rfl) ?_)) (fun z => pj_B89_4 (fun y => pj_B89_16 (pj_B89_17 (Or.inl rfl) ?_)) (fun y => pj_B89_12 (pj_B89_17 (Or.inr rfl) ?_)))
  · rw [if_neg (by omega)] at h
    exact h
  · rw [if_neg (by omega)] at h
    exact h
  · rw [if_pos (by omega)] at h
    exact h
end PJE
