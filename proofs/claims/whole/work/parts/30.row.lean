/-! row, on both sides. -/
section PJW
variable {L d : Nat} {Q : Option pj_V → pj_M → Prop} {M : pj_M}
theorem pj_rowX {x : Int} (h1 : -2147483648 ≤ x) (h2 : x < 2147483648) (c1 : -1 ≤ M 1 5) (c2 : M 1 5 ≤ 14)
    (hm : M 1 5 = -1 → Q (some (pj_vI (-2))) (pj_rfX M 2)) (hb : M 1 5 ≠ -1 → ¬ (0 ≤ x ∧ x < M 1 5) → Q (some (pj_vI (-3))) (pj_rfX M 3)) (hk : M 1 5 ≠ -1 → 0 ≤ x ∧ x < M 1 5 → Q (some (pj_vI (M 36 x.toNat))) M) : pj_G L (d + 1) 74 0 [pj_vR 1, pj_vI x] [] M Q := by
  have e1 : pj_nrm x = x := pj_nrm_id h1 h2
  have e2 : pj_nrm (M 1 5) = M 1 5 := pj_nrm_id (by omega) (by omega)
  have e3 := pj_nrm_m1
  refine pj_B74_0 (fun c => ?_) (fun c => pj_B74_8 (pj_refuse 2 (by decide) (pj_B74_14 (hm (by omega)))))
  have hne : M 1 5 ≠ -1 := by omega
  have no : ¬ (0 ≤ x ∧ x < M 1 5) → pj_G L (d + 1) 74 27 [pj_vR 1, pj_vI x] [] M Q := fun w => pj_B74_27 (pj_refuse 3 (by decide) (pj_B74_33 (hb hne w)))
  refine pj_B74_15 (fun w => no (by omega)) (fun w => pj_B74_19 (fun y => pj_B74_34 ⟨by omega, by omega⟩ ?_) (fun y => no (by omega)))
  rw [e1]
  exact hk hne ⟨by omega, by omega⟩
theorem pj_rowY {x : Int} (h1 : -2147483648 ≤ x) (h2 : x < 2147483648) (c1 : -1 ≤ M 38 39) (c2 : M 38 39 ≤ 14)
    (hm : M 38 39 = -1 → Q (some (pj_vI (-2))) (pj_rfY M 2)) (hb : M 38 39 ≠ -1 → ¬ (0 ≤ x ∧ x < M 38 39) → Q (some (pj_vI (-3))) (pj_rfY M 3)) (hk : M 38 39 ≠ -1 → 0 ≤ x ∧ x < M 38 39 → Q (some (pj_vI (M 66 x.toNat))) M) : pj_G L (d + 1) 147 0 [pj_vR 38, pj_vI x] [] M Q := by
  have e1 : pj_nrm x = x := pj_nrm_id h1 h2
  have e2 : pj_nrm (M 38 39) = M 38 39 := pj_nrm_id (by omega) (by omega)
  refine pj_B147_0 (fun c => ?_) (fun c => pj_B147_7 (pj_no 2 (by decide) (pj_B147_13 (hm (by omega)))))
  have hne : M 38 39 ≠ -1 := by omega
  have e4 : pj_nrm (M 38 39 - 1) = M 38 39 - 1 := pj_nrm_id (by omega) (by omega)
  refine pj_B147_14 (pj_isIn (by omega) (by omega) (by omega) (by omega) (by omega) (by omega) ?_)
  by_cases w : 0 ≤ pj_nrm x ∧ pj_nrm x ≤ pj_nrm (M 38 39 - 1)
  · rw [if_pos w]
    refine pj_B147_27 (fun c => absurd c (by decide +kernel)) (fun _ => pj_B147_30 ⟨by omega, by omega⟩ (pj_B147_45 ?_))
    rw [e1]
    exact hk hne ⟨by omega, by omega⟩
  · rw [if_neg w]
    exact pj_B147_27 (fun _ => pj_B147_39 (pj_no 3 (by decide) (pj_B147_45 (hb hne (by omega))))) (fun c => absurd (by decide +kernel) c)
end PJW
