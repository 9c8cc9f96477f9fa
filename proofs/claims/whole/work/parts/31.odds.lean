/-! odds, on both sides. -/
section PJD
variable {L d : Nat} {Q : Option pj_V → pj_M → Prop} {M : pj_M}
theorem pj_oddsX {x v : Int} (h1 : -2147483648 ≤ x) (h2 : x < 2147483648) (h3 : -2147483648 ≤ v) (h4 : v < 2147483648) (c1 : 0 ≤ M 7 0) (c2 : M 7 0 ≤ 7) (ck : 0 ≤ x ∧ x < M 7 0 → 0 ≤ M 8 x.toNat ∧ M 8 x.toNat ≤ 4)
    (hb : ¬ (0 ≤ x ∧ x < M 7 0) → Q (some (pj_vI (-3))) (pj_rfX M 3)) (hm : 0 ≤ x ∧ x < M 7 0 → M 8 x.toNat = 4 → Q (some (pj_vI (-5))) (pj_rfX M 5)) (hn : 0 ≤ x ∧ x < M 7 0 → M 8 x.toNat ≠ 4 → ¬ (1 ≤ v ∧ v ≤ 9) → Q (some (pj_vI (-7))) (pj_rfX M 7)) (hk : 0 ≤ x ∧ x < M 7 0 → M 8 x.toNat ≠ 4 → 1 ≤ v ∧ v ≤ 9 → Q (some (pj_vI (M 14 x.toNat))) (pj_up M 14 x.toNat v)) : pj_G L (d + 1) 49 0 [pj_vR 1, pj_vI x, pj_vI v, pj_vU] [] M Q := by
  have e1 : pj_nrm x = x := pj_nrm_id h1 h2
  have e2 : pj_nrm v = v := pj_nrm_id h3 h4
  refine pj_B49_0 (pj_isPartX h1 h2 c1 (by omega) ?_)
  by_cases z : 0 ≤ x ∧ x < M 7 0
  · rw [if_pos z]
    have hc := ck z
    have e3 : pj_nrm (M 8 (pj_nrm x).toNat) = M 8 x.toNat := by
      rw [e1]
      exact pj_nrm_id (by omega) (by omega)
    refine pj_B49_5 (fun _ => pj_B49_15 ⟨by omega, by omega⟩ (fun k => ?_) (fun k => pj_B49_28 (pj_refuse 5 (by decide) (pj_B49_34 (hm z (by omega)))))) (fun c => absurd c (by decide +kernel))
    have hk4 : M 8 x.toNat ≠ 4 := by omega
    have no : ¬ (1 ≤ v ∧ v ≤ 9) → pj_G L (d + 1) 49 46 [pj_vR 1, pj_vI x, pj_vI v, pj_vU] [] M Q := fun w => pj_B49_46 (pj_refuse 7 (by decide) (pj_B49_52 (hn z hk4 w)))
    refine pj_B49_35 (fun c => no (by omega)) (fun c => pj_B49_40 (fun w => pj_B49_53 ⟨by omega, by omega⟩ ⟨by omega, by omega⟩ ?_) (fun w => no (by omega)))
    rw [e1]
    exact hk z hk4 ⟨by omega, by omega⟩
  · rw [if_neg z]
    exact pj_B49_5 (fun c => absurd (by decide +kernel) c) (fun _ => pj_B49_8 (pj_refuse 3 (by decide) (pj_B49_14 (hb z))))
theorem pj_oddsY {x v : Int} (h1 : -2147483648 ≤ x) (h2 : x < 2147483648) (h3 : -2147483648 ≤ v) (h4 : v < 2147483648) (c1 : 0 ≤ M 38 18) (c2 : M 38 18 ≤ 7) (ck : 0 ≤ x ∧ x < M 38 18 → 0 ≤ M 43 x.toNat ∧ M 43 x.toNat ≤ 4)
    (hb : ¬ (0 ≤ x ∧ x < M 38 18) → Q (some (pj_vI (-3))) (pj_rfY M 3)) (hm : 0 ≤ x ∧ x < M 38 18 → M 43 x.toNat = 4 → Q (some (pj_vI (-5))) (pj_rfY M 5)) (hn : 0 ≤ x ∧ x < M 38 18 → M 43 x.toNat ≠ 4 → ¬ (1 ≤ v ∧ v ≤ 9) → Q (some (pj_vI (-7))) (pj_rfY M 7)) (hk : 0 ≤ x ∧ x < M 38 18 → M 43 x.toNat ≠ 4 → 1 ≤ v ∧ v ≤ 9 → Q (some (pj_vI (M 50 x.toNat))) (pj_up M 50 x.toNat v)) : pj_G L (d + 1) 94 0 [pj_vR 38, pj_vI x, pj_vI v, pj_vU] [] M Q := by
  have e1 : pj_nrm x = x := pj_nrm_id h1 h2
  have e2 : pj_nrm v = v := pj_nrm_id h3 h4
  refine pj_B94_0 (pj_isPartY h1 h2 c1 (by omega) ?_)
  by_cases z : 0 ≤ x ∧ x < M 38 18
  · rw [if_pos z]
    have hc := ck z
    have e3 : pj_nrm (M 43 (pj_nrm x).toNat) = M 43 x.toNat := by
      rw [e1]
      exact pj_nrm_id (by omega) (by omega)
    refine pj_B94_5 (fun _ => pj_B94_15 ⟨by omega, by omega⟩ (fun k => ?_) (fun k => pj_B94_25 (pj_no 5 (by decide) (pj_B94_31 (hm z (by omega)))))) (fun c => absurd c (by decide +kernel))
    have hk4 : M 43 x.toNat ≠ 4 := by omega
    refine pj_B94_32 (pj_isIn (by omega) (by omega) (by omega) (by omega) (by omega) (by omega) ?_)
    by_cases w : 1 ≤ pj_nrm v ∧ pj_nrm v ≤ 9
    · rw [if_pos w]
      refine pj_B94_41 (fun _ => pj_B94_51 ⟨by omega, by omega⟩ ⟨by omega, by omega⟩ ?_) (fun c => absurd c (by decide +kernel))
      rw [e1]
      exact hk z hk4 ⟨by omega, by omega⟩
    · rw [if_neg w]
      exact pj_B94_41 (fun c => absurd (by decide +kernel) c) (fun _ => pj_B94_44 (pj_no 7 (by decide) (pj_B94_50 (hn z hk4 (by omega)))))
  · rw [if_neg z]
    exact pj_B94_5 (fun c => absurd (by decide +kernel) c) (fun _ => pj_B94_8 (pj_no 3 (by decide) (pj_B94_14 (hb z))))
end PJD
