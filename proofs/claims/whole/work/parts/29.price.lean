/-! price, on both sides. -/
section PJP
variable {L d : Nat} {Q : Option pj_V → pj_M → Prop} {M : pj_M}
theorem pj_priceX {x v : Int} (h1 : -2147483648 ≤ x) (h2 : x < 2147483648) (h3 : -2147483648 ≤ v) (h4 : v < 2147483648) (c1 : 0 ≤ M 2 0) (c2 : M 2 0 ≤ 14)
    (hb : ¬ (0 ≤ x ∧ x < M 2 0) → Q (some (pj_vI (-3))) (pj_rfX M 3)) (hn : 0 ≤ x ∧ x < M 2 0 → ¬ (1 ≤ v ∧ v ≤ 9) → Q (some (pj_vI (-7))) (pj_rfX M 7)) (hk : 0 ≤ x ∧ x < M 2 0 → 1 ≤ v ∧ v ≤ 9 → Q (some (pj_vI (M 5 x.toNat))) (pj_up M 5 x.toNat v)) : pj_G L (d + 1) 50 0 [pj_vR 1, pj_vI x, pj_vI v, pj_vU] [] M Q := by
  have e1 : pj_nrm x = x := pj_nrm_id h1 h2
  have e2 : pj_nrm v = v := pj_nrm_id h3 h4
  refine pj_B50_0 (pj_isWireX h1 h2 c1 (by omega) ?_)
  by_cases z : 0 ≤ x ∧ x < M 2 0
  · rw [if_pos z]
    have no : ¬ (1 ≤ v ∧ v ≤ 9) → pj_G L (d + 1) 50 26 [pj_vR 1, pj_vI x, pj_vI v, pj_vU] [] M Q := fun w => pj_B50_26 (pj_refuse 7 (by decide) (pj_B50_32 (hn z w)))
    refine pj_B50_5 (fun _ => pj_B50_15 (fun c => no (by omega)) (fun c => pj_B50_20 (fun w => pj_B50_33 ⟨by omega, by omega⟩ ⟨by omega, by omega⟩ ?_) (fun w => no (by omega)))) (fun c => absurd c (by decide +kernel))
    rw [e1]
    exact hk z ⟨by omega, by omega⟩
  · rw [if_neg z]
    exact pj_B50_5 (fun c => absurd (by decide +kernel) c) (fun _ => pj_B50_8 (pj_refuse 3 (by decide) (pj_B50_14 (hb z))))
theorem pj_priceY {x v : Int} (h1 : -2147483648 ≤ x) (h2 : x < 2147483648) (h3 : -2147483648 ≤ v) (h4 : v < 2147483648) (c1 : 0 ≤ M 38 17) (c2 : M 38 17 ≤ 14)
    (hb : ¬ (0 ≤ x ∧ x < M 38 17) → Q (some (pj_vI (-3))) (pj_rfY M 3)) (hn : 0 ≤ x ∧ x < M 38 17 → ¬ (1 ≤ v ∧ v ≤ 9) → Q (some (pj_vI (-7))) (pj_rfY M 7)) (hk : 0 ≤ x ∧ x < M 38 17 → 1 ≤ v ∧ v ≤ 9 → Q (some (pj_vI (M 41 x.toNat))) (pj_up M 41 x.toNat v)) : pj_G L (d + 1) 95 0 [pj_vR 38, pj_vI x, pj_vI v, pj_vU] [] M Q := by
  have e1 : pj_nrm x = x := pj_nrm_id h1 h2
  have e2 : pj_nrm v = v := pj_nrm_id h3 h4
  refine pj_B95_0 (pj_isWireY h1 h2 c1 (by omega) ?_)
  by_cases z : 0 ≤ x ∧ x < M 38 17
  · rw [if_pos z]
    refine pj_B95_5 (fun _ => pj_B95_15 (pj_isIn (by omega) (by omega) (by omega) (by omega) (by omega) (by omega) ?_)) (fun c => absurd c (by decide +kernel))
    by_cases w : 1 ≤ pj_nrm v ∧ pj_nrm v ≤ 9
    · rw [if_pos w]
      refine pj_B95_24 (fun _ => pj_B95_34 ⟨by omega, by omega⟩ ⟨by omega, by omega⟩ ?_) (fun c => absurd c (by decide +kernel))
      rw [e1]
      exact hk z ⟨by omega, by omega⟩
    · rw [if_neg w]
      exact pj_B95_24 (fun c => absurd (by decide +kernel) c) (fun _ => pj_B95_27 (pj_no 7 (by decide) (pj_B95_33 (hn z (by omega)))))
  · rw [if_neg z]
    exact pj_B95_5 (fun c => absurd (by decide +kernel) c) (fun _ => pj_B95_8 (pj_no 3 (by decide) (pj_B95_14 (hb z))))
end PJP
