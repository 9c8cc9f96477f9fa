/-! tear, on both sides: what the calls answer and leave. -/
theorem pj_nrm_m1 : pj_nrm (-1) = -1 := by decide +kernel
theorem pj_tearX {L d : Nat} {Q : Option pj_V → pj_M → Prop} {M : pj_M} (h1 : -1 ≤ M 1 5) (h2 : M 1 5 ≤ 14) (h : Q (some (pj_vI (if M 1 5 = -1 then 0 else 1))) (pj_up M 1 5 (-1))) : pj_G L d 73 0 [pj_vR 1, pj_vU] [] M Q := by
  have e : pj_nrm (M 1 5) = M 1 5 := pj_nrm_id (by omega) (by omega)
  have e1 := pj_nrm_m1
  refine pj_B73_0 (fun c => pj_B73_12 (pj_B73_13 ?_)) (fun c => pj_B73_8 (pj_B73_13 ?_))
  · rw [if_neg (by omega)] at h
    exact h
  · rw [if_pos (by omega)] at h
    exact h
theorem pj_tearY {L d : Nat} {Q : Option pj_V → pj_M → Prop} {M : pj_M} (h1 : -1 ≤ M 38 39) (h2 : M 38 39 ≤ 14) (h : Q (some (pj_vI (if M 38 39 = -1 then 0 else 1))) (pj_up M 38 39 (-1))) : pj_G L d 146 0 [pj_vR 38, pj_vU] [] M Q := by
  have e : pj_nrm (M 38 39) = M 38 39 := pj_nrm_id (by omega) (by omega)
  refine pj_B146_0 (fun c => pj_B146_11 (pj_B146_12 ?_)) (fun c => pj_B146_7 (pj_B146_12 ?_))
  · rw [if_pos (by omega)] at h
    exact h
  · rw [if_neg (by omega)] at h
    exact h
/-- the law's case of tear: out of what an invariant must say of the row's length on both sides -/
theorem pj_case_tear {Inv : Nat → pj_M → Prop} (hi : ∀ L M, Inv L M → M 1 5 = M 38 39 ∧ -1 ≤ M 1 5 ∧ M 1 5 ≤ 14) (hk : ∀ L M, Inv L M → Inv L (pj_up (pj_up M 1 5 (-1)) 38 39 (-1))) : pj_Case Inv 1014 := by
  intro L d Q M x h0 h5 hL hI go
  obtain ⟨e, h1, h2⟩ := hi L M hI
  have e38 : ∀ y : Int, pj_up M 1 5 y 38 39 = M 38 39 := fun y => pj_up_else (by decide)
  refine pj_B152_1014 (pj_tearX h1 h2 ?_)
  refine pj_B152_1018 (pj_tearY (by rw [e38]; omega) (by rw [e38]; omega) ?_)
  rw [e38, ← e]
  exact pj_B152_1022 (fun _ => go _ (hk L M hI)) (fun c => absurd rfl c)
