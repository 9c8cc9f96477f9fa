theorem pj_C42_0 {L d : Nat} {Q : Option pj_V → pj_M → Prop} {M : pj_M} {x1 : Int} (j0 : Nat) (ej0 : M 2 0 = (j0 : Int)) (bj0 : j0 < 14) (h : Q (some (pj_vI (M 2 0))) (pj_up (pj_up (pj_up (pj_up M 3 j0 x1) 4 j0 ((-1))) 5 j0 1) 2 0 ((M 2 0) + 1))) : pj_G L d 42 0 [pj_vR 2, pj_vI x1, pj_vU] [] M Q := by
  have nj0 : pj_nrm (M 2 0) = (j0 : Int) := pj_nk ej0 (by omega)
  refine pj_G_s pj_np42 25 (show pj_gs 25 L 42 0 [pj_vR 2, pj_vI x1, pj_vU] [] M = some ([0 ≤ pj_nrm (M 2 0) ∧ pj_nrm (M 2 0) < (14 : Int), 0 ≤ pj_nrm (M 2 0) ∧ pj_nrm (M 2 0) < (14 : Int), 0 ≤ pj_nrm (M 2 0) ∧ pj_nrm (M 2 0) < (14 : Int)], 37, [pj_vR 2, pj_vI x1, pj_vI (M 2 0)], [pj_vI (M 2 0)], pj_up (pj_up (pj_up (pj_up M 3 (pj_nrm (M 2 0)).toNat x1) 4 (pj_nrm (M 2 0)).toNat ((-1))) 5 (pj_nrm (M 2 0)).toNat 1) 2 0 ((M 2 0) + 1)) from rfl) ⟨by omega, by omega, by omega, trivial⟩ ?_
  simp only [nj0, Int.toNat_natCast]
  exact pj_G_r rfl rfl rfl h
theorem pj_C43_0 {L d : Nat} {Q : Option pj_V → pj_M → Prop} {M : pj_M} {x1 : Int}  (h : pj_G L d 43 10 [pj_vR 2, pj_vU, pj_vI (x1 * 14)] [] (pj_up M 2 1 x1) Q) : pj_G L d 43 0 [pj_vR 2, pj_vI x1, pj_vU] [] M Q := by
  refine pj_G_s pj_np43 7 (show pj_gs 7 L 43 0 [pj_vR 2, pj_vI x1, pj_vU] [] M = some ([], 10, [pj_vR 2, pj_vI x1, pj_vI (x1 * 14)], [], pj_up M 2 1 x1) from rfl) trivial ?_
  exact pj_G_loc (pj_lle_e (pj_lle_u rfl (pj_lle_e pj_lle_nil))) h
theorem pj_C43_10 {L d : Nat} {Q : Option pj_V → pj_M → Prop} {M : pj_M} {x2 : Int} (r0 : -2147483648 ≤ x2 ∧ x2 < 2147483648) (h1 : (42 : Int) ≤ x2 → pj_G L d 43 29 [pj_vU, pj_vU, pj_vU] [] M Q) (h2 : x2 < (42 : Int) → pj_G L d 43 16 [pj_vR 2, pj_vU, pj_vI x2] [] M Q) : pj_G L d 43 10 [pj_vR 2, pj_vU, pj_vI x2] [] M Q := by
  refine pj_G_s pj_np43 2 (show pj_gs 2 L 43 10 [pj_vR 2, pj_vU, pj_vI x2] [] M = some ([], 13, [pj_vR 2, pj_vU, pj_vI x2], [pj_vI 42, pj_vI x2], M) from rfl) trivial ?_
  exact pj_G_if (t := 29) rfl rfl (fun z => pj_G_loc (pj_lle_u rfl (pj_lle_e (pj_lle_u rfl pj_lle_nil))) (h1 (pj_ct_ge (pj_nrm_id r0.1 r0.2) (pj_nrm_id (by omega) (by omega)) z))) (fun z => h2 (pj_cf_ge (pj_nrm_id r0.1 r0.2) (pj_nrm_id (by omega) (by omega)) z))
theorem pj_C43_16 {L d : Nat} {Q : Option pj_V → pj_M → Prop} {M : pj_M} {x2 : Int} (j0 : Nat) (ej0 : x2 = (j0 : Int)) (bj0 : j0 < 42) (h : pj_G L d 43 10 [pj_vR 2, pj_vU, pj_vI (x2 + 1)] [] (pj_up M 6 j0 0) Q) : pj_G L d 43 16 [pj_vR 2, pj_vU, pj_vI x2] [] M Q := by
  have nj0 : pj_nrm x2 = (j0 : Int) := pj_nk ej0 (by omega)
  refine pj_G_s pj_np43 7 (show pj_gs 7 L 43 16 [pj_vR 2, pj_vU, pj_vI x2] [] M = some ([0 ≤ pj_nrm x2 ∧ pj_nrm x2 < (42 : Int)], 10, [pj_vR 2, pj_vU, pj_vI (x2 + 1)], [], pj_up M 6 (pj_nrm x2).toNat 0) from rfl) ⟨by omega, trivial⟩ ?_
  simp only [nj0, Int.toNat_natCast]
  exact h
theorem pj_C43_29 {L d : Nat} {Q : Option pj_V → pj_M → Prop} {M : pj_M}  (h : Q (none) M) : pj_G L d 43 29 [pj_vU, pj_vU, pj_vU] [] M Q := by
  exact pj_G_r rfl rfl rfl h
