theorem pj_C13_0 {L d : Nat} {Q : Option pj_V → pj_M → Prop} {M : pj_M} {x1 x2 : Int} (j0 j1 : Nat) (ej0 : M 19 0 = (j0 : Int)) (bj0 : j0 < 16) (ej1 : x1 = (j1 : Int)) (bj1 : j1 < 42) (h : Q (none) (pj_up (pj_up (pj_up M 20 j0 x1) 21 j1 x2) 19 0 ((M 19 0) + 1))) : pj_G L d 13 0 [pj_vR 19, pj_vI x1, pj_vI x2] [] M Q := by
  have nj0 : pj_nrm (M 19 0) = (j0 : Int) := pj_nk ej0 (by omega)
  have nj1 : pj_nrm x1 = (j1 : Int) := pj_nk ej1 (by omega)
  refine pj_G_s pj_np13 17 (show pj_gs 17 L 13 0 [pj_vR 19, pj_vI x1, pj_vI x2] [] M = some ([0 ≤ pj_nrm (M 19 0) ∧ pj_nrm (M 19 0) < (16 : Int), 0 ≤ pj_nrm x1 ∧ pj_nrm x1 < (42 : Int)], 27, [pj_vR 19, pj_vI x1, pj_vI x2], [], pj_up (pj_up (pj_up M 20 (pj_nrm (M 19 0)).toNat x1) 21 (pj_nrm x1).toNat x2) 19 0 ((M 19 0) + 1)) from rfl) ⟨by omega, by omega, trivial⟩ ?_
  simp only [nj0, nj1, Int.toNat_natCast]
  exact pj_G_r rfl rfl rfl h
theorem pj_C14_0 {L d : Nat} {Q : Option pj_V → pj_M → Prop} {M : pj_M} (j0 j1 : Nat) (ej0 : (M 19 0) - 1 = (j0 : Int)) (bj0 : j0 < 16) (ej1 : M 20 j0 = (j1 : Int)) (bj1 : j1 < 42) (h : Q (none) (pj_up (pj_up M 19 0 ((M 19 0) - 1)) 21 j1 ((-1)))) : pj_G L d 14 0 [pj_vR 19] [] M Q := by
  have nj0 : pj_nrm ((M 19 0) - 1) = (j0 : Int) := pj_nk ej0 (by omega)
  have nj1 : pj_nrm (M 20 j0) = (j1 : Int) := pj_nk ej1 (by omega)
  refine pj_G_s pj_np14 15 (show pj_gs 15 L 14 0 [pj_vR 19] [] M = some ([0 ≤ pj_nrm ((M 19 0) - 1) ∧ pj_nrm ((M 19 0) - 1) < (16 : Int), 0 ≤ pj_nrm (M 20 (pj_nrm ((M 19 0) - 1)).toNat) ∧ pj_nrm (M 20 (pj_nrm ((M 19 0) - 1)).toNat) < (42 : Int)], 25, [pj_vR 19], [], pj_up (pj_up M 19 0 ((M 19 0) - 1)) 21 (pj_nrm (M 20 (pj_nrm ((M 19 0) - 1)).toNat)).toNat ((-1))) from rfl) ⟨by omega, by simp only [nj0, nj1, Int.toNat_natCast]; omega, trivial⟩ ?_
  simp only [nj0, nj1, Int.toNat_natCast]
  exact pj_G_r rfl rfl rfl h
theorem pj_C15_0 {L d : Nat} {Q : Option pj_V → pj_M → Prop} {M : pj_M} {x1 : Int}  (h : pj_G L d 15 4 [pj_vR 19, pj_vI x1, pj_vI 0, pj_vI 0] [] M Q) : pj_G L d 15 0 [pj_vR 19, pj_vI x1, pj_vU, pj_vU] [] M Q := by
  refine pj_G_s pj_np15 4 (show pj_gs 4 L 15 0 [pj_vR 19, pj_vI x1, pj_vU, pj_vU] [] M = some ([], 4, [pj_vR 19, pj_vI x1, pj_vI 0, pj_vI 0], [], M) from rfl) trivial ?_
  exact h
theorem pj_C15_4 {L d : Nat} {Q : Option pj_V → pj_M → Prop} {M : pj_M} {x1 x2 x3 : Int} (r0 : -2147483648 ≤ x3 ∧ x3 < 2147483648) (r1 : -2147483648 ≤ M 19 0 ∧ M 19 0 < 2147483648) (h1 : M 19 0 ≤ x3 → pj_G L d 15 61 [pj_vR 19, pj_vU, pj_vI x2, pj_vU] [] M Q) (h2 : x3 < M 19 0 → pj_G L d 15 12 [pj_vR 19, pj_vI x1, pj_vI x2, pj_vI x3] [] M Q) : pj_G L d 15 4 [pj_vR 19, pj_vI x1, pj_vI x2, pj_vI x3] [] M Q := by
  refine pj_G_s pj_np15 3 (show pj_gs 3 L 15 4 [pj_vR 19, pj_vI x1, pj_vI x2, pj_vI x3] [] M = some ([], 9, [pj_vR 19, pj_vI x1, pj_vI x2, pj_vI x3], [pj_vI (M 19 0), pj_vI x3], M) from rfl) trivial ?_
  exact pj_G_if (t := 61) rfl rfl (fun z => pj_G_loc (pj_lle_e (pj_lle_u rfl (pj_lle_e (pj_lle_u rfl pj_lle_nil)))) (h1 (pj_ct_ge (pj_nrm_id r0.1 r0.2) (pj_nrm_id r1.1 r1.2) z))) (fun z => h2 (pj_cf_ge (pj_nrm_id r0.1 r0.2) (pj_nrm_id r1.1 r1.2) z))
theorem pj_C15_12 {L d : Nat} {Q : Option pj_V → pj_M → Prop} {M : pj_M} {x1 x2 x3 : Int} (j0 : Nat) (ej0 : x3 = (j0 : Int)) (bj0 : j0 < 16) (r0 : -2147483648 ≤ M 20 j0 ∧ M 20 j0 < 2147483648) (r1 : -2147483648 ≤ x1 * 14 ∧ x1 * 14 < 2147483648) (h1 : x1 * 14 ≤ M 20 j0 → pj_G L d 15 43 [pj_vR 19, pj_vI x1, pj_vI x2, pj_vI x3] [] M Q) (h2 : M 20 j0 < x1 * 14 → pj_G L d 15 25 [pj_vR 19, pj_vI x1, pj_vI x2, pj_vI x3] [] M Q) : pj_G L d 15 12 [pj_vR 19, pj_vI x1, pj_vI x2, pj_vI x3] [] M Q := by
  have nj0 : pj_nrm x3 = (j0 : Int) := pj_nk ej0 (by omega)
  refine pj_G_s pj_np15 7 (show pj_gs 7 L 15 12 [pj_vR 19, pj_vI x1, pj_vI x2, pj_vI x3] [] M = some ([0 ≤ pj_nrm x3 ∧ pj_nrm x3 < (16 : Int)], 22, [pj_vR 19, pj_vI x1, pj_vI x2, pj_vI x3], [pj_vI (x1 * 14), pj_vI (M 20 (pj_nrm x3).toNat)], M) from rfl) ⟨by omega, trivial⟩ ?_
  simp only [nj0, Int.toNat_natCast]
  exact pj_G_if (t := 43) rfl rfl (fun z => h1 (pj_ct_ge (pj_nrm_id r0.1 r0.2) (pj_nrm_id r1.1 r1.2) z)) (fun z => h2 (pj_cf_ge (pj_nrm_id r0.1 r0.2) (pj_nrm_id r1.1 r1.2) z))
theorem pj_C15_25 {L d : Nat} {Q : Option pj_V → pj_M → Prop} {M : pj_M} {x1 x2 x3 : Int} (j0 j1 : Nat) (ej0 : x3 = (j0 : Int)) (bj0 : j0 < 16) (ej1 : x2 = (j1 : Int)) (bj1 : j1 < 16) (h : pj_G L d 15 55 [pj_vR 19, pj_vI x1, pj_vI (x2 + 1), pj_vI x3] [] (pj_up M 20 j1 (M 20 j0)) Q) : pj_G L d 15 25 [pj_vR 19, pj_vI x1, pj_vI x2, pj_vI x3] [] M Q := by
  have nj0 : pj_nrm x3 = (j0 : Int) := pj_nk ej0 (by omega)
  have nj1 : pj_nrm x2 = (j1 : Int) := pj_nk ej1 (by omega)
  refine pj_G_s pj_np15 10 (show pj_gs 10 L 15 25 [pj_vR 19, pj_vI x1, pj_vI x2, pj_vI x3] [] M = some ([0 ≤ pj_nrm x3 ∧ pj_nrm x3 < (16 : Int), 0 ≤ pj_nrm x2 ∧ pj_nrm x2 < (16 : Int)], 55, [pj_vR 19, pj_vI x1, pj_vI (x2 + 1), pj_vI x3], [], pj_up M 20 (pj_nrm x2).toNat (M 20 (pj_nrm x3).toNat)) from rfl) ⟨by omega, by omega, trivial⟩ ?_
  simp only [nj0, nj1, Int.toNat_natCast]
  exact h
theorem pj_C15_55 {L d : Nat} {Q : Option pj_V → pj_M → Prop} {M : pj_M} {x1 x2 x3 : Int}  (h : pj_G L d 15 4 [pj_vR 19, pj_vI x1, pj_vI x2, pj_vI (x3 + 1)] [] M Q) : pj_G L d 15 55 [pj_vR 19, pj_vI x1, pj_vI x2, pj_vI x3] [] M Q := by
  refine pj_G_s pj_np15 2 (show pj_gs 2 L 15 55 [pj_vR 19, pj_vI x1, pj_vI x2, pj_vI x3] [] M = some ([], 4, [pj_vR 19, pj_vI x1, pj_vI x2, pj_vI (x3 + 1)], [], M) from rfl) trivial ?_
  exact h
theorem pj_C15_43 {L d : Nat} {Q : Option pj_V → pj_M → Prop} {M : pj_M} {x1 x2 x3 : Int} (j0 j1 : Nat) (ej0 : x3 = (j0 : Int)) (bj0 : j0 < 16) (ej1 : M 20 j0 = (j1 : Int)) (bj1 : j1 < 42) (h : pj_G L d 15 55 [pj_vR 19, pj_vI x1, pj_vI x2, pj_vI x3] [] (pj_up M 21 j1 ((-1))) Q) : pj_G L d 15 43 [pj_vR 19, pj_vI x1, pj_vI x2, pj_vI x3] [] M Q := by
  have nj0 : pj_nrm x3 = (j0 : Int) := pj_nk ej0 (by omega)
  have nj1 : pj_nrm (M 20 j0) = (j1 : Int) := pj_nk ej1 (by omega)
  refine pj_G_s pj_np15 8 (show pj_gs 8 L 15 43 [pj_vR 19, pj_vI x1, pj_vI x2, pj_vI x3] [] M = some ([0 ≤ pj_nrm x3 ∧ pj_nrm x3 < (16 : Int), 0 ≤ pj_nrm (M 20 (pj_nrm x3).toNat) ∧ pj_nrm (M 20 (pj_nrm x3).toNat) < (42 : Int)], 55, [pj_vR 19, pj_vI x1, pj_vI x2, pj_vI x3], [], pj_up M 21 (pj_nrm (M 20 (pj_nrm x3).toNat)).toNat ((-1))) from rfl) ⟨by omega, by simp only [nj0, nj1, Int.toNat_natCast]; omega, trivial⟩ ?_
  simp only [nj0, nj1, Int.toNat_natCast]
  exact h
theorem pj_C15_61 {L d : Nat} {Q : Option pj_V → pj_M → Prop} {M : pj_M} {x2 : Int}  (h : Q (none) (pj_up M 19 0 x2)) : pj_G L d 15 61 [pj_vR 19, pj_vU, pj_vI x2, pj_vU] [] M Q := by
  refine pj_G_s pj_np15 3 (show pj_gs 3 L 15 61 [pj_vR 19, pj_vU, pj_vI x2, pj_vU] [] M = some ([], 66, [pj_vR 19, pj_vU, pj_vI x2, pj_vU], [], pj_up M 19 0 x2) from rfl) trivial ?_
  exact pj_G_r rfl rfl rfl h
