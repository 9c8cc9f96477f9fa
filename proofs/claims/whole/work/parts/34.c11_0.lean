theorem pj_C151_0r32 {L d : Nat} {Q : Option pj_V → pj_M → Prop} {M : pj_M} {x1 : Int}  (h : pj_G L d 151 5 [pj_vR 32, pj_vI x1, pj_vI 0, pj_vI 7] [] M Q) : pj_G L d 151 0 [pj_vR 32, pj_vI x1, pj_vU, pj_vU] [] M Q := by
  refine pj_G_s pj_np151r32 5 (show pj_gs 5 L 151 0 [pj_vR 32, pj_vI x1, pj_vU, pj_vU] [] M = some ([], 5, [pj_vR 32, pj_vI x1, pj_vI 0, pj_vI 7], [], M) from rfl) trivial ?_
  exact h
theorem pj_C151_5r32 {L d : Nat} {Q : Option pj_V → pj_M → Prop} {M : pj_M} {x1 x2 x3 : Int} (r0 : -2147483648 ≤ x2 ∧ x2 < 2147483648) (r1 : -2147483648 ≤ x3 ∧ x3 < 2147483648) (h1 : x3 ≤ x2 → pj_G L d 151 20 [pj_vU, pj_vU, pj_vU, pj_vU] [] M Q) (h2 : x2 < x3 → pj_G L d 151 10 [pj_vR 32, pj_vI x1, pj_vI x2, pj_vI x3] [] M Q) : pj_G L d 151 5 [pj_vR 32, pj_vI x1, pj_vI x2, pj_vI x3] [] M Q := by
  refine pj_G_s pj_np151r32 2 (show pj_gs 2 L 151 5 [pj_vR 32, pj_vI x1, pj_vI x2, pj_vI x3] [] M = some ([], 7, [pj_vR 32, pj_vI x1, pj_vI x2, pj_vI x3], [pj_vI x3, pj_vI x2], M) from rfl) trivial ?_
  exact pj_G_if (t := 20) rfl rfl (fun z => pj_G_loc (pj_lle_u rfl (pj_lle_u rfl (pj_lle_u rfl (pj_lle_u rfl pj_lle_nil)))) (h1 (pj_ct_ge (pj_nrm_id r0.1 r0.2) (pj_nrm_id r1.1 r1.2) z))) (fun z => h2 (pj_cf_ge (pj_nrm_id r0.1 r0.2) (pj_nrm_id r1.1 r1.2) z))
theorem pj_C151_10r32 {L d : Nat} {Q : Option pj_V → pj_M → Prop} {M : pj_M} {x1 x2 x3 : Int} (j0 : Nat) (ej0 : x2 = (j0 : Int)) (bj0 : j0 < 7) (h : pj_G L d 151 5 [pj_vR 32, pj_vI x1, pj_vI (x2 + 1), pj_vI x3] [] (pj_up M 32 j0 x1) Q) : pj_G L d 151 10 [pj_vR 32, pj_vI x1, pj_vI x2, pj_vI x3] [] M Q := by
  have nj0 : pj_nrm x2 = (j0 : Int) := pj_nk ej0 (by omega)
  refine pj_G_s pj_np151r32 6 (show pj_gs 6 L 151 10 [pj_vR 32, pj_vI x1, pj_vI x2, pj_vI x3] [] M = some ([0 ≤ pj_nrm x2 ∧ pj_nrm x2 < (7 : Int)], 5, [pj_vR 32, pj_vI x1, pj_vI (x2 + 1), pj_vI x3], [], pj_up M 32 (pj_nrm x2).toNat x1) from rfl) ⟨by omega, trivial⟩ ?_
  simp only [nj0, Int.toNat_natCast]
  exact h
theorem pj_C151_20r32 {L d : Nat} {Q : Option pj_V → pj_M → Prop} {M : pj_M}  (h : Q (none) M) : pj_G L d 151 20 [pj_vU, pj_vU, pj_vU, pj_vU] [] M Q := by
  exact pj_G_r rfl rfl rfl h
theorem pj_C151_0r34 {L d : Nat} {Q : Option pj_V → pj_M → Prop} {M : pj_M} {x1 : Int}  (h : pj_G L d 151 5 [pj_vR 34, pj_vI x1, pj_vI 0, pj_vI 7] [] M Q) : pj_G L d 151 0 [pj_vR 34, pj_vI x1, pj_vU, pj_vU] [] M Q := by
  refine pj_G_s pj_np151r34 5 (show pj_gs 5 L 151 0 [pj_vR 34, pj_vI x1, pj_vU, pj_vU] [] M = some ([], 5, [pj_vR 34, pj_vI x1, pj_vI 0, pj_vI 7], [], M) from rfl) trivial ?_
  exact h
theorem pj_C151_5r34 {L d : Nat} {Q : Option pj_V → pj_M → Prop} {M : pj_M} {x1 x2 x3 : Int} (r0 : -2147483648 ≤ x2 ∧ x2 < 2147483648) (r1 : -2147483648 ≤ x3 ∧ x3 < 2147483648) (h1 : x3 ≤ x2 → pj_G L d 151 20 [pj_vU, pj_vU, pj_vU, pj_vU] [] M Q) (h2 : x2 < x3 → pj_G L d 151 10 [pj_vR 34, pj_vI x1, pj_vI x2, pj_vI x3] [] M Q) : pj_G L d 151 5 [pj_vR 34, pj_vI x1, pj_vI x2, pj_vI x3] [] M Q := by
  refine pj_G_s pj_np151r34 2 (show pj_gs 2 L 151 5 [pj_vR 34, pj_vI x1, pj_vI x2, pj_vI x3] [] M = some ([], 7, [pj_vR 34, pj_vI x1, pj_vI x2, pj_vI x3], [pj_vI x3, pj_vI x2], M) from rfl) trivial ?_
  exact pj_G_if (t := 20) rfl rfl (fun z => pj_G_loc (pj_lle_u rfl (pj_lle_u rfl (pj_lle_u rfl (pj_lle_u rfl pj_lle_nil)))) (h1 (pj_ct_ge (pj_nrm_id r0.1 r0.2) (pj_nrm_id r1.1 r1.2) z))) (fun z => h2 (pj_cf_ge (pj_nrm_id r0.1 r0.2) (pj_nrm_id r1.1 r1.2) z))
theorem pj_C151_10r34 {L d : Nat} {Q : Option pj_V → pj_M → Prop} {M : pj_M} {x1 x2 x3 : Int} (j0 : Nat) (ej0 : x2 = (j0 : Int)) (bj0 : j0 < 7) (h : pj_G L d 151 5 [pj_vR 34, pj_vI x1, pj_vI (x2 + 1), pj_vI x3] [] (pj_up M 34 j0 x1) Q) : pj_G L d 151 10 [pj_vR 34, pj_vI x1, pj_vI x2, pj_vI x3] [] M Q := by
  have nj0 : pj_nrm x2 = (j0 : Int) := pj_nk ej0 (by omega)
  refine pj_G_s pj_np151r34 6 (show pj_gs 6 L 151 10 [pj_vR 34, pj_vI x1, pj_vI x2, pj_vI x3] [] M = some ([0 ≤ pj_nrm x2 ∧ pj_nrm x2 < (7 : Int)], 5, [pj_vR 34, pj_vI x1, pj_vI (x2 + 1), pj_vI x3], [], pj_up M 34 (pj_nrm x2).toNat x1) from rfl) ⟨by omega, trivial⟩ ?_
  simp only [nj0, Int.toNat_natCast]
  exact h
theorem pj_C151_20r34 {L d : Nat} {Q : Option pj_V → pj_M → Prop} {M : pj_M}  (h : Q (none) M) : pj_G L d 151 20 [pj_vU, pj_vU, pj_vU, pj_vU] [] M Q := by
  exact pj_G_r rfl rfl rfl h
theorem pj_C151_0r35 {L d : Nat} {Q : Option pj_V → pj_M → Prop} {M : pj_M} {x1 : Int}  (h : pj_G L d 151 5 [pj_vR 35, pj_vI x1, pj_vI 0, pj_vI 42] [] M Q) : pj_G L d 151 0 [pj_vR 35, pj_vI x1, pj_vU, pj_vU] [] M Q := by
  refine pj_G_s pj_np151r35 5 (show pj_gs 5 L 151 0 [pj_vR 35, pj_vI x1, pj_vU, pj_vU] [] M = some ([], 5, [pj_vR 35, pj_vI x1, pj_vI 0, pj_vI 42], [], M) from rfl) trivial ?_
  exact h
theorem pj_C151_5r35 {L d : Nat} {Q : Option pj_V → pj_M → Prop} {M : pj_M} {x1 x2 x3 : Int} (r0 : -2147483648 ≤ x2 ∧ x2 < 2147483648) (r1 : -2147483648 ≤ x3 ∧ x3 < 2147483648) (h1 : x3 ≤ x2 → pj_G L d 151 20 [pj_vU, pj_vU, pj_vU, pj_vU] [] M Q) (h2 : x2 < x3 → pj_G L d 151 10 [pj_vR 35, pj_vI x1, pj_vI x2, pj_vI x3] [] M Q) : pj_G L d 151 5 [pj_vR 35, pj_vI x1, pj_vI x2, pj_vI x3] [] M Q := by
  refine pj_G_s pj_np151r35 2 (show pj_gs 2 L 151 5 [pj_vR 35, pj_vI x1, pj_vI x2, pj_vI x3] [] M = some ([], 7, [pj_vR 35, pj_vI x1, pj_vI x2, pj_vI x3], [pj_vI x3, pj_vI x2], M) from rfl) trivial ?_
  exact pj_G_if (t := 20) rfl rfl (fun z => pj_G_loc (pj_lle_u rfl (pj_lle_u rfl (pj_lle_u rfl (pj_lle_u rfl pj_lle_nil)))) (h1 (pj_ct_ge (pj_nrm_id r0.1 r0.2) (pj_nrm_id r1.1 r1.2) z))) (fun z => h2 (pj_cf_ge (pj_nrm_id r0.1 r0.2) (pj_nrm_id r1.1 r1.2) z))
theorem pj_C151_10r35 {L d : Nat} {Q : Option pj_V → pj_M → Prop} {M : pj_M} {x1 x2 x3 : Int} (j0 : Nat) (ej0 : x2 = (j0 : Int)) (bj0 : j0 < 42) (h : pj_G L d 151 5 [pj_vR 35, pj_vI x1, pj_vI (x2 + 1), pj_vI x3] [] (pj_up M 35 j0 x1) Q) : pj_G L d 151 10 [pj_vR 35, pj_vI x1, pj_vI x2, pj_vI x3] [] M Q := by
  have nj0 : pj_nrm x2 = (j0 : Int) := pj_nk ej0 (by omega)
  refine pj_G_s pj_np151r35 6 (show pj_gs 6 L 151 10 [pj_vR 35, pj_vI x1, pj_vI x2, pj_vI x3] [] M = some ([0 ≤ pj_nrm x2 ∧ pj_nrm x2 < (42 : Int)], 5, [pj_vR 35, pj_vI x1, pj_vI (x2 + 1), pj_vI x3], [], pj_up M 35 (pj_nrm x2).toNat x1) from rfl) ⟨by omega, trivial⟩ ?_
  simp only [nj0, Int.toNat_natCast]
  exact h
theorem pj_C151_20r35 {L d : Nat} {Q : Option pj_V → pj_M → Prop} {M : pj_M}  (h : Q (none) M) : pj_G L d 151 20 [pj_vU, pj_vU, pj_vU, pj_vU] [] M Q := by
  exact pj_G_r rfl rfl rfl h
