theorem pj_C32_0 {L d : Nat} {Q : Option pj_V → pj_M → Prop} {M : pj_M} (k0 : 0 + 42 ≤ 42) (k1 : 0 + 42 ≤ 42) (h : pj_G L d 32 21 [pj_vR 26, pj_vU, pj_vU, pj_vU] [] (pj_cpy M 6 33 0 0 42) Q) : pj_G L d 32 0 [pj_vR 26, pj_vU, pj_vU, pj_vU] [] M Q := by
  refine pj_G_s pj_np32 9 (show pj_gs 9 L 32 0 [pj_vR 26, pj_vU, pj_vU, pj_vU] [] M = some ([], 18, [pj_vR 26, pj_vU, pj_vU, pj_vU], [pj_vI 42, pj_vI 0, pj_vR 33, pj_vI 0, pj_vR 6], M) from rfl) trivial ?_
  exact pj_G_n (pc' := 21) (loc' := [pj_vR 26, pj_vU, pj_vU, pj_vU]) (stk' := []) (M' := pj_cpy M 6 33 0 0 42) pj_np32 rfl rfl (h)
theorem pj_C32_21 {L d : Nat} {Q : Option pj_V → pj_M → Prop} {M : pj_M}  (h : pj_G L d 32 28 [pj_vR 26, pj_vI 0, pj_vU, pj_vU] [] (pj_up M 26 12 1) Q) : pj_G L d 32 21 [pj_vR 26, pj_vU, pj_vU, pj_vU] [] M Q := by
  refine pj_G_s pj_np32 5 (show pj_gs 5 L 32 21 [pj_vR 26, pj_vU, pj_vU, pj_vU] [] M = some ([(1 : Int) = 0 ∨ (1 : Int) = 1], 28, [pj_vR 26, pj_vI 0, pj_vU, pj_vU], [], pj_up M 26 12 1) from rfl) ⟨by decide, trivial⟩ ?_
  exact h
theorem pj_C32_28 {L d : Nat} {Q : Option pj_V → pj_M → Prop} {M : pj_M} {x1 : Int} (r0 : -2147483648 ≤ x1 ∧ x1 < 2147483648) (r1 : -2147483648 ≤ M 19 0 ∧ M 19 0 < 2147483648) (h1 : M 19 0 ≤ x1 → pj_G L d 32 97 [pj_vR 26, pj_vU, pj_vU, pj_vU] [] M Q) (h2 : x1 < M 19 0 → pj_G L d 32 39 [pj_vR 26, pj_vI x1, pj_vU, pj_vU] [] M Q) : pj_G L d 32 28 [pj_vR 26, pj_vI x1, pj_vU, pj_vU] [] M Q := by
  refine pj_G_s pj_np32 4 (show pj_gs 4 L 32 28 [pj_vR 26, pj_vI x1, pj_vU, pj_vU] [] M = some ([], 36, [pj_vR 26, pj_vI x1, pj_vU, pj_vU], [pj_vI (M 19 0), pj_vI x1], M) from rfl) trivial ?_
  exact pj_G_if (t := 97) rfl rfl (fun z => pj_G_loc (pj_lle_e (pj_lle_u rfl (pj_lle_e (pj_lle_e pj_lle_nil)))) (h1 (pj_ct_ge (pj_nrm_id r0.1 r0.2) (pj_nrm_id r1.1 r1.2) z))) (fun z => h2 (pj_cf_ge (pj_nrm_id r0.1 r0.2) (pj_nrm_id r1.1 r1.2) z))
theorem pj_C32_39 {L d : Nat} {Q : Option pj_V → pj_M → Prop} {M : pj_M} {x1 : Int} (j0 j1 : Nat) (ej0 : x1 = (j0 : Int)) (bj0 : j0 < 16) (ej1 : pj_rem (M 20 j0) 14 = (j1 : Int)) (bj1 : j1 < 14) (r0 : -2147483648 ≤ M 4 j1 ∧ M 4 j1 < 2147483648) (h1 : M 4 j1 ≠ (-1 : Int) → pj_G L d 32 91 [pj_vR 26, pj_vI x1, pj_vU, pj_vU] [] M Q) (h2 : M 4 j1 = (-1 : Int) → pj_G L d 32 65 [pj_vR 26, pj_vI x1, pj_vI (M 20 j0), pj_vU] [] M Q) : pj_G L d 32 39 [pj_vR 26, pj_vI x1, pj_vU, pj_vU] [] M Q := by
  have nj0 : pj_nrm x1 = (j0 : Int) := pj_nk ej0 (by omega)
  have nj1 : pj_nrm (pj_rem (M 20 j0) 14) = (j1 : Int) := pj_nk ej1 (by omega)
  refine pj_G_s pj_np32 14 (show pj_gs 14 L 32 39 [pj_vR 26, pj_vI x1, pj_vU, pj_vU] [] M = some ([0 ≤ pj_nrm x1 ∧ pj_nrm x1 < (16 : Int), (14 : Int) ≠ 0, 0 ≤ pj_nrm (pj_rem (M 20 (pj_nrm x1).toNat) 14) ∧ pj_nrm (pj_rem (M 20 (pj_nrm x1).toNat) 14) < (14 : Int)], 62, [pj_vR 26, pj_vI x1, pj_vI (M 20 (pj_nrm x1).toNat), pj_vU], [pj_vI ((-1)), pj_vI (M 4 (pj_nrm (pj_rem (M 20 (pj_nrm x1).toNat) 14)).toNat)], M) from rfl) ⟨by omega, by decide, by simp only [nj0, nj1, Int.toNat_natCast]; omega, trivial⟩ ?_
  simp only [nj0, nj1, Int.toNat_natCast]
  exact pj_G_if (t := 91) rfl rfl (fun z => pj_G_loc (pj_lle_e (pj_lle_e (pj_lle_u rfl (pj_lle_e pj_lle_nil)))) (h1 (pj_ct_ne (pj_nrm_id r0.1 r0.2) (pj_nrm_id (by omega) (by omega)) z))) (fun z => h2 (pj_cf_ne (pj_nrm_id r0.1 r0.2) (pj_nrm_id (by omega) (by omega)) z))
theorem pj_C32_65 {L d : Nat} {Q : Option pj_V → pj_M → Prop} {M : pj_M} {x1 x2 : Int} (j0 : Nat) (ej0 : x2 = (j0 : Int)) (bj0 : j0 < 42) (r0 : -2147483648 ≤ M 21 j0 ∧ M 21 j0 < 2147483648) (r1 : -2147483648 ≤ M 6 j0 ∧ M 6 j0 < 2147483648) (h1 : M 21 j0 = M 6 j0 → pj_G L d 32 91 [pj_vR 26, pj_vI x1, pj_vU, pj_vU] [] M Q) (h2 : M 21 j0 ≠ M 6 j0 → pj_G L d 32 86 [pj_vR 26, pj_vI x1, pj_vU, pj_vU] [] M Q) : pj_G L d 32 65 [pj_vR 26, pj_vI x1, pj_vI x2, pj_vU] [] M Q := by
  have nj0 : pj_nrm x2 = (j0 : Int) := pj_nk ej0 (by omega)
  refine pj_G_s pj_np32 10 (show pj_gs 10 L 32 65 [pj_vR 26, pj_vI x1, pj_vI x2, pj_vU] [] M = some ([0 ≤ pj_nrm x2 ∧ pj_nrm x2 < (42 : Int), 0 ≤ pj_nrm x2 ∧ pj_nrm x2 < (42 : Int)], 83, [pj_vR 26, pj_vI x1, pj_vI x2, pj_vU], [pj_vI (M 6 (pj_nrm x2).toNat), pj_vI (M 21 (pj_nrm x2).toNat)], M) from rfl) ⟨by omega, by omega, trivial⟩ ?_
  simp only [nj0, Int.toNat_natCast]
  exact pj_G_if (t := 91) rfl rfl (fun z => pj_G_loc (pj_lle_e (pj_lle_e (pj_lle_u rfl (pj_lle_e pj_lle_nil)))) (h1 (pj_ct_eq (pj_nrm_id r0.1 r0.2) (pj_nrm_id r1.1 r1.2) z))) (fun z => pj_G_loc (pj_lle_e (pj_lle_e (pj_lle_u rfl (pj_lle_e pj_lle_nil)))) (h2 (pj_cf_eq (pj_nrm_id r0.1 r0.2) (pj_nrm_id r1.1 r1.2) z)))
theorem pj_C32_86 {L d : Nat} {Q : Option pj_V → pj_M → Prop} {M : pj_M} {x1 : Int}  (h : pj_G L d 32 91 [pj_vR 26, pj_vI x1, pj_vU, pj_vU] [] (pj_up M 26 12 0) Q) : pj_G L d 32 86 [pj_vR 26, pj_vI x1, pj_vU, pj_vU] [] M Q := by
  refine pj_G_s pj_np32 3 (show pj_gs 3 L 32 86 [pj_vR 26, pj_vI x1, pj_vU, pj_vU] [] M = some ([(0 : Int) = 0 ∨ (0 : Int) = 1], 91, [pj_vR 26, pj_vI x1, pj_vU, pj_vU], [], pj_up M 26 12 0) from rfl) ⟨by decide, trivial⟩ ?_
  exact h
theorem pj_C32_91 {L d : Nat} {Q : Option pj_V → pj_M → Prop} {M : pj_M} {x1 : Int}  (h : pj_G L d 32 28 [pj_vR 26, pj_vI (x1 + 1), pj_vU, pj_vU] [] M Q) : pj_G L d 32 91 [pj_vR 26, pj_vI x1, pj_vU, pj_vU] [] M Q := by
  refine pj_G_s pj_np32 2 (show pj_gs 2 L 32 91 [pj_vR 26, pj_vI x1, pj_vU, pj_vU] [] M = some ([], 28, [pj_vR 26, pj_vI (x1 + 1), pj_vU, pj_vU], [], M) from rfl) trivial ?_
  exact h
theorem pj_C32_97 {L d : Nat} {Q : Option pj_V → pj_M → Prop} {M : pj_M}  (h : pj_G L d 32 111 [pj_vR 26, pj_vI 0, pj_vI 0, pj_vI ((M 2 1) - 1)] [] M Q) : pj_G L d 32 97 [pj_vR 26, pj_vU, pj_vU, pj_vU] [] M Q := by
  refine pj_G_s pj_np32 10 (show pj_gs 10 L 32 97 [pj_vR 26, pj_vU, pj_vU, pj_vU] [] M = some ([], 111, [pj_vR 26, pj_vI 0, pj_vI 0, pj_vI ((M 2 1) - 1)], [], M) from rfl) trivial ?_
  exact h
theorem pj_C32_111 {L d : Nat} {Q : Option pj_V → pj_M → Prop} {M : pj_M} {x1 x2 x3 : Int} (r0 : -2147483648 ≤ x3 ∧ x3 < 2147483648) (h1 : x3 < 0 → pj_G L d 32 139 [pj_vR 26, pj_vU, pj_vI x2, pj_vU] [] M Q) (h2 : 0 ≤ x3 → pj_G L d 32 115 [pj_vR 26, pj_vI x1, pj_vI x2, pj_vI x3] [] M Q) : pj_G L d 32 111 [pj_vR 26, pj_vI x1, pj_vI x2, pj_vI x3] [] M Q := by
  refine pj_G_s pj_np32 1 (show pj_gs 1 L 32 111 [pj_vR 26, pj_vI x1, pj_vI x2, pj_vI x3] [] M = some ([], 112, [pj_vR 26, pj_vI x1, pj_vI x2, pj_vI x3], [pj_vI x3], M) from rfl) trivial ?_
  exact pj_G_if0 (t := 139) rfl rfl (fun z => pj_G_loc (pj_lle_e (pj_lle_u rfl (pj_lle_e (pj_lle_u rfl pj_lle_nil)))) (h1 (pj_ct_lt (pj_nrm_id r0.1 r0.2) rfl z))) (fun z => h2 (pj_cf_lt (pj_nrm_id r0.1 r0.2) rfl z))
theorem pj_C32_115 {L d : Nat} {Q : Option pj_V → pj_M → Prop} {M : pj_M} {x1 x2 x3 : Int}  (h : pj_G L d 33 0 [pj_vR 26, pj_vI x3, pj_vI x1, pj_vU, pj_vU, pj_vU] [] M (fun r M1 => pj_G L (d + 1) 32 121 [pj_vR 26, pj_vU, pj_vI x2, pj_vI x3] (r.toList ++ []) M1 Q)) : pj_G L (d + 1) 32 115 [pj_vR 26, pj_vI x1, pj_vI x2, pj_vI x3] [] M Q := by
  refine pj_G_s (d := d + 1) pj_np32 3 (show pj_gs 3 L 32 115 [pj_vR 26, pj_vI x1, pj_vI x2, pj_vI x3] [] M = some ([], 118, [pj_vR 26, pj_vI x1, pj_vI x2, pj_vI x3], [pj_vI x1, pj_vI x3, pj_vR 26], M) from rfl) trivial ?_
  exact pj_G_k (j := 33) (vs := [pj_vR 26, pj_vI x3, pj_vI x1]) (st := []) rfl rfl rfl rfl rfl (Nat.le_of_ble_eq_true rfl) pj_nc33 (pj_G.mono h (fun _ _ hh => pj_G_loc (pj_lle_e (pj_lle_u rfl (pj_lle_e (pj_lle_e pj_lle_nil)))) hh))
theorem pj_C32_121 {L d : Nat} {Q : Option pj_V → pj_M → Prop} {M : pj_M} {x2 x3 s0 : Int} (j0 : Nat) (ej0 : x3 = (j0 : Int)) (bj0 : j0 < 3) (h : pj_G L d 32 111 [pj_vR 26, pj_vI s0, pj_vI (pj_or x2 s0), pj_vI (x3 + ((-1)))] [] (pj_up M 27 j0 s0) Q) : pj_G L d 32 121 [pj_vR 26, pj_vU, pj_vI x2, pj_vI x3] [pj_vI s0] M Q := by
  have nj0 : pj_nrm x3 = (j0 : Int) := pj_nk ej0 (by omega)
  refine pj_G_s pj_np32 12 (show pj_gs 12 L 32 121 [pj_vR 26, pj_vU, pj_vI x2, pj_vI x3] [pj_vI s0] M = some ([0 ≤ pj_nrm x3 ∧ pj_nrm x3 < (3 : Int)], 111, [pj_vR 26, pj_vI s0, pj_vI (pj_or x2 s0), pj_vI (x3 + ((-1)))], [], pj_up M 27 (pj_nrm x3).toNat s0) from rfl) ⟨by omega, trivial⟩ ?_
  simp only [nj0, Int.toNat_natCast]
  exact h
theorem pj_C32_139 {L d : Nat} {Q : Option pj_V → pj_M → Prop} {M : pj_M} {x2 : Int}  (h : pj_G L d 32 146 [pj_vR 26, pj_vU, pj_vI x2, pj_vI 0] [] (pj_up M 26 10 0) Q) : pj_G L d 32 139 [pj_vR 26, pj_vU, pj_vI x2, pj_vU] [] M Q := by
  refine pj_G_s pj_np32 5 (show pj_gs 5 L 32 139 [pj_vR 26, pj_vU, pj_vI x2, pj_vU] [] M = some ([], 146, [pj_vR 26, pj_vU, pj_vI x2, pj_vI 0], [], pj_up M 26 10 0) from rfl) trivial ?_
  exact h
theorem pj_C32_146 {L d : Nat} {Q : Option pj_V → pj_M → Prop} {M : pj_M} {x2 x3 : Int} (r0 : -2147483648 ≤ x3 ∧ x3 < 2147483648) (r1 : -2147483648 ≤ M 7 0 ∧ M 7 0 < 2147483648) (h1 : M 7 0 ≤ x3 → pj_G L d 32 187 [pj_vU, pj_vU, pj_vU, pj_vU] [] M Q) (h2 : x3 < M 7 0 → pj_G L d 32 157 [pj_vR 26, pj_vU, pj_vI x2, pj_vI x3] [] M Q) : pj_G L d 32 146 [pj_vR 26, pj_vU, pj_vI x2, pj_vI x3] [] M Q := by
  refine pj_G_s pj_np32 4 (show pj_gs 4 L 32 146 [pj_vR 26, pj_vU, pj_vI x2, pj_vI x3] [] M = some ([], 154, [pj_vR 26, pj_vU, pj_vI x2, pj_vI x3], [pj_vI (M 7 0), pj_vI x3], M) from rfl) trivial ?_
  exact pj_G_if (t := 187) rfl rfl (fun z => pj_G_loc (pj_lle_u rfl (pj_lle_e (pj_lle_u rfl (pj_lle_u rfl pj_lle_nil)))) (h1 (pj_ct_ge (pj_nrm_id r0.1 r0.2) (pj_nrm_id r1.1 r1.2) z))) (fun z => h2 (pj_cf_ge (pj_nrm_id r0.1 r0.2) (pj_nrm_id r1.1 r1.2) z))
theorem pj_C32_157 {L d : Nat} {Q : Option pj_V → pj_M → Prop} {M : pj_M} {x2 x3 : Int} (j0 : Nat) (ej0 : x3 = (j0 : Int)) (bj0 : j0 < 7) (h : pj_G L d 32 146 [pj_vR 26, pj_vU, pj_vI x2, pj_vI (x3 + 1)] [] (pj_up M 26 10 (pj_or (M 26 10) (pj_shl (pj_and (pj_shr x2 (M 10 j0)) 1) x3))) Q) : pj_G L d 32 157 [pj_vR 26, pj_vU, pj_vI x2, pj_vI x3] [] M Q := by
  have nj0 : pj_nrm x3 = (j0 : Int) := pj_nk ej0 (by omega)
  refine pj_G_s pj_np32 18 (show pj_gs 18 L 32 157 [pj_vR 26, pj_vU, pj_vI x2, pj_vI x3] [] M = some ([0 ≤ pj_nrm x3 ∧ pj_nrm x3 < (7 : Int)], 146, [pj_vR 26, pj_vU, pj_vI x2, pj_vI (x3 + 1)], [], pj_up M 26 10 (pj_or (M 26 10) (pj_shl (pj_and (pj_shr x2 (M 10 (pj_nrm x3).toNat)) 1) x3))) from rfl) ⟨by omega, trivial⟩ ?_
  simp only [nj0, Int.toNat_natCast]
  exact h
theorem pj_C32_187 {L d : Nat} {Q : Option pj_V → pj_M → Prop} {M : pj_M}  (h : Q (none) M) : pj_G L d 32 187 [pj_vU, pj_vU, pj_vU, pj_vU] [] M Q := by
  exact pj_G_r rfl rfl rfl h
theorem pj_C33_0 {L d : Nat} {Q : Option pj_V → pj_M → Prop} {M : pj_M} {x1 x2 : Int}  (h : pj_G L d 33 5 [pj_vR 26, pj_vI x1, pj_vI x2, pj_vI 0, pj_vI 0, pj_vU] [] M Q) : pj_G L d 33 0 [pj_vR 26, pj_vI x1, pj_vI x2, pj_vU, pj_vU, pj_vU] [] M Q := by
  refine pj_G_s pj_np33 4 (show pj_gs 4 L 33 0 [pj_vR 26, pj_vI x1, pj_vI x2, pj_vU, pj_vU, pj_vU] [] M = some ([], 5, [pj_vR 26, pj_vI x1, pj_vI x2, pj_vI 0, pj_vI 0, pj_vU], [], M) from rfl) trivial ?_
  exact h
theorem pj_C33_5 {L d : Nat} {Q : Option pj_V → pj_M → Prop} {M : pj_M} {x1 x2 x3 x4 : Int} (r0 : -2147483648 ≤ x4 ∧ x4 < 2147483648) (r1 : -2147483648 ≤ M 2 0 ∧ M 2 0 < 2147483648) (h1 : M 2 0 ≤ x4 → pj_G L d 33 49 [pj_vR 26, pj_vU, pj_vI x2, pj_vI x3, pj_vU, pj_vU] [] M Q) (h2 : x4 < M 2 0 → pj_G L d 33 17 [pj_vR 26, pj_vI x1, pj_vI x2, pj_vI x3, pj_vI x4, pj_vU] [] M Q) : pj_G L d 33 5 [pj_vR 26, pj_vI x1, pj_vI x2, pj_vI x3, pj_vI x4, pj_vU] [] M Q := by
  refine pj_G_s pj_np33 4 (show pj_gs 4 L 33 5 [pj_vR 26, pj_vI x1, pj_vI x2, pj_vI x3, pj_vI x4, pj_vU] [] M = some ([], 14, [pj_vR 26, pj_vI x1, pj_vI x2, pj_vI x3, pj_vI x4, pj_vU], [pj_vI (M 2 0), pj_vI x4], M) from rfl) trivial ?_
  exact pj_G_if (t := 49) rfl rfl (fun z => pj_G_loc (pj_lle_e (pj_lle_u rfl (pj_lle_e (pj_lle_e (pj_lle_u rfl (pj_lle_e pj_lle_nil)))))) (h1 (pj_ct_ge (pj_nrm_id r0.1 r0.2) (pj_nrm_id r1.1 r1.2) z))) (fun z => h2 (pj_cf_ge (pj_nrm_id r0.1 r0.2) (pj_nrm_id r1.1 r1.2) z))
theorem pj_C33_17 {L d : Nat} {Q : Option pj_V → pj_M → Prop} {M : pj_M} {x1 x2 x3 x4 : Int} (j0 : Nat) (ej0 : (x1 * 14) + x4 = (j0 : Int)) (bj0 : j0 < 42) (r0 : -2147483648 ≤ M 21 j0 ∧ M 21 j0 < 2147483648) (h1 : M 21 j0 = (-1 : Int) → pj_G L d 33 43 [pj_vR 26, pj_vI x1, pj_vI x2, pj_vI x3, pj_vI x4, pj_vU] [] M Q) (h2 : M 21 j0 ≠ (-1 : Int) → pj_G L d 33 36 [pj_vR 26, pj_vI x1, pj_vI x2, pj_vI x3, pj_vI x4, pj_vU] [] M Q) : pj_G L d 33 17 [pj_vR 26, pj_vI x1, pj_vI x2, pj_vI x3, pj_vI x4, pj_vU] [] M Q := by
  have nj0 : pj_nrm ((x1 * 14) + x4) = (j0 : Int) := pj_nk ej0 (by omega)
  refine pj_G_s pj_np33 10 (show pj_gs 10 L 33 17 [pj_vR 26, pj_vI x1, pj_vI x2, pj_vI x3, pj_vI x4, pj_vU] [] M = some ([0 ≤ pj_nrm ((x1 * 14) + x4) ∧ pj_nrm ((x1 * 14) + x4) < (42 : Int)], 33, [pj_vR 26, pj_vI x1, pj_vI x2, pj_vI x3, pj_vI x4, pj_vU], [pj_vI ((-1)), pj_vI (M 21 (pj_nrm ((x1 * 14) + x4)).toNat)], M) from rfl) ⟨by omega, trivial⟩ ?_
  simp only [nj0, Int.toNat_natCast]
  exact pj_G_if (t := 43) rfl rfl (fun z => h1 (pj_ct_eq (pj_nrm_id r0.1 r0.2) (pj_nrm_id (by omega) (by omega)) z)) (fun z => h2 (pj_cf_eq (pj_nrm_id r0.1 r0.2) (pj_nrm_id (by omega) (by omega)) z))
theorem pj_C33_36 {L d : Nat} {Q : Option pj_V → pj_M → Prop} {M : pj_M} {x1 x2 x3 x4 : Int}  (h : pj_G L d 33 43 [pj_vR 26, pj_vI x1, pj_vI x2, pj_vI (pj_or x3 (pj_shl 1 x4)), pj_vI x4, pj_vU] [] M Q) : pj_G L d 33 36 [pj_vR 26, pj_vI x1, pj_vI x2, pj_vI x3, pj_vI x4, pj_vU] [] M Q := by
  refine pj_G_s pj_np33 6 (show pj_gs 6 L 33 36 [pj_vR 26, pj_vI x1, pj_vI x2, pj_vI x3, pj_vI x4, pj_vU] [] M = some ([], 43, [pj_vR 26, pj_vI x1, pj_vI x2, pj_vI (pj_or x3 (pj_shl 1 x4)), pj_vI x4, pj_vU], [], M) from rfl) trivial ?_
  exact h
theorem pj_C33_43 {L d : Nat} {Q : Option pj_V → pj_M → Prop} {M : pj_M} {x1 x2 x3 x4 : Int}  (h : pj_G L d 33 5 [pj_vR 26, pj_vI x1, pj_vI x2, pj_vI x3, pj_vI (x4 + 1), pj_vU] [] M Q) : pj_G L d 33 43 [pj_vR 26, pj_vI x1, pj_vI x2, pj_vI x3, pj_vI x4, pj_vU] [] M Q := by
  refine pj_G_s pj_np33 2 (show pj_gs 2 L 33 43 [pj_vR 26, pj_vI x1, pj_vI x2, pj_vI x3, pj_vI x4, pj_vU] [] M = some ([], 5, [pj_vR 26, pj_vI x1, pj_vI x2, pj_vI x3, pj_vI (x4 + 1), pj_vU], [], M) from rfl) trivial ?_
  exact h
theorem pj_C33_49 {L d : Nat} {Q : Option pj_V → pj_M → Prop} {M : pj_M} {x2 x3 : Int}  (h : pj_G L d 33 52 [pj_vR 26, pj_vU, pj_vI x2, pj_vI x3, pj_vI 0, pj_vU] [] M Q) : pj_G L d 33 49 [pj_vR 26, pj_vU, pj_vI x2, pj_vI x3, pj_vU, pj_vU] [] M Q := by
  refine pj_G_s pj_np33 2 (show pj_gs 2 L 33 49 [pj_vR 26, pj_vU, pj_vI x2, pj_vI x3, pj_vU, pj_vU] [] M = some ([], 52, [pj_vR 26, pj_vU, pj_vI x2, pj_vI x3, pj_vI 0, pj_vU], [], M) from rfl) trivial ?_
  exact h
theorem pj_C33_52 {L d : Nat} {Q : Option pj_V → pj_M → Prop} {M : pj_M} {x2 x3 x4 : Int} (r0 : -2147483648 ≤ x4 ∧ x4 < 2147483648) (r1 : -2147483648 ≤ M 7 12 ∧ M 7 12 < 2147483648) (h1 : M 7 12 ≤ x4 → pj_G L d 33 127 [pj_vR 26, pj_vU, pj_vU, pj_vI x3, pj_vU, pj_vU] [] M Q) (h2 : x4 < M 7 12 → pj_G L d 33 64 [pj_vR 26, pj_vU, pj_vI x2, pj_vI x3, pj_vI x4, pj_vU] [] M Q) : pj_G L d 33 52 [pj_vR 26, pj_vU, pj_vI x2, pj_vI x3, pj_vI x4, pj_vU] [] M Q := by
  refine pj_G_s pj_np33 4 (show pj_gs 4 L 33 52 [pj_vR 26, pj_vU, pj_vI x2, pj_vI x3, pj_vI x4, pj_vU] [] M = some ([], 61, [pj_vR 26, pj_vU, pj_vI x2, pj_vI x3, pj_vI x4, pj_vU], [pj_vI (M 7 12), pj_vI x4], M) from rfl) trivial ?_
  exact pj_G_if (t := 127) rfl rfl (fun z => pj_G_loc (pj_lle_e (pj_lle_e (pj_lle_u rfl (pj_lle_e (pj_lle_u rfl (pj_lle_e pj_lle_nil)))))) (h1 (pj_ct_ge (pj_nrm_id r0.1 r0.2) (pj_nrm_id r1.1 r1.2) z))) (fun z => h2 (pj_cf_ge (pj_nrm_id r0.1 r0.2) (pj_nrm_id r1.1 r1.2) z))
theorem pj_C33_64 {L d : Nat} {Q : Option pj_V → pj_M → Prop} {M : pj_M} {x2 x3 x4 : Int} (j0 j1 j2 : Nat) (ej0 : x4 = (j0 : Int)) (bj0 : j0 < 2) (ej1 : M 18 j0 = (j1 : Int)) (bj1 : j1 < 7) (ej2 : M 10 j1 = (j2 : Int)) (bj2 : j2 < 32) (h1 : pj_bt x2 j2 = false → pj_G L d 33 121 [pj_vR 26, pj_vU, pj_vI x2, pj_vI x3, pj_vI x4, pj_vU] [] M Q) (h2 : pj_bt x2 j2 = true → pj_G L d 33 93 [pj_vR 26, pj_vU, pj_vI x2, pj_vI x3, pj_vI x4, pj_vI (M 18 j0)] [] M Q) : pj_G L d 33 64 [pj_vR 26, pj_vU, pj_vI x2, pj_vI x3, pj_vI x4, pj_vU] [] M Q := by
  have nj0 : pj_nrm x4 = (j0 : Int) := pj_nk ej0 (by omega)
  have nj1 : pj_nrm (M 18 j0) = (j1 : Int) := pj_nk ej1 (by omega)
  have nj2 : pj_nrm (M 10 j1) = (j2 : Int) := pj_nk ej2 (by omega)
  refine pj_G_s pj_np33 15 (show pj_gs 15 L 33 64 [pj_vR 26, pj_vU, pj_vI x2, pj_vI x3, pj_vI x4, pj_vU] [] M = some ([0 ≤ pj_nrm x4 ∧ pj_nrm x4 < (2 : Int), 0 ≤ pj_nrm (M 18 (pj_nrm x4).toNat) ∧ pj_nrm (M 18 (pj_nrm x4).toNat) < (7 : Int)], 90, [pj_vR 26, pj_vU, pj_vI x2, pj_vI x3, pj_vI x4, pj_vI (M 18 (pj_nrm x4).toNat)], [pj_vI (pj_and (pj_shr x2 (M 10 (pj_nrm (M 18 (pj_nrm x4).toNat)).toNat)) 1)], M) from rfl) ⟨by omega, by simp only [nj0, nj1, nj2, Int.toNat_natCast]; omega, trivial⟩ ?_
  simp only [nj0, nj1, nj2, Int.toNat_natCast]
  exact pj_G_if0 (t := 121) rfl rfl (fun z => pj_G_loc (pj_lle_e (pj_lle_e (pj_lle_e (pj_lle_e (pj_lle_e (pj_lle_u rfl pj_lle_nil)))))) (h1 (pj_ieq0 (pj_ct_eq (pj_tst ej2 (by omega)) rfl z)))) (fun z => h2 (pj_ine0 (pj_cf_eq (pj_tst ej2 (by omega)) rfl z)))
theorem pj_C33_93 {L d : Nat} {Q : Option pj_V → pj_M → Prop} {M : pj_M} {x2 x3 x4 x5 : Int} (j0 : Nat) (ej0 : x5 = (j0 : Int)) (bj0 : j0 < 7) (h : pj_G L d 33 121 [pj_vR 26, pj_vU, pj_vI x2, pj_vI (pj_or x3 (pj_or (pj_shl 1 (M 11 j0)) (pj_shl 1 (M 12 j0)))), pj_vI x4, pj_vU] [] M Q) : pj_G L d 33 93 [pj_vR 26, pj_vU, pj_vI x2, pj_vI x3, pj_vI x4, pj_vI x5] [] M Q := by
  have nj0 : pj_nrm x5 = (j0 : Int) := pj_nk ej0 (by omega)
  refine pj_G_s pj_np33 18 (show pj_gs 18 L 33 93 [pj_vR 26, pj_vU, pj_vI x2, pj_vI x3, pj_vI x4, pj_vI x5] [] M = some ([0 ≤ pj_nrm x5 ∧ pj_nrm x5 < (7 : Int), 0 ≤ pj_nrm x5 ∧ pj_nrm x5 < (7 : Int)], 121, [pj_vR 26, pj_vU, pj_vI x2, pj_vI (pj_or x3 (pj_or (pj_shl 1 (M 11 (pj_nrm x5).toNat)) (pj_shl 1 (M 12 (pj_nrm x5).toNat)))), pj_vI x4, pj_vI x5], [], M) from rfl) ⟨by omega, by omega, trivial⟩ ?_
  simp only [nj0, Int.toNat_natCast]
  exact pj_G_loc (pj_lle_e (pj_lle_e (pj_lle_e (pj_lle_e (pj_lle_e (pj_lle_u rfl pj_lle_nil)))))) h
theorem pj_C33_121 {L d : Nat} {Q : Option pj_V → pj_M → Prop} {M : pj_M} {x2 x3 x4 : Int}  (h : pj_G L d 33 52 [pj_vR 26, pj_vU, pj_vI x2, pj_vI x3, pj_vI (x4 + 1), pj_vU] [] M Q) : pj_G L d 33 121 [pj_vR 26, pj_vU, pj_vI x2, pj_vI x3, pj_vI x4, pj_vU] [] M Q := by
  refine pj_G_s pj_np33 2 (show pj_gs 2 L 33 121 [pj_vR 26, pj_vU, pj_vI x2, pj_vI x3, pj_vI x4, pj_vU] [] M = some ([], 52, [pj_vR 26, pj_vU, pj_vI x2, pj_vI x3, pj_vI (x4 + 1), pj_vU], [], M) from rfl) trivial ?_
  exact h
theorem pj_C33_127 {L d : Nat} {Q : Option pj_V → pj_M → Prop} {M : pj_M} {x3 : Int}  (h : pj_G L d 33 138 [pj_vR 26, pj_vU, pj_vU, pj_vI x3, pj_vI ((M 7 0) - 1), pj_vU] [] M Q) : pj_G L d 33 127 [pj_vR 26, pj_vU, pj_vU, pj_vI x3, pj_vU, pj_vU] [] M Q := by
  refine pj_G_s pj_np33 6 (show pj_gs 6 L 33 127 [pj_vR 26, pj_vU, pj_vU, pj_vI x3, pj_vU, pj_vU] [] M = some ([], 138, [pj_vR 26, pj_vU, pj_vU, pj_vI x3, pj_vI ((M 7 0) - 1), pj_vU], [], M) from rfl) trivial ?_
  exact h
theorem pj_C33_138 {L d : Nat} {Q : Option pj_V → pj_M → Prop} {M : pj_M} {x3 x4 : Int} (r0 : -2147483648 ≤ x4 ∧ x4 < 2147483648) (h1 : x4 < 0 → pj_G L d 33 187 [pj_vU, pj_vU, pj_vU, pj_vI x3, pj_vU, pj_vU] [] M Q) (h2 : 0 ≤ x4 → pj_G L d 33 143 [pj_vR 26, pj_vU, pj_vU, pj_vI x3, pj_vI x4, pj_vU] [] M Q) : pj_G L d 33 138 [pj_vR 26, pj_vU, pj_vU, pj_vI x3, pj_vI x4, pj_vU] [] M Q := by
  refine pj_G_s pj_np33 1 (show pj_gs 1 L 33 138 [pj_vR 26, pj_vU, pj_vU, pj_vI x3, pj_vI x4, pj_vU] [] M = some ([], 140, [pj_vR 26, pj_vU, pj_vU, pj_vI x3, pj_vI x4, pj_vU], [pj_vI x4], M) from rfl) trivial ?_
  exact pj_G_if0 (t := 187) rfl rfl (fun z => pj_G_loc (pj_lle_u rfl (pj_lle_e (pj_lle_e (pj_lle_e (pj_lle_u rfl (pj_lle_e pj_lle_nil)))))) (h1 (pj_ct_lt (pj_nrm_id r0.1 r0.2) rfl z))) (fun z => h2 (pj_cf_lt (pj_nrm_id r0.1 r0.2) rfl z))
theorem pj_C33_143 {L d : Nat} {Q : Option pj_V → pj_M → Prop} {M : pj_M} {x3 x4 : Int} (j0 j1 j2 : Nat) (ej0 : x4 = (j0 : Int)) (bj0 : j0 < 7) (ej1 : M 17 j0 = (j1 : Int)) (bj1 : j1 < 7) (ej2 : M 10 j1 = (j2 : Int)) (bj2 : j2 < 32) (h1 : pj_bt x3 j2 = false → pj_G L d 33 181 [pj_vR 26, pj_vU, pj_vU, pj_vI x3, pj_vI x4, pj_vU] [] M Q) (h2 : pj_bt x3 j2 = true → pj_G L d 33 172 [pj_vR 26, pj_vU, pj_vU, pj_vI x3, pj_vI x4, pj_vI (M 17 j0)] [] M Q) : pj_G L d 33 143 [pj_vR 26, pj_vU, pj_vU, pj_vI x3, pj_vI x4, pj_vU] [] M Q := by
  have nj0 : pj_nrm x4 = (j0 : Int) := pj_nk ej0 (by omega)
  have nj1 : pj_nrm (M 17 j0) = (j1 : Int) := pj_nk ej1 (by omega)
  have nj2 : pj_nrm (M 10 j1) = (j2 : Int) := pj_nk ej2 (by omega)
  refine pj_G_s pj_np33 15 (show pj_gs 15 L 33 143 [pj_vR 26, pj_vU, pj_vU, pj_vI x3, pj_vI x4, pj_vU] [] M = some ([0 ≤ pj_nrm x4 ∧ pj_nrm x4 < (7 : Int), 0 ≤ pj_nrm (M 17 (pj_nrm x4).toNat) ∧ pj_nrm (M 17 (pj_nrm x4).toNat) < (7 : Int)], 169, [pj_vR 26, pj_vU, pj_vU, pj_vI x3, pj_vI x4, pj_vI (M 17 (pj_nrm x4).toNat)], [pj_vI (pj_and (pj_shr x3 (M 10 (pj_nrm (M 17 (pj_nrm x4).toNat)).toNat)) 1)], M) from rfl) ⟨by omega, by simp only [nj0, nj1, nj2, Int.toNat_natCast]; omega, trivial⟩ ?_
  simp only [nj0, nj1, nj2, Int.toNat_natCast]
  exact pj_G_if0 (t := 181) rfl rfl (fun z => pj_G_loc (pj_lle_e (pj_lle_e (pj_lle_e (pj_lle_e (pj_lle_e (pj_lle_u rfl pj_lle_nil)))))) (h1 (pj_ieq0 (pj_ct_eq (pj_tst ej2 (by omega)) rfl z)))) (fun z => h2 (pj_ine0 (pj_cf_eq (pj_tst ej2 (by omega)) rfl z)))
theorem pj_C33_172 {L d : Nat} {Q : Option pj_V → pj_M → Prop} {M : pj_M} {x3 x4 x5 : Int}  (h : pj_G L d 34 0 [pj_vR 26, pj_vI x5, pj_vU] [] M (fun r M1 => pj_G L (d + 1) 33 179 [pj_vR 26, pj_vU, pj_vU, pj_vU, pj_vI x4, pj_vU] (r.toList ++ [pj_vI x3]) M1 Q)) : pj_G L (d + 1) 33 172 [pj_vR 26, pj_vU, pj_vU, pj_vI x3, pj_vI x4, pj_vI x5] [] M Q := by
  refine pj_G_s (d := d + 1) pj_np33 3 (show pj_gs 3 L 33 172 [pj_vR 26, pj_vU, pj_vU, pj_vI x3, pj_vI x4, pj_vI x5] [] M = some ([], 176, [pj_vR 26, pj_vU, pj_vU, pj_vI x3, pj_vI x4, pj_vI x5], [pj_vI x5, pj_vR 26, pj_vI x3], M) from rfl) trivial ?_
  exact pj_G_k (j := 34) (vs := [pj_vR 26, pj_vI x5]) (st := [pj_vI x3]) rfl rfl rfl rfl rfl (Nat.le_of_ble_eq_true rfl) pj_nc34 (pj_G.mono h (fun _ _ hh => pj_G_loc (pj_lle_e (pj_lle_e (pj_lle_e (pj_lle_u rfl (pj_lle_e (pj_lle_u rfl pj_lle_nil)))))) hh))
theorem pj_C33_179 {L d : Nat} {Q : Option pj_V → pj_M → Prop} {M : pj_M} {x4 s0 s1 : Int}  (h : pj_G L d 33 181 [pj_vR 26, pj_vU, pj_vU, pj_vI (pj_or s0 s1), pj_vI x4, pj_vU] [] M Q) : pj_G L d 33 179 [pj_vR 26, pj_vU, pj_vU, pj_vU, pj_vI x4, pj_vU] [pj_vI s1, pj_vI s0] M Q := by
  refine pj_G_s pj_np33 2 (show pj_gs 2 L 33 179 [pj_vR 26, pj_vU, pj_vU, pj_vU, pj_vI x4, pj_vU] [pj_vI s1, pj_vI s0] M = some ([], 181, [pj_vR 26, pj_vU, pj_vU, pj_vI (pj_or s0 s1), pj_vI x4, pj_vU], [], M) from rfl) trivial ?_
  exact h
theorem pj_C33_181 {L d : Nat} {Q : Option pj_V → pj_M → Prop} {M : pj_M} {x3 x4 : Int}  (h : pj_G L d 33 138 [pj_vR 26, pj_vU, pj_vU, pj_vI x3, pj_vI (x4 + ((-1))), pj_vU] [] M Q) : pj_G L d 33 181 [pj_vR 26, pj_vU, pj_vU, pj_vI x3, pj_vI x4, pj_vU] [] M Q := by
  refine pj_G_s pj_np33 2 (show pj_gs 2 L 33 181 [pj_vR 26, pj_vU, pj_vU, pj_vI x3, pj_vI x4, pj_vU] [] M = some ([], 138, [pj_vR 26, pj_vU, pj_vU, pj_vI x3, pj_vI (x4 + ((-1))), pj_vU], [], M) from rfl) trivial ?_
  exact h
theorem pj_C33_187 {L d : Nat} {Q : Option pj_V → pj_M → Prop} {M : pj_M} {x3 : Int}  (h : Q (some (pj_vI x3)) M) : pj_G L d 33 187 [pj_vU, pj_vU, pj_vU, pj_vI x3, pj_vU, pj_vU] [] M Q := by
  refine pj_G_s pj_np33 1 (show pj_gs 1 L 33 187 [pj_vU, pj_vU, pj_vU, pj_vI x3, pj_vU, pj_vU] [] M = some ([], 188, [pj_vU, pj_vU, pj_vU, pj_vI x3, pj_vU, pj_vU], [pj_vI x3], M) from rfl) trivial ?_
  exact pj_G_r rfl rfl rfl h
theorem pj_C34_0 {L d : Nat} {Q : Option pj_V → pj_M → Prop} {M : pj_M} {x1 : Int} (j0 : Nat) (ej0 : x1 = (j0 : Int)) (bj0 : j0 < 7) (r0 : -2147483648 ≤ M 11 j0 ∧ M 11 j0 < 2147483648) (h1 : M 11 j0 ≠ (-1 : Int) → pj_G L d 34 17 [pj_vR 26, pj_vI x1, pj_vU] [] M Q) (h2 : M 11 j0 = (-1 : Int) → pj_G L d 34 13 [pj_vR 26, pj_vI x1, pj_vU] [] M Q) : pj_G L d 34 0 [pj_vR 26, pj_vI x1, pj_vU] [] M Q := by
  have nj0 : pj_nrm x1 = (j0 : Int) := pj_nk ej0 (by omega)
  refine pj_G_s pj_np34 6 (show pj_gs 6 L 34 0 [pj_vR 26, pj_vI x1, pj_vU] [] M = some ([0 ≤ pj_nrm x1 ∧ pj_nrm x1 < (7 : Int)], 10, [pj_vR 26, pj_vI x1, pj_vU], [pj_vI ((-1)), pj_vI (M 11 (pj_nrm x1).toNat)], M) from rfl) ⟨by omega, trivial⟩ ?_
  simp only [nj0, Int.toNat_natCast]
  exact pj_G_if (t := 17) rfl rfl (fun z => h1 (pj_ct_ne (pj_nrm_id r0.1 r0.2) (pj_nrm_id (by omega) (by omega)) z)) (fun z => h2 (pj_cf_ne (pj_nrm_id r0.1 r0.2) (pj_nrm_id (by omega) (by omega)) z))
theorem pj_C34_13 {L d : Nat} {Q : Option pj_V → pj_M → Prop} {M : pj_M} {x1 : Int}  (h : pj_G L d 34 28 [pj_vR 26, pj_vI x1, pj_vU] [pj_vI 0] M Q) : pj_G L d 34 13 [pj_vR 26, pj_vI x1, pj_vU] [] M Q := by
  refine pj_G_s pj_np34 2 (show pj_gs 2 L 34 13 [pj_vR 26, pj_vI x1, pj_vU] [] M = some ([], 28, [pj_vR 26, pj_vI x1, pj_vU], [pj_vI 0], M) from rfl) trivial ?_
  exact h
theorem pj_C34_28 {L d : Nat} {Q : Option pj_V → pj_M → Prop} {M : pj_M} {x1 s0 : Int} (j0 : Nat) (ej0 : x1 = (j0 : Int)) (bj0 : j0 < 7) (r0 : -2147483648 ≤ M 12 j0 ∧ M 12 j0 < 2147483648) (h1 : M 12 j0 ≠ (-1 : Int) → pj_G L d 34 46 [pj_vR 26, pj_vI x1, pj_vI s0] [] M Q) (h2 : M 12 j0 = (-1 : Int) → pj_G L d 34 42 [pj_vU, pj_vU, pj_vI s0] [] M Q) : pj_G L d 34 28 [pj_vR 26, pj_vI x1, pj_vU] [pj_vI s0] M Q := by
  have nj0 : pj_nrm x1 = (j0 : Int) := pj_nk ej0 (by omega)
  refine pj_G_s pj_np34 7 (show pj_gs 7 L 34 28 [pj_vR 26, pj_vI x1, pj_vU] [pj_vI s0] M = some ([0 ≤ pj_nrm x1 ∧ pj_nrm x1 < (7 : Int)], 39, [pj_vR 26, pj_vI x1, pj_vI s0], [pj_vI ((-1)), pj_vI (M 12 (pj_nrm x1).toNat)], M) from rfl) ⟨by omega, trivial⟩ ?_
  simp only [nj0, Int.toNat_natCast]
  exact pj_G_if (t := 46) rfl rfl (fun z => h1 (pj_ct_ne (pj_nrm_id r0.1 r0.2) (pj_nrm_id (by omega) (by omega)) z)) (fun z => pj_G_loc (pj_lle_u rfl (pj_lle_u rfl (pj_lle_e pj_lle_nil))) (h2 (pj_cf_ne (pj_nrm_id r0.1 r0.2) (pj_nrm_id (by omega) (by omega)) z)))
theorem pj_C34_42 {L d : Nat} {Q : Option pj_V → pj_M → Prop} {M : pj_M} {x2 : Int}  (h : pj_G L d 34 59 [pj_vU, pj_vU, pj_vU] [pj_vI x2] M Q) : pj_G L d 34 42 [pj_vU, pj_vU, pj_vI x2] [] M Q := by
  refine pj_G_s pj_np34 2 (show pj_gs 2 L 34 42 [pj_vU, pj_vU, pj_vI x2] [] M = some ([], 59, [pj_vU, pj_vU, pj_vI x2], [pj_vI x2], M) from rfl) trivial ?_
  exact pj_G_loc (pj_lle_e (pj_lle_e (pj_lle_u rfl pj_lle_nil))) h
theorem pj_C34_59 {L d : Nat} {Q : Option pj_V → pj_M → Prop} {M : pj_M} {s0 : Int}  (h : Q (some (pj_vI s0)) M) : pj_G L d 34 59 [pj_vU, pj_vU, pj_vU] [pj_vI s0] M Q := by
  exact pj_G_r rfl rfl rfl h
theorem pj_C34_46 {L d : Nat} {Q : Option pj_V → pj_M → Prop} {M : pj_M} {x1 x2 : Int} (j0 : Nat) (ej0 : x1 = (j0 : Int)) (bj0 : j0 < 7) (h : pj_G L d 34 59 [pj_vU, pj_vU, pj_vU] [pj_vI (pj_or x2 (pj_shl 1 (M 12 j0)))] M Q) : pj_G L d 34 46 [pj_vR 26, pj_vI x1, pj_vI x2] [] M Q := by
  have nj0 : pj_nrm x1 = (j0 : Int) := pj_nk ej0 (by omega)
  refine pj_G_s pj_np34 9 (show pj_gs 9 L 34 46 [pj_vR 26, pj_vI x1, pj_vI x2] [] M = some ([0 ≤ pj_nrm x1 ∧ pj_nrm x1 < (7 : Int)], 59, [pj_vR 26, pj_vI x1, pj_vI x2], [pj_vI (pj_or x2 (pj_shl 1 (M 12 (pj_nrm x1).toNat)))], M) from rfl) ⟨by omega, trivial⟩ ?_
  simp only [nj0, Int.toNat_natCast]
  exact pj_G_loc (pj_lle_u rfl (pj_lle_u rfl (pj_lle_u rfl pj_lle_nil))) h
theorem pj_C34_17 {L d : Nat} {Q : Option pj_V → pj_M → Prop} {M : pj_M} {x1 : Int} (j0 : Nat) (ej0 : x1 = (j0 : Int)) (bj0 : j0 < 7) (h : pj_G L d 34 28 [pj_vR 26, pj_vI x1, pj_vU] [pj_vI (pj_shl 1 (M 11 j0))] M Q) : pj_G L d 34 17 [pj_vR 26, pj_vI x1, pj_vU] [] M Q := by
  have nj0 : pj_nrm x1 = (j0 : Int) := pj_nk ej0 (by omega)
  refine pj_G_s pj_np34 7 (show pj_gs 7 L 34 17 [pj_vR 26, pj_vI x1, pj_vU] [] M = some ([0 ≤ pj_nrm x1 ∧ pj_nrm x1 < (7 : Int)], 28, [pj_vR 26, pj_vI x1, pj_vU], [pj_vI (pj_shl 1 (M 11 (pj_nrm x1).toNat))], M) from rfl) ⟨by omega, trivial⟩ ?_
  simp only [nj0, Int.toNat_natCast]
  exact h
theorem pj_C35_0 {L d : Nat} {Q : Option pj_V → pj_M → Prop} {M : pj_M} {x1 x2 : Int} (w1 : x2 = 0 ∨ x2 = 1) (r0 : -2147483648 ≤ x2 ∧ x2 < 2147483648) (h1 : x2 = 0 → pj_G L d 35 17 [pj_vR 26, pj_vI x1, pj_vI x2, pj_vU, pj_vU] [pj_vR 26] (pj_up M 26 11 x2) Q) (h2 : x2 ≠ 0 → pj_G L d 35 10 [pj_vR 26, pj_vI x1, pj_vI x2, pj_vU, pj_vU] [pj_vR 26] (pj_up M 26 11 x2) Q) : pj_G L d 35 0 [pj_vR 26, pj_vI x1, pj_vI x2, pj_vU, pj_vU] [] M Q := by
  refine pj_G_s pj_np35 5 (show pj_gs 5 L 35 0 [pj_vR 26, pj_vI x1, pj_vI x2, pj_vU, pj_vU] [] M = some ([x2 = 0 ∨ x2 = 1], 7, [pj_vR 26, pj_vI x1, pj_vI x2, pj_vU, pj_vU], [pj_vI x2, pj_vR 26], pj_up M 26 11 x2) from rfl) ⟨by omega, trivial⟩ ?_
  exact pj_G_if0 (t := 17) rfl rfl (fun z => h1 (pj_ct_eq (pj_nrm_id r0.1 r0.2) rfl z)) (fun z => h2 (pj_cf_eq (pj_nrm_id r0.1 r0.2) rfl z))
theorem pj_C35_10 {L d : Nat} {Q : Option pj_V → pj_M → Prop} {M : pj_M} {x1 x2 : Int}  (h : pj_G L d 35 21 [pj_vR 26, pj_vI x1, pj_vI x2, pj_vU, pj_vU] [pj_vR 28, pj_vR 26] M Q) : pj_G L d 35 10 [pj_vR 26, pj_vI x1, pj_vI x2, pj_vU, pj_vU] [pj_vR 26] M Q := by
  refine pj_G_s pj_np35 3 (show pj_gs 3 L 35 10 [pj_vR 26, pj_vI x1, pj_vI x2, pj_vU, pj_vU] [pj_vR 26] M = some ([], 21, [pj_vR 26, pj_vI x1, pj_vI x2, pj_vU, pj_vU], [pj_vR 28, pj_vR 26], M) from rfl) trivial ?_
  exact h
theorem pj_C35_21 {L d : Nat} {Q : Option pj_V → pj_M → Prop} {M : pj_M} {x1 x2 : Int} (r0 : -2147483648 ≤ x2 ∧ x2 < 2147483648) (h1 : x2 = 0 → pj_G L d 35 32 [pj_vR 26, pj_vI x1, pj_vU, pj_vU, pj_vU] [] (pj_up M 26 6 28) Q) (h2 : x2 ≠ 0 → pj_G L d 35 28 [pj_vR 26, pj_vI x1, pj_vU, pj_vU, pj_vU] [] (pj_up M 26 6 28) Q) : pj_G L d 35 21 [pj_vR 26, pj_vI x1, pj_vI x2, pj_vU, pj_vU] [pj_vR 28, pj_vR 26] M Q := by
  refine pj_G_s pj_np35 2 (show pj_gs 2 L 35 21 [pj_vR 26, pj_vI x1, pj_vI x2, pj_vU, pj_vU] [pj_vR 28, pj_vR 26] M = some ([], 25, [pj_vR 26, pj_vI x1, pj_vI x2, pj_vU, pj_vU], [pj_vI x2], pj_up M 26 6 28) from rfl) trivial ?_
  exact pj_G_if0 (t := 32) rfl rfl (fun z => pj_G_loc (pj_lle_e (pj_lle_e (pj_lle_u rfl (pj_lle_e (pj_lle_e pj_lle_nil))))) (h1 (pj_ct_eq (pj_nrm_id r0.1 r0.2) rfl z))) (fun z => pj_G_loc (pj_lle_e (pj_lle_e (pj_lle_u rfl (pj_lle_e (pj_lle_e pj_lle_nil))))) (h2 (pj_cf_eq (pj_nrm_id r0.1 r0.2) rfl z)))
theorem pj_C35_28 {L d : Nat} {Q : Option pj_V → pj_M → Prop} {M : pj_M} {x1 : Int}  (h : pj_G L d 35 38 [pj_vR 26, pj_vU, pj_vU, pj_vU, pj_vU] [pj_vI x1] M Q) : pj_G L d 35 28 [pj_vR 26, pj_vI x1, pj_vU, pj_vU, pj_vU] [] M Q := by
  refine pj_G_s pj_np35 2 (show pj_gs 2 L 35 28 [pj_vR 26, pj_vI x1, pj_vU, pj_vU, pj_vU] [] M = some ([], 38, [pj_vR 26, pj_vI x1, pj_vU, pj_vU, pj_vU], [pj_vI x1], M) from rfl) trivial ?_
  exact pj_G_loc (pj_lle_e (pj_lle_u rfl (pj_lle_e (pj_lle_e (pj_lle_e pj_lle_nil))))) h
theorem pj_C35_38 {L d : Nat} {Q : Option pj_V → pj_M → Prop} {M : pj_M} {s0 : Int}  (h : pj_G L d 35 47 [pj_vR 26, pj_vU, pj_vU, pj_vI s0, pj_vI 0] [] (pj_up M 26 9 0) Q) : pj_G L d 35 38 [pj_vR 26, pj_vU, pj_vU, pj_vU, pj_vU] [pj_vI s0] M Q := by
  refine pj_G_s pj_np35 6 (show pj_gs 6 L 35 38 [pj_vR 26, pj_vU, pj_vU, pj_vU, pj_vU] [pj_vI s0] M = some ([], 47, [pj_vR 26, pj_vU, pj_vU, pj_vI s0, pj_vI 0], [], pj_up M 26 9 0) from rfl) trivial ?_
  exact h
theorem pj_C35_47 {L d : Nat} {Q : Option pj_V → pj_M → Prop} {M : pj_M} {x3 x4 : Int} (r0 : -2147483648 ≤ x4 ∧ x4 < 2147483648) (r1 : -2147483648 ≤ M 7 0 ∧ M 7 0 < 2147483648) (h1 : M 7 0 ≤ x4 → pj_G L d 35 125 [pj_vU, pj_vU, pj_vU, pj_vU, pj_vU] [] M Q) (h2 : x4 < M 7 0 → pj_G L d 35 59 [pj_vR 26, pj_vU, pj_vU, pj_vI x3, pj_vI x4] [] M Q) : pj_G L d 35 47 [pj_vR 26, pj_vU, pj_vU, pj_vI x3, pj_vI x4] [] M Q := by
  refine pj_G_s pj_np35 4 (show pj_gs 4 L 35 47 [pj_vR 26, pj_vU, pj_vU, pj_vI x3, pj_vI x4] [] M = some ([], 56, [pj_vR 26, pj_vU, pj_vU, pj_vI x3, pj_vI x4], [pj_vI (M 7 0), pj_vI x4], M) from rfl) trivial ?_
  exact pj_G_if (t := 125) rfl rfl (fun z => pj_G_loc (pj_lle_u rfl (pj_lle_e (pj_lle_e (pj_lle_u rfl (pj_lle_u rfl pj_lle_nil))))) (h1 (pj_ct_ge (pj_nrm_id r0.1 r0.2) (pj_nrm_id r1.1 r1.2) z))) (fun z => h2 (pj_cf_ge (pj_nrm_id r0.1 r0.2) (pj_nrm_id r1.1 r1.2) z))
theorem pj_C35_59 {L d : Nat} {Q : Option pj_V → pj_M → Prop} {M : pj_M} {x3 x4 : Int} (j0 : Nat) (ej0 : x4 = (j0 : Int)) (bj0 : j0 < 7) (h1 : pj_bt x3 j0 = false → pj_G L d 35 119 [pj_vR 26, pj_vU, pj_vU, pj_vI x3, pj_vI x4] [] (pj_up M 32 j0 0) Q) (h2 : pj_bt x3 j0 = true → pj_G L d 35 79 [pj_vR 26, pj_vU, pj_vU, pj_vI x3, pj_vI x4] [] (pj_up M 32 j0 0) Q) : pj_G L d 35 59 [pj_vR 26, pj_vU, pj_vU, pj_vI x3, pj_vI x4] [] M Q := by
  have nj0 : pj_nrm x4 = (j0 : Int) := pj_nk ej0 (by omega)
  refine pj_G_s pj_np35 11 (show pj_gs 11 L 35 59 [pj_vR 26, pj_vU, pj_vU, pj_vI x3, pj_vI x4] [] M = some ([0 ≤ pj_nrm x4 ∧ pj_nrm x4 < (7 : Int)], 76, [pj_vR 26, pj_vU, pj_vU, pj_vI x3, pj_vI x4], [pj_vI (pj_and (pj_shr x3 x4) 1)], pj_up M 32 (pj_nrm x4).toNat 0) from rfl) ⟨by omega, trivial⟩ ?_
  simp only [nj0, Int.toNat_natCast]
  exact pj_G_if0 (t := 119) rfl rfl (fun z => h1 (pj_ieq0 (pj_ct_eq (pj_tst ej0 (by omega)) rfl z))) (fun z => h2 (pj_ine0 (pj_cf_eq (pj_tst ej0 (by omega)) rfl z)))
theorem pj_C35_79 {L d : Nat} {Q : Option pj_V → pj_M → Prop} {M : pj_M} {x3 x4 : Int}  (h : pj_G L d 27 0 [pj_vR 7, pj_vI x4] [] M (fun r M1 => pj_G L (d + 1) 35 88 [pj_vR 26, pj_vU, pj_vU, pj_vI x3, pj_vI x4] (r.toList ++ []) M1 Q)) : pj_G L (d + 1) 35 79 [pj_vR 26, pj_vU, pj_vU, pj_vI x3, pj_vI x4] [] M Q := by
  refine pj_G_s (d := d + 1) pj_np35 3 (show pj_gs 3 L 35 79 [pj_vR 26, pj_vU, pj_vU, pj_vI x3, pj_vI x4] [] M = some ([], 85, [pj_vR 26, pj_vU, pj_vU, pj_vI x3, pj_vI x4], [pj_vI x4, pj_vR 7], M) from rfl) trivial ?_
  exact pj_G_k (j := 27) (vs := [pj_vR 7, pj_vI x4]) (st := []) rfl rfl rfl rfl rfl (Nat.le_of_ble_eq_true rfl) pj_nc27 h
theorem pj_C35_88 {L d : Nat} {Q : Option pj_V → pj_M → Prop} {M : pj_M} {x3 x4 s0 : Int} (r0 : -2147483648 ≤ s0 ∧ s0 < 2147483648) (h1 : s0 = 0 → pj_G L d 35 107 [pj_vR 26, pj_vU, pj_vU, pj_vI x3, pj_vI x4] [] M Q) (h2 : s0 ≠ 0 → pj_G L d 35 91 [pj_vR 26, pj_vU, pj_vU, pj_vI x3, pj_vI x4] [] M Q) : pj_G L d 35 88 [pj_vR 26, pj_vU, pj_vU, pj_vI x3, pj_vI x4] [pj_vI s0] M Q := by
  exact pj_G_if0 (t := 107) rfl rfl (fun z => h1 (pj_ct_eq (pj_nrm_id r0.1 r0.2) rfl z)) (fun z => h2 (pj_cf_eq (pj_nrm_id r0.1 r0.2) rfl z))
theorem pj_C35_91 {L d : Nat} {Q : Option pj_V → pj_M → Prop} {M : pj_M} {x3 x4 : Int}  (h : pj_G L d 35 119 [pj_vR 26, pj_vU, pj_vU, pj_vI x3, pj_vI x4] [] (pj_up M 26 9 (pj_or (M 26 9) (pj_shl 1 x4))) Q) : pj_G L d 35 91 [pj_vR 26, pj_vU, pj_vU, pj_vI x3, pj_vI x4] [] M Q := by
  refine pj_G_s pj_np35 9 (show pj_gs 9 L 35 91 [pj_vR 26, pj_vU, pj_vU, pj_vI x3, pj_vI x4] [] M = some ([], 119, [pj_vR 26, pj_vU, pj_vU, pj_vI x3, pj_vI x4], [], pj_up M 26 9 (pj_or (M 26 9) (pj_shl 1 x4))) from rfl) trivial ?_
  exact h
theorem pj_C35_119 {L d : Nat} {Q : Option pj_V → pj_M → Prop} {M : pj_M} {x3 x4 : Int}  (h : pj_G L d 35 47 [pj_vR 26, pj_vU, pj_vU, pj_vI x3, pj_vI (x4 + 1)] [] M Q) : pj_G L d 35 119 [pj_vR 26, pj_vU, pj_vU, pj_vI x3, pj_vI x4] [] M Q := by
  refine pj_G_s pj_np35 2 (show pj_gs 2 L 35 119 [pj_vR 26, pj_vU, pj_vU, pj_vI x3, pj_vI x4] [] M = some ([], 47, [pj_vR 26, pj_vU, pj_vU, pj_vI x3, pj_vI (x4 + 1)], [], M) from rfl) trivial ?_
  exact h
theorem pj_C35_107 {L d : Nat} {Q : Option pj_V → pj_M → Prop} {M : pj_M} {x3 x4 : Int} (j0 : Nat) (ej0 : x4 = (j0 : Int)) (bj0 : j0 < 7) (h : pj_G L d 35 119 [pj_vR 26, pj_vU, pj_vU, pj_vI x3, pj_vI x4] [] (pj_up M 32 j0 16) Q) : pj_G L d 35 107 [pj_vR 26, pj_vU, pj_vU, pj_vI x3, pj_vI x4] [] M Q := by
  have nj0 : pj_nrm x4 = (j0 : Int) := pj_nk ej0 (by omega)
  refine pj_G_s pj_np35 6 (show pj_gs 6 L 35 107 [pj_vR 26, pj_vU, pj_vU, pj_vI x3, pj_vI x4] [] M = some ([0 ≤ pj_nrm x4 ∧ pj_nrm x4 < (7 : Int)], 119, [pj_vR 26, pj_vU, pj_vU, pj_vI x3, pj_vI x4], [], pj_up M 32 (pj_nrm x4).toNat 16) from rfl) ⟨by omega, trivial⟩ ?_
  simp only [nj0, Int.toNat_natCast]
  exact h
theorem pj_C35_125 {L d : Nat} {Q : Option pj_V → pj_M → Prop} {M : pj_M}  (h : Q (none) M) : pj_G L d 35 125 [pj_vU, pj_vU, pj_vU, pj_vU, pj_vU] [] M Q := by
  exact pj_G_r rfl rfl rfl h
theorem pj_C35_32 {L d : Nat} {Q : Option pj_V → pj_M → Prop} {M : pj_M} {x1 : Int}  (h : pj_G L d 35 38 [pj_vR 26, pj_vU, pj_vU, pj_vU, pj_vU] [pj_vI (pj_and x1 (M 26 10))] M Q) : pj_G L d 35 32 [pj_vR 26, pj_vI x1, pj_vU, pj_vU, pj_vU] [] M Q := by
  refine pj_G_s pj_np35 4 (show pj_gs 4 L 35 32 [pj_vR 26, pj_vI x1, pj_vU, pj_vU, pj_vU] [] M = some ([], 38, [pj_vR 26, pj_vI x1, pj_vU, pj_vU, pj_vU], [pj_vI (pj_and x1 (M 26 10))], M) from rfl) trivial ?_
  exact pj_G_loc (pj_lle_e (pj_lle_u rfl (pj_lle_e (pj_lle_e (pj_lle_e pj_lle_nil))))) h
theorem pj_C35_17 {L d : Nat} {Q : Option pj_V → pj_M → Prop} {M : pj_M} {x1 x2 : Int}  (h : pj_G L d 35 21 [pj_vR 26, pj_vI x1, pj_vI x2, pj_vU, pj_vU] [pj_vR 27, pj_vR 26] M Q) : pj_G L d 35 17 [pj_vR 26, pj_vI x1, pj_vI x2, pj_vU, pj_vU] [pj_vR 26] M Q := by
  refine pj_G_s pj_np35 2 (show pj_gs 2 L 35 17 [pj_vR 26, pj_vI x1, pj_vI x2, pj_vU, pj_vU] [pj_vR 26] M = some ([], 21, [pj_vR 26, pj_vI x1, pj_vI x2, pj_vU, pj_vU], [pj_vR 27, pj_vR 26], M) from rfl) trivial ?_
  exact h
theorem pj_C35_21v1 {L d : Nat} {Q : Option pj_V → pj_M → Prop} {M : pj_M} {x1 x2 : Int} (r0 : -2147483648 ≤ x2 ∧ x2 < 2147483648) (h1 : x2 = 0 → pj_G L d 35 32 [pj_vR 26, pj_vI x1, pj_vU, pj_vU, pj_vU] [] (pj_up M 26 6 27) Q) (h2 : x2 ≠ 0 → pj_G L d 35 28 [pj_vR 26, pj_vI x1, pj_vU, pj_vU, pj_vU] [] (pj_up M 26 6 27) Q) : pj_G L d 35 21 [pj_vR 26, pj_vI x1, pj_vI x2, pj_vU, pj_vU] [pj_vR 27, pj_vR 26] M Q := by
  refine pj_G_s pj_np35 2 (show pj_gs 2 L 35 21 [pj_vR 26, pj_vI x1, pj_vI x2, pj_vU, pj_vU] [pj_vR 27, pj_vR 26] M = some ([], 25, [pj_vR 26, pj_vI x1, pj_vI x2, pj_vU, pj_vU], [pj_vI x2], pj_up M 26 6 27) from rfl) trivial ?_
  exact pj_G_if0 (t := 32) rfl rfl (fun z => pj_G_loc (pj_lle_e (pj_lle_e (pj_lle_u rfl (pj_lle_e (pj_lle_e pj_lle_nil))))) (h1 (pj_ct_eq (pj_nrm_id r0.1 r0.2) rfl z))) (fun z => pj_G_loc (pj_lle_e (pj_lle_e (pj_lle_u rfl (pj_lle_e (pj_lle_e pj_lle_nil))))) (h2 (pj_cf_eq (pj_nrm_id r0.1 r0.2) rfl z)))
theorem pj_C36_0 {L d : Nat} {Q : Option pj_V → pj_M → Prop} {M : pj_M} {x1 : Int}  (h : pj_G L d 36 20 [pj_vR 26, pj_vI x1, pj_vI 0] [] (pj_up (pj_up (pj_up M 26 11 0) 26 6 27) 26 9 0) Q) : pj_G L d 36 0 [pj_vR 26, pj_vI x1, pj_vU] [] M Q := by
  refine pj_G_s pj_np36 12 (show pj_gs 12 L 36 0 [pj_vR 26, pj_vI x1, pj_vU] [] M = some ([(0 : Int) = 0 ∨ (0 : Int) = 1], 20, [pj_vR 26, pj_vI x1, pj_vI 0], [], pj_up (pj_up (pj_up M 26 11 0) 26 6 27) 26 9 0) from rfl) ⟨by decide, trivial⟩ ?_
  exact h
theorem pj_C36_20 {L d : Nat} {Q : Option pj_V → pj_M → Prop} {M : pj_M} {x1 x2 : Int} (r0 : -2147483648 ≤ x2 ∧ x2 < 2147483648) (r1 : -2147483648 ≤ M 7 0 ∧ M 7 0 < 2147483648) (h1 : M 7 0 ≤ x2 → pj_G L d 36 68 [pj_vU, pj_vU, pj_vU] [] M Q) (h2 : x2 < M 7 0 → pj_G L d 36 31 [pj_vR 26, pj_vI x1, pj_vI x2] [] M Q) : pj_G L d 36 20 [pj_vR 26, pj_vI x1, pj_vI x2] [] M Q := by
  refine pj_G_s pj_np36 4 (show pj_gs 4 L 36 20 [pj_vR 26, pj_vI x1, pj_vI x2] [] M = some ([], 28, [pj_vR 26, pj_vI x1, pj_vI x2], [pj_vI (M 7 0), pj_vI x2], M) from rfl) trivial ?_
  exact pj_G_if (t := 68) rfl rfl (fun z => pj_G_loc (pj_lle_u rfl (pj_lle_u rfl (pj_lle_u rfl pj_lle_nil))) (h1 (pj_ct_ge (pj_nrm_id r0.1 r0.2) (pj_nrm_id r1.1 r1.2) z))) (fun z => h2 (pj_cf_ge (pj_nrm_id r0.1 r0.2) (pj_nrm_id r1.1 r1.2) z))
theorem pj_C36_31 {L d : Nat} {Q : Option pj_V → pj_M → Prop} {M : pj_M} {x1 x2 : Int} (j0 : Nat) (ej0 : x2 = (j0 : Int)) (bj0 : j0 < 32) (h1 : pj_bt (pj_or x1 (M 7 13)) j0 = false → pj_G L d 36 59 [pj_vR 26, pj_vI x1, pj_vI x2] [pj_vI x2, pj_vR 32] M Q) (h2 : pj_bt (pj_or x1 (M 7 13)) j0 = true → pj_G L d 36 55 [pj_vR 26, pj_vI x1, pj_vI x2] [pj_vI x2, pj_vR 32] M Q) : pj_G L d 36 31 [pj_vR 26, pj_vI x1, pj_vI x2] [] M Q := by
  have nj0 : pj_nrm x2 = (j0 : Int) := pj_nk ej0 (by omega)
  refine pj_G_s pj_np36 13 (show pj_gs 13 L 36 31 [pj_vR 26, pj_vI x1, pj_vI x2] [] M = some ([], 52, [pj_vR 26, pj_vI x1, pj_vI x2], [pj_vI (pj_and (pj_shr (pj_or x1 (M 7 13)) x2) 1), pj_vI x2, pj_vR 32], M) from rfl) trivial ?_
  exact pj_G_if0 (t := 59) rfl rfl (fun z => h1 (pj_ieq0 (pj_ct_eq (pj_tst ej0 (by omega)) rfl z))) (fun z => h2 (pj_ine0 (pj_cf_eq (pj_tst ej0 (by omega)) rfl z)))
theorem pj_C36_55 {L d : Nat} {Q : Option pj_V → pj_M → Prop} {M : pj_M} {x1 x2 s1 : Int}  (h : pj_G L d 36 61 [pj_vR 26, pj_vI x1, pj_vI x2] [pj_vI 0, pj_vI s1, pj_vR 32] M Q) : pj_G L d 36 55 [pj_vR 26, pj_vI x1, pj_vI x2] [pj_vI s1, pj_vR 32] M Q := by
  refine pj_G_s pj_np36 2 (show pj_gs 2 L 36 55 [pj_vR 26, pj_vI x1, pj_vI x2] [pj_vI s1, pj_vR 32] M = some ([], 61, [pj_vR 26, pj_vI x1, pj_vI x2], [pj_vI 0, pj_vI s1, pj_vR 32], M) from rfl) trivial ?_
  exact h
theorem pj_C36_61 {L d : Nat} {Q : Option pj_V → pj_M → Prop} {M : pj_M} {x1 x2 s1 s2 : Int} (j0 : Nat) (ej0 : s1 = (j0 : Int)) (bj0 : j0 < 7) (h : pj_G L d 36 20 [pj_vR 26, pj_vI x1, pj_vI (x2 + 1)] [] (pj_up M 32 j0 s2) Q) : pj_G L d 36 61 [pj_vR 26, pj_vI x1, pj_vI x2] [pj_vI s2, pj_vI s1, pj_vR 32] M Q := by
  have nj0 : pj_nrm s1 = (j0 : Int) := pj_nk ej0 (by omega)
  refine pj_G_s pj_np36 3 (show pj_gs 3 L 36 61 [pj_vR 26, pj_vI x1, pj_vI x2] [pj_vI s2, pj_vI s1, pj_vR 32] M = some ([0 ≤ pj_nrm s1 ∧ pj_nrm s1 < (7 : Int)], 20, [pj_vR 26, pj_vI x1, pj_vI (x2 + 1)], [], pj_up M 32 (pj_nrm s1).toNat s2) from rfl) ⟨by omega, trivial⟩ ?_
  simp only [nj0, Int.toNat_natCast]
  exact h
theorem pj_C36_59 {L d : Nat} {Q : Option pj_V → pj_M → Prop} {M : pj_M} {x1 x2 s1 : Int}  (h : pj_G L d 36 61 [pj_vR 26, pj_vI x1, pj_vI x2] [pj_vI 16, pj_vI s1, pj_vR 32] M Q) : pj_G L d 36 59 [pj_vR 26, pj_vI x1, pj_vI x2] [pj_vI s1, pj_vR 32] M Q := by
  refine pj_G_s pj_np36 1 (show pj_gs 1 L 36 59 [pj_vR 26, pj_vI x1, pj_vI x2] [pj_vI s1, pj_vR 32] M = some ([], 61, [pj_vR 26, pj_vI x1, pj_vI x2], [pj_vI 16, pj_vI s1, pj_vR 32], M) from rfl) trivial ?_
  exact h
theorem pj_C36_68 {L d : Nat} {Q : Option pj_V → pj_M → Prop} {M : pj_M}  (h : Q (none) M) : pj_G L d 36 68 [pj_vU, pj_vU, pj_vU] [] M Q := by
  exact pj_G_r rfl rfl rfl h
theorem pj_C37_0 {L d : Nat} {Q : Option pj_V → pj_M → Prop} {M : pj_M} {x1 : Int}  (h : pj_G L d 37 2 [pj_vR 26, pj_vU, pj_vI x1, pj_vU, pj_vU] [] M Q) : pj_G L d 37 0 [pj_vR 26, pj_vI x1, pj_vU, pj_vU, pj_vU] [] M Q := by
  refine pj_G_s pj_np37 2 (show pj_gs 2 L 37 0 [pj_vR 26, pj_vI x1, pj_vU, pj_vU, pj_vU] [] M = some ([], 2, [pj_vR 26, pj_vI x1, pj_vI x1, pj_vU, pj_vU], [], M) from rfl) trivial ?_
  exact pj_G_loc (pj_lle_e (pj_lle_u rfl (pj_lle_e (pj_lle_e (pj_lle_e pj_lle_nil))))) h
theorem pj_C37_2 {L d : Nat} {Q : Option pj_V → pj_M → Prop} {M : pj_M} {x2 : Int} (r0 : -2147483648 ≤ x2 ∧ x2 < 2147483648) (r1 : -2147483648 ≤ M 7 0 ∧ M 7 0 < 2147483648) (h1 : M 7 0 ≤ x2 → pj_G L d 37 38 [pj_vR 26, pj_vU, pj_vI x2, pj_vU, pj_vU] [] M Q) (h2 : x2 < M 7 0 → pj_G L d 37 13 [pj_vR 26, pj_vU, pj_vI x2, pj_vU, pj_vU] [] M Q) : pj_G L d 37 2 [pj_vR 26, pj_vU, pj_vI x2, pj_vU, pj_vU] [] M Q := by
  refine pj_G_s pj_np37 4 (show pj_gs 4 L 37 2 [pj_vR 26, pj_vU, pj_vI x2, pj_vU, pj_vU] [] M = some ([], 10, [pj_vR 26, pj_vU, pj_vI x2, pj_vU, pj_vU], [pj_vI (M 7 0), pj_vI x2], M) from rfl) trivial ?_
  exact pj_G_if (t := 38) rfl rfl (fun z => h1 (pj_ct_ge (pj_nrm_id r0.1 r0.2) (pj_nrm_id r1.1 r1.2) z)) (fun z => h2 (pj_cf_ge (pj_nrm_id r0.1 r0.2) (pj_nrm_id r1.1 r1.2) z))
theorem pj_C37_13 {L d : Nat} {Q : Option pj_V → pj_M → Prop} {M : pj_M} {x2 : Int} (j0 j1 : Nat) (ej0 : x2 = (j0 : Int)) (bj0 : j0 < 7) (ej1 : M 17 j0 = (j1 : Int)) (bj1 : j1 < 32) (h1 : pj_bt (M 26 9) j1 = true → pj_G L d 37 38 [pj_vR 26, pj_vU, pj_vI x2, pj_vU, pj_vU] [] M Q) (h2 : pj_bt (M 26 9) j1 = false → pj_G L d 37 32 [pj_vR 26, pj_vU, pj_vI x2, pj_vU, pj_vU] [] M Q) : pj_G L d 37 13 [pj_vR 26, pj_vU, pj_vI x2, pj_vU, pj_vU] [] M Q := by
  have nj0 : pj_nrm x2 = (j0 : Int) := pj_nk ej0 (by omega)
  have nj1 : pj_nrm (M 17 j0) = (j1 : Int) := pj_nk ej1 (by omega)
  refine pj_G_s pj_np37 10 (show pj_gs 10 L 37 13 [pj_vR 26, pj_vU, pj_vI x2, pj_vU, pj_vU] [] M = some ([0 ≤ pj_nrm x2 ∧ pj_nrm x2 < (7 : Int)], 29, [pj_vR 26, pj_vU, pj_vI x2, pj_vU, pj_vU], [pj_vI (pj_and (pj_shr (M 26 9) (M 17 (pj_nrm x2).toNat)) 1)], M) from rfl) ⟨by omega, trivial⟩ ?_
  simp only [nj0, nj1, Int.toNat_natCast]
  exact pj_G_if0 (t := 38) rfl rfl (fun z => h1 (pj_ine0 (pj_ct_ne (pj_tst ej1 (by omega)) rfl z))) (fun z => h2 (pj_ieq0 (pj_cf_ne (pj_tst ej1 (by omega)) rfl z)))
theorem pj_C37_32 {L d : Nat} {Q : Option pj_V → pj_M → Prop} {M : pj_M} {x2 : Int}  (h : pj_G L d 37 2 [pj_vR 26, pj_vU, pj_vI (x2 + 1), pj_vU, pj_vU] [] M Q) : pj_G L d 37 32 [pj_vR 26, pj_vU, pj_vI x2, pj_vU, pj_vU] [] M Q := by
  refine pj_G_s pj_np37 2 (show pj_gs 2 L 37 32 [pj_vR 26, pj_vU, pj_vI x2, pj_vU, pj_vU] [] M = some ([], 2, [pj_vR 26, pj_vU, pj_vI (x2 + 1), pj_vU, pj_vU], [], M) from rfl) trivial ?_
  exact h
theorem pj_C37_38 {L d : Nat} {Q : Option pj_V → pj_M → Prop} {M : pj_M} {x2 : Int} (r0 : -2147483648 ≤ M 26 12 ∧ M 26 12 < 2147483648) (h1 : M 26 12 = 0 → pj_G L d 37 53 [pj_vU, pj_vU, pj_vU, pj_vU, pj_vU] [] M Q) (h2 : M 26 12 ≠ 0 → pj_G L d 37 45 [pj_vR 26, pj_vU, pj_vI x2, pj_vU, pj_vU] [] M Q) : pj_G L d 37 38 [pj_vR 26, pj_vU, pj_vI x2, pj_vU, pj_vU] [] M Q := by
  refine pj_G_s pj_np37 2 (show pj_gs 2 L 37 38 [pj_vR 26, pj_vU, pj_vI x2, pj_vU, pj_vU] [] M = some ([], 42, [pj_vR 26, pj_vU, pj_vI x2, pj_vU, pj_vU], [pj_vI (M 26 12)], M) from rfl) trivial ?_
  exact pj_G_if0 (t := 53) rfl rfl (fun z => pj_G_loc (pj_lle_u rfl (pj_lle_e (pj_lle_u rfl (pj_lle_e (pj_lle_e pj_lle_nil))))) (h1 (pj_ct_eq (pj_nrm_id r0.1 r0.2) rfl z))) (fun z => h2 (pj_cf_eq (pj_nrm_id r0.1 r0.2) rfl z))
theorem pj_C37_45 {L d : Nat} {Q : Option pj_V → pj_M → Prop} {M : pj_M} {x2 : Int}  (h : pj_G L d 38 0 [pj_vR 26, pj_vI x2, pj_vU, pj_vU, pj_vU, pj_vU] [] M (fun r M1 => pj_G L (d + 1) 37 50 [pj_vR 26, pj_vU, pj_vI x2, pj_vU, pj_vU] (r.toList ++ []) M1 Q)) : pj_G L (d + 1) 37 45 [pj_vR 26, pj_vU, pj_vI x2, pj_vU, pj_vU] [] M Q := by
  refine pj_G_s (d := d + 1) pj_np37 2 (show pj_gs 2 L 37 45 [pj_vR 26, pj_vU, pj_vI x2, pj_vU, pj_vU] [] M = some ([], 47, [pj_vR 26, pj_vU, pj_vI x2, pj_vU, pj_vU], [pj_vI x2, pj_vR 26], M) from rfl) trivial ?_
  exact pj_G_k (j := 38) (vs := [pj_vR 26, pj_vI x2]) (st := []) rfl rfl rfl rfl rfl (Nat.le_of_ble_eq_true rfl) pj_nc38 h
theorem pj_C37_50 {L d : Nat} {Q : Option pj_V → pj_M → Prop} {M : pj_M} {x2 s0 : Int} (r0 : -2147483648 ≤ s0 ∧ s0 < 2147483648) (h1 : s0 ≠ 0 → pj_G L d 37 55 [pj_vR 26, pj_vU, pj_vI x2, pj_vU, pj_vU] [] M Q) (h2 : s0 = 0 → pj_G L d 37 53 [pj_vU, pj_vU, pj_vU, pj_vU, pj_vU] [] M Q) : pj_G L d 37 50 [pj_vR 26, pj_vU, pj_vI x2, pj_vU, pj_vU] [pj_vI s0] M Q := by
  exact pj_G_if0 (t := 55) rfl rfl (fun z => h1 (pj_ct_ne (pj_nrm_id r0.1 r0.2) rfl z)) (fun z => pj_G_loc (pj_lle_u rfl (pj_lle_e (pj_lle_u rfl (pj_lle_e (pj_lle_e pj_lle_nil))))) (h2 (pj_cf_ne (pj_nrm_id r0.1 r0.2) rfl z)))
theorem pj_C37_53 {L d : Nat} {Q : Option pj_V → pj_M → Prop} {M : pj_M}  (h : Q (some (pj_vI 0)) M) : pj_G L d 37 53 [pj_vU, pj_vU, pj_vU, pj_vU, pj_vU] [] M Q := by
  refine pj_G_s pj_np37 1 (show pj_gs 1 L 37 53 [pj_vU, pj_vU, pj_vU, pj_vU, pj_vU] [] M = some ([], 54, [pj_vU, pj_vU, pj_vU, pj_vU, pj_vU], [pj_vI 0], M) from rfl) trivial ?_
  exact pj_G_r rfl rfl rfl h
theorem pj_C37_55 {L d : Nat} {Q : Option pj_V → pj_M → Prop} {M : pj_M} {x2 : Int} (r0 : -2147483648 ≤ x2 ∧ x2 < 2147483648) (r1 : -2147483648 ≤ M 7 0 ∧ M 7 0 < 2147483648) (h1 : x2 < M 7 0 → pj_G L d 37 90 [pj_vR 26, pj_vU, pj_vI x2, pj_vU, pj_vU] [] M Q) (h2 : M 7 0 ≤ x2 → pj_G L d 37 66 [pj_vR 26, pj_vU, pj_vU, pj_vU, pj_vU] [] M Q) : pj_G L d 37 55 [pj_vR 26, pj_vU, pj_vI x2, pj_vU, pj_vU] [] M Q := by
  refine pj_G_s pj_np37 4 (show pj_gs 4 L 37 55 [pj_vR 26, pj_vU, pj_vI x2, pj_vU, pj_vU] [] M = some ([], 63, [pj_vR 26, pj_vU, pj_vI x2, pj_vU, pj_vU], [pj_vI (M 7 0), pj_vI x2], M) from rfl) trivial ?_
  exact pj_G_if (t := 90) rfl rfl (fun z => h1 (pj_ct_lt (pj_nrm_id r0.1 r0.2) (pj_nrm_id r1.1 r1.2) z)) (fun z => pj_G_loc (pj_lle_e (pj_lle_e (pj_lle_u rfl (pj_lle_e (pj_lle_e pj_lle_nil))))) (h2 (pj_cf_lt (pj_nrm_id r0.1 r0.2) (pj_nrm_id r1.1 r1.2) z)))
theorem pj_C37_66 {L d : Nat} {Q : Option pj_V → pj_M → Prop} {M : pj_M} (r0 : -2147483648 ≤ M 26 11 ∧ M 26 11 < 2147483648) (h1 : M 26 11 = 0 → pj_G L d 37 77 [pj_vR 26, pj_vU, pj_vU, pj_vU, pj_vU] [] M Q) (h2 : M 26 11 ≠ 0 → pj_G L d 37 73 [pj_vR 26, pj_vU, pj_vU, pj_vU, pj_vU] [] M Q) : pj_G L d 37 66 [pj_vR 26, pj_vU, pj_vU, pj_vU, pj_vU] [] M Q := by
  refine pj_G_s pj_np37 2 (show pj_gs 2 L 37 66 [pj_vR 26, pj_vU, pj_vU, pj_vU, pj_vU] [] M = some ([], 70, [pj_vR 26, pj_vU, pj_vU, pj_vU, pj_vU], [pj_vI (M 26 11)], M) from rfl) trivial ?_
  exact pj_G_if0 (t := 77) rfl rfl (fun z => h1 (pj_ct_eq (pj_nrm_id r0.1 r0.2) rfl z)) (fun z => h2 (pj_cf_eq (pj_nrm_id r0.1 r0.2) rfl z))
theorem pj_C37_73 {L d : Nat} {Q : Option pj_V → pj_M → Prop} {M : pj_M}  (h : pj_G L d 40 0 [pj_vR 26, pj_vU, pj_vU] [] M (fun r M1 => pj_G L (d + 1) 37 77 [pj_vR 26, pj_vU, pj_vU, pj_vU, pj_vU] (r.toList ++ []) M1 Q)) : pj_G L (d + 1) 37 73 [pj_vR 26, pj_vU, pj_vU, pj_vU, pj_vU] [] M Q := by
  refine pj_G_s (d := d + 1) pj_np37 1 (show pj_gs 1 L 37 73 [pj_vR 26, pj_vU, pj_vU, pj_vU, pj_vU] [] M = some ([], 74, [pj_vR 26, pj_vU, pj_vU, pj_vU, pj_vU], [pj_vR 26], M) from rfl) trivial ?_
  exact pj_G_k (j := 40) (vs := [pj_vR 26]) (st := []) rfl rfl rfl rfl rfl (Nat.le_of_ble_eq_true rfl) pj_nc40 h
theorem pj_C37_77 {L d : Nat} {Q : Option pj_V → pj_M → Prop} {M : pj_M} (r0 : -2147483648 ≤ M 26 11 ∧ M 26 11 < 2147483648) (h1 : M 26 11 ≠ 0 → pj_G L d 37 88 [pj_vU, pj_vU, pj_vU, pj_vU, pj_vU] [] M Q) (h2 : M 26 11 = 0 → pj_G L d 37 84 [pj_vU, pj_vU, pj_vU, pj_vU, pj_vU] [] M Q) : pj_G L d 37 77 [pj_vR 26, pj_vU, pj_vU, pj_vU, pj_vU] [] M Q := by
  refine pj_G_s pj_np37 2 (show pj_gs 2 L 37 77 [pj_vR 26, pj_vU, pj_vU, pj_vU, pj_vU] [] M = some ([], 81, [pj_vR 26, pj_vU, pj_vU, pj_vU, pj_vU], [pj_vI (M 26 11)], M) from rfl) trivial ?_
  exact pj_G_if0 (t := 88) rfl rfl (fun z => pj_G_loc (pj_lle_u rfl (pj_lle_e (pj_lle_e (pj_lle_e (pj_lle_e pj_lle_nil))))) (h1 (pj_ct_ne (pj_nrm_id r0.1 r0.2) rfl z))) (fun z => pj_G_loc (pj_lle_u rfl (pj_lle_e (pj_lle_e (pj_lle_e (pj_lle_e pj_lle_nil))))) (h2 (pj_cf_ne (pj_nrm_id r0.1 r0.2) rfl z)))
theorem pj_C37_84 {L d : Nat} {Q : Option pj_V → pj_M → Prop} {M : pj_M}  (h : pj_G L d 37 89 [pj_vU, pj_vU, pj_vU, pj_vU, pj_vU] [pj_vI 1] M Q) : pj_G L d 37 84 [pj_vU, pj_vU, pj_vU, pj_vU, pj_vU] [] M Q := by
  refine pj_G_s pj_np37 2 (show pj_gs 2 L 37 84 [pj_vU, pj_vU, pj_vU, pj_vU, pj_vU] [] M = some ([], 89, [pj_vU, pj_vU, pj_vU, pj_vU, pj_vU], [pj_vI 1], M) from rfl) trivial ?_
  exact h
theorem pj_C37_89 {L d : Nat} {Q : Option pj_V → pj_M → Prop} {M : pj_M} {s0 : Int}  (cb : s0 = 0 ∨ s0 = 1) (h : Q (some (pj_vI s0)) M) : pj_G L d 37 89 [pj_vU, pj_vU, pj_vU, pj_vU, pj_vU] [pj_vI s0] M Q := by
  exact pj_G_r rfl rfl (if_pos (Or.inr cb)) h
theorem pj_C37_88 {L d : Nat} {Q : Option pj_V → pj_M → Prop} {M : pj_M}  (h : pj_G L d 37 89 [pj_vU, pj_vU, pj_vU, pj_vU, pj_vU] [pj_vI 0] M Q) : pj_G L d 37 88 [pj_vU, pj_vU, pj_vU, pj_vU, pj_vU] [] M Q := by
  refine pj_G_s pj_np37 1 (show pj_gs 1 L 37 88 [pj_vU, pj_vU, pj_vU, pj_vU, pj_vU] [] M = some ([], 89, [pj_vU, pj_vU, pj_vU, pj_vU, pj_vU], [pj_vI 0], M) from rfl) trivial ?_
  exact h
theorem pj_C37_90 {L d : Nat} {Q : Option pj_V → pj_M → Prop} {M : pj_M} {x2 : Int} (j0 : Nat) (ej0 : x2 = (j0 : Int)) (bj0 : j0 < 7) (h : pj_G L d 37 103 [pj_vR 26, pj_vU, pj_vI x2, pj_vI (M 17 j0), pj_vI 1] [] M Q) : pj_G L d 37 90 [pj_vR 26, pj_vU, pj_vI x2, pj_vU, pj_vU] [] M Q := by
  have nj0 : pj_nrm x2 = (j0 : Int) := pj_nk ej0 (by omega)
  refine pj_G_s pj_np37 8 (show pj_gs 8 L 37 90 [pj_vR 26, pj_vU, pj_vI x2, pj_vU, pj_vU] [] M = some ([0 ≤ pj_nrm x2 ∧ pj_nrm x2 < (7 : Int)], 103, [pj_vR 26, pj_vU, pj_vI x2, pj_vI (M 17 (pj_nrm x2).toNat), pj_vI 1], [], M) from rfl) ⟨by omega, trivial⟩ ?_
  simp only [nj0, Int.toNat_natCast]
  exact h
theorem pj_C37_103 {L d : Nat} {Q : Option pj_V → pj_M → Prop} {M : pj_M} {x2 x3 x4 : Int} (r0 : -2147483648 ≤ x4 ∧ x4 < 2147483648) (h1 : (8 : Int) < x4 → pj_G L d 37 157 [pj_vU, pj_vU, pj_vU, pj_vU, pj_vU] [] M Q) (h2 : x4 ≤ (8 : Int) → pj_G L d 37 110 [pj_vR 26, pj_vU, pj_vI x2, pj_vI x3, pj_vI x4] [] M Q) : pj_G L d 37 103 [pj_vR 26, pj_vU, pj_vI x2, pj_vI x3, pj_vI x4] [] M Q := by
  refine pj_G_s pj_np37 2 (show pj_gs 2 L 37 103 [pj_vR 26, pj_vU, pj_vI x2, pj_vI x3, pj_vI x4] [] M = some ([], 107, [pj_vR 26, pj_vU, pj_vI x2, pj_vI x3, pj_vI x4], [pj_vI 8, pj_vI x4], M) from rfl) trivial ?_
  exact pj_G_if (t := 157) rfl rfl (fun z => pj_G_loc (pj_lle_u rfl (pj_lle_e (pj_lle_u rfl (pj_lle_u rfl (pj_lle_u rfl pj_lle_nil))))) (h1 (pj_ct_gt (pj_nrm_id r0.1 r0.2) (pj_nrm_id (by omega) (by omega)) z))) (fun z => h2 (pj_cf_gt (pj_nrm_id r0.1 r0.2) (pj_nrm_id (by omega) (by omega)) z))
theorem pj_C37_110 {L d : Nat} {Q : Option pj_V → pj_M → Prop} {M : pj_M} {x2 x3 x4 : Int} (j0 : Nat) (ej0 : x3 = (j0 : Int)) (bj0 : j0 < 7) (h1 : pj_and (M 13 j0) x4 = 0 → pj_G L d 37 148 [pj_vR 26, pj_vU, pj_vI x2, pj_vI x3, pj_vI x4] [] M Q) (h2 : pj_and (M 13 j0) x4 ≠ 0 → pj_G L d 37 125 [pj_vR 26, pj_vU, pj_vI x2, pj_vI x3, pj_vI x4] [] M Q) : pj_G L d 37 110 [pj_vR 26, pj_vU, pj_vI x2, pj_vI x3, pj_vI x4] [] M Q := by
  have nj0 : pj_nrm x3 = (j0 : Int) := pj_nk ej0 (by omega)
  refine pj_G_s pj_np37 7 (show pj_gs 7 L 37 110 [pj_vR 26, pj_vU, pj_vI x2, pj_vI x3, pj_vI x4] [] M = some ([0 ≤ pj_nrm x3 ∧ pj_nrm x3 < (7 : Int)], 122, [pj_vR 26, pj_vU, pj_vI x2, pj_vI x3, pj_vI x4], [pj_vI (pj_and (M 13 (pj_nrm x3).toNat) x4)], M) from rfl) ⟨by omega, trivial⟩ ?_
  simp only [nj0, Int.toNat_natCast]
  exact pj_G_if0 (t := 148) rfl rfl (fun z => h1 (pj_ct_eq (pj_nrm_op _) rfl z)) (fun z => h2 (pj_cf_eq (pj_nrm_op _) rfl z))
theorem pj_C37_125 {L d : Nat} {Q : Option pj_V → pj_M → Prop} {M : pj_M} {x2 x3 x4 : Int} (j0 : Nat) (ej0 : x3 = (j0 : Int)) (bj0 : j0 < 7) (h : pj_G L d 37 0 [pj_vR 26, pj_vI (x2 + 1), pj_vU, pj_vU, pj_vU] [] (pj_up M 32 j0 x4) (fun r M1 => pj_G L (d + 1) 37 143 [pj_vR 26, pj_vU, pj_vI x2, pj_vI x3, pj_vI x4] (r.toList ++ []) M1 Q)) : pj_G L (d + 1) 37 125 [pj_vR 26, pj_vU, pj_vI x2, pj_vI x3, pj_vI x4] [] M Q := by
  have nj0 : pj_nrm x3 = (j0 : Int) := pj_nk ej0 (by omega)
  refine pj_G_s (d := d + 1) pj_np37 10 (show pj_gs 10 L 37 125 [pj_vR 26, pj_vU, pj_vI x2, pj_vI x3, pj_vI x4] [] M = some ([0 ≤ pj_nrm x3 ∧ pj_nrm x3 < (7 : Int)], 140, [pj_vR 26, pj_vU, pj_vI x2, pj_vI x3, pj_vI x4], [pj_vI (x2 + 1), pj_vR 26], pj_up M 32 (pj_nrm x3).toNat x4) from rfl) ⟨by omega, trivial⟩ ?_
  simp only [nj0, Int.toNat_natCast]
  exact pj_G_k (j := 37) (vs := [pj_vR 26, pj_vI (x2 + 1)]) (st := []) rfl rfl rfl rfl rfl (Nat.le_of_ble_eq_true rfl) pj_nc37 h
theorem pj_C37_143 {L d : Nat} {Q : Option pj_V → pj_M → Prop} {M : pj_M} {x2 x3 x4 s0 : Int} (r0 : -2147483648 ≤ s0 ∧ s0 < 2147483648) (h1 : s0 = 0 → pj_G L d 37 148 [pj_vR 26, pj_vU, pj_vI x2, pj_vI x3, pj_vI x4] [] M Q) (h2 : s0 ≠ 0 → pj_G L d 37 146 [pj_vU, pj_vU, pj_vU, pj_vU, pj_vU] [] M Q) : pj_G L d 37 143 [pj_vR 26, pj_vU, pj_vI x2, pj_vI x3, pj_vI x4] [pj_vI s0] M Q := by
  exact pj_G_if0 (t := 148) rfl rfl (fun z => h1 (pj_ct_eq (pj_nrm_id r0.1 r0.2) rfl z)) (fun z => pj_G_loc (pj_lle_u rfl (pj_lle_e (pj_lle_u rfl (pj_lle_u rfl (pj_lle_u rfl pj_lle_nil))))) (h2 (pj_cf_eq (pj_nrm_id r0.1 r0.2) rfl z)))
theorem pj_C37_146 {L d : Nat} {Q : Option pj_V → pj_M → Prop} {M : pj_M}  (h : Q (some (pj_vI 1)) M) : pj_G L d 37 146 [pj_vU, pj_vU, pj_vU, pj_vU, pj_vU] [] M Q := by
  refine pj_G_s pj_np37 1 (show pj_gs 1 L 37 146 [pj_vU, pj_vU, pj_vU, pj_vU, pj_vU] [] M = some ([], 147, [pj_vU, pj_vU, pj_vU, pj_vU, pj_vU], [pj_vI 1], M) from rfl) trivial ?_
  exact pj_G_r rfl rfl rfl h
theorem pj_C37_148 {L d : Nat} {Q : Option pj_V → pj_M → Prop} {M : pj_M} {x2 x3 x4 : Int}  (h : pj_G L d 37 103 [pj_vR 26, pj_vU, pj_vI x2, pj_vI x3, pj_vI (pj_shl x4 1)] [] M Q) : pj_G L d 37 148 [pj_vR 26, pj_vU, pj_vI x2, pj_vI x3, pj_vI x4] [] M Q := by
  refine pj_G_s pj_np37 5 (show pj_gs 5 L 37 148 [pj_vR 26, pj_vU, pj_vI x2, pj_vI x3, pj_vI x4] [] M = some ([], 103, [pj_vR 26, pj_vU, pj_vI x2, pj_vI x3, pj_vI (pj_shl x4 1)], [], M) from rfl) trivial ?_
  exact h
theorem pj_C37_157 {L d : Nat} {Q : Option pj_V → pj_M → Prop} {M : pj_M}  (h : Q (some (pj_vI 0)) M) : pj_G L d 37 157 [pj_vU, pj_vU, pj_vU, pj_vU, pj_vU] [] M Q := by
  refine pj_G_s pj_np37 1 (show pj_gs 1 L 37 157 [pj_vU, pj_vU, pj_vU, pj_vU, pj_vU] [] M = some ([], 158, [pj_vU, pj_vU, pj_vU, pj_vU, pj_vU], [pj_vI 0], M) from rfl) trivial ?_
  exact pj_G_r rfl rfl rfl h
theorem pj_C38_0 {L d : Nat} {Q : Option pj_V → pj_M → Prop} {M : pj_M} {x1 : Int}  (h : pj_G L d 38 9 [pj_vR 26, pj_vI x1, pj_vI 0, pj_vU, pj_vU, pj_vU] [] (pj_up M 29 0 1) Q) : pj_G L d 38 0 [pj_vR 26, pj_vI x1, pj_vU, pj_vU, pj_vU, pj_vU] [] M Q := by
  refine pj_G_s pj_np38 7 (show pj_gs 7 L 38 0 [pj_vR 26, pj_vI x1, pj_vU, pj_vU, pj_vU, pj_vU] [] M = some ([0 ≤ (0 : Int) ∧ (0 : Int) < (4 : Int)], 9, [pj_vR 26, pj_vI x1, pj_vI 0, pj_vU, pj_vU, pj_vU], [], pj_up M 29 0 1) from rfl) ⟨by decide, trivial⟩ ?_
  exact h
theorem pj_C38_9 {L d : Nat} {Q : Option pj_V → pj_M → Prop} {M : pj_M} {x1 x2 : Int} (r0 : -2147483648 ≤ x2 ∧ x2 < 2147483648) (r1 : -2147483648 ≤ M 2 1 ∧ M 2 1 < 2147483648) (h1 : M 2 1 ≤ x2 → pj_G L d 38 126 [pj_vU, pj_vU, pj_vU, pj_vU, pj_vU, pj_vU] [] M Q) (h2 : x2 < M 2 1 → pj_G L d 38 20 [pj_vR 26, pj_vI x1, pj_vI x2, pj_vU, pj_vU, pj_vU] [] M Q) : pj_G L d 38 9 [pj_vR 26, pj_vI x1, pj_vI x2, pj_vU, pj_vU, pj_vU] [] M Q := by
  refine pj_G_s pj_np38 4 (show pj_gs 4 L 38 9 [pj_vR 26, pj_vI x1, pj_vI x2, pj_vU, pj_vU, pj_vU] [] M = some ([], 17, [pj_vR 26, pj_vI x1, pj_vI x2, pj_vU, pj_vU, pj_vU], [pj_vI (M 2 1), pj_vI x2], M) from rfl) trivial ?_
  exact pj_G_if (t := 126) rfl rfl (fun z => pj_G_loc (pj_lle_u rfl (pj_lle_u rfl (pj_lle_u rfl (pj_lle_e (pj_lle_e (pj_lle_e pj_lle_nil)))))) (h1 (pj_ct_ge (pj_nrm_id r0.1 r0.2) (pj_nrm_id r1.1 r1.2) z))) (fun z => h2 (pj_cf_ge (pj_nrm_id r0.1 r0.2) (pj_nrm_id r1.1 r1.2) z))
theorem pj_C38_20 {L d : Nat} {Q : Option pj_V → pj_M → Prop} {M : pj_M} {x1 x2 : Int} (j0 : Nat) (ej0 : x2 = (j0 : Int)) (bj0 : j0 < 4) (nn : M 26 6 = 27 ∨ M 26 6 = 28) (n27 : M 26 6 = 27 → pj_G L d 38 31 [pj_vR 26, pj_vI x1, pj_vI x2, pj_vI (M 29 j0), pj_vU, pj_vU] [pj_vR 27] M Q) (n28 : M 26 6 = 28 → pj_G L d 38 31 [pj_vR 26, pj_vI x1, pj_vI x2, pj_vI (M 29 j0), pj_vU, pj_vU] [pj_vR 28] M Q) : pj_G L d 38 20 [pj_vR 26, pj_vI x1, pj_vI x2, pj_vU, pj_vU, pj_vU] [] M Q := by
  have nj0 : pj_nrm x2 = (j0 : Int) := pj_nk ej0 (by omega)
  refine pj_G_s pj_np38 6 (show pj_gs 6 L 38 20 [pj_vR 26, pj_vI x1, pj_vI x2, pj_vU, pj_vU, pj_vU] [] M = some ([0 ≤ pj_nrm x2 ∧ pj_nrm x2 < (4 : Int)], 28, [pj_vR 26, pj_vI x1, pj_vI x2, pj_vI (M 29 (pj_nrm x2).toNat), pj_vU, pj_vU], [pj_vR 26], M) from rfl) ⟨by omega, trivial⟩ ?_
  simp only [nj0, Int.toNat_natCast]
  rcases nn with w | w
  · refine pj_G_n (pc' := 31) (loc' := [pj_vR 26, pj_vI x1, pj_vI x2, pj_vI (M 29 j0), pj_vU, pj_vU]) (stk' := [pj_vR 27]) (M' := M) pj_np38 rfl ?_ (n27 w)
    show (if 0 ≤ M 26 6 then _ else none) = _
    rw [w]
    rfl
  · refine pj_G_n (pc' := 31) (loc' := [pj_vR 26, pj_vI x1, pj_vI x2, pj_vI (M 29 j0), pj_vU, pj_vU]) (stk' := [pj_vR 28]) (M' := M) pj_np38 rfl ?_ (n28 w)
    show (if 0 ≤ M 26 6 then _ else none) = _
    rw [w]
    rfl
theorem pj_C38_31v1 {L d : Nat} {Q : Option pj_V → pj_M → Prop} {M : pj_M} {x1 x2 x3 : Int} (j0 : Nat) (ej0 : x2 = (j0 : Int)) (bj0 : j0 < 3) (r0 : -2147483648 ≤ M 28 j0 ∧ M 28 j0 < 2147483648) (h1 : M 28 j0 = 0 → pj_G L d 38 105 [pj_vR 26, pj_vI x1, pj_vI x2, pj_vI x3, pj_vU, pj_vU] [] M Q) (h2 : M 28 j0 ≠ 0 → pj_G L d 38 36 [pj_vR 26, pj_vI x1, pj_vI x2, pj_vU, pj_vU, pj_vU] [] M Q) : pj_G L d 38 31 [pj_vR 26, pj_vI x1, pj_vI x2, pj_vI x3, pj_vU, pj_vU] [pj_vR 28] M Q := by
  have nj0 : pj_nrm x2 = (j0 : Int) := pj_nk ej0 (by omega)
  refine pj_G_s pj_np38 2 (show pj_gs 2 L 38 31 [pj_vR 26, pj_vI x1, pj_vI x2, pj_vI x3, pj_vU, pj_vU] [pj_vR 28] M = some ([0 ≤ pj_nrm x2 ∧ pj_nrm x2 < (3 : Int)], 33, [pj_vR 26, pj_vI x1, pj_vI x2, pj_vI x3, pj_vU, pj_vU], [pj_vI (M 28 (pj_nrm x2).toNat)], M) from rfl) ⟨by omega, trivial⟩ ?_
  simp only [nj0, Int.toNat_natCast]
  exact pj_G_if0 (t := 105) rfl rfl (fun z => h1 (pj_ct_eq (pj_nrm_id r0.1 r0.2) rfl z)) (fun z => pj_G_loc (pj_lle_e (pj_lle_e (pj_lle_e (pj_lle_u rfl (pj_lle_e (pj_lle_e pj_lle_nil)))))) (h2 (pj_cf_eq (pj_nrm_id r0.1 r0.2) rfl z)))
theorem pj_C38_36 {L d : Nat} {Q : Option pj_V → pj_M → Prop} {M : pj_M} {x1 x2 : Int}  (h : pj_G L d 39 0 [pj_vR 26, pj_vI x2, pj_vI x1, pj_vU, pj_vU, pj_vU, pj_vU, pj_vU, pj_vU] [] M (fun r M1 => pj_G L (d + 1) 38 42 [pj_vR 26, pj_vI x1, pj_vI x2, pj_vU, pj_vU, pj_vU] (r.toList ++ []) M1 Q)) : pj_G L (d + 1) 38 36 [pj_vR 26, pj_vI x1, pj_vI x2, pj_vU, pj_vU, pj_vU] [] M Q := by
  refine pj_G_s (d := d + 1) pj_np38 3 (show pj_gs 3 L 38 36 [pj_vR 26, pj_vI x1, pj_vI x2, pj_vU, pj_vU, pj_vU] [] M = some ([], 39, [pj_vR 26, pj_vI x1, pj_vI x2, pj_vU, pj_vU, pj_vU], [pj_vI x1, pj_vI x2, pj_vR 26], M) from rfl) trivial ?_
  exact pj_G_k (j := 39) (vs := [pj_vR 26, pj_vI x2, pj_vI x1]) (st := []) rfl rfl rfl rfl rfl (Nat.le_of_ble_eq_true rfl) pj_nc39 h
theorem pj_C38_42 {L d : Nat} {Q : Option pj_V → pj_M → Prop} {M : pj_M} {x1 x2 : Int}  (h : pj_G L d 38 47 [pj_vR 26, pj_vI x1, pj_vI x2, pj_vI 0, pj_vI 0, pj_vU] [] M Q) : pj_G L d 38 42 [pj_vR 26, pj_vI x1, pj_vI x2, pj_vU, pj_vU, pj_vU] [] M Q := by
  refine pj_G_s pj_np38 4 (show pj_gs 4 L 38 42 [pj_vR 26, pj_vI x1, pj_vI x2, pj_vU, pj_vU, pj_vU] [] M = some ([], 47, [pj_vR 26, pj_vI x1, pj_vI x2, pj_vI 0, pj_vI 0, pj_vU], [], M) from rfl) trivial ?_
  exact h
theorem pj_C38_47 {L d : Nat} {Q : Option pj_V → pj_M → Prop} {M : pj_M} {x1 x2 x3 x4 : Int} (r0 : -2147483648 ≤ x4 ∧ x4 < 2147483648) (h1 : (9 : Int) ≤ x4 → pj_G L d 38 105 [pj_vR 26, pj_vI x1, pj_vI x2, pj_vI x3, pj_vU, pj_vU] [] M Q) (h2 : x4 < (9 : Int) → pj_G L d 38 54 [pj_vR 26, pj_vI x1, pj_vI x2, pj_vI x3, pj_vI x4, pj_vU] [] M Q) : pj_G L d 38 47 [pj_vR 26, pj_vI x1, pj_vI x2, pj_vI x3, pj_vI x4, pj_vU] [] M Q := by
  refine pj_G_s pj_np38 2 (show pj_gs 2 L 38 47 [pj_vR 26, pj_vI x1, pj_vI x2, pj_vI x3, pj_vI x4, pj_vU] [] M = some ([], 51, [pj_vR 26, pj_vI x1, pj_vI x2, pj_vI x3, pj_vI x4, pj_vU], [pj_vI 9, pj_vI x4], M) from rfl) trivial ?_
  exact pj_G_if (t := 105) rfl rfl (fun z => pj_G_loc (pj_lle_e (pj_lle_e (pj_lle_e (pj_lle_e (pj_lle_u rfl (pj_lle_e pj_lle_nil)))))) (h1 (pj_ct_ge (pj_nrm_id r0.1 r0.2) (pj_nrm_id (by omega) (by omega)) z))) (fun z => h2 (pj_cf_ge (pj_nrm_id r0.1 r0.2) (pj_nrm_id (by omega) (by omega)) z))
theorem pj_C38_54 {L d : Nat} {Q : Option pj_V → pj_M → Prop} {M : pj_M} {x1 x2 x3 x4 : Int} (j0 j1 : Nat) (ej0 : x2 = (j0 : Int)) (bj0 : j0 < 4) (ej1 : x4 = (j1 : Int)) (bj1 : j1 < 32) (h1 : pj_bt (M 29 j0) j1 = false → pj_G L d 38 99 [pj_vR 26, pj_vI x1, pj_vI x2, pj_vI x3, pj_vI x4, pj_vU] [] M Q) (h2 : pj_bt (M 29 j0) j1 = true → pj_G L d 38 68 [pj_vR 26, pj_vI x1, pj_vI x2, pj_vI x3, pj_vI x4, pj_vU] [] M Q) : pj_G L d 38 54 [pj_vR 26, pj_vI x1, pj_vI x2, pj_vI x3, pj_vI x4, pj_vU] [] M Q := by
  have nj0 : pj_nrm x2 = (j0 : Int) := pj_nk ej0 (by omega)
  have nj1 : pj_nrm x4 = (j1 : Int) := pj_nk ej1 (by omega)
  refine pj_G_s pj_np38 8 (show pj_gs 8 L 38 54 [pj_vR 26, pj_vI x1, pj_vI x2, pj_vI x3, pj_vI x4, pj_vU] [] M = some ([0 ≤ pj_nrm x2 ∧ pj_nrm x2 < (4 : Int)], 65, [pj_vR 26, pj_vI x1, pj_vI x2, pj_vI x3, pj_vI x4, pj_vU], [pj_vI (pj_and (pj_shr (M 29 (pj_nrm x2).toNat) x4) 1)], M) from rfl) ⟨by omega, trivial⟩ ?_
  simp only [nj0, nj1, Int.toNat_natCast]
  exact pj_G_if0 (t := 99) rfl rfl (fun z => h1 (pj_ieq0 (pj_ct_eq (pj_tst ej1 (by omega)) rfl z))) (fun z => h2 (pj_ine0 (pj_cf_eq (pj_tst ej1 (by omega)) rfl z)))
theorem pj_C38_68 {L d : Nat} {Q : Option pj_V → pj_M → Prop} {M : pj_M} {x1 x2 x3 x4 : Int}  (h : pj_G L d 19 0 [pj_vR 31, pj_vI x4, pj_vI x1] [] M (fun r M1 => pj_G L (d + 1) 38 78 [pj_vR 26, pj_vI x1, pj_vI x2, pj_vI x3, pj_vI x4, pj_vU] (r.toList ++ []) M1 Q)) : pj_G L (d + 1) 38 68 [pj_vR 26, pj_vI x1, pj_vI x2, pj_vI x3, pj_vI x4, pj_vU] [] M Q := by
  refine pj_G_s (d := d + 1) pj_np38 4 (show pj_gs 4 L 38 68 [pj_vR 26, pj_vI x1, pj_vI x2, pj_vI x3, pj_vI x4, pj_vU] [] M = some ([], 75, [pj_vR 26, pj_vI x1, pj_vI x2, pj_vI x3, pj_vI x4, pj_vU], [pj_vI x1, pj_vI x4, pj_vR 31], M) from rfl) trivial ?_
  exact pj_G_k (j := 19) (vs := [pj_vR 31, pj_vI x4, pj_vI x1]) (st := []) rfl rfl rfl rfl rfl (Nat.le_of_ble_eq_true rfl) pj_nc19 h
theorem pj_C38_78 {L d : Nat} {Q : Option pj_V → pj_M → Prop} {M : pj_M} {x1 x2 x3 x4 s0 : Int} (j0 : Nat) (ej0 : (x2 * 9) + x4 = (j0 : Int)) (bj0 : j0 < 27) (h : pj_G L d 38 99 [pj_vR 26, pj_vI x1, pj_vI x2, pj_vI (pj_or x3 s0), pj_vI x4, pj_vU] [] (pj_up M 30 j0 s0) Q) : pj_G L d 38 78 [pj_vR 26, pj_vI x1, pj_vI x2, pj_vI x3, pj_vI x4, pj_vU] [pj_vI s0] M Q := by
  have nj0 : pj_nrm ((x2 * 9) + x4) = (j0 : Int) := pj_nk ej0 (by omega)
  refine pj_G_s pj_np38 14 (show pj_gs 14 L 38 78 [pj_vR 26, pj_vI x1, pj_vI x2, pj_vI x3, pj_vI x4, pj_vU] [pj_vI s0] M = some ([0 ≤ pj_nrm ((x2 * 9) + x4) ∧ pj_nrm ((x2 * 9) + x4) < (27 : Int)], 99, [pj_vR 26, pj_vI x1, pj_vI x2, pj_vI (pj_or x3 s0), pj_vI x4, pj_vI s0], [], pj_up M 30 (pj_nrm ((x2 * 9) + x4)).toNat s0) from rfl) ⟨by omega, trivial⟩ ?_
  simp only [nj0, Int.toNat_natCast]
  exact pj_G_loc (pj_lle_e (pj_lle_e (pj_lle_e (pj_lle_e (pj_lle_e (pj_lle_u rfl pj_lle_nil)))))) h
theorem pj_C38_99 {L d : Nat} {Q : Option pj_V → pj_M → Prop} {M : pj_M} {x1 x2 x3 x4 : Int}  (h : pj_G L d 38 47 [pj_vR 26, pj_vI x1, pj_vI x2, pj_vI x3, pj_vI (x4 + 1), pj_vU] [] M Q) : pj_G L d 38 99 [pj_vR 26, pj_vI x1, pj_vI x2, pj_vI x3, pj_vI x4, pj_vU] [] M Q := by
  refine pj_G_s pj_np38 2 (show pj_gs 2 L 38 99 [pj_vR 26, pj_vI x1, pj_vI x2, pj_vI x3, pj_vI x4, pj_vU] [] M = some ([], 47, [pj_vR 26, pj_vI x1, pj_vI x2, pj_vI x3, pj_vI (x4 + 1), pj_vU], [], M) from rfl) trivial ?_
  exact h
theorem pj_C38_105 {L d : Nat} {Q : Option pj_V → pj_M → Prop} {M : pj_M} {x1 x2 x3 : Int} (r0 : -2147483648 ≤ x3 ∧ x3 < 2147483648) (h1 : x3 ≠ 0 → pj_G L d 38 111 [pj_vR 26, pj_vI x1, pj_vI x2, pj_vI x3, pj_vU, pj_vU] [] M Q) (h2 : x3 = 0 → pj_G L d 38 109 [pj_vU, pj_vU, pj_vU, pj_vU, pj_vU, pj_vU] [] M Q) : pj_G L d 38 105 [pj_vR 26, pj_vI x1, pj_vI x2, pj_vI x3, pj_vU, pj_vU] [] M Q := by
  refine pj_G_s pj_np38 1 (show pj_gs 1 L 38 105 [pj_vR 26, pj_vI x1, pj_vI x2, pj_vI x3, pj_vU, pj_vU] [] M = some ([], 106, [pj_vR 26, pj_vI x1, pj_vI x2, pj_vI x3, pj_vU, pj_vU], [pj_vI x3], M) from rfl) trivial ?_
  exact pj_G_if0 (t := 111) rfl rfl (fun z => h1 (pj_ct_ne (pj_nrm_id r0.1 r0.2) rfl z)) (fun z => pj_G_loc (pj_lle_u rfl (pj_lle_u rfl (pj_lle_u rfl (pj_lle_u rfl (pj_lle_e (pj_lle_e pj_lle_nil)))))) (h2 (pj_cf_ne (pj_nrm_id r0.1 r0.2) rfl z)))
theorem pj_C38_109 {L d : Nat} {Q : Option pj_V → pj_M → Prop} {M : pj_M}  (h : Q (some (pj_vI 0)) M) : pj_G L d 38 109 [pj_vU, pj_vU, pj_vU, pj_vU, pj_vU, pj_vU] [] M Q := by
  refine pj_G_s pj_np38 1 (show pj_gs 1 L 38 109 [pj_vU, pj_vU, pj_vU, pj_vU, pj_vU, pj_vU] [] M = some ([], 110, [pj_vU, pj_vU, pj_vU, pj_vU, pj_vU, pj_vU], [pj_vI 0], M) from rfl) trivial ?_
  exact pj_G_r rfl rfl rfl h
theorem pj_C38_111 {L d : Nat} {Q : Option pj_V → pj_M → Prop} {M : pj_M} {x1 x2 x3 : Int} (j0 : Nat) (ej0 : x2 + 1 = (j0 : Int)) (bj0 : j0 < 4) (h : pj_G L d 38 9 [pj_vR 26, pj_vI x1, pj_vI (x2 + 1), pj_vU, pj_vU, pj_vU] [] (pj_up M 29 j0 x3) Q) : pj_G L d 38 111 [pj_vR 26, pj_vI x1, pj_vI x2, pj_vI x3, pj_vU, pj_vU] [] M Q := by
  have nj0 : pj_nrm (x2 + 1) = (j0 : Int) := pj_nk ej0 (by omega)
  refine pj_G_s pj_np38 9 (show pj_gs 9 L 38 111 [pj_vR 26, pj_vI x1, pj_vI x2, pj_vI x3, pj_vU, pj_vU] [] M = some ([0 ≤ pj_nrm (x2 + 1) ∧ pj_nrm (x2 + 1) < (4 : Int)], 9, [pj_vR 26, pj_vI x1, pj_vI (x2 + 1), pj_vI x3, pj_vU, pj_vU], [], pj_up M 29 (pj_nrm (x2 + 1)).toNat x3) from rfl) ⟨by omega, trivial⟩ ?_
  simp only [nj0, Int.toNat_natCast]
  exact pj_G_loc (pj_lle_e (pj_lle_e (pj_lle_e (pj_lle_u rfl (pj_lle_e (pj_lle_e pj_lle_nil)))))) h
theorem pj_C38_31 {L d : Nat} {Q : Option pj_V → pj_M → Prop} {M : pj_M} {x1 x2 x3 : Int} (j0 : Nat) (ej0 : x2 = (j0 : Int)) (bj0 : j0 < 3) (r0 : -2147483648 ≤ M 27 j0 ∧ M 27 j0 < 2147483648) (h1 : M 27 j0 = 0 → pj_G L d 38 105 [pj_vR 26, pj_vI x1, pj_vI x2, pj_vI x3, pj_vU, pj_vU] [] M Q) (h2 : M 27 j0 ≠ 0 → pj_G L d 38 36 [pj_vR 26, pj_vI x1, pj_vI x2, pj_vU, pj_vU, pj_vU] [] M Q) : pj_G L d 38 31 [pj_vR 26, pj_vI x1, pj_vI x2, pj_vI x3, pj_vU, pj_vU] [pj_vR 27] M Q := by
  have nj0 : pj_nrm x2 = (j0 : Int) := pj_nk ej0 (by omega)
  refine pj_G_s pj_np38 2 (show pj_gs 2 L 38 31 [pj_vR 26, pj_vI x1, pj_vI x2, pj_vI x3, pj_vU, pj_vU] [pj_vR 27] M = some ([0 ≤ pj_nrm x2 ∧ pj_nrm x2 < (3 : Int)], 33, [pj_vR 26, pj_vI x1, pj_vI x2, pj_vI x3, pj_vU, pj_vU], [pj_vI (M 27 (pj_nrm x2).toNat)], M) from rfl) ⟨by omega, trivial⟩ ?_
  simp only [nj0, Int.toNat_natCast]
  exact pj_G_if0 (t := 105) rfl rfl (fun z => h1 (pj_ct_eq (pj_nrm_id r0.1 r0.2) rfl z)) (fun z => pj_G_loc (pj_lle_e (pj_lle_e (pj_lle_e (pj_lle_u rfl (pj_lle_e (pj_lle_e pj_lle_nil)))))) (h2 (pj_cf_eq (pj_nrm_id r0.1 r0.2) rfl z)))
theorem pj_C38_126 {L d : Nat} {Q : Option pj_V → pj_M → Prop} {M : pj_M}  (h : Q (some (pj_vI 1)) M) : pj_G L d 38 126 [pj_vU, pj_vU, pj_vU, pj_vU, pj_vU, pj_vU] [] M Q := by
  refine pj_G_s pj_np38 1 (show pj_gs 1 L 38 126 [pj_vU, pj_vU, pj_vU, pj_vU, pj_vU, pj_vU] [] M = some ([], 127, [pj_vU, pj_vU, pj_vU, pj_vU, pj_vU, pj_vU], [pj_vI 1], M) from rfl) trivial ?_
  exact pj_G_r rfl rfl rfl h
theorem pj_C39_0 {L d : Nat} {Q : Option pj_V → pj_M → Prop} {M : pj_M} {x1 x2 : Int} (r0 : -2147483648 ≤ x1 + 1 ∧ x1 + 1 < 2147483648) (r1 : -2147483648 ≤ M 2 1 ∧ M 2 1 < 2147483648) (h1 : M 2 1 ≤ x1 + 1 → pj_G L d 39 26 [pj_vR 26, pj_vI x1, pj_vI x2, pj_vI 0, pj_vU, pj_vU, pj_vU, pj_vU, pj_vU] [] M Q) (h2 : x1 + 1 < M 2 1 → pj_G L d 39 15 [pj_vR 26, pj_vI x1, pj_vI x2, pj_vI 0, pj_vU, pj_vU, pj_vU, pj_vU, pj_vU] [] M Q) : pj_G L d 39 0 [pj_vR 26, pj_vI x1, pj_vI x2, pj_vU, pj_vU, pj_vU, pj_vU, pj_vU, pj_vU] [] M Q := by
  refine pj_G_s pj_np39 8 (show pj_gs 8 L 39 0 [pj_vR 26, pj_vI x1, pj_vI x2, pj_vU, pj_vU, pj_vU, pj_vU, pj_vU, pj_vU] [] M = some ([], 12, [pj_vR 26, pj_vI x1, pj_vI x2, pj_vI 0, pj_vU, pj_vU, pj_vU, pj_vU, pj_vU], [pj_vI (M 2 1), pj_vI (x1 + 1)], M) from rfl) trivial ?_
  exact pj_G_if (t := 26) rfl rfl (fun z => h1 (pj_ct_ge (pj_nrm_id r0.1 r0.2) (pj_nrm_id r1.1 r1.2) z)) (fun z => h2 (pj_cf_ge (pj_nrm_id r0.1 r0.2) (pj_nrm_id r1.1 r1.2) z))
theorem pj_C39_15 {L d : Nat} {Q : Option pj_V → pj_M → Prop} {M : pj_M} {x1 x2 x3 : Int}  (nn : M 26 6 = 27 ∨ M 26 6 = 28) (n27 : M 26 6 = 27 → pj_G L d 39 19 [pj_vR 26, pj_vI x1, pj_vI x2, pj_vI x3, pj_vU, pj_vU, pj_vU, pj_vU, pj_vU] [pj_vR 27] M Q) (n28 : M 26 6 = 28 → pj_G L d 39 19 [pj_vR 26, pj_vI x1, pj_vI x2, pj_vI x3, pj_vU, pj_vU, pj_vU, pj_vU, pj_vU] [pj_vR 28] M Q) : pj_G L d 39 15 [pj_vR 26, pj_vI x1, pj_vI x2, pj_vI x3, pj_vU, pj_vU, pj_vU, pj_vU, pj_vU] [] M Q := by
  refine pj_G_s pj_np39 1 (show pj_gs 1 L 39 15 [pj_vR 26, pj_vI x1, pj_vI x2, pj_vI x3, pj_vU, pj_vU, pj_vU, pj_vU, pj_vU] [] M = some ([], 16, [pj_vR 26, pj_vI x1, pj_vI x2, pj_vI x3, pj_vU, pj_vU, pj_vU, pj_vU, pj_vU], [pj_vR 26], M) from rfl) trivial ?_
  rcases nn with w | w
  · refine pj_G_n (pc' := 19) (loc' := [pj_vR 26, pj_vI x1, pj_vI x2, pj_vI x3, pj_vU, pj_vU, pj_vU, pj_vU, pj_vU]) (stk' := [pj_vR 27]) (M' := M) pj_np39 rfl ?_ (n27 w)
    show (if 0 ≤ M 26 6 then _ else none) = _
    rw [w]
    rfl
  · refine pj_G_n (pc' := 19) (loc' := [pj_vR 26, pj_vI x1, pj_vI x2, pj_vI x3, pj_vU, pj_vU, pj_vU, pj_vU, pj_vU]) (stk' := [pj_vR 28]) (M' := M) pj_np39 rfl ?_ (n28 w)
    show (if 0 ≤ M 26 6 then _ else none) = _
    rw [w]
    rfl
theorem pj_C39_19v1 {L d : Nat} {Q : Option pj_V → pj_M → Prop} {M : pj_M} {x1 x2 x3 : Int} (j0 : Nat) (ej0 : x1 + 1 = (j0 : Int)) (bj0 : j0 < 3) (h : pj_G L d 39 27 [pj_vR 26, pj_vI x1, pj_vI x2, pj_vI x3, pj_vU, pj_vU, pj_vU, pj_vU, pj_vU] [pj_vI (M 28 j0)] M Q) : pj_G L d 39 19 [pj_vR 26, pj_vI x1, pj_vI x2, pj_vI x3, pj_vU, pj_vU, pj_vU, pj_vU, pj_vU] [pj_vR 28] M Q := by
  have nj0 : pj_nrm (x1 + 1) = (j0 : Int) := pj_nk ej0 (by omega)
  refine pj_G_s pj_np39 5 (show pj_gs 5 L 39 19 [pj_vR 26, pj_vI x1, pj_vI x2, pj_vI x3, pj_vU, pj_vU, pj_vU, pj_vU, pj_vU] [pj_vR 28] M = some ([0 ≤ pj_nrm (x1 + 1) ∧ pj_nrm (x1 + 1) < (3 : Int)], 27, [pj_vR 26, pj_vI x1, pj_vI x2, pj_vI x3, pj_vU, pj_vU, pj_vU, pj_vU, pj_vU], [pj_vI (M 28 (pj_nrm (x1 + 1)).toNat)], M) from rfl) ⟨by omega, trivial⟩ ?_
  simp only [nj0, Int.toNat_natCast]
  exact h
theorem pj_C39_27 {L d : Nat} {Q : Option pj_V → pj_M → Prop} {M : pj_M} {x1 x2 x3 s0 : Int}  (h : pj_G L d 39 32 [pj_vR 26, pj_vI x1, pj_vI x2, pj_vI x3, pj_vI s0, pj_vI 0, pj_vU, pj_vU, pj_vU] [] M Q) : pj_G L d 39 27 [pj_vR 26, pj_vI x1, pj_vI x2, pj_vI x3, pj_vU, pj_vU, pj_vU, pj_vU, pj_vU] [pj_vI s0] M Q := by
  refine pj_G_s pj_np39 3 (show pj_gs 3 L 39 27 [pj_vR 26, pj_vI x1, pj_vI x2, pj_vI x3, pj_vU, pj_vU, pj_vU, pj_vU, pj_vU] [pj_vI s0] M = some ([], 32, [pj_vR 26, pj_vI x1, pj_vI x2, pj_vI x3, pj_vI s0, pj_vI 0, pj_vU, pj_vU, pj_vU], [], M) from rfl) trivial ?_
  exact h
theorem pj_C39_32 {L d : Nat} {Q : Option pj_V → pj_M → Prop} {M : pj_M} {x1 x2 x3 x4 x5 : Int} (r0 : -2147483648 ≤ x5 ∧ x5 < 2147483648) (r1 : -2147483648 ≤ x2 ∧ x2 < 2147483648) (h1 : x2 ≤ x5 → pj_G L d 39 145 [pj_vR 26, pj_vI x1, pj_vU, pj_vI x3, pj_vU, pj_vU, pj_vU, pj_vU, pj_vU] [] M Q) (h2 : x5 < x2 → pj_G L d 39 38 [pj_vR 26, pj_vI x1, pj_vI x2, pj_vI x3, pj_vI x4, pj_vI x5, pj_vU, pj_vU, pj_vU] [] M Q) : pj_G L d 39 32 [pj_vR 26, pj_vI x1, pj_vI x2, pj_vI x3, pj_vI x4, pj_vI x5, pj_vU, pj_vU, pj_vU] [] M Q := by
  refine pj_G_s pj_np39 2 (show pj_gs 2 L 39 32 [pj_vR 26, pj_vI x1, pj_vI x2, pj_vI x3, pj_vI x4, pj_vI x5, pj_vU, pj_vU, pj_vU] [] M = some ([], 35, [pj_vR 26, pj_vI x1, pj_vI x2, pj_vI x3, pj_vI x4, pj_vI x5, pj_vU, pj_vU, pj_vU], [pj_vI x2, pj_vI x5], M) from rfl) trivial ?_
  exact pj_G_if (t := 145) rfl rfl (fun z => pj_G_loc (pj_lle_e (pj_lle_e (pj_lle_u rfl (pj_lle_e (pj_lle_u rfl (pj_lle_u rfl (pj_lle_e (pj_lle_e (pj_lle_e pj_lle_nil))))))))) (h1 (pj_ct_ge (pj_nrm_id r0.1 r0.2) (pj_nrm_id r1.1 r1.2) z))) (fun z => h2 (pj_cf_ge (pj_nrm_id r0.1 r0.2) (pj_nrm_id r1.1 r1.2) z))
theorem pj_C39_38 {L d : Nat} {Q : Option pj_V → pj_M → Prop} {M : pj_M} {x1 x2 x3 x4 x5 : Int} (j0 j1 : Nat) (ej0 : x5 = (j0 : Int)) (bj0 : j0 < 7) (ej1 : M 17 j0 = (j1 : Int)) (bj1 : j1 < 7) (r0 : -2147483648 ≤ M 8 j1 ∧ M 8 j1 < 2147483648) (h1 : M 8 j1 ≠ (2 : Int) → pj_G L d 39 91 [pj_vR 26, pj_vI x1, pj_vI x2, pj_vI x3, pj_vI x4, pj_vI x5, pj_vI (M 17 j0), pj_vU, pj_vU] [] M Q) (h2 : M 8 j1 = (2 : Int) → pj_G L d 39 76 [pj_vR 26, pj_vI x1, pj_vI x2, pj_vI x3, pj_vI x4, pj_vI x5, pj_vI (M 17 j0), pj_vI (M 32 j1), pj_vU] [] M Q) : pj_G L d 39 38 [pj_vR 26, pj_vI x1, pj_vI x2, pj_vI x3, pj_vI x4, pj_vI x5, pj_vU, pj_vU, pj_vU] [] M Q := by
  have nj0 : pj_nrm x5 = (j0 : Int) := pj_nk ej0 (by omega)
  have nj1 : pj_nrm (M 17 j0) = (j1 : Int) := pj_nk ej1 (by omega)
  refine pj_G_s pj_np39 18 (show pj_gs 18 L 39 38 [pj_vR 26, pj_vI x1, pj_vI x2, pj_vI x3, pj_vI x4, pj_vI x5, pj_vU, pj_vU, pj_vU] [] M = some ([0 ≤ pj_nrm x5 ∧ pj_nrm x5 < (7 : Int), 0 ≤ pj_nrm (M 17 (pj_nrm x5).toNat) ∧ pj_nrm (M 17 (pj_nrm x5).toNat) < (7 : Int), 0 ≤ pj_nrm (M 17 (pj_nrm x5).toNat) ∧ pj_nrm (M 17 (pj_nrm x5).toNat) < (7 : Int)], 73, [pj_vR 26, pj_vI x1, pj_vI x2, pj_vI x3, pj_vI x4, pj_vI x5, pj_vI (M 17 (pj_nrm x5).toNat), pj_vI (M 32 (pj_nrm (M 17 (pj_nrm x5).toNat)).toNat), pj_vU], [pj_vI 2, pj_vI (M 8 (pj_nrm (M 17 (pj_nrm x5).toNat)).toNat)], M) from rfl) ⟨by omega, by simp only [nj0, nj1, Int.toNat_natCast]; omega, by simp only [nj0, nj1, Int.toNat_natCast]; omega, trivial⟩ ?_
  simp only [nj0, nj1, Int.toNat_natCast]
  exact pj_G_if (t := 91) rfl rfl (fun z => pj_G_loc (pj_lle_e (pj_lle_e (pj_lle_e (pj_lle_e (pj_lle_e (pj_lle_e (pj_lle_e (pj_lle_u rfl (pj_lle_e pj_lle_nil))))))))) (h1 (pj_ct_ne (pj_nrm_id r0.1 r0.2) (pj_nrm_id (by omega) (by omega)) z))) (fun z => h2 (pj_cf_ne (pj_nrm_id r0.1 r0.2) (pj_nrm_id (by omega) (by omega)) z))
theorem pj_C39_76 {L d : Nat} {Q : Option pj_V → pj_M → Prop} {M : pj_M} {x1 x2 x3 x4 x5 x6 x7 : Int} (r0 : -2147483648 ≤ x7 ∧ x7 < 2147483648) (h1 : x7 = 0 → pj_G L d 39 87 [pj_vR 26, pj_vI x1, pj_vI x2, pj_vI x3, pj_vI x4, pj_vI x5, pj_vI x6, pj_vU, pj_vU] [] M Q) (h2 : x7 ≠ 0 → pj_G L d 39 81 [pj_vR 26, pj_vI x1, pj_vI x2, pj_vI x3, pj_vI x4, pj_vI x5, pj_vI x6, pj_vI x7, pj_vU] [] M Q) : pj_G L d 39 76 [pj_vR 26, pj_vI x1, pj_vI x2, pj_vI x3, pj_vI x4, pj_vI x5, pj_vI x6, pj_vI x7, pj_vU] [] M Q := by
  refine pj_G_s pj_np39 1 (show pj_gs 1 L 39 76 [pj_vR 26, pj_vI x1, pj_vI x2, pj_vI x3, pj_vI x4, pj_vI x5, pj_vI x6, pj_vI x7, pj_vU] [] M = some ([], 78, [pj_vR 26, pj_vI x1, pj_vI x2, pj_vI x3, pj_vI x4, pj_vI x5, pj_vI x6, pj_vI x7, pj_vU], [pj_vI x7], M) from rfl) trivial ?_
  exact pj_G_if0 (t := 87) rfl rfl (fun z => pj_G_loc (pj_lle_e (pj_lle_e (pj_lle_e (pj_lle_e (pj_lle_e (pj_lle_e (pj_lle_e (pj_lle_u rfl (pj_lle_e pj_lle_nil))))))))) (h1 (pj_ct_eq (pj_nrm_id r0.1 r0.2) rfl z))) (fun z => h2 (pj_cf_eq (pj_nrm_id r0.1 r0.2) rfl z))
theorem pj_C39_81 {L d : Nat} {Q : Option pj_V → pj_M → Prop} {M : pj_M} {x1 x2 x3 x4 x5 x6 x7 : Int} (r0 : -2147483648 ≤ x7 ∧ x7 < 2147483648) (h1 : x7 ≠ (4 : Int) → pj_G L d 39 91 [pj_vR 26, pj_vI x1, pj_vI x2, pj_vI x3, pj_vI x4, pj_vI x5, pj_vI x6, pj_vU, pj_vU] [] M Q) (h2 : x7 = (4 : Int) → pj_G L d 39 87 [pj_vR 26, pj_vI x1, pj_vI x2, pj_vI x3, pj_vI x4, pj_vI x5, pj_vI x6, pj_vU, pj_vU] [] M Q) : pj_G L d 39 81 [pj_vR 26, pj_vI x1, pj_vI x2, pj_vI x3, pj_vI x4, pj_vI x5, pj_vI x6, pj_vI x7, pj_vU] [] M Q := by
  refine pj_G_s pj_np39 2 (show pj_gs 2 L 39 81 [pj_vR 26, pj_vI x1, pj_vI x2, pj_vI x3, pj_vI x4, pj_vI x5, pj_vI x6, pj_vI x7, pj_vU] [] M = some ([], 84, [pj_vR 26, pj_vI x1, pj_vI x2, pj_vI x3, pj_vI x4, pj_vI x5, pj_vI x6, pj_vI x7, pj_vU], [pj_vI 4, pj_vI x7], M) from rfl) trivial ?_
  exact pj_G_if (t := 91) rfl rfl (fun z => pj_G_loc (pj_lle_e (pj_lle_e (pj_lle_e (pj_lle_e (pj_lle_e (pj_lle_e (pj_lle_e (pj_lle_u rfl (pj_lle_e pj_lle_nil))))))))) (h1 (pj_ct_ne (pj_nrm_id r0.1 r0.2) (pj_nrm_id (by omega) (by omega)) z))) (fun z => pj_G_loc (pj_lle_e (pj_lle_e (pj_lle_e (pj_lle_e (pj_lle_e (pj_lle_e (pj_lle_e (pj_lle_u rfl (pj_lle_e pj_lle_nil))))))))) (h2 (pj_cf_ne (pj_nrm_id r0.1 r0.2) (pj_nrm_id (by omega) (by omega)) z)))
theorem pj_C39_87 {L d : Nat} {Q : Option pj_V → pj_M → Prop} {M : pj_M} {x1 x2 x3 x4 x5 x6 : Int}  (h : pj_G L d 39 92 [pj_vR 26, pj_vI x1, pj_vI x2, pj_vI x3, pj_vI x4, pj_vI x5, pj_vI x6, pj_vU, pj_vU] [pj_vI 1] M Q) : pj_G L d 39 87 [pj_vR 26, pj_vI x1, pj_vI x2, pj_vI x3, pj_vI x4, pj_vI x5, pj_vI x6, pj_vU, pj_vU] [] M Q := by
  refine pj_G_s pj_np39 2 (show pj_gs 2 L 39 87 [pj_vR 26, pj_vI x1, pj_vI x2, pj_vI x3, pj_vI x4, pj_vI x5, pj_vI x6, pj_vU, pj_vU] [] M = some ([], 92, [pj_vR 26, pj_vI x1, pj_vI x2, pj_vI x3, pj_vI x4, pj_vI x5, pj_vI x6, pj_vU, pj_vU], [pj_vI 1], M) from rfl) trivial ?_
  exact h
theorem pj_C39_92 {L d : Nat} {Q : Option pj_V → pj_M → Prop} {M : pj_M} {x1 x2 x3 x4 x5 x6 s0 : Int} (r0 : -2147483648 ≤ s0 ∧ s0 < 2147483648) (h1 : s0 = 0 → pj_G L d 39 139 [pj_vR 26, pj_vI x1, pj_vI x2, pj_vI x3, pj_vI x4, pj_vI x5, pj_vU, pj_vU, pj_vU] [] M Q) (h2 : s0 ≠ 0 → pj_G L d 39 99 [pj_vR 26, pj_vI x1, pj_vI x2, pj_vI x3, pj_vI x4, pj_vI x5, pj_vI x6, pj_vU, pj_vU] [] M Q) : pj_G L d 39 92 [pj_vR 26, pj_vI x1, pj_vI x2, pj_vI x3, pj_vI x4, pj_vI x5, pj_vI x6, pj_vU, pj_vU] [pj_vI s0] M Q := by
  refine pj_G_s pj_np39 2 (show pj_gs 2 L 39 92 [pj_vR 26, pj_vI x1, pj_vI x2, pj_vI x3, pj_vI x4, pj_vI x5, pj_vI x6, pj_vU, pj_vU] [pj_vI s0] M = some ([], 96, [pj_vR 26, pj_vI x1, pj_vI x2, pj_vI x3, pj_vI x4, pj_vI x5, pj_vI x6, pj_vU, pj_vI s0], [pj_vI s0], M) from rfl) trivial ?_
  exact pj_G_if0 (t := 139) rfl rfl (fun z => pj_G_loc (pj_lle_e (pj_lle_e (pj_lle_e (pj_lle_e (pj_lle_e (pj_lle_e (pj_lle_u rfl (pj_lle_e (pj_lle_u rfl pj_lle_nil))))))))) (h1 (pj_ct_eq (pj_nrm_id r0.1 r0.2) rfl z))) (fun z => pj_G_loc (pj_lle_e (pj_lle_e (pj_lle_e (pj_lle_e (pj_lle_e (pj_lle_e (pj_lle_e (pj_lle_e (pj_lle_u rfl pj_lle_nil))))))))) (h2 (pj_cf_eq (pj_nrm_id r0.1 r0.2) rfl z)))
theorem pj_C39_99 {L d : Nat} {Q : Option pj_V → pj_M → Prop} {M : pj_M} {x1 x2 x3 x4 x5 x6 : Int} (j0 j1 : Nat) (ej0 : x6 = (j0 : Int)) (bj0 : j0 < 7) (ej1 : M 10 j0 = (j1 : Int)) (bj1 : j1 < 32) (h1 : pj_bt x4 j1 = false → pj_G L d 39 139 [pj_vR 26, pj_vI x1, pj_vI x2, pj_vI x3, pj_vI x4, pj_vI x5, pj_vU, pj_vU, pj_vU] [] M Q) (h2 : pj_bt x4 j1 = true → pj_G L d 39 117 [pj_vR 26, pj_vI x1, pj_vI x2, pj_vI x3, pj_vI x4, pj_vI x5, pj_vI x6, pj_vU, pj_vU] [] M Q) : pj_G L d 39 99 [pj_vR 26, pj_vI x1, pj_vI x2, pj_vI x3, pj_vI x4, pj_vI x5, pj_vI x6, pj_vU, pj_vU] [] M Q := by
  have nj0 : pj_nrm x6 = (j0 : Int) := pj_nk ej0 (by omega)
  have nj1 : pj_nrm (M 10 j0) = (j1 : Int) := pj_nk ej1 (by omega)
  refine pj_G_s pj_np39 9 (show pj_gs 9 L 39 99 [pj_vR 26, pj_vI x1, pj_vI x2, pj_vI x3, pj_vI x4, pj_vI x5, pj_vI x6, pj_vU, pj_vU] [] M = some ([0 ≤ pj_nrm x6 ∧ pj_nrm x6 < (7 : Int)], 114, [pj_vR 26, pj_vI x1, pj_vI x2, pj_vI x3, pj_vI x4, pj_vI x5, pj_vI x6, pj_vU, pj_vU], [pj_vI (pj_and (pj_shr x4 (M 10 (pj_nrm x6).toNat)) 1)], M) from rfl) ⟨by omega, trivial⟩ ?_
  simp only [nj0, nj1, Int.toNat_natCast]
  exact pj_G_if0 (t := 139) rfl rfl (fun z => pj_G_loc (pj_lle_e (pj_lle_e (pj_lle_e (pj_lle_e (pj_lle_e (pj_lle_e (pj_lle_u rfl (pj_lle_e (pj_lle_e pj_lle_nil))))))))) (h1 (pj_ieq0 (pj_ct_eq (pj_tst ej1 (by omega)) rfl z)))) (fun z => h2 (pj_ine0 (pj_cf_eq (pj_tst ej1 (by omega)) rfl z)))
theorem pj_C39_117 {L d : Nat} {Q : Option pj_V → pj_M → Prop} {M : pj_M} {x1 x2 x3 x4 x5 x6 : Int} (r0 : -2147483648 ≤ x6 ∧ x6 < 2147483648) (r1 : -2147483648 ≤ M 18 0 ∧ M 18 0 < 2147483648) (h1 : x6 ≠ M 18 0 → pj_G L d 39 136 [pj_vR 26, pj_vI x1, pj_vI x2, pj_vU, pj_vI x4, pj_vI x5, pj_vU, pj_vU, pj_vU] [pj_vI x3] M Q) (h2 : x6 = M 18 0 → pj_G L d 39 132 [pj_vR 26, pj_vI x1, pj_vI x2, pj_vU, pj_vI x4, pj_vI x5, pj_vU, pj_vU, pj_vU] [pj_vI x3] M Q) : pj_G L d 39 117 [pj_vR 26, pj_vI x1, pj_vI x2, pj_vI x3, pj_vI x4, pj_vI x5, pj_vI x6, pj_vU, pj_vU] [] M Q := by
  refine pj_G_s pj_np39 7 (show pj_gs 7 L 39 117 [pj_vR 26, pj_vI x1, pj_vI x2, pj_vI x3, pj_vI x4, pj_vI x5, pj_vI x6, pj_vU, pj_vU] [] M = some ([0 ≤ (0 : Int) ∧ (0 : Int) < (2 : Int)], 129, [pj_vR 26, pj_vI x1, pj_vI x2, pj_vI x3, pj_vI x4, pj_vI x5, pj_vI x6, pj_vU, pj_vU], [pj_vI (M 18 0), pj_vI x6, pj_vI x3], M) from rfl) ⟨by decide, trivial⟩ ?_
  exact pj_G_if (t := 136) rfl rfl (fun z => pj_G_loc (pj_lle_e (pj_lle_e (pj_lle_e (pj_lle_u rfl (pj_lle_e (pj_lle_e (pj_lle_u rfl (pj_lle_e (pj_lle_e pj_lle_nil))))))))) (h1 (pj_ct_ne (pj_nrm_id r0.1 r0.2) (pj_nrm_id r1.1 r1.2) z))) (fun z => pj_G_loc (pj_lle_e (pj_lle_e (pj_lle_e (pj_lle_u rfl (pj_lle_e (pj_lle_e (pj_lle_u rfl (pj_lle_e (pj_lle_e pj_lle_nil))))))))) (h2 (pj_cf_ne (pj_nrm_id r0.1 r0.2) (pj_nrm_id r1.1 r1.2) z)))
theorem pj_C39_132 {L d : Nat} {Q : Option pj_V → pj_M → Prop} {M : pj_M} {x1 x2 x4 x5 s0 : Int}  (h : pj_G L d 39 137 [pj_vR 26, pj_vI x1, pj_vI x2, pj_vU, pj_vI x4, pj_vI x5, pj_vU, pj_vU, pj_vU] [pj_vI 1, pj_vI s0] M Q) : pj_G L d 39 132 [pj_vR 26, pj_vI x1, pj_vI x2, pj_vU, pj_vI x4, pj_vI x5, pj_vU, pj_vU, pj_vU] [pj_vI s0] M Q := by
  refine pj_G_s pj_np39 2 (show pj_gs 2 L 39 132 [pj_vR 26, pj_vI x1, pj_vI x2, pj_vU, pj_vI x4, pj_vI x5, pj_vU, pj_vU, pj_vU] [pj_vI s0] M = some ([], 137, [pj_vR 26, pj_vI x1, pj_vI x2, pj_vU, pj_vI x4, pj_vI x5, pj_vU, pj_vU, pj_vU], [pj_vI 1, pj_vI s0], M) from rfl) trivial ?_
  exact h
theorem pj_C39_137 {L d : Nat} {Q : Option pj_V → pj_M → Prop} {M : pj_M} {x1 x2 x4 x5 s0 s1 : Int}  (h : pj_G L d 39 139 [pj_vR 26, pj_vI x1, pj_vI x2, pj_vI (pj_or s0 s1), pj_vI x4, pj_vI x5, pj_vU, pj_vU, pj_vU] [] M Q) : pj_G L d 39 137 [pj_vR 26, pj_vI x1, pj_vI x2, pj_vU, pj_vI x4, pj_vI x5, pj_vU, pj_vU, pj_vU] [pj_vI s1, pj_vI s0] M Q := by
  refine pj_G_s pj_np39 2 (show pj_gs 2 L 39 137 [pj_vR 26, pj_vI x1, pj_vI x2, pj_vU, pj_vI x4, pj_vI x5, pj_vU, pj_vU, pj_vU] [pj_vI s1, pj_vI s0] M = some ([], 139, [pj_vR 26, pj_vI x1, pj_vI x2, pj_vI (pj_or s0 s1), pj_vI x4, pj_vI x5, pj_vU, pj_vU, pj_vU], [], M) from rfl) trivial ?_
  exact h
theorem pj_C39_139 {L d : Nat} {Q : Option pj_V → pj_M → Prop} {M : pj_M} {x1 x2 x3 x4 x5 : Int}  (h : pj_G L d 39 32 [pj_vR 26, pj_vI x1, pj_vI x2, pj_vI x3, pj_vI x4, pj_vI (x5 + 1), pj_vU, pj_vU, pj_vU] [] M Q) : pj_G L d 39 139 [pj_vR 26, pj_vI x1, pj_vI x2, pj_vI x3, pj_vI x4, pj_vI x5, pj_vU, pj_vU, pj_vU] [] M Q := by
  refine pj_G_s pj_np39 2 (show pj_gs 2 L 39 139 [pj_vR 26, pj_vI x1, pj_vI x2, pj_vI x3, pj_vI x4, pj_vI x5, pj_vU, pj_vU, pj_vU] [] M = some ([], 32, [pj_vR 26, pj_vI x1, pj_vI x2, pj_vI x3, pj_vI x4, pj_vI (x5 + 1), pj_vU, pj_vU, pj_vU], [], M) from rfl) trivial ?_
  exact h
theorem pj_C39_136 {L d : Nat} {Q : Option pj_V → pj_M → Prop} {M : pj_M} {x1 x2 x4 x5 s0 : Int}  (h : pj_G L d 39 137 [pj_vR 26, pj_vI x1, pj_vI x2, pj_vU, pj_vI x4, pj_vI x5, pj_vU, pj_vU, pj_vU] [pj_vI 2, pj_vI s0] M Q) : pj_G L d 39 136 [pj_vR 26, pj_vI x1, pj_vI x2, pj_vU, pj_vI x4, pj_vI x5, pj_vU, pj_vU, pj_vU] [pj_vI s0] M Q := by
  refine pj_G_s pj_np39 1 (show pj_gs 1 L 39 136 [pj_vR 26, pj_vI x1, pj_vI x2, pj_vU, pj_vI x4, pj_vI x5, pj_vU, pj_vU, pj_vU] [pj_vI s0] M = some ([], 137, [pj_vR 26, pj_vI x1, pj_vI x2, pj_vU, pj_vI x4, pj_vI x5, pj_vU, pj_vU, pj_vU], [pj_vI 2, pj_vI s0], M) from rfl) trivial ?_
  exact h
theorem pj_C39_91 {L d : Nat} {Q : Option pj_V → pj_M → Prop} {M : pj_M} {x1 x2 x3 x4 x5 x6 : Int}  (h : pj_G L d 39 92 [pj_vR 26, pj_vI x1, pj_vI x2, pj_vI x3, pj_vI x4, pj_vI x5, pj_vI x6, pj_vU, pj_vU] [pj_vI 0] M Q) : pj_G L d 39 91 [pj_vR 26, pj_vI x1, pj_vI x2, pj_vI x3, pj_vI x4, pj_vI x5, pj_vI x6, pj_vU, pj_vU] [] M Q := by
  refine pj_G_s pj_np39 1 (show pj_gs 1 L 39 91 [pj_vR 26, pj_vI x1, pj_vI x2, pj_vI x3, pj_vI x4, pj_vI x5, pj_vI x6, pj_vU, pj_vU] [] M = some ([], 92, [pj_vR 26, pj_vI x1, pj_vI x2, pj_vI x3, pj_vI x4, pj_vI x5, pj_vI x6, pj_vU, pj_vU], [pj_vI 0], M) from rfl) trivial ?_
  exact h
theorem pj_C39_145 {L d : Nat} {Q : Option pj_V → pj_M → Prop} {M : pj_M} {x1 x3 : Int}  (nn : M 26 6 = 27 ∨ M 26 6 = 28) (n27 : M 26 6 = 27 → pj_G L d 39 154 [pj_vU, pj_vI x1, pj_vU, pj_vI x3, pj_vU, pj_vU, pj_vU, pj_vU, pj_vU] [pj_vR 27, pj_vI x1, pj_vR 31] M Q) (n28 : M 26 6 = 28 → pj_G L d 39 154 [pj_vU, pj_vI x1, pj_vU, pj_vI x3, pj_vU, pj_vU, pj_vU, pj_vU, pj_vU] [pj_vR 28, pj_vI x1, pj_vR 31] M Q) : pj_G L d 39 145 [pj_vR 26, pj_vI x1, pj_vU, pj_vI x3, pj_vU, pj_vU, pj_vU, pj_vU, pj_vU] [] M Q := by
  refine pj_G_s pj_np39 4 (show pj_gs 4 L 39 145 [pj_vR 26, pj_vI x1, pj_vU, pj_vI x3, pj_vU, pj_vU, pj_vU, pj_vU, pj_vU] [] M = some ([], 151, [pj_vR 26, pj_vI x1, pj_vU, pj_vI x3, pj_vU, pj_vU, pj_vU, pj_vU, pj_vU], [pj_vR 26, pj_vI x1, pj_vR 31], M) from rfl) trivial ?_
  rcases nn with w | w
  · refine pj_G_n (pc' := 154) (loc' := [pj_vR 26, pj_vI x1, pj_vU, pj_vI x3, pj_vU, pj_vU, pj_vU, pj_vU, pj_vU]) (stk' := [pj_vR 27, pj_vI x1, pj_vR 31]) (M' := M) pj_np39 rfl ?_ (pj_G_loc (pj_lle_u rfl (pj_lle_e (pj_lle_e (pj_lle_e (pj_lle_e (pj_lle_e (pj_lle_e (pj_lle_e (pj_lle_e pj_lle_nil))))))))) (n27 w))
    show (if 0 ≤ M 26 6 then _ else none) = _
    rw [w]
    rfl
  · refine pj_G_n (pc' := 154) (loc' := [pj_vR 26, pj_vI x1, pj_vU, pj_vI x3, pj_vU, pj_vU, pj_vU, pj_vU, pj_vU]) (stk' := [pj_vR 28, pj_vI x1, pj_vR 31]) (M' := M) pj_np39 rfl ?_ (pj_G_loc (pj_lle_u rfl (pj_lle_e (pj_lle_e (pj_lle_e (pj_lle_e (pj_lle_e (pj_lle_e (pj_lle_e (pj_lle_e pj_lle_nil))))))))) (n28 w))
    show (if 0 ≤ M 26 6 then _ else none) = _
    rw [w]
    rfl
theorem pj_C39_154v1 {L d : Nat} {Q : Option pj_V → pj_M → Prop} {M : pj_M} {x1 x3 s1 : Int} (j0 : Nat) (ej0 : x1 = (j0 : Int)) (bj0 : j0 < 3) (h : pj_G L d 17 0 [pj_vR 31, pj_vI s1, pj_vI (M 28 j0), pj_vI x3, pj_vU, pj_vU] [] M (fun r M1 => pj_G L (d + 1) 39 160 [pj_vU, pj_vU, pj_vU, pj_vU, pj_vU, pj_vU, pj_vU, pj_vU, pj_vU] (r.toList ++ []) M1 Q)) : pj_G L (d + 1) 39 154 [pj_vU, pj_vI x1, pj_vU, pj_vI x3, pj_vU, pj_vU, pj_vU, pj_vU, pj_vU] [pj_vR 28, pj_vI s1, pj_vR 31] M Q := by
  have nj0 : pj_nrm x1 = (j0 : Int) := pj_nk ej0 (by omega)
  refine pj_G_s (d := d + 1) pj_np39 3 (show pj_gs 3 L 39 154 [pj_vU, pj_vI x1, pj_vU, pj_vI x3, pj_vU, pj_vU, pj_vU, pj_vU, pj_vU] [pj_vR 28, pj_vI s1, pj_vR 31] M = some ([0 ≤ pj_nrm x1 ∧ pj_nrm x1 < (3 : Int)], 157, [pj_vU, pj_vI x1, pj_vU, pj_vI x3, pj_vU, pj_vU, pj_vU, pj_vU, pj_vU], [pj_vI x3, pj_vI (M 28 (pj_nrm x1).toNat), pj_vI s1, pj_vR 31], M) from rfl) ⟨by omega, trivial⟩ ?_
  simp only [nj0, Int.toNat_natCast]
  exact pj_G_k (j := 17) (vs := [pj_vR 31, pj_vI s1, pj_vI (M 28 j0), pj_vI x3]) (st := []) rfl rfl rfl rfl rfl (Nat.le_of_ble_eq_true rfl) pj_nc17 (pj_G.mono h (fun _ _ hh => pj_G_loc (pj_lle_e (pj_lle_u rfl (pj_lle_e (pj_lle_u rfl (pj_lle_e (pj_lle_e (pj_lle_e (pj_lle_e (pj_lle_e pj_lle_nil))))))))) hh))
theorem pj_C39_160 {L d : Nat} {Q : Option pj_V → pj_M → Prop} {M : pj_M}  (h : Q (none) M) : pj_G L d 39 160 [pj_vU, pj_vU, pj_vU, pj_vU, pj_vU, pj_vU, pj_vU, pj_vU, pj_vU] [] M Q := by
  exact pj_G_r rfl rfl rfl h
theorem pj_C39_154 {L d : Nat} {Q : Option pj_V → pj_M → Prop} {M : pj_M} {x1 x3 s1 : Int} (j0 : Nat) (ej0 : x1 = (j0 : Int)) (bj0 : j0 < 3) (h : pj_G L d 17 0 [pj_vR 31, pj_vI s1, pj_vI (M 27 j0), pj_vI x3, pj_vU, pj_vU] [] M (fun r M1 => pj_G L (d + 1) 39 160 [pj_vU, pj_vU, pj_vU, pj_vU, pj_vU, pj_vU, pj_vU, pj_vU, pj_vU] (r.toList ++ []) M1 Q)) : pj_G L (d + 1) 39 154 [pj_vU, pj_vI x1, pj_vU, pj_vI x3, pj_vU, pj_vU, pj_vU, pj_vU, pj_vU] [pj_vR 27, pj_vI s1, pj_vR 31] M Q := by
  have nj0 : pj_nrm x1 = (j0 : Int) := pj_nk ej0 (by omega)
  refine pj_G_s (d := d + 1) pj_np39 3 (show pj_gs 3 L 39 154 [pj_vU, pj_vI x1, pj_vU, pj_vI x3, pj_vU, pj_vU, pj_vU, pj_vU, pj_vU] [pj_vR 27, pj_vI s1, pj_vR 31] M = some ([0 ≤ pj_nrm x1 ∧ pj_nrm x1 < (3 : Int)], 157, [pj_vU, pj_vI x1, pj_vU, pj_vI x3, pj_vU, pj_vU, pj_vU, pj_vU, pj_vU], [pj_vI x3, pj_vI (M 27 (pj_nrm x1).toNat), pj_vI s1, pj_vR 31], M) from rfl) ⟨by omega, trivial⟩ ?_
  simp only [nj0, Int.toNat_natCast]
  exact pj_G_k (j := 17) (vs := [pj_vR 31, pj_vI s1, pj_vI (M 27 j0), pj_vI x3]) (st := []) rfl rfl rfl rfl rfl (Nat.le_of_ble_eq_true rfl) pj_nc17 (pj_G.mono h (fun _ _ hh => pj_G_loc (pj_lle_e (pj_lle_u rfl (pj_lle_e (pj_lle_u rfl (pj_lle_e (pj_lle_e (pj_lle_e (pj_lle_e (pj_lle_e pj_lle_nil))))))))) hh))
theorem pj_C39_19 {L d : Nat} {Q : Option pj_V → pj_M → Prop} {M : pj_M} {x1 x2 x3 : Int} (j0 : Nat) (ej0 : x1 + 1 = (j0 : Int)) (bj0 : j0 < 3) (h : pj_G L d 39 27 [pj_vR 26, pj_vI x1, pj_vI x2, pj_vI x3, pj_vU, pj_vU, pj_vU, pj_vU, pj_vU] [pj_vI (M 27 j0)] M Q) : pj_G L d 39 19 [pj_vR 26, pj_vI x1, pj_vI x2, pj_vI x3, pj_vU, pj_vU, pj_vU, pj_vU, pj_vU] [pj_vR 27] M Q := by
  have nj0 : pj_nrm (x1 + 1) = (j0 : Int) := pj_nk ej0 (by omega)
  refine pj_G_s pj_np39 5 (show pj_gs 5 L 39 19 [pj_vR 26, pj_vI x1, pj_vI x2, pj_vI x3, pj_vU, pj_vU, pj_vU, pj_vU, pj_vU] [pj_vR 27] M = some ([0 ≤ pj_nrm (x1 + 1) ∧ pj_nrm (x1 + 1) < (3 : Int)], 27, [pj_vR 26, pj_vI x1, pj_vI x2, pj_vI x3, pj_vU, pj_vU, pj_vU, pj_vU, pj_vU], [pj_vI (M 27 (pj_nrm (x1 + 1)).toNat)], M) from rfl) ⟨by omega, trivial⟩ ?_
  simp only [nj0, Int.toNat_natCast]
  exact h
theorem pj_C39_26 {L d : Nat} {Q : Option pj_V → pj_M → Prop} {M : pj_M} {x1 x2 x3 : Int}  (h : pj_G L d 39 27 [pj_vR 26, pj_vI x1, pj_vI x2, pj_vI x3, pj_vU, pj_vU, pj_vU, pj_vU, pj_vU] [pj_vI 0] M Q) : pj_G L d 39 26 [pj_vR 26, pj_vI x1, pj_vI x2, pj_vI x3, pj_vU, pj_vU, pj_vU, pj_vU, pj_vU] [] M Q := by
  refine pj_G_s pj_np39 1 (show pj_gs 1 L 39 26 [pj_vR 26, pj_vI x1, pj_vI x2, pj_vI x3, pj_vU, pj_vU, pj_vU, pj_vU, pj_vU] [] M = some ([], 27, [pj_vR 26, pj_vI x1, pj_vI x2, pj_vI x3, pj_vU, pj_vU, pj_vU, pj_vU, pj_vU], [pj_vI 0], M) from rfl) trivial ?_
  exact h
theorem pj_C40_0 {L d : Nat} {Q : Option pj_V → pj_M → Prop} {M : pj_M}  (h : pj_G L d 40 10 [pj_vR 26, pj_vI ((M 2 1) - 1), pj_vU] [] M Q) : pj_G L d 40 0 [pj_vR 26, pj_vU, pj_vU] [] M Q := by
  refine pj_G_s pj_np40 6 (show pj_gs 6 L 40 0 [pj_vR 26, pj_vU, pj_vU] [] M = some ([], 10, [pj_vR 26, pj_vI ((M 2 1) - 1), pj_vU], [], M) from rfl) trivial ?_
  exact h
theorem pj_C40_10 {L d : Nat} {Q : Option pj_V → pj_M → Prop} {M : pj_M} {x1 : Int} (r0 : -2147483648 ≤ x1 ∧ x1 < 2147483648) (h1 : x1 < 0 → pj_G L d 40 84 [pj_vR 26, pj_vU, pj_vU] [] M Q) (h2 : 0 ≤ x1 → pj_G L d 40 14 [pj_vR 26, pj_vI x1, pj_vU] [] M Q) : pj_G L d 40 10 [pj_vR 26, pj_vI x1, pj_vU] [] M Q := by
  refine pj_G_s pj_np40 1 (show pj_gs 1 L 40 10 [pj_vR 26, pj_vI x1, pj_vU] [] M = some ([], 11, [pj_vR 26, pj_vI x1, pj_vU], [pj_vI x1], M) from rfl) trivial ?_
  exact pj_G_if0 (t := 84) rfl rfl (fun z => pj_G_loc (pj_lle_e (pj_lle_u rfl (pj_lle_e pj_lle_nil))) (h1 (pj_ct_lt (pj_nrm_id r0.1 r0.2) rfl z))) (fun z => h2 (pj_cf_lt (pj_nrm_id r0.1 r0.2) rfl z))
theorem pj_C40_14 {L d : Nat} {Q : Option pj_V → pj_M → Prop} {M : pj_M} {x1 : Int}  (h : pj_G L d 40 16 [pj_vR 26, pj_vI x1, pj_vI 0] [] M Q) : pj_G L d 40 14 [pj_vR 26, pj_vI x1, pj_vU] [] M Q := by
  refine pj_G_s pj_np40 2 (show pj_gs 2 L 40 14 [pj_vR 26, pj_vI x1, pj_vU] [] M = some ([], 16, [pj_vR 26, pj_vI x1, pj_vI 0], [], M) from rfl) trivial ?_
  exact h
theorem pj_C40_16 {L d : Nat} {Q : Option pj_V → pj_M → Prop} {M : pj_M} {x1 x2 : Int} (r0 : -2147483648 ≤ x2 ∧ x2 < 2147483648) (h1 : (9 : Int) ≤ x2 → pj_G L d 40 78 [pj_vR 26, pj_vI x1, pj_vU] [] M Q) (h2 : x2 < (9 : Int) → pj_G L d 40 22 [pj_vR 26, pj_vI x1, pj_vI x2] [] M Q) : pj_G L d 40 16 [pj_vR 26, pj_vI x1, pj_vI x2] [] M Q := by
  refine pj_G_s pj_np40 2 (show pj_gs 2 L 40 16 [pj_vR 26, pj_vI x1, pj_vI x2] [] M = some ([], 19, [pj_vR 26, pj_vI x1, pj_vI x2], [pj_vI 9, pj_vI x2], M) from rfl) trivial ?_
  exact pj_G_if (t := 78) rfl rfl (fun z => pj_G_loc (pj_lle_e (pj_lle_e (pj_lle_u rfl pj_lle_nil))) (h1 (pj_ct_ge (pj_nrm_id r0.1 r0.2) (pj_nrm_id (by omega) (by omega)) z))) (fun z => h2 (pj_cf_ge (pj_nrm_id r0.1 r0.2) (pj_nrm_id (by omega) (by omega)) z))
theorem pj_C40_22 {L d : Nat} {Q : Option pj_V → pj_M → Prop} {M : pj_M} {x1 x2 : Int} (j0 j1 : Nat) (ej0 : x1 = (j0 : Int)) (bj0 : j0 < 4) (ej1 : x2 = (j1 : Int)) (bj1 : j1 < 32) (h1 : pj_bt (M 29 j0) j1 = false → pj_G L d 40 72 [pj_vR 26, pj_vI x1, pj_vI x2] [] M Q) (h2 : pj_bt (M 29 j0) j1 = true → pj_G L d 40 35 [pj_vR 26, pj_vI x1, pj_vI x2] [] M Q) : pj_G L d 40 22 [pj_vR 26, pj_vI x1, pj_vI x2] [] M Q := by
  have nj0 : pj_nrm x1 = (j0 : Int) := pj_nk ej0 (by omega)
  have nj1 : pj_nrm x2 = (j1 : Int) := pj_nk ej1 (by omega)
  refine pj_G_s pj_np40 8 (show pj_gs 8 L 40 22 [pj_vR 26, pj_vI x1, pj_vI x2] [] M = some ([0 ≤ pj_nrm x1 ∧ pj_nrm x1 < (4 : Int)], 32, [pj_vR 26, pj_vI x1, pj_vI x2], [pj_vI (pj_and (pj_shr (M 29 (pj_nrm x1).toNat) x2) 1)], M) from rfl) ⟨by omega, trivial⟩ ?_
  simp only [nj0, nj1, Int.toNat_natCast]
  exact pj_G_if0 (t := 72) rfl rfl (fun z => h1 (pj_ieq0 (pj_ct_eq (pj_tst ej1 (by omega)) rfl z))) (fun z => h2 (pj_ine0 (pj_cf_eq (pj_tst ej1 (by omega)) rfl z)))
theorem pj_C40_35 {L d : Nat} {Q : Option pj_V → pj_M → Prop} {M : pj_M} {x1 x2 : Int} (j0 j1 : Nat) (ej0 : (x1 * 9) + x2 = (j0 : Int)) (bj0 : j0 < 27) (ej1 : x1 + 1 = (j1 : Int)) (bj1 : j1 < 4) (h1 : pj_and (M 30 j0) (M 29 j1) ≠ 0 → pj_G L d 40 72 [pj_vR 26, pj_vI x1, pj_vI x2] [] M Q) (h2 : pj_and (M 30 j0) (M 29 j1) = 0 → pj_G L d 40 58 [pj_vR 26, pj_vI x1, pj_vI x2] [] M Q) : pj_G L d 40 35 [pj_vR 26, pj_vI x1, pj_vI x2] [] M Q := by
  have nj0 : pj_nrm ((x1 * 9) + x2) = (j0 : Int) := pj_nk ej0 (by omega)
  have nj1 : pj_nrm (x1 + 1) = (j1 : Int) := pj_nk ej1 (by omega)
  refine pj_G_s pj_np40 15 (show pj_gs 15 L 40 35 [pj_vR 26, pj_vI x1, pj_vI x2] [] M = some ([0 ≤ pj_nrm ((x1 * 9) + x2) ∧ pj_nrm ((x1 * 9) + x2) < (27 : Int), 0 ≤ pj_nrm (x1 + 1) ∧ pj_nrm (x1 + 1) < (4 : Int)], 55, [pj_vR 26, pj_vI x1, pj_vI x2], [pj_vI (pj_and (M 30 (pj_nrm ((x1 * 9) + x2)).toNat) (M 29 (pj_nrm (x1 + 1)).toNat))], M) from rfl) ⟨by omega, by omega, trivial⟩ ?_
  simp only [nj0, nj1, Int.toNat_natCast]
  exact pj_G_if0 (t := 72) rfl rfl (fun z => h1 (pj_ct_ne (pj_nrm_op _) rfl z)) (fun z => h2 (pj_cf_ne (pj_nrm_op _) rfl z))
theorem pj_C40_58 {L d : Nat} {Q : Option pj_V → pj_M → Prop} {M : pj_M} {x1 x2 : Int} (j0 : Nat) (ej0 : x1 = (j0 : Int)) (bj0 : j0 < 4) (h : pj_G L d 40 72 [pj_vR 26, pj_vI x1, pj_vI x2] [] (pj_up M 29 j0 (pj_and (M 29 j0) (pj_xor (pj_shl 1 x2) ((-1))))) Q) : pj_G L d 40 58 [pj_vR 26, pj_vI x1, pj_vI x2] [] M Q := by
  have nj0 : pj_nrm x1 = (j0 : Int) := pj_nk ej0 (by omega)
  refine pj_G_s pj_np40 12 (show pj_gs 12 L 40 58 [pj_vR 26, pj_vI x1, pj_vI x2] [] M = some ([0 ≤ pj_nrm x1 ∧ pj_nrm x1 < (4 : Int), 0 ≤ pj_nrm x1 ∧ pj_nrm x1 < (4 : Int)], 72, [pj_vR 26, pj_vI x1, pj_vI x2], [], pj_up M 29 (pj_nrm x1).toNat (pj_and (M 29 (pj_nrm x1).toNat) (pj_xor (pj_shl 1 x2) ((-1))))) from rfl) ⟨by omega, by omega, trivial⟩ ?_
  simp only [nj0, Int.toNat_natCast]
  exact h
theorem pj_C40_72 {L d : Nat} {Q : Option pj_V → pj_M → Prop} {M : pj_M} {x1 x2 : Int}  (h : pj_G L d 40 16 [pj_vR 26, pj_vI x1, pj_vI (x2 + 1)] [] M Q) : pj_G L d 40 72 [pj_vR 26, pj_vI x1, pj_vI x2] [] M Q := by
  refine pj_G_s pj_np40 2 (show pj_gs 2 L 40 72 [pj_vR 26, pj_vI x1, pj_vI x2] [] M = some ([], 16, [pj_vR 26, pj_vI x1, pj_vI (x2 + 1)], [], M) from rfl) trivial ?_
  exact h
theorem pj_C40_78 {L d : Nat} {Q : Option pj_V → pj_M → Prop} {M : pj_M} {x1 : Int}  (h : pj_G L d 40 10 [pj_vR 26, pj_vI (x1 + ((-1))), pj_vU] [] M Q) : pj_G L d 40 78 [pj_vR 26, pj_vI x1, pj_vU] [] M Q := by
  refine pj_G_s pj_np40 2 (show pj_gs 2 L 40 78 [pj_vR 26, pj_vI x1, pj_vU] [] M = some ([], 10, [pj_vR 26, pj_vI (x1 + ((-1))), pj_vU], [], M) from rfl) trivial ?_
  exact h
theorem pj_C40_84 {L d : Nat} {Q : Option pj_V → pj_M → Prop} {M : pj_M}  (h : pj_G L d 40 94 [pj_vR 26, pj_vI 0, pj_vU] [] (pj_up M 31 7 1) Q) : pj_G L d 40 84 [pj_vR 26, pj_vU, pj_vU] [] M Q := by
  refine pj_G_s pj_np40 6 (show pj_gs 6 L 40 84 [pj_vR 26, pj_vU, pj_vU] [] M = some ([(1 : Int) = 0 ∨ (1 : Int) = 1], 94, [pj_vR 26, pj_vI 0, pj_vU], [], pj_up M 31 7 1) from rfl) ⟨by decide, trivial⟩ ?_
  exact h
theorem pj_C40_94 {L d : Nat} {Q : Option pj_V → pj_M → Prop} {M : pj_M} {x1 : Int} (r0 : -2147483648 ≤ x1 ∧ x1 < 2147483648) (r1 : -2147483648 ≤ M 2 1 ∧ M 2 1 < 2147483648) (h1 : M 2 1 ≤ x1 → pj_G L d 40 181 [pj_vR 26, pj_vU, pj_vU] [] M Q) (h2 : x1 < M 2 1 → pj_G L d 40 105 [pj_vR 26, pj_vI x1, pj_vU] [] M Q) : pj_G L d 40 94 [pj_vR 26, pj_vI x1, pj_vU] [] M Q := by
  refine pj_G_s pj_np40 4 (show pj_gs 4 L 40 94 [pj_vR 26, pj_vI x1, pj_vU] [] M = some ([], 102, [pj_vR 26, pj_vI x1, pj_vU], [pj_vI (M 2 1), pj_vI x1], M) from rfl) trivial ?_
  exact pj_G_if (t := 181) rfl rfl (fun z => pj_G_loc (pj_lle_e (pj_lle_u rfl (pj_lle_e pj_lle_nil))) (h1 (pj_ct_ge (pj_nrm_id r0.1 r0.2) (pj_nrm_id r1.1 r1.2) z))) (fun z => h2 (pj_cf_ge (pj_nrm_id r0.1 r0.2) (pj_nrm_id r1.1 r1.2) z))
theorem pj_C40_105 {L d : Nat} {Q : Option pj_V → pj_M → Prop} {M : pj_M} {x1 : Int}  (h : pj_G L d 39 0 [pj_vR 26, pj_vI x1, pj_vI (M 7 0), pj_vU, pj_vU, pj_vU, pj_vU, pj_vU, pj_vU] [] M (fun r M1 => pj_G L (d + 1) 40 117 [pj_vR 26, pj_vI x1, pj_vU] (r.toList ++ []) M1 Q)) : pj_G L (d + 1) 40 105 [pj_vR 26, pj_vI x1, pj_vU] [] M Q := by
  refine pj_G_s (d := d + 1) pj_np40 5 (show pj_gs 5 L 40 105 [pj_vR 26, pj_vI x1, pj_vU] [] M = some ([], 114, [pj_vR 26, pj_vI x1, pj_vU], [pj_vI (M 7 0), pj_vI x1, pj_vR 26], M) from rfl) trivial ?_
  exact pj_G_k (j := 39) (vs := [pj_vR 26, pj_vI x1, pj_vI (M 7 0)]) (st := []) rfl rfl rfl rfl rfl (Nat.le_of_ble_eq_true rfl) pj_nc39 h
theorem pj_C40_117 {L d : Nat} {Q : Option pj_V → pj_M → Prop} {M : pj_M} {x1 : Int} (j0 : Nat) (ej0 : x1 + 1 = (j0 : Int)) (bj0 : j0 < 4) (h : pj_G L d 40 134 [pj_vR 26, pj_vI x1, pj_vI 0] [] (pj_up M 31 8 (M 29 j0)) Q) : pj_G L d 40 117 [pj_vR 26, pj_vI x1, pj_vU] [] M Q := by
  have nj0 : pj_nrm (x1 + 1) = (j0 : Int) := pj_nk ej0 (by omega)
  refine pj_G_s pj_np40 11 (show pj_gs 11 L 40 117 [pj_vR 26, pj_vI x1, pj_vU] [] M = some ([0 ≤ pj_nrm (x1 + 1) ∧ pj_nrm (x1 + 1) < (4 : Int)], 134, [pj_vR 26, pj_vI x1, pj_vI 0], [], pj_up M 31 8 (M 29 (pj_nrm (x1 + 1)).toNat)) from rfl) ⟨by omega, trivial⟩ ?_
  simp only [nj0, Int.toNat_natCast]
  exact h
theorem pj_C40_134 {L d : Nat} {Q : Option pj_V → pj_M → Prop} {M : pj_M} {x1 x2 : Int} (r0 : -2147483648 ≤ x2 ∧ x2 < 2147483648) (h1 : (9 : Int) ≤ x2 → pj_G L d 40 175 [pj_vR 26, pj_vI x1, pj_vU] [] M Q) (h2 : x2 < (9 : Int) → pj_G L d 40 140 [pj_vR 26, pj_vI x1, pj_vI x2] [] M Q) : pj_G L d 40 134 [pj_vR 26, pj_vI x1, pj_vI x2] [] M Q := by
  refine pj_G_s pj_np40 2 (show pj_gs 2 L 40 134 [pj_vR 26, pj_vI x1, pj_vI x2] [] M = some ([], 137, [pj_vR 26, pj_vI x1, pj_vI x2], [pj_vI 9, pj_vI x2], M) from rfl) trivial ?_
  exact pj_G_if (t := 175) rfl rfl (fun z => pj_G_loc (pj_lle_e (pj_lle_e (pj_lle_u rfl pj_lle_nil))) (h1 (pj_ct_ge (pj_nrm_id r0.1 r0.2) (pj_nrm_id (by omega) (by omega)) z))) (fun z => h2 (pj_cf_ge (pj_nrm_id r0.1 r0.2) (pj_nrm_id (by omega) (by omega)) z))
theorem pj_C40_140 {L d : Nat} {Q : Option pj_V → pj_M → Prop} {M : pj_M} {x1 x2 : Int} (j0 j1 : Nat) (ej0 : x1 = (j0 : Int)) (bj0 : j0 < 4) (ej1 : x2 = (j1 : Int)) (bj1 : j1 < 32) (h1 : pj_bt (M 29 j0) j1 = false → pj_G L d 40 169 [pj_vR 26, pj_vI x1, pj_vI x2] [] M Q) (h2 : pj_bt (M 29 j0) j1 = true → pj_G L d 40 153 [pj_vR 26, pj_vI x1, pj_vI x2] [] M Q) : pj_G L d 40 140 [pj_vR 26, pj_vI x1, pj_vI x2] [] M Q := by
  have nj0 : pj_nrm x1 = (j0 : Int) := pj_nk ej0 (by omega)
  have nj1 : pj_nrm x2 = (j1 : Int) := pj_nk ej1 (by omega)
  refine pj_G_s pj_np40 8 (show pj_gs 8 L 40 140 [pj_vR 26, pj_vI x1, pj_vI x2] [] M = some ([0 ≤ pj_nrm x1 ∧ pj_nrm x1 < (4 : Int)], 150, [pj_vR 26, pj_vI x1, pj_vI x2], [pj_vI (pj_and (pj_shr (M 29 (pj_nrm x1).toNat) x2) 1)], M) from rfl) ⟨by omega, trivial⟩ ?_
  simp only [nj0, nj1, Int.toNat_natCast]
  exact pj_G_if0 (t := 169) rfl rfl (fun z => h1 (pj_ieq0 (pj_ct_eq (pj_tst ej1 (by omega)) rfl z))) (fun z => h2 (pj_ine0 (pj_cf_eq (pj_tst ej1 (by omega)) rfl z)))
theorem pj_C40_153 {L d : Nat} {Q : Option pj_V → pj_M → Prop} {M : pj_M} {x1 x2 : Int}  (h : pj_G L d 19 0 [pj_vR 31, pj_vI x2, pj_vI (M 7 0)] [] M (fun r M1 => pj_G L (d + 1) 40 168 [pj_vR 26, pj_vI x1, pj_vI x2] (r.toList ++ []) M1 Q)) : pj_G L (d + 1) 40 153 [pj_vR 26, pj_vI x1, pj_vI x2] [] M Q := by
  refine pj_G_s (d := d + 1) pj_np40 6 (show pj_gs 6 L 40 153 [pj_vR 26, pj_vI x1, pj_vI x2] [] M = some ([], 165, [pj_vR 26, pj_vI x1, pj_vI x2], [pj_vI (M 7 0), pj_vI x2, pj_vR 31], M) from rfl) trivial ?_
  exact pj_G_k (j := 19) (vs := [pj_vR 31, pj_vI x2, pj_vI (M 7 0)]) (st := []) rfl rfl rfl rfl rfl (Nat.le_of_ble_eq_true rfl) pj_nc19 h
theorem pj_C40_168 {L d : Nat} {Q : Option pj_V → pj_M → Prop} {M : pj_M} {x1 x2 s0 : Int}  (h : pj_G L d 40 169 [pj_vR 26, pj_vI x1, pj_vI x2] [] M Q) : pj_G L d 40 168 [pj_vR 26, pj_vI x1, pj_vI x2] [pj_vI s0] M Q := by
  refine pj_G_s pj_np40 1 (show pj_gs 1 L 40 168 [pj_vR 26, pj_vI x1, pj_vI x2] [pj_vI s0] M = some ([], 169, [pj_vR 26, pj_vI x1, pj_vI x2], [], M) from rfl) trivial ?_
  exact h
theorem pj_C40_169 {L d : Nat} {Q : Option pj_V → pj_M → Prop} {M : pj_M} {x1 x2 : Int}  (h : pj_G L d 40 134 [pj_vR 26, pj_vI x1, pj_vI (x2 + 1)] [] M Q) : pj_G L d 40 169 [pj_vR 26, pj_vI x1, pj_vI x2] [] M Q := by
  refine pj_G_s pj_np40 2 (show pj_gs 2 L 40 169 [pj_vR 26, pj_vI x1, pj_vI x2] [] M = some ([], 134, [pj_vR 26, pj_vI x1, pj_vI (x2 + 1)], [], M) from rfl) trivial ?_
  exact h
theorem pj_C40_175 {L d : Nat} {Q : Option pj_V → pj_M → Prop} {M : pj_M} {x1 : Int}  (h : pj_G L d 40 94 [pj_vR 26, pj_vI (x1 + 1), pj_vU] [] M Q) : pj_G L d 40 175 [pj_vR 26, pj_vI x1, pj_vU] [] M Q := by
  refine pj_G_s pj_np40 2 (show pj_gs 2 L 40 175 [pj_vR 26, pj_vI x1, pj_vU] [] M = some ([], 94, [pj_vR 26, pj_vI (x1 + 1), pj_vU], [], M) from rfl) trivial ?_
  exact h
theorem pj_C40_181 {L d : Nat} {Q : Option pj_V → pj_M → Prop} {M : pj_M}  (h : Q (none) (pj_up M 31 7 0)) : pj_G L d 40 181 [pj_vR 26, pj_vU, pj_vU] [] M Q := by
  refine pj_G_s pj_np40 4 (show pj_gs 4 L 40 181 [pj_vR 26, pj_vU, pj_vU] [] M = some ([(0 : Int) = 0 ∨ (0 : Int) = 1], 189, [pj_vR 26, pj_vU, pj_vU], [], pj_up M 31 7 0) from rfl) ⟨by decide, trivial⟩ ?_
  exact pj_G_r rfl rfl rfl h
