theorem pj_C111_58 {L d : Nat} {Q : Option pj_V → pj_M → Prop} {M : pj_M} {x1 x2 x3 s0 s1 : Int} (r0 : -2147483648 ≤ x3 ∧ x3 < 2147483648) (h1 : x3 ≠ 0 → pj_G L d 111 73 [pj_vR 38, pj_vI x1, pj_vI x2, pj_vI x3, pj_vU, pj_vI (s0 + s1), pj_vU] [] M Q) (h2 : x3 = 0 → pj_G L d 111 65 [pj_vR 38, pj_vI x1, pj_vI x2, pj_vI x3, pj_vU, pj_vI (s0 + s1), pj_vU] [] M Q) : pj_G L d 111 58 [pj_vR 38, pj_vI x1, pj_vI x2, pj_vI x3, pj_vU, pj_vU, pj_vU] [pj_vI s1, pj_vI s0] M Q := by
  refine pj_G_s pj_np111 3 (show pj_gs 3 L 111 58 [pj_vR 38, pj_vI x1, pj_vI x2, pj_vI x3, pj_vU, pj_vU, pj_vU] [pj_vI s1, pj_vI s0] M = some ([], 62, [pj_vR 38, pj_vI x1, pj_vI x2, pj_vI x3, pj_vU, pj_vI (s0 + s1), pj_vU], [pj_vI x3], M) from rfl) trivial ?_
  exact pj_G_if0 (t := 73) rfl rfl (fun z => h1 (pj_ct_ne (pj_nrm_id r0.1 r0.2) rfl z)) (fun z => h2 (pj_cf_ne (pj_nrm_id r0.1 r0.2) rfl z))
theorem pj_C111_65 {L d : Nat} {Q : Option pj_V → pj_M → Prop} {M : pj_M} {x1 x2 x3 x5 : Int} (j0 : Nat) (ej0 : x5 = (j0 : Int)) (bj0 : j0 < 324) (h : pj_G L d 111 73 [pj_vR 38, pj_vI x1, pj_vI x2, pj_vI x3, pj_vU, pj_vI x5, pj_vU] [] (pj_up M 61 j0 1) Q) : pj_G L d 111 65 [pj_vR 38, pj_vI x1, pj_vI x2, pj_vI x3, pj_vU, pj_vI x5, pj_vU] [] M Q := by
  have nj0 : pj_nrm x5 = (j0 : Int) := pj_nk ej0 (by omega)
  refine pj_G_s pj_np111 5 (show pj_gs 5 L 111 65 [pj_vR 38, pj_vI x1, pj_vI x2, pj_vI x3, pj_vU, pj_vI x5, pj_vU] [] M = some ([(1 : Int) = 0 ∨ (1 : Int) = 1, 0 ≤ pj_nrm x5 ∧ pj_nrm x5 < (324 : Int)], 73, [pj_vR 38, pj_vI x1, pj_vI x2, pj_vI x3, pj_vU, pj_vI x5, pj_vU], [], pj_up M 61 (pj_nrm x5).toNat 1) from rfl) ⟨by decide, by omega, trivial⟩ ?_
  simp only [nj0, Int.toNat_natCast]
  exact h
theorem pj_C111_73 {L d : Nat} {Q : Option pj_V → pj_M → Prop} {M : pj_M} {x1 x2 x3 x5 : Int} (r0 : -2147483648 ≤ x3 ∧ x3 < 2147483648) (h1 : x3 ≠ (1 : Int) → pj_G L d 111 100 [pj_vR 38, pj_vI x1, pj_vI x2, pj_vI x3, pj_vU, pj_vI x5, pj_vU] [] M Q) (h2 : x3 = (1 : Int) → pj_G L d 111 78 [pj_vR 38, pj_vI x1, pj_vI x2, pj_vI x3, pj_vU, pj_vI x5, pj_vU] [] M Q) : pj_G L d 111 73 [pj_vR 38, pj_vI x1, pj_vI x2, pj_vI x3, pj_vU, pj_vI x5, pj_vU] [] M Q := by
  refine pj_G_s pj_np111 2 (show pj_gs 2 L 111 73 [pj_vR 38, pj_vI x1, pj_vI x2, pj_vI x3, pj_vU, pj_vI x5, pj_vU] [] M = some ([], 75, [pj_vR 38, pj_vI x1, pj_vI x2, pj_vI x3, pj_vU, pj_vI x5, pj_vU], [pj_vI 1, pj_vI x3], M) from rfl) trivial ?_
  exact pj_G_if (t := 100) rfl rfl (fun z => h1 (pj_ct_ne (pj_nrm_id r0.1 r0.2) (pj_nrm_id (by omega) (by omega)) z)) (fun z => h2 (pj_cf_ne (pj_nrm_id r0.1 r0.2) (pj_nrm_id (by omega) (by omega)) z))
theorem pj_C111_78 {L d : Nat} {Q : Option pj_V → pj_M → Prop} {M : pj_M} {x1 x2 x3 x5 : Int} (j0 : Nat) (ej0 : x5 = (j0 : Int)) (bj0 : j0 < 324) (r0 : -2147483648 ≤ M 62 j0 ∧ M 62 j0 < 2147483648) (h1 : M 62 j0 = 0 → pj_G L d 111 100 [pj_vR 38, pj_vI x1, pj_vI x2, pj_vI x3, pj_vU, pj_vI x5, pj_vU] [] M Q) (h2 : M 62 j0 ≠ 0 → pj_G L d 111 88 [pj_vR 38, pj_vI x1, pj_vI x2, pj_vI x3, pj_vU, pj_vI x5, pj_vU] [] M Q) : pj_G L d 111 78 [pj_vR 38, pj_vI x1, pj_vI x2, pj_vI x3, pj_vU, pj_vI x5, pj_vU] [] M Q := by
  have nj0 : pj_nrm x5 = (j0 : Int) := pj_nk ej0 (by omega)
  refine pj_G_s pj_np111 4 (show pj_gs 4 L 111 78 [pj_vR 38, pj_vI x1, pj_vI x2, pj_vI x3, pj_vU, pj_vI x5, pj_vU] [] M = some ([0 ≤ pj_nrm x5 ∧ pj_nrm x5 < (324 : Int)], 85, [pj_vR 38, pj_vI x1, pj_vI x2, pj_vI x3, pj_vU, pj_vI x5, pj_vU], [pj_vI (M 62 (pj_nrm x5).toNat)], M) from rfl) ⟨by omega, trivial⟩ ?_
  simp only [nj0, Int.toNat_natCast]
  exact pj_G_if0 (t := 100) rfl rfl (fun z => h1 (pj_ct_eq (pj_nrm_id r0.1 r0.2) rfl z)) (fun z => h2 (pj_cf_eq (pj_nrm_id r0.1 r0.2) rfl z))
theorem pj_C111_88 {L d : Nat} {Q : Option pj_V → pj_M → Prop} {M : pj_M} {x1 x2 x3 x5 : Int} (j0 : Nat) (ej0 : (81 * x1) + x2 = (j0 : Int)) (bj0 : j0 < 324) (h : pj_G L d 111 100 [pj_vR 38, pj_vI x1, pj_vI x2, pj_vI x3, pj_vU, pj_vI x5, pj_vU] [] (pj_up M 62 j0 1) Q) : pj_G L d 111 88 [pj_vR 38, pj_vI x1, pj_vI x2, pj_vI x3, pj_vU, pj_vI x5, pj_vU] [] M Q := by
  have nj0 : pj_nrm ((81 * x1) + x2) = (j0 : Int) := pj_nk ej0 (by omega)
  refine pj_G_s pj_np111 9 (show pj_gs 9 L 111 88 [pj_vR 38, pj_vI x1, pj_vI x2, pj_vI x3, pj_vU, pj_vI x5, pj_vU] [] M = some ([(1 : Int) = 0 ∨ (1 : Int) = 1, 0 ≤ pj_nrm ((81 * x1) + x2) ∧ pj_nrm ((81 * x1) + x2) < (324 : Int)], 100, [pj_vR 38, pj_vI x1, pj_vI x2, pj_vI x3, pj_vU, pj_vI x5, pj_vU], [], pj_up M 62 (pj_nrm ((81 * x1) + x2)).toNat 1) from rfl) ⟨by decide, by omega, trivial⟩ ?_
  simp only [nj0, Int.toNat_natCast]
  exact h
theorem pj_C111_100 {L d : Nat} {Q : Option pj_V → pj_M → Prop} {M : pj_M} {x1 x2 x3 x5 : Int}  (h : pj_G L d 111 103 [pj_vR 38, pj_vI x1, pj_vI x2, pj_vI x3, pj_vU, pj_vI x5, pj_vI 0] [] M Q) : pj_G L d 111 100 [pj_vR 38, pj_vI x1, pj_vI x2, pj_vI x3, pj_vU, pj_vI x5, pj_vU] [] M Q := by
  refine pj_G_s pj_np111 2 (show pj_gs 2 L 111 100 [pj_vR 38, pj_vI x1, pj_vI x2, pj_vI x3, pj_vU, pj_vI x5, pj_vU] [] M = some ([], 103, [pj_vR 38, pj_vI x1, pj_vI x2, pj_vI x3, pj_vU, pj_vI x5, pj_vI 0], [], M) from rfl) trivial ?_
  exact h
theorem pj_C111_103 {L d : Nat} {Q : Option pj_V → pj_M → Prop} {M : pj_M} {x1 x2 x3 x5 x6 : Int} (r0 : -2147483648 ≤ x6 ∧ x6 < 2147483648) (r1 : -2147483648 ≤ M 38 17 ∧ M 38 17 < 2147483648) (h1 : M 38 17 ≤ x6 → pj_G L d 111 157 [pj_vR 38, pj_vI x1, pj_vI x2, pj_vI x3, pj_vU, pj_vU, pj_vU] [] M Q) (h2 : x6 < M 38 17 → pj_G L d 111 112 [pj_vR 38, pj_vI x1, pj_vI x2, pj_vI x3, pj_vU, pj_vI x5, pj_vI x6] [] M Q) : pj_G L d 111 103 [pj_vR 38, pj_vI x1, pj_vI x2, pj_vI x3, pj_vU, pj_vI x5, pj_vI x6] [] M Q := by
  refine pj_G_s pj_np111 3 (show pj_gs 3 L 111 103 [pj_vR 38, pj_vI x1, pj_vI x2, pj_vI x3, pj_vU, pj_vI x5, pj_vI x6] [] M = some ([], 109, [pj_vR 38, pj_vI x1, pj_vI x2, pj_vI x3, pj_vU, pj_vI x5, pj_vI x6], [pj_vI (M 38 17), pj_vI x6], M) from rfl) trivial ?_
  exact pj_G_if (t := 157) rfl rfl (fun z => pj_G_loc (pj_lle_e (pj_lle_e (pj_lle_e (pj_lle_e (pj_lle_e (pj_lle_u rfl (pj_lle_u rfl pj_lle_nil))))))) (h1 (pj_ct_ge (pj_nrm_id r0.1 r0.2) (pj_nrm_id r1.1 r1.2) z))) (fun z => h2 (pj_cf_ge (pj_nrm_id r0.1 r0.2) (pj_nrm_id r1.1 r1.2) z))
theorem pj_C111_112 {L d : Nat} {Q : Option pj_V → pj_M → Prop} {M : pj_M} {x1 x2 x3 x5 x6 : Int} (r0 : -2147483648 ≤ x3 ∧ x3 < 2147483648) (h1 : x3 ≠ (2 : Int) → pj_G L d 111 157 [pj_vR 38, pj_vI x1, pj_vI x2, pj_vI x3, pj_vU, pj_vU, pj_vU] [] M Q) (h2 : x3 = (2 : Int) → pj_G L d 111 117 [pj_vR 38, pj_vI x1, pj_vI x2, pj_vI x3, pj_vU, pj_vI x5, pj_vI x6] [] M Q) : pj_G L d 111 112 [pj_vR 38, pj_vI x1, pj_vI x2, pj_vI x3, pj_vU, pj_vI x5, pj_vI x6] [] M Q := by
  refine pj_G_s pj_np111 2 (show pj_gs 2 L 111 112 [pj_vR 38, pj_vI x1, pj_vI x2, pj_vI x3, pj_vU, pj_vI x5, pj_vI x6] [] M = some ([], 114, [pj_vR 38, pj_vI x1, pj_vI x2, pj_vI x3, pj_vU, pj_vI x5, pj_vI x6], [pj_vI 2, pj_vI x3], M) from rfl) trivial ?_
  exact pj_G_if (t := 157) rfl rfl (fun z => pj_G_loc (pj_lle_e (pj_lle_e (pj_lle_e (pj_lle_e (pj_lle_e (pj_lle_u rfl (pj_lle_u rfl pj_lle_nil))))))) (h1 (pj_ct_ne (pj_nrm_id r0.1 r0.2) (pj_nrm_id (by omega) (by omega)) z))) (fun z => h2 (pj_cf_ne (pj_nrm_id r0.1 r0.2) (pj_nrm_id (by omega) (by omega)) z))
theorem pj_C111_117 {L d : Nat} {Q : Option pj_V → pj_M → Prop} {M : pj_M} {x1 x2 x3 x5 x6 : Int} (j0 : Nat) (ej0 : x5 = (j0 : Int)) (bj0 : j0 < 324) (r0 : -2147483648 ≤ M 62 j0 ∧ M 62 j0 < 2147483648) (h1 : M 62 j0 = 0 → pj_G L d 111 157 [pj_vR 38, pj_vI x1, pj_vI x2, pj_vI x3, pj_vU, pj_vU, pj_vU] [] M Q) (h2 : M 62 j0 ≠ 0 → pj_G L d 111 127 [pj_vR 38, pj_vI x1, pj_vI x2, pj_vI x3, pj_vU, pj_vI x5, pj_vI x6] [] M Q) : pj_G L d 111 117 [pj_vR 38, pj_vI x1, pj_vI x2, pj_vI x3, pj_vU, pj_vI x5, pj_vI x6] [] M Q := by
  have nj0 : pj_nrm x5 = (j0 : Int) := pj_nk ej0 (by omega)
  refine pj_G_s pj_np111 4 (show pj_gs 4 L 111 117 [pj_vR 38, pj_vI x1, pj_vI x2, pj_vI x3, pj_vU, pj_vI x5, pj_vI x6] [] M = some ([0 ≤ pj_nrm x5 ∧ pj_nrm x5 < (324 : Int)], 124, [pj_vR 38, pj_vI x1, pj_vI x2, pj_vI x3, pj_vU, pj_vI x5, pj_vI x6], [pj_vI (M 62 (pj_nrm x5).toNat)], M) from rfl) ⟨by omega, trivial⟩ ?_
  simp only [nj0, Int.toNat_natCast]
  exact pj_G_if0 (t := 157) rfl rfl (fun z => pj_G_loc (pj_lle_e (pj_lle_e (pj_lle_e (pj_lle_e (pj_lle_e (pj_lle_u rfl (pj_lle_u rfl pj_lle_nil))))))) (h1 (pj_ct_eq (pj_nrm_id r0.1 r0.2) rfl z))) (fun z => h2 (pj_cf_eq (pj_nrm_id r0.1 r0.2) rfl z))
theorem pj_C111_127 {L d : Nat} {Q : Option pj_V → pj_M → Prop} {M : pj_M} {x1 x2 x3 x5 x6 : Int} (j0 j1 : Nat) (ej0 : (14 * x1) + x6 = (j0 : Int)) (bj0 : j0 < 42) (ej1 : x6 = (j1 : Int)) (bj1 : j1 < 14) (h : pj_G L d 111 103 [pj_vR 38, pj_vI x1, pj_vI x2, pj_vI x3, pj_vU, pj_vI x5, pj_vI (x6 + 1)] [] (pj_up M 63 j0 (pj_or (M 63 j0) (pj_shl 1 (M 59 j1)))) Q) : pj_G L d 111 127 [pj_vR 38, pj_vI x1, pj_vI x2, pj_vI x3, pj_vU, pj_vI x5, pj_vI x6] [] M Q := by
  have nj0 : pj_nrm ((14 * x1) + x6) = (j0 : Int) := pj_nk ej0 (by omega)
  have nj1 : pj_nrm x6 = (j1 : Int) := pj_nk ej1 (by omega)
  refine pj_G_s pj_np111 19 (show pj_gs 19 L 111 127 [pj_vR 38, pj_vI x1, pj_vI x2, pj_vI x3, pj_vU, pj_vI x5, pj_vI x6] [] M = some ([0 ≤ pj_nrm ((14 * x1) + x6) ∧ pj_nrm ((14 * x1) + x6) < (42 : Int), 0 ≤ pj_nrm x6 ∧ pj_nrm x6 < (14 : Int), 0 ≤ pj_nrm ((14 * x1) + x6) ∧ pj_nrm ((14 * x1) + x6) < (42 : Int)], 103, [pj_vR 38, pj_vI x1, pj_vI x2, pj_vI x3, pj_vU, pj_vI x5, pj_vI (x6 + 1)], [], pj_up M 63 (pj_nrm ((14 * x1) + x6)).toNat (pj_or (M 63 (pj_nrm ((14 * x1) + x6)).toNat) (pj_shl 1 (M 59 (pj_nrm x6).toNat)))) from rfl) ⟨by omega, by omega, by omega, trivial⟩ ?_
  simp only [nj0, nj1, Int.toNat_natCast]
  exact h
theorem pj_C111_157 {L d : Nat} {Q : Option pj_V → pj_M → Prop} {M : pj_M} {x1 x2 x3 : Int}  (h : pj_G L d 110 0 [pj_vR 38, pj_vU] [] M (fun r M1 => pj_G L (d + 1) 111 161 [pj_vR 38, pj_vI x1, pj_vI x2, pj_vI x3, pj_vU, pj_vU, pj_vU] (r.toList ++ []) M1 Q)) : pj_G L (d + 1) 111 157 [pj_vR 38, pj_vI x1, pj_vI x2, pj_vI x3, pj_vU, pj_vU, pj_vU] [] M Q := by
  refine pj_G_s (d := d + 1) pj_np111 1 (show pj_gs 1 L 111 157 [pj_vR 38, pj_vI x1, pj_vI x2, pj_vI x3, pj_vU, pj_vU, pj_vU] [] M = some ([], 158, [pj_vR 38, pj_vI x1, pj_vI x2, pj_vI x3, pj_vU, pj_vU, pj_vU], [pj_vR 38], M) from rfl) trivial ?_
  exact pj_G_k (j := 110) (vs := [pj_vR 38]) (st := []) rfl rfl rfl rfl rfl (Nat.le_of_ble_eq_true rfl) pj_nc110 h
theorem pj_C111_161 {L d : Nat} {Q : Option pj_V → pj_M → Prop} {M : pj_M} {x1 x2 x3 s0 : Int}  (h : pj_G L d 111 29 [pj_vR 38, pj_vI x1, pj_vI x2, pj_vI x3, pj_vI s0, pj_vU, pj_vU] [] M Q) : pj_G L d 111 161 [pj_vR 38, pj_vI x1, pj_vI x2, pj_vI x3, pj_vU, pj_vU, pj_vU] [pj_vI s0] M Q := by
  refine pj_G_s pj_np111 2 (show pj_gs 2 L 111 161 [pj_vR 38, pj_vI x1, pj_vI x2, pj_vI x3, pj_vU, pj_vU, pj_vU] [pj_vI s0] M = some ([], 29, [pj_vR 38, pj_vI x1, pj_vI x2, pj_vI x3, pj_vI s0, pj_vU, pj_vU], [], M) from rfl) trivial ?_
  exact h
theorem pj_C111_166 {L d : Nat} {Q : Option pj_V → pj_M → Prop} {M : pj_M}  (h : Q (none) M) : pj_G L d 111 166 [pj_vU, pj_vU, pj_vU, pj_vU, pj_vU, pj_vU, pj_vU] [] M Q := by
  exact pj_G_r rfl rfl rfl h
theorem pj_C112_0 {L d : Nat} {Q : Option pj_V → pj_M → Prop} {M : pj_M}  (h : pj_G L d 112 2 [pj_vR 38, pj_vI 0, pj_vU] [] M Q) : pj_G L d 112 0 [pj_vR 38, pj_vU, pj_vU] [] M Q := by
  refine pj_G_s pj_np112 2 (show pj_gs 2 L 112 0 [pj_vR 38, pj_vU, pj_vU] [] M = some ([], 2, [pj_vR 38, pj_vI 0, pj_vU], [], M) from rfl) trivial ?_
  exact h
theorem pj_C112_2 {L d : Nat} {Q : Option pj_V → pj_M → Prop} {M : pj_M} {x1 : Int} (r0 : -2147483648 ≤ x1 ∧ x1 < 2147483648) (h1 : (324 : Int) ≤ x1 → pj_G L d 112 30 [pj_vR 38, pj_vU, pj_vU] [] M Q) (h2 : x1 < (324 : Int) → pj_G L d 112 9 [pj_vR 38, pj_vI x1, pj_vU] [] M Q) : pj_G L d 112 2 [pj_vR 38, pj_vI x1, pj_vU] [] M Q := by
  refine pj_G_s pj_np112 2 (show pj_gs 2 L 112 2 [pj_vR 38, pj_vI x1, pj_vU] [] M = some ([], 6, [pj_vR 38, pj_vI x1, pj_vU], [pj_vI 324, pj_vI x1], M) from rfl) trivial ?_
  exact pj_G_if (t := 30) rfl rfl (fun z => pj_G_loc (pj_lle_e (pj_lle_u rfl (pj_lle_e pj_lle_nil))) (h1 (pj_ct_ge (pj_nrm_id r0.1 r0.2) (pj_nrm_id (by omega) (by omega)) z))) (fun z => h2 (pj_cf_ge (pj_nrm_id r0.1 r0.2) (pj_nrm_id (by omega) (by omega)) z))
theorem pj_C112_9 {L d : Nat} {Q : Option pj_V → pj_M → Prop} {M : pj_M} {x1 : Int} (r0 : -2147483648 ≤ x1 ∧ x1 < 2147483648) (h1 : x1 ≠ 0 → pj_G L d 112 22 [pj_vR 38, pj_vI x1, pj_vU] [pj_vI x1, pj_vR 61] M Q) (h2 : x1 = 0 → pj_G L d 112 18 [pj_vR 38, pj_vI x1, pj_vU] [pj_vI x1, pj_vR 61] M Q) : pj_G L d 112 9 [pj_vR 38, pj_vI x1, pj_vU] [] M Q := by
  refine pj_G_s pj_np112 4 (show pj_gs 4 L 112 9 [pj_vR 38, pj_vI x1, pj_vU] [] M = some ([], 15, [pj_vR 38, pj_vI x1, pj_vU], [pj_vI x1, pj_vI x1, pj_vR 61], M) from rfl) trivial ?_
  exact pj_G_if0 (t := 22) rfl rfl (fun z => h1 (pj_ct_ne (pj_nrm_id r0.1 r0.2) rfl z)) (fun z => h2 (pj_cf_ne (pj_nrm_id r0.1 r0.2) rfl z))
theorem pj_C112_18 {L d : Nat} {Q : Option pj_V → pj_M → Prop} {M : pj_M} {x1 s1 : Int}  (h : pj_G L d 112 23 [pj_vR 38, pj_vI x1, pj_vU] [pj_vI 1, pj_vI s1, pj_vR 61] M Q) : pj_G L d 112 18 [pj_vR 38, pj_vI x1, pj_vU] [pj_vI s1, pj_vR 61] M Q := by
  refine pj_G_s pj_np112 2 (show pj_gs 2 L 112 18 [pj_vR 38, pj_vI x1, pj_vU] [pj_vI s1, pj_vR 61] M = some ([], 23, [pj_vR 38, pj_vI x1, pj_vU], [pj_vI 1, pj_vI s1, pj_vR 61], M) from rfl) trivial ?_
  exact h
theorem pj_C112_23 {L d : Nat} {Q : Option pj_V → pj_M → Prop} {M : pj_M} {x1 s1 s2 : Int} (j0 : Nat) (w1 : s2 = 0 ∨ s2 = 1) (ej0 : s1 = (j0 : Int)) (bj0 : j0 < 324) (h : pj_G L d 112 2 [pj_vR 38, pj_vI (x1 + 1), pj_vU] [] (pj_up M 61 j0 s2) Q) : pj_G L d 112 23 [pj_vR 38, pj_vI x1, pj_vU] [pj_vI s2, pj_vI s1, pj_vR 61] M Q := by
  have nj0 : pj_nrm s1 = (j0 : Int) := pj_nk ej0 (by omega)
  refine pj_G_s pj_np112 3 (show pj_gs 3 L 112 23 [pj_vR 38, pj_vI x1, pj_vU] [pj_vI s2, pj_vI s1, pj_vR 61] M = some ([s2 = 0 ∨ s2 = 1, 0 ≤ pj_nrm s1 ∧ pj_nrm s1 < (324 : Int)], 2, [pj_vR 38, pj_vI (x1 + 1), pj_vU], [], pj_up M 61 (pj_nrm s1).toNat s2) from rfl) ⟨by omega, by omega, trivial⟩ ?_
  simp only [nj0, Int.toNat_natCast]
  exact h
theorem pj_C112_22 {L d : Nat} {Q : Option pj_V → pj_M → Prop} {M : pj_M} {x1 s1 : Int}  (h : pj_G L d 112 23 [pj_vR 38, pj_vI x1, pj_vU] [pj_vI 0, pj_vI s1, pj_vR 61] M Q) : pj_G L d 112 22 [pj_vR 38, pj_vI x1, pj_vU] [pj_vI s1, pj_vR 61] M Q := by
  refine pj_G_s pj_np112 1 (show pj_gs 1 L 112 22 [pj_vR 38, pj_vI x1, pj_vU] [pj_vI s1, pj_vR 61] M = some ([], 23, [pj_vR 38, pj_vI x1, pj_vU], [pj_vI 0, pj_vI s1, pj_vR 61], M) from rfl) trivial ?_
  exact h
theorem pj_C112_30 {L d : Nat} {Q : Option pj_V → pj_M → Prop} {M : pj_M}  (h : pj_G L d 112 32 [pj_vR 38, pj_vI 0, pj_vU] [] M Q) : pj_G L d 112 30 [pj_vR 38, pj_vU, pj_vU] [] M Q := by
  refine pj_G_s pj_np112 2 (show pj_gs 2 L 112 30 [pj_vR 38, pj_vU, pj_vU] [] M = some ([], 32, [pj_vR 38, pj_vI 0, pj_vU], [], M) from rfl) trivial ?_
  exact h
theorem pj_C112_32 {L d : Nat} {Q : Option pj_V → pj_M → Prop} {M : pj_M} {x1 : Int} (r0 : -2147483648 ≤ x1 ∧ x1 < 2147483648) (r1 : -2147483648 ≤ M 38 20 ∧ M 38 20 < 2147483648) (h1 : M 38 20 ≤ x1 → pj_G L d 112 81 [pj_vR 38, pj_vU, pj_vU] [] M Q) (h2 : x1 < M 38 20 → pj_G L d 112 40 [pj_vR 38, pj_vI x1, pj_vU] [] M Q) : pj_G L d 112 32 [pj_vR 38, pj_vI x1, pj_vU] [] M Q := by
  refine pj_G_s pj_np112 3 (show pj_gs 3 L 112 32 [pj_vR 38, pj_vI x1, pj_vU] [] M = some ([], 37, [pj_vR 38, pj_vI x1, pj_vU], [pj_vI (M 38 20), pj_vI x1], M) from rfl) trivial ?_
  exact pj_G_if (t := 81) rfl rfl (fun z => pj_G_loc (pj_lle_e (pj_lle_u rfl (pj_lle_e pj_lle_nil))) (h1 (pj_ct_ge (pj_nrm_id r0.1 r0.2) (pj_nrm_id r1.1 r1.2) z))) (fun z => h2 (pj_cf_ge (pj_nrm_id r0.1 r0.2) (pj_nrm_id r1.1 r1.2) z))
theorem pj_C112_40 {L d : Nat} {Q : Option pj_V → pj_M → Prop} {M : pj_M} {x1 : Int}  (h : pj_G L d 112 42 [pj_vR 38, pj_vI x1, pj_vI 0] [] M Q) : pj_G L d 112 40 [pj_vR 38, pj_vI x1, pj_vU] [] M Q := by
  refine pj_G_s pj_np112 2 (show pj_gs 2 L 112 40 [pj_vR 38, pj_vI x1, pj_vU] [] M = some ([], 42, [pj_vR 38, pj_vI x1, pj_vI 0], [], M) from rfl) trivial ?_
  exact h
theorem pj_C112_42 {L d : Nat} {Q : Option pj_V → pj_M → Prop} {M : pj_M} {x1 x2 : Int} (r0 : -2147483648 ≤ x2 ∧ x2 < 2147483648) (h1 : (81 : Int) ≤ x2 → pj_G L d 112 75 [pj_vR 38, pj_vI x1, pj_vU] [] M Q) (h2 : x2 < (81 : Int) → pj_G L d 112 48 [pj_vR 38, pj_vI x1, pj_vI x2] [] M Q) : pj_G L d 112 42 [pj_vR 38, pj_vI x1, pj_vI x2] [] M Q := by
  refine pj_G_s pj_np112 2 (show pj_gs 2 L 112 42 [pj_vR 38, pj_vI x1, pj_vI x2] [] M = some ([], 45, [pj_vR 38, pj_vI x1, pj_vI x2], [pj_vI 81, pj_vI x2], M) from rfl) trivial ?_
  exact pj_G_if (t := 75) rfl rfl (fun z => pj_G_loc (pj_lle_e (pj_lle_e (pj_lle_u rfl pj_lle_nil))) (h1 (pj_ct_ge (pj_nrm_id r0.1 r0.2) (pj_nrm_id (by omega) (by omega)) z))) (fun z => h2 (pj_cf_ge (pj_nrm_id r0.1 r0.2) (pj_nrm_id (by omega) (by omega)) z))
theorem pj_C112_48 {L d : Nat} {Q : Option pj_V → pj_M → Prop} {M : pj_M} {x1 x2 : Int} (j0 : Nat) (ej0 : (81 * x1) + x2 = (j0 : Int)) (bj0 : j0 < 324) (r0 : -2147483648 ≤ M 61 j0 ∧ M 61 j0 < 2147483648) (h1 : M 61 j0 = 0 → pj_G L d 112 69 [pj_vR 38, pj_vI x1, pj_vI x2] [] M Q) (h2 : M 61 j0 ≠ 0 → pj_G L d 112 62 [pj_vR 38, pj_vI x1, pj_vI x2] [] M Q) : pj_G L d 112 48 [pj_vR 38, pj_vI x1, pj_vI x2] [] M Q := by
  have nj0 : pj_nrm ((81 * x1) + x2) = (j0 : Int) := pj_nk ej0 (by omega)
  refine pj_G_s pj_np112 8 (show pj_gs 8 L 112 48 [pj_vR 38, pj_vI x1, pj_vI x2] [] M = some ([0 ≤ pj_nrm ((81 * x1) + x2) ∧ pj_nrm ((81 * x1) + x2) < (324 : Int)], 59, [pj_vR 38, pj_vI x1, pj_vI x2], [pj_vI (M 61 (pj_nrm ((81 * x1) + x2)).toNat)], M) from rfl) ⟨by omega, trivial⟩ ?_
  simp only [nj0, Int.toNat_natCast]
  exact pj_G_if0 (t := 69) rfl rfl (fun z => h1 (pj_ct_eq (pj_nrm_id r0.1 r0.2) rfl z)) (fun z => h2 (pj_cf_eq (pj_nrm_id r0.1 r0.2) rfl z))
theorem pj_C112_62 {L d : Nat} {Q : Option pj_V → pj_M → Prop} {M : pj_M} {x1 x2 : Int}  (h : pj_G L d 111 0 [pj_vR 38, pj_vI x1, pj_vI x2, pj_vI 0, pj_vU, pj_vU, pj_vU] [] M (fun r M1 => pj_G L (d + 1) 112 69 [pj_vR 38, pj_vI x1, pj_vI x2] (r.toList ++ []) M1 Q)) : pj_G L (d + 1) 112 62 [pj_vR 38, pj_vI x1, pj_vI x2] [] M Q := by
  refine pj_G_s (d := d + 1) pj_np112 4 (show pj_gs 4 L 112 62 [pj_vR 38, pj_vI x1, pj_vI x2] [] M = some ([], 66, [pj_vR 38, pj_vI x1, pj_vI x2], [pj_vI 0, pj_vI x2, pj_vI x1, pj_vR 38], M) from rfl) trivial ?_
  exact pj_G_k (j := 111) (vs := [pj_vR 38, pj_vI x1, pj_vI x2, pj_vI 0]) (st := []) rfl rfl rfl rfl rfl (Nat.le_of_ble_eq_true rfl) pj_nc111 h
theorem pj_C112_69 {L d : Nat} {Q : Option pj_V → pj_M → Prop} {M : pj_M} {x1 x2 : Int}  (h : pj_G L d 112 42 [pj_vR 38, pj_vI x1, pj_vI (x2 + 1)] [] M Q) : pj_G L d 112 69 [pj_vR 38, pj_vI x1, pj_vI x2] [] M Q := by
  refine pj_G_s pj_np112 2 (show pj_gs 2 L 112 69 [pj_vR 38, pj_vI x1, pj_vI x2] [] M = some ([], 42, [pj_vR 38, pj_vI x1, pj_vI (x2 + 1)], [], M) from rfl) trivial ?_
  exact h
theorem pj_C112_75 {L d : Nat} {Q : Option pj_V → pj_M → Prop} {M : pj_M} {x1 : Int}  (h : pj_G L d 112 32 [pj_vR 38, pj_vI (x1 + 1), pj_vU] [] M Q) : pj_G L d 112 75 [pj_vR 38, pj_vI x1, pj_vU] [] M Q := by
  refine pj_G_s pj_np112 2 (show pj_gs 2 L 112 75 [pj_vR 38, pj_vI x1, pj_vU] [] M = some ([], 32, [pj_vR 38, pj_vI (x1 + 1), pj_vU], [], M) from rfl) trivial ?_
  exact h
theorem pj_C112_81 {L d : Nat} {Q : Option pj_V → pj_M → Prop} {M : pj_M}  (h : pj_G L d 112 85 [pj_vR 38, pj_vI 0, pj_vI 0] [] M Q) : pj_G L d 112 81 [pj_vR 38, pj_vU, pj_vU] [] M Q := by
  refine pj_G_s pj_np112 4 (show pj_gs 4 L 112 81 [pj_vR 38, pj_vU, pj_vU] [] M = some ([], 85, [pj_vR 38, pj_vI 0, pj_vI 0], [], M) from rfl) trivial ?_
  exact h
theorem pj_C112_85 {L d : Nat} {Q : Option pj_V → pj_M → Prop} {M : pj_M} {x1 x2 : Int} (r0 : -2147483648 ≤ x2 ∧ x2 < 2147483648) (h1 : (81 : Int) ≤ x2 → pj_G L d 112 124 [pj_vU, pj_vI x1, pj_vU] [] M Q) (h2 : x2 < (81 : Int) → pj_G L d 112 91 [pj_vR 38, pj_vI x1, pj_vI x2] [] M Q) : pj_G L d 112 85 [pj_vR 38, pj_vI x1, pj_vI x2] [] M Q := by
  refine pj_G_s pj_np112 2 (show pj_gs 2 L 112 85 [pj_vR 38, pj_vI x1, pj_vI x2] [] M = some ([], 88, [pj_vR 38, pj_vI x1, pj_vI x2], [pj_vI 81, pj_vI x2], M) from rfl) trivial ?_
  exact pj_G_if (t := 124) rfl rfl (fun z => pj_G_loc (pj_lle_u rfl (pj_lle_e (pj_lle_u rfl pj_lle_nil))) (h1 (pj_ct_ge (pj_nrm_id r0.1 r0.2) (pj_nrm_id (by omega) (by omega)) z))) (fun z => h2 (pj_cf_ge (pj_nrm_id r0.1 r0.2) (pj_nrm_id (by omega) (by omega)) z))
theorem pj_C112_91 {L d : Nat} {Q : Option pj_V → pj_M → Prop} {M : pj_M} {x1 x2 : Int} (r0 : -2147483648 ≤ x1 ∧ x1 < 2147483648) (h1 : x1 ≠ 0 → pj_G L d 112 112 [pj_vR 38, pj_vU, pj_vI x2] [] M Q) (h2 : x1 = 0 → pj_G L d 112 95 [pj_vR 38, pj_vU, pj_vI x2] [] M Q) : pj_G L d 112 91 [pj_vR 38, pj_vI x1, pj_vI x2] [] M Q := by
  refine pj_G_s pj_np112 1 (show pj_gs 1 L 112 91 [pj_vR 38, pj_vI x1, pj_vI x2] [] M = some ([], 92, [pj_vR 38, pj_vI x1, pj_vI x2], [pj_vI x1], M) from rfl) trivial ?_
  exact pj_G_if0 (t := 112) rfl rfl (fun z => pj_G_loc (pj_lle_e (pj_lle_u rfl (pj_lle_e pj_lle_nil))) (h1 (pj_ct_ne (pj_nrm_id r0.1 r0.2) rfl z))) (fun z => pj_G_loc (pj_lle_e (pj_lle_u rfl (pj_lle_e pj_lle_nil))) (h2 (pj_cf_ne (pj_nrm_id r0.1 r0.2) rfl z)))
theorem pj_C112_95 {L d : Nat} {Q : Option pj_V → pj_M → Prop} {M : pj_M} {x2 : Int} (j0 : Nat) (ej0 : (81 * (M 38 20)) + x2 = (j0 : Int)) (bj0 : j0 < 324) (r0 : -2147483648 ≤ M 61 j0 ∧ M 61 j0 < 2147483648) (h1 : M 61 j0 = 0 → pj_G L d 112 116 [pj_vR 38, pj_vU, pj_vI x2] [] M Q) (h2 : M 61 j0 ≠ 0 → pj_G L d 112 112 [pj_vR 38, pj_vU, pj_vI x2] [] M Q) : pj_G L d 112 95 [pj_vR 38, pj_vU, pj_vI x2] [] M Q := by
  have nj0 : pj_nrm ((81 * (M 38 20)) + x2) = (j0 : Int) := pj_nk ej0 (by omega)
  refine pj_G_s pj_np112 9 (show pj_gs 9 L 112 95 [pj_vR 38, pj_vU, pj_vI x2] [] M = some ([0 ≤ pj_nrm ((81 * (M 38 20)) + x2) ∧ pj_nrm ((81 * (M 38 20)) + x2) < (324 : Int)], 109, [pj_vR 38, pj_vU, pj_vI x2], [pj_vI (M 61 (pj_nrm ((81 * (M 38 20)) + x2)).toNat)], M) from rfl) ⟨by omega, trivial⟩ ?_
  simp only [nj0, Int.toNat_natCast]
  exact pj_G_if0 (t := 116) rfl rfl (fun z => h1 (pj_ct_eq (pj_nrm_id r0.1 r0.2) rfl z)) (fun z => h2 (pj_cf_eq (pj_nrm_id r0.1 r0.2) rfl z))
theorem pj_C112_112 {L d : Nat} {Q : Option pj_V → pj_M → Prop} {M : pj_M} {x2 : Int}  (h : pj_G L d 112 117 [pj_vR 38, pj_vU, pj_vI x2] [pj_vI 1] M Q) : pj_G L d 112 112 [pj_vR 38, pj_vU, pj_vI x2] [] M Q := by
  refine pj_G_s pj_np112 2 (show pj_gs 2 L 112 112 [pj_vR 38, pj_vU, pj_vI x2] [] M = some ([], 117, [pj_vR 38, pj_vU, pj_vI x2], [pj_vI 1], M) from rfl) trivial ?_
  exact h
theorem pj_C112_117 {L d : Nat} {Q : Option pj_V → pj_M → Prop} {M : pj_M} {x2 s0 : Int}  (h : pj_G L d 112 85 [pj_vR 38, pj_vI s0, pj_vI (x2 + 1)] [] M Q) : pj_G L d 112 117 [pj_vR 38, pj_vU, pj_vI x2] [pj_vI s0] M Q := by
  refine pj_G_s pj_np112 3 (show pj_gs 3 L 112 117 [pj_vR 38, pj_vU, pj_vI x2] [pj_vI s0] M = some ([], 85, [pj_vR 38, pj_vI s0, pj_vI (x2 + 1)], [], M) from rfl) trivial ?_
  exact h
theorem pj_C112_116 {L d : Nat} {Q : Option pj_V → pj_M → Prop} {M : pj_M} {x2 : Int}  (h : pj_G L d 112 117 [pj_vR 38, pj_vU, pj_vI x2] [pj_vI 0] M Q) : pj_G L d 112 116 [pj_vR 38, pj_vU, pj_vI x2] [] M Q := by
  refine pj_G_s pj_np112 1 (show pj_gs 1 L 112 116 [pj_vR 38, pj_vU, pj_vI x2] [] M = some ([], 117, [pj_vR 38, pj_vU, pj_vI x2], [pj_vI 0], M) from rfl) trivial ?_
  exact h
theorem pj_C112_124 {L d : Nat} {Q : Option pj_V → pj_M → Prop} {M : pj_M} {x1 : Int}  (cb : x1 = 0 ∨ x1 = 1) (h : Q (some (pj_vI x1)) M) : pj_G L d 112 124 [pj_vU, pj_vI x1, pj_vU] [] M Q := by
  refine pj_G_s pj_np112 1 (show pj_gs 1 L 112 124 [pj_vU, pj_vI x1, pj_vU] [] M = some ([], 125, [pj_vU, pj_vI x1, pj_vU], [pj_vI x1], M) from rfl) trivial ?_
  exact pj_G_r rfl rfl (if_pos (Or.inr cb)) h
theorem pj_C113_0 {L d : Nat} {Q : Option pj_V → pj_M → Prop} {M : pj_M}  (h : pj_G L d 113 2 [pj_vR 38, pj_vI 0, pj_vU] [] M Q) : pj_G L d 113 0 [pj_vR 38, pj_vU, pj_vU] [] M Q := by
  refine pj_G_s pj_np113 2 (show pj_gs 2 L 113 0 [pj_vR 38, pj_vU, pj_vU] [] M = some ([], 2, [pj_vR 38, pj_vI 0, pj_vU], [], M) from rfl) trivial ?_
  exact h
theorem pj_C113_2 {L d : Nat} {Q : Option pj_V → pj_M → Prop} {M : pj_M} {x1 : Int} (r0 : -2147483648 ≤ x1 ∧ x1 < 2147483648) (h1 : (324 : Int) ≤ x1 → pj_G L d 113 46 [pj_vR 38, pj_vU, pj_vU] [] M Q) (h2 : x1 < (324 : Int) → pj_G L d 113 9 [pj_vR 38, pj_vI x1, pj_vU] [] M Q) : pj_G L d 113 2 [pj_vR 38, pj_vI x1, pj_vU] [] M Q := by
  refine pj_G_s pj_np113 2 (show pj_gs 2 L 113 2 [pj_vR 38, pj_vI x1, pj_vU] [] M = some ([], 6, [pj_vR 38, pj_vI x1, pj_vU], [pj_vI 324, pj_vI x1], M) from rfl) trivial ?_
  exact pj_G_if (t := 46) rfl rfl (fun z => pj_G_loc (pj_lle_e (pj_lle_u rfl (pj_lle_e pj_lle_nil))) (h1 (pj_ct_ge (pj_nrm_id r0.1 r0.2) (pj_nrm_id (by omega) (by omega)) z))) (fun z => h2 (pj_cf_ge (pj_nrm_id r0.1 r0.2) (pj_nrm_id (by omega) (by omega)) z))
theorem pj_C113_9 {L d : Nat} {Q : Option pj_V → pj_M → Prop} {M : pj_M} {x1 : Int} (r0 : -2147483648 ≤ x1 ∧ x1 < 2147483648) (r1 : -2147483648 ≤ 81 * (M 38 20) ∧ 81 * (M 38 20) < 2147483648) (h1 : x1 < 81 * (M 38 20) → pj_G L d 113 38 [pj_vR 38, pj_vI x1, pj_vU] [pj_vI x1, pj_vR 62] M Q) (h2 : 81 * (M 38 20) ≤ x1 → pj_G L d 113 25 [pj_vR 38, pj_vI x1, pj_vU] [pj_vI x1, pj_vR 62] M Q) : pj_G L d 113 9 [pj_vR 38, pj_vI x1, pj_vU] [] M Q := by
  refine pj_G_s pj_np113 8 (show pj_gs 8 L 113 9 [pj_vR 38, pj_vI x1, pj_vU] [] M = some ([], 22, [pj_vR 38, pj_vI x1, pj_vU], [pj_vI (81 * (M 38 20)), pj_vI x1, pj_vI x1, pj_vR 62], M) from rfl) trivial ?_
  exact pj_G_if (t := 38) rfl rfl (fun z => h1 (pj_ct_lt (pj_nrm_id r0.1 r0.2) (pj_nrm_id r1.1 r1.2) z)) (fun z => h2 (pj_cf_lt (pj_nrm_id r0.1 r0.2) (pj_nrm_id r1.1 r1.2) z))
theorem pj_C113_25 {L d : Nat} {Q : Option pj_V → pj_M → Prop} {M : pj_M} {x1 s1 : Int} (j0 : Nat) (ej0 : x1 = (j0 : Int)) (bj0 : j0 < 324) (r0 : -2147483648 ≤ M 61 j0 ∧ M 61 j0 < 2147483648) (h1 : M 61 j0 = 0 → pj_G L d 113 38 [pj_vR 38, pj_vI x1, pj_vU] [pj_vI s1, pj_vR 62] M Q) (h2 : M 61 j0 ≠ 0 → pj_G L d 113 34 [pj_vR 38, pj_vI x1, pj_vU] [pj_vI s1, pj_vR 62] M Q) : pj_G L d 113 25 [pj_vR 38, pj_vI x1, pj_vU] [pj_vI s1, pj_vR 62] M Q := by
  have nj0 : pj_nrm x1 = (j0 : Int) := pj_nk ej0 (by omega)
  refine pj_G_s pj_np113 4 (show pj_gs 4 L 113 25 [pj_vR 38, pj_vI x1, pj_vU] [pj_vI s1, pj_vR 62] M = some ([0 ≤ pj_nrm x1 ∧ pj_nrm x1 < (324 : Int)], 31, [pj_vR 38, pj_vI x1, pj_vU], [pj_vI (M 61 (pj_nrm x1).toNat), pj_vI s1, pj_vR 62], M) from rfl) ⟨by omega, trivial⟩ ?_
  simp only [nj0, Int.toNat_natCast]
  exact pj_G_if0 (t := 38) rfl rfl (fun z => h1 (pj_ct_eq (pj_nrm_id r0.1 r0.2) rfl z)) (fun z => h2 (pj_cf_eq (pj_nrm_id r0.1 r0.2) rfl z))
theorem pj_C113_34 {L d : Nat} {Q : Option pj_V → pj_M → Prop} {M : pj_M} {x1 s1 : Int}  (h : pj_G L d 113 39 [pj_vR 38, pj_vI x1, pj_vU] [pj_vI 1, pj_vI s1, pj_vR 62] M Q) : pj_G L d 113 34 [pj_vR 38, pj_vI x1, pj_vU] [pj_vI s1, pj_vR 62] M Q := by
  refine pj_G_s pj_np113 2 (show pj_gs 2 L 113 34 [pj_vR 38, pj_vI x1, pj_vU] [pj_vI s1, pj_vR 62] M = some ([], 39, [pj_vR 38, pj_vI x1, pj_vU], [pj_vI 1, pj_vI s1, pj_vR 62], M) from rfl) trivial ?_
  exact h
theorem pj_C113_39 {L d : Nat} {Q : Option pj_V → pj_M → Prop} {M : pj_M} {x1 s1 s2 : Int} (j0 : Nat) (w1 : s2 = 0 ∨ s2 = 1) (ej0 : s1 = (j0 : Int)) (bj0 : j0 < 324) (h : pj_G L d 113 2 [pj_vR 38, pj_vI (x1 + 1), pj_vU] [] (pj_up M 62 j0 s2) Q) : pj_G L d 113 39 [pj_vR 38, pj_vI x1, pj_vU] [pj_vI s2, pj_vI s1, pj_vR 62] M Q := by
  have nj0 : pj_nrm s1 = (j0 : Int) := pj_nk ej0 (by omega)
  refine pj_G_s pj_np113 3 (show pj_gs 3 L 113 39 [pj_vR 38, pj_vI x1, pj_vU] [pj_vI s2, pj_vI s1, pj_vR 62] M = some ([s2 = 0 ∨ s2 = 1, 0 ≤ pj_nrm s1 ∧ pj_nrm s1 < (324 : Int)], 2, [pj_vR 38, pj_vI (x1 + 1), pj_vU], [], pj_up M 62 (pj_nrm s1).toNat s2) from rfl) ⟨by omega, by omega, trivial⟩ ?_
  simp only [nj0, Int.toNat_natCast]
  exact h
theorem pj_C113_38 {L d : Nat} {Q : Option pj_V → pj_M → Prop} {M : pj_M} {x1 s1 : Int}  (h : pj_G L d 113 39 [pj_vR 38, pj_vI x1, pj_vU] [pj_vI 0, pj_vI s1, pj_vR 62] M Q) : pj_G L d 113 38 [pj_vR 38, pj_vI x1, pj_vU] [pj_vI s1, pj_vR 62] M Q := by
  refine pj_G_s pj_np113 1 (show pj_gs 1 L 113 38 [pj_vR 38, pj_vI x1, pj_vU] [pj_vI s1, pj_vR 62] M = some ([], 39, [pj_vR 38, pj_vI x1, pj_vU], [pj_vI 0, pj_vI s1, pj_vR 62], M) from rfl) trivial ?_
  exact h
theorem pj_C113_46 {L d : Nat} {Q : Option pj_V → pj_M → Prop} {M : pj_M}  (h : pj_G L d 113 53 [pj_vR 38, pj_vI ((M 38 20) - 1), pj_vU] [] M Q) : pj_G L d 113 46 [pj_vR 38, pj_vU, pj_vU] [] M Q := by
  refine pj_G_s pj_np113 5 (show pj_gs 5 L 113 46 [pj_vR 38, pj_vU, pj_vU] [] M = some ([], 53, [pj_vR 38, pj_vI ((M 38 20) - 1), pj_vU], [], M) from rfl) trivial ?_
  exact h
theorem pj_C113_53 {L d : Nat} {Q : Option pj_V → pj_M → Prop} {M : pj_M} {x1 : Int} (r0 : -2147483648 ≤ x1 ∧ x1 < 2147483648) (h1 : x1 < 0 → pj_G L d 113 98 [pj_vR 38, pj_vU, pj_vU] [] M Q) (h2 : 0 ≤ x1 → pj_G L d 113 57 [pj_vR 38, pj_vI x1, pj_vU] [] M Q) : pj_G L d 113 53 [pj_vR 38, pj_vI x1, pj_vU] [] M Q := by
  refine pj_G_s pj_np113 1 (show pj_gs 1 L 113 53 [pj_vR 38, pj_vI x1, pj_vU] [] M = some ([], 54, [pj_vR 38, pj_vI x1, pj_vU], [pj_vI x1], M) from rfl) trivial ?_
  exact pj_G_if0 (t := 98) rfl rfl (fun z => pj_G_loc (pj_lle_e (pj_lle_u rfl (pj_lle_e pj_lle_nil))) (h1 (pj_ct_lt (pj_nrm_id r0.1 r0.2) rfl z))) (fun z => h2 (pj_cf_lt (pj_nrm_id r0.1 r0.2) rfl z))
theorem pj_C113_57 {L d : Nat} {Q : Option pj_V → pj_M → Prop} {M : pj_M} {x1 : Int}  (h : pj_G L d 113 59 [pj_vR 38, pj_vI x1, pj_vI 0] [] M Q) : pj_G L d 113 57 [pj_vR 38, pj_vI x1, pj_vU] [] M Q := by
  refine pj_G_s pj_np113 2 (show pj_gs 2 L 113 57 [pj_vR 38, pj_vI x1, pj_vU] [] M = some ([], 59, [pj_vR 38, pj_vI x1, pj_vI 0], [], M) from rfl) trivial ?_
  exact h
theorem pj_C113_59 {L d : Nat} {Q : Option pj_V → pj_M → Prop} {M : pj_M} {x1 x2 : Int} (r0 : -2147483648 ≤ x2 ∧ x2 < 2147483648) (h1 : (81 : Int) ≤ x2 → pj_G L d 113 92 [pj_vR 38, pj_vI x1, pj_vU] [] M Q) (h2 : x2 < (81 : Int) → pj_G L d 113 65 [pj_vR 38, pj_vI x1, pj_vI x2] [] M Q) : pj_G L d 113 59 [pj_vR 38, pj_vI x1, pj_vI x2] [] M Q := by
  refine pj_G_s pj_np113 2 (show pj_gs 2 L 113 59 [pj_vR 38, pj_vI x1, pj_vI x2] [] M = some ([], 62, [pj_vR 38, pj_vI x1, pj_vI x2], [pj_vI 81, pj_vI x2], M) from rfl) trivial ?_
  exact pj_G_if (t := 92) rfl rfl (fun z => pj_G_loc (pj_lle_e (pj_lle_e (pj_lle_u rfl pj_lle_nil))) (h1 (pj_ct_ge (pj_nrm_id r0.1 r0.2) (pj_nrm_id (by omega) (by omega)) z))) (fun z => h2 (pj_cf_ge (pj_nrm_id r0.1 r0.2) (pj_nrm_id (by omega) (by omega)) z))
theorem pj_C113_65 {L d : Nat} {Q : Option pj_V → pj_M → Prop} {M : pj_M} {x1 x2 : Int} (j0 : Nat) (ej0 : (81 * x1) + x2 = (j0 : Int)) (bj0 : j0 < 324) (r0 : -2147483648 ≤ M 61 j0 ∧ M 61 j0 < 2147483648) (h1 : M 61 j0 = 0 → pj_G L d 113 86 [pj_vR 38, pj_vI x1, pj_vI x2] [] M Q) (h2 : M 61 j0 ≠ 0 → pj_G L d 113 79 [pj_vR 38, pj_vI x1, pj_vI x2] [] M Q) : pj_G L d 113 65 [pj_vR 38, pj_vI x1, pj_vI x2] [] M Q := by
  have nj0 : pj_nrm ((81 * x1) + x2) = (j0 : Int) := pj_nk ej0 (by omega)
  refine pj_G_s pj_np113 8 (show pj_gs 8 L 113 65 [pj_vR 38, pj_vI x1, pj_vI x2] [] M = some ([0 ≤ pj_nrm ((81 * x1) + x2) ∧ pj_nrm ((81 * x1) + x2) < (324 : Int)], 76, [pj_vR 38, pj_vI x1, pj_vI x2], [pj_vI (M 61 (pj_nrm ((81 * x1) + x2)).toNat)], M) from rfl) ⟨by omega, trivial⟩ ?_
  simp only [nj0, Int.toNat_natCast]
  exact pj_G_if0 (t := 86) rfl rfl (fun z => h1 (pj_ct_eq (pj_nrm_id r0.1 r0.2) rfl z)) (fun z => h2 (pj_cf_eq (pj_nrm_id r0.1 r0.2) rfl z))
theorem pj_C113_79 {L d : Nat} {Q : Option pj_V → pj_M → Prop} {M : pj_M} {x1 x2 : Int}  (h : pj_G L d 111 0 [pj_vR 38, pj_vI x1, pj_vI x2, pj_vI 1, pj_vU, pj_vU, pj_vU] [] M (fun r M1 => pj_G L (d + 1) 113 86 [pj_vR 38, pj_vI x1, pj_vI x2] (r.toList ++ []) M1 Q)) : pj_G L (d + 1) 113 79 [pj_vR 38, pj_vI x1, pj_vI x2] [] M Q := by
  refine pj_G_s (d := d + 1) pj_np113 4 (show pj_gs 4 L 113 79 [pj_vR 38, pj_vI x1, pj_vI x2] [] M = some ([], 83, [pj_vR 38, pj_vI x1, pj_vI x2], [pj_vI 1, pj_vI x2, pj_vI x1, pj_vR 38], M) from rfl) trivial ?_
  exact pj_G_k (j := 111) (vs := [pj_vR 38, pj_vI x1, pj_vI x2, pj_vI 1]) (st := []) rfl rfl rfl rfl rfl (Nat.le_of_ble_eq_true rfl) pj_nc111 h
theorem pj_C113_86 {L d : Nat} {Q : Option pj_V → pj_M → Prop} {M : pj_M} {x1 x2 : Int}  (h : pj_G L d 113 59 [pj_vR 38, pj_vI x1, pj_vI (x2 + 1)] [] M Q) : pj_G L d 113 86 [pj_vR 38, pj_vI x1, pj_vI x2] [] M Q := by
  refine pj_G_s pj_np113 2 (show pj_gs 2 L 113 86 [pj_vR 38, pj_vI x1, pj_vI x2] [] M = some ([], 59, [pj_vR 38, pj_vI x1, pj_vI (x2 + 1)], [], M) from rfl) trivial ?_
  exact h
theorem pj_C113_92 {L d : Nat} {Q : Option pj_V → pj_M → Prop} {M : pj_M} {x1 : Int}  (h : pj_G L d 113 53 [pj_vR 38, pj_vI (x1 + ((-1))), pj_vU] [] M Q) : pj_G L d 113 92 [pj_vR 38, pj_vI x1, pj_vU] [] M Q := by
  refine pj_G_s pj_np113 2 (show pj_gs 2 L 113 92 [pj_vR 38, pj_vI x1, pj_vU] [] M = some ([], 53, [pj_vR 38, pj_vI (x1 + ((-1))), pj_vU], [], M) from rfl) trivial ?_
  exact h
theorem pj_C113_98 {L d : Nat} {Q : Option pj_V → pj_M → Prop} {M : pj_M}  (h : pj_G L d 113 100 [pj_vR 38, pj_vI 0, pj_vU] [] M Q) : pj_G L d 113 98 [pj_vR 38, pj_vU, pj_vU] [] M Q := by
  refine pj_G_s pj_np113 2 (show pj_gs 2 L 113 98 [pj_vR 38, pj_vU, pj_vU] [] M = some ([], 100, [pj_vR 38, pj_vI 0, pj_vU], [], M) from rfl) trivial ?_
  exact h
theorem pj_C113_100 {L d : Nat} {Q : Option pj_V → pj_M → Prop} {M : pj_M} {x1 : Int} (r0 : -2147483648 ≤ x1 ∧ x1 < 2147483648) (r1 : -2147483648 ≤ M 38 20 ∧ M 38 20 < 2147483648) (h1 : M 38 20 ≤ x1 → pj_G L d 113 163 [pj_vU, pj_vU, pj_vU] [] M Q) (h2 : x1 < M 38 20 → pj_G L d 113 108 [pj_vR 38, pj_vI x1, pj_vU] [] M Q) : pj_G L d 113 100 [pj_vR 38, pj_vI x1, pj_vU] [] M Q := by
  refine pj_G_s pj_np113 3 (show pj_gs 3 L 113 100 [pj_vR 38, pj_vI x1, pj_vU] [] M = some ([], 105, [pj_vR 38, pj_vI x1, pj_vU], [pj_vI (M 38 20), pj_vI x1], M) from rfl) trivial ?_
  exact pj_G_if (t := 163) rfl rfl (fun z => pj_G_loc (pj_lle_u rfl (pj_lle_u rfl (pj_lle_e pj_lle_nil))) (h1 (pj_ct_ge (pj_nrm_id r0.1 r0.2) (pj_nrm_id r1.1 r1.2) z))) (fun z => h2 (pj_cf_ge (pj_nrm_id r0.1 r0.2) (pj_nrm_id r1.1 r1.2) z))
theorem pj_C113_108 {L d : Nat} {Q : Option pj_V → pj_M → Prop} {M : pj_M} {x1 : Int}  (h : pj_G L d 113 110 [pj_vR 38, pj_vI x1, pj_vI 0] [] M Q) : pj_G L d 113 108 [pj_vR 38, pj_vI x1, pj_vU] [] M Q := by
  refine pj_G_s pj_np113 2 (show pj_gs 2 L 113 108 [pj_vR 38, pj_vI x1, pj_vU] [] M = some ([], 110, [pj_vR 38, pj_vI x1, pj_vI 0], [], M) from rfl) trivial ?_
  exact h
theorem pj_C113_110 {L d : Nat} {Q : Option pj_V → pj_M → Prop} {M : pj_M} {x1 x2 : Int} (r0 : -2147483648 ≤ x2 ∧ x2 < 2147483648) (h1 : (81 : Int) ≤ x2 → pj_G L d 113 157 [pj_vR 38, pj_vI x1, pj_vU] [] M Q) (h2 : x2 < (81 : Int) → pj_G L d 113 116 [pj_vR 38, pj_vI x1, pj_vI x2] [] M Q) : pj_G L d 113 110 [pj_vR 38, pj_vI x1, pj_vI x2] [] M Q := by
  refine pj_G_s pj_np113 2 (show pj_gs 2 L 113 110 [pj_vR 38, pj_vI x1, pj_vI x2] [] M = some ([], 113, [pj_vR 38, pj_vI x1, pj_vI x2], [pj_vI 81, pj_vI x2], M) from rfl) trivial ?_
  exact pj_G_if (t := 157) rfl rfl (fun z => pj_G_loc (pj_lle_e (pj_lle_e (pj_lle_u rfl pj_lle_nil))) (h1 (pj_ct_ge (pj_nrm_id r0.1 r0.2) (pj_nrm_id (by omega) (by omega)) z))) (fun z => h2 (pj_cf_ge (pj_nrm_id r0.1 r0.2) (pj_nrm_id (by omega) (by omega)) z))
theorem pj_C113_116 {L d : Nat} {Q : Option pj_V → pj_M → Prop} {M : pj_M} {x1 x2 : Int} (j0 : Nat) (ej0 : (81 * x1) + x2 = (j0 : Int)) (bj0 : j0 < 324) (r0 : -2147483648 ≤ M 61 j0 ∧ M 61 j0 < 2147483648) (h1 : M 61 j0 = 0 → pj_G L d 113 151 [pj_vR 38, pj_vI x1, pj_vI x2] [] M Q) (h2 : M 61 j0 ≠ 0 → pj_G L d 113 130 [pj_vR 38, pj_vI x1, pj_vI x2] [] M Q) : pj_G L d 113 116 [pj_vR 38, pj_vI x1, pj_vI x2] [] M Q := by
  have nj0 : pj_nrm ((81 * x1) + x2) = (j0 : Int) := pj_nk ej0 (by omega)
  refine pj_G_s pj_np113 8 (show pj_gs 8 L 113 116 [pj_vR 38, pj_vI x1, pj_vI x2] [] M = some ([0 ≤ pj_nrm ((81 * x1) + x2) ∧ pj_nrm ((81 * x1) + x2) < (324 : Int)], 127, [pj_vR 38, pj_vI x1, pj_vI x2], [pj_vI (M 61 (pj_nrm ((81 * x1) + x2)).toNat)], M) from rfl) ⟨by omega, trivial⟩ ?_
  simp only [nj0, Int.toNat_natCast]
  exact pj_G_if0 (t := 151) rfl rfl (fun z => h1 (pj_ct_eq (pj_nrm_id r0.1 r0.2) rfl z)) (fun z => h2 (pj_cf_eq (pj_nrm_id r0.1 r0.2) rfl z))
theorem pj_C113_130 {L d : Nat} {Q : Option pj_V → pj_M → Prop} {M : pj_M} {x1 x2 : Int} (j0 : Nat) (ej0 : (81 * x1) + x2 = (j0 : Int)) (bj0 : j0 < 324) (r0 : -2147483648 ≤ M 62 j0 ∧ M 62 j0 < 2147483648) (h1 : M 62 j0 = 0 → pj_G L d 113 151 [pj_vR 38, pj_vI x1, pj_vI x2] [] M Q) (h2 : M 62 j0 ≠ 0 → pj_G L d 113 144 [pj_vR 38, pj_vI x1, pj_vI x2] [] M Q) : pj_G L d 113 130 [pj_vR 38, pj_vI x1, pj_vI x2] [] M Q := by
  have nj0 : pj_nrm ((81 * x1) + x2) = (j0 : Int) := pj_nk ej0 (by omega)
  refine pj_G_s pj_np113 8 (show pj_gs 8 L 113 130 [pj_vR 38, pj_vI x1, pj_vI x2] [] M = some ([0 ≤ pj_nrm ((81 * x1) + x2) ∧ pj_nrm ((81 * x1) + x2) < (324 : Int)], 141, [pj_vR 38, pj_vI x1, pj_vI x2], [pj_vI (M 62 (pj_nrm ((81 * x1) + x2)).toNat)], M) from rfl) ⟨by omega, trivial⟩ ?_
  simp only [nj0, Int.toNat_natCast]
  exact pj_G_if0 (t := 151) rfl rfl (fun z => h1 (pj_ct_eq (pj_nrm_id r0.1 r0.2) rfl z)) (fun z => h2 (pj_cf_eq (pj_nrm_id r0.1 r0.2) rfl z))
theorem pj_C113_144 {L d : Nat} {Q : Option pj_V → pj_M → Prop} {M : pj_M} {x1 x2 : Int}  (h : pj_G L d 111 0 [pj_vR 38, pj_vI x1, pj_vI x2, pj_vI 2, pj_vU, pj_vU, pj_vU] [] M (fun r M1 => pj_G L (d + 1) 113 151 [pj_vR 38, pj_vI x1, pj_vI x2] (r.toList ++ []) M1 Q)) : pj_G L (d + 1) 113 144 [pj_vR 38, pj_vI x1, pj_vI x2] [] M Q := by
  refine pj_G_s (d := d + 1) pj_np113 4 (show pj_gs 4 L 113 144 [pj_vR 38, pj_vI x1, pj_vI x2] [] M = some ([], 148, [pj_vR 38, pj_vI x1, pj_vI x2], [pj_vI 2, pj_vI x2, pj_vI x1, pj_vR 38], M) from rfl) trivial ?_
  exact pj_G_k (j := 111) (vs := [pj_vR 38, pj_vI x1, pj_vI x2, pj_vI 2]) (st := []) rfl rfl rfl rfl rfl (Nat.le_of_ble_eq_true rfl) pj_nc111 h
theorem pj_C113_151 {L d : Nat} {Q : Option pj_V → pj_M → Prop} {M : pj_M} {x1 x2 : Int}  (h : pj_G L d 113 110 [pj_vR 38, pj_vI x1, pj_vI (x2 + 1)] [] M Q) : pj_G L d 113 151 [pj_vR 38, pj_vI x1, pj_vI x2] [] M Q := by
  refine pj_G_s pj_np113 2 (show pj_gs 2 L 113 151 [pj_vR 38, pj_vI x1, pj_vI x2] [] M = some ([], 110, [pj_vR 38, pj_vI x1, pj_vI (x2 + 1)], [], M) from rfl) trivial ?_
  exact h
theorem pj_C113_157 {L d : Nat} {Q : Option pj_V → pj_M → Prop} {M : pj_M} {x1 : Int}  (h : pj_G L d 113 100 [pj_vR 38, pj_vI (x1 + 1), pj_vU] [] M Q) : pj_G L d 113 157 [pj_vR 38, pj_vI x1, pj_vU] [] M Q := by
  refine pj_G_s pj_np113 2 (show pj_gs 2 L 113 157 [pj_vR 38, pj_vI x1, pj_vU] [] M = some ([], 100, [pj_vR 38, pj_vI (x1 + 1), pj_vU], [], M) from rfl) trivial ?_
  exact h
theorem pj_C113_163 {L d : Nat} {Q : Option pj_V → pj_M → Prop} {M : pj_M}  (h : Q (none) M) : pj_G L d 113 163 [pj_vU, pj_vU, pj_vU] [] M Q := by
  exact pj_G_r rfl rfl rfl h
theorem pj_C114_0 {L d : Nat} {Q : Option pj_V → pj_M → Prop} {M : pj_M} {x1 x2 : Int}  (h : pj_G L d 89 0 [pj_vR 38, pj_vI x1] [] M (fun r M1 => pj_G L (d + 1) 114 5 [pj_vR 38, pj_vI x1, pj_vI x2] (r.toList ++ []) M1 Q)) : pj_G L (d + 1) 114 0 [pj_vR 38, pj_vI x1, pj_vI x2] [] M Q := by
  refine pj_G_s (d := d + 1) pj_np114 2 (show pj_gs 2 L 114 0 [pj_vR 38, pj_vI x1, pj_vI x2] [] M = some ([], 2, [pj_vR 38, pj_vI x1, pj_vI x2], [pj_vI x1, pj_vR 38], M) from rfl) trivial ?_
  exact pj_G_k (j := 89) (vs := [pj_vR 38, pj_vI x1]) (st := []) rfl rfl rfl rfl rfl (Nat.le_of_ble_eq_true rfl) pj_nc89 h
theorem pj_C114_5 {L d : Nat} {Q : Option pj_V → pj_M → Prop} {M : pj_M} {x1 x2 s0 : Int} (r0 : -2147483648 ≤ s0 ∧ s0 < 2147483648) (h1 : s0 = 0 → pj_G L d 114 16 [pj_vR 38, pj_vU, pj_vU] [] M Q) (h2 : s0 ≠ 0 → pj_G L d 114 8 [pj_vR 38, pj_vI x1, pj_vI x2] [] M Q) : pj_G L d 114 5 [pj_vR 38, pj_vI x1, pj_vI x2] [pj_vI s0] M Q := by
  exact pj_G_if0 (t := 16) rfl rfl (fun z => pj_G_loc (pj_lle_e (pj_lle_u rfl (pj_lle_u rfl pj_lle_nil))) (h1 (pj_ct_eq (pj_nrm_id r0.1 r0.2) rfl z))) (fun z => h2 (pj_cf_eq (pj_nrm_id r0.1 r0.2) rfl z))
theorem pj_C114_8 {L d : Nat} {Q : Option pj_V → pj_M → Prop} {M : pj_M} {x1 x2 : Int}  (h : pj_G L d 87 0 [pj_vR 38, pj_vI x2] [] M (fun r M1 => pj_G L (d + 1) 114 13 [pj_vR 38, pj_vI x1, pj_vI x2] (r.toList ++ []) M1 Q)) : pj_G L (d + 1) 114 8 [pj_vR 38, pj_vI x1, pj_vI x2] [] M Q := by
  refine pj_G_s (d := d + 1) pj_np114 2 (show pj_gs 2 L 114 8 [pj_vR 38, pj_vI x1, pj_vI x2] [] M = some ([], 10, [pj_vR 38, pj_vI x1, pj_vI x2], [pj_vI x2, pj_vR 38], M) from rfl) trivial ?_
  exact pj_G_k (j := 87) (vs := [pj_vR 38, pj_vI x2]) (st := []) rfl rfl rfl rfl rfl (Nat.le_of_ble_eq_true rfl) pj_nc87 h
theorem pj_C114_13 {L d : Nat} {Q : Option pj_V → pj_M → Prop} {M : pj_M} {x1 x2 s0 : Int} (r0 : -2147483648 ≤ s0 ∧ s0 < 2147483648) (h1 : s0 ≠ 0 → pj_G L d 114 23 [pj_vR 38, pj_vI x1, pj_vI x2] [] M Q) (h2 : s0 = 0 → pj_G L d 114 16 [pj_vR 38, pj_vU, pj_vU] [] M Q) : pj_G L d 114 13 [pj_vR 38, pj_vI x1, pj_vI x2] [pj_vI s0] M Q := by
  exact pj_G_if0 (t := 23) rfl rfl (fun z => h1 (pj_ct_ne (pj_nrm_id r0.1 r0.2) rfl z)) (fun z => pj_G_loc (pj_lle_e (pj_lle_u rfl (pj_lle_u rfl pj_lle_nil))) (h2 (pj_cf_ne (pj_nrm_id r0.1 r0.2) rfl z)))
theorem pj_C114_16 {L d : Nat} {Q : Option pj_V → pj_M → Prop} {M : pj_M}  (h : pj_G L d 86 0 [pj_vR 38, pj_vI ((-3))] [] M (fun r M1 => pj_G L (d + 1) 114 22 [pj_vU, pj_vU, pj_vU] (r.toList ++ []) M1 Q)) : pj_G L (d + 1) 114 16 [pj_vR 38, pj_vU, pj_vU] [] M Q := by
  refine pj_G_s (d := d + 1) pj_np114 2 (show pj_gs 2 L 114 16 [pj_vR 38, pj_vU, pj_vU] [] M = some ([], 19, [pj_vR 38, pj_vU, pj_vU], [pj_vI ((-3)), pj_vR 38], M) from rfl) trivial ?_
  exact pj_G_k (j := 86) (vs := [pj_vR 38, pj_vI ((-3))]) (st := []) rfl rfl rfl rfl rfl (Nat.le_of_ble_eq_true rfl) pj_nc86 (pj_G.mono h (fun _ _ hh => pj_G_loc (pj_lle_u rfl (pj_lle_e (pj_lle_e pj_lle_nil))) hh))
theorem pj_C114_22 {L d : Nat} {Q : Option pj_V → pj_M → Prop} {M : pj_M} {s0 : Int}  (h : Q (some (pj_vI s0)) M) : pj_G L d 114 22 [pj_vU, pj_vU, pj_vU] [pj_vI s0] M Q := by
  exact pj_G_r rfl rfl rfl h
theorem pj_C114_23 {L d : Nat} {Q : Option pj_V → pj_M → Prop} {M : pj_M} {x1 x2 : Int}  (h : pj_G L d 115 0 [pj_vR 38, pj_vI x1, pj_vU, pj_vU] [] M (fun r M1 => pj_G L (d + 1) 114 28 [pj_vR 38, pj_vU, pj_vI x2] (r.toList ++ []) M1 Q)) : pj_G L (d + 1) 114 23 [pj_vR 38, pj_vI x1, pj_vI x2] [] M Q := by
  refine pj_G_s (d := d + 1) pj_np114 2 (show pj_gs 2 L 114 23 [pj_vR 38, pj_vI x1, pj_vI x2] [] M = some ([], 25, [pj_vR 38, pj_vI x1, pj_vI x2], [pj_vI x1, pj_vR 38], M) from rfl) trivial ?_
  exact pj_G_k (j := 115) (vs := [pj_vR 38, pj_vI x1]) (st := []) rfl rfl rfl rfl rfl (Nat.le_of_ble_eq_true rfl) pj_nc115 (pj_G.mono h (fun _ _ hh => pj_G_loc (pj_lle_e (pj_lle_u rfl (pj_lle_e pj_lle_nil))) hh))
theorem pj_C114_28 {L d : Nat} {Q : Option pj_V → pj_M → Prop} {M : pj_M} {x2 : Int} (j0 : Nat) (ej0 : x2 = (j0 : Int)) (bj0 : j0 < 14) (h : Q (some (pj_vI (M 59 j0))) M) : pj_G L d 114 28 [pj_vR 38, pj_vU, pj_vI x2] [] M Q := by
  have nj0 : pj_nrm x2 = (j0 : Int) := pj_nk ej0 (by omega)
  refine pj_G_s pj_np114 4 (show pj_gs 4 L 114 28 [pj_vR 38, pj_vU, pj_vI x2] [] M = some ([0 ≤ pj_nrm x2 ∧ pj_nrm x2 < (14 : Int)], 34, [pj_vR 38, pj_vU, pj_vI x2], [pj_vI (M 59 (pj_nrm x2).toNat)], M) from rfl) ⟨by omega, trivial⟩ ?_
  simp only [nj0, Int.toNat_natCast]
  exact pj_G_r rfl rfl rfl h
theorem pj_C115_0 {L d : Nat} {Q : Option pj_V → pj_M → Prop} {M : pj_M} {x1 : Int}  (h : pj_G L d 115 14 [pj_vR 38, pj_vI x1, pj_vI 0, pj_vI 0] [] (pj_up (pj_up M 38 23 0) 38 24 0) Q) : pj_G L d 115 0 [pj_vR 38, pj_vI x1, pj_vU, pj_vU] [] M Q := by
  refine pj_G_s pj_np115 10 (show pj_gs 10 L 115 0 [pj_vR 38, pj_vI x1, pj_vU, pj_vU] [] M = some ([], 14, [pj_vR 38, pj_vI x1, pj_vI 0, pj_vI 0], [], pj_up (pj_up M 38 23 0) 38 24 0) from rfl) trivial ?_
  exact h
theorem pj_C115_14 {L d : Nat} {Q : Option pj_V → pj_M → Prop} {M : pj_M} {x1 x2 x3 : Int} (r0 : -2147483648 ≤ x3 ∧ x3 < 2147483648) (r1 : -2147483648 ≤ x1 ∧ x1 < 2147483648) (h1 : x1 < x3 → pj_G L d 115 36 [pj_vU, pj_vU, pj_vU, pj_vU] [] M Q) (h2 : x3 ≤ x1 → pj_G L d 115 19 [pj_vR 38, pj_vI x1, pj_vI x2, pj_vI x3] [] M Q) : pj_G L d 115 14 [pj_vR 38, pj_vI x1, pj_vI x2, pj_vI x3] [] M Q := by
  refine pj_G_s pj_np115 2 (show pj_gs 2 L 115 14 [pj_vR 38, pj_vI x1, pj_vI x2, pj_vI x3] [] M = some ([], 16, [pj_vR 38, pj_vI x1, pj_vI x2, pj_vI x3], [pj_vI x1, pj_vI x3], M) from rfl) trivial ?_
  exact pj_G_if (t := 36) rfl rfl (fun z => pj_G_loc (pj_lle_u rfl (pj_lle_u rfl (pj_lle_u rfl (pj_lle_u rfl pj_lle_nil)))) (h1 (pj_ct_gt (pj_nrm_id r0.1 r0.2) (pj_nrm_id r1.1 r1.2) z))) (fun z => h2 (pj_cf_gt (pj_nrm_id r0.1 r0.2) (pj_nrm_id r1.1 r1.2) z))
theorem pj_C115_19 {L d : Nat} {Q : Option pj_V → pj_M → Prop} {M : pj_M} {x1 x2 x3 : Int}  (h : pj_G L d 107 0 [pj_vR 38, pj_vI x3, pj_vI x2, pj_vU, pj_vU] [] M (fun r M1 => pj_G L (d + 1) 115 25 [pj_vR 38, pj_vI x1, pj_vU, pj_vI x3] (r.toList ++ []) M1 Q)) : pj_G L (d + 1) 115 19 [pj_vR 38, pj_vI x1, pj_vI x2, pj_vI x3] [] M Q := by
  refine pj_G_s (d := d + 1) pj_np115 3 (show pj_gs 3 L 115 19 [pj_vR 38, pj_vI x1, pj_vI x2, pj_vI x3] [] M = some ([], 22, [pj_vR 38, pj_vI x1, pj_vI x2, pj_vI x3], [pj_vI x2, pj_vI x3, pj_vR 38], M) from rfl) trivial ?_
  exact pj_G_k (j := 107) (vs := [pj_vR 38, pj_vI x3, pj_vI x2]) (st := []) rfl rfl rfl rfl rfl (Nat.le_of_ble_eq_true rfl) pj_nc107 (pj_G.mono h (fun _ _ hh => pj_G_loc (pj_lle_e (pj_lle_e (pj_lle_u rfl (pj_lle_e pj_lle_nil)))) hh))
theorem pj_C115_25 {L d : Nat} {Q : Option pj_V → pj_M → Prop} {M : pj_M} {x1 x3 : Int}  (h : pj_G L d 109 0 [pj_vR 38, pj_vU, pj_vU] [] M (fun r M1 => pj_G L (d + 1) 115 29 [pj_vR 38, pj_vI x1, pj_vU, pj_vI x3] (r.toList ++ []) M1 Q)) : pj_G L (d + 1) 115 25 [pj_vR 38, pj_vI x1, pj_vU, pj_vI x3] [] M Q := by
  refine pj_G_s (d := d + 1) pj_np115 1 (show pj_gs 1 L 115 25 [pj_vR 38, pj_vI x1, pj_vU, pj_vI x3] [] M = some ([], 26, [pj_vR 38, pj_vI x1, pj_vU, pj_vI x3], [pj_vR 38], M) from rfl) trivial ?_
  exact pj_G_k (j := 109) (vs := [pj_vR 38]) (st := []) rfl rfl rfl rfl rfl (Nat.le_of_ble_eq_true rfl) pj_nc109 h
theorem pj_C115_29 {L d : Nat} {Q : Option pj_V → pj_M → Prop} {M : pj_M} {x1 x3 s0 : Int}  (h : pj_G L d 115 14 [pj_vR 38, pj_vI x1, pj_vI s0, pj_vI (x3 + 1)] [] M Q) : pj_G L d 115 29 [pj_vR 38, pj_vI x1, pj_vU, pj_vI x3] [pj_vI s0] M Q := by
  refine pj_G_s pj_np115 3 (show pj_gs 3 L 115 29 [pj_vR 38, pj_vI x1, pj_vU, pj_vI x3] [pj_vI s0] M = some ([], 14, [pj_vR 38, pj_vI x1, pj_vI s0, pj_vI (x3 + 1)], [], M) from rfl) trivial ?_
  exact h
theorem pj_C115_36 {L d : Nat} {Q : Option pj_V → pj_M → Prop} {M : pj_M}  (h : Q (none) M) : pj_G L d 115 36 [pj_vU, pj_vU, pj_vU, pj_vU] [] M Q := by
  exact pj_G_r rfl rfl rfl h
theorem pj_C116_0 {L d : Nat} {Q : Option pj_V → pj_M → Prop} {M : pj_M} {x1 : Int}  (h : pj_G L d 116 12 [pj_vR 38, pj_vI x1, pj_vI 0] [] (pj_up (pj_up M 38 23 0) 38 24 0) Q) : pj_G L d 116 0 [pj_vR 38, pj_vI x1, pj_vU] [] M Q := by
  refine pj_G_s pj_np116 8 (show pj_gs 8 L 116 0 [pj_vR 38, pj_vI x1, pj_vU] [] M = some ([], 12, [pj_vR 38, pj_vI x1, pj_vI 0], [], pj_up (pj_up M 38 23 0) 38 24 0) from rfl) trivial ?_
  exact h
theorem pj_C116_12 {L d : Nat} {Q : Option pj_V → pj_M → Prop} {M : pj_M} {x1 x2 : Int} (r0 : -2147483648 ≤ x2 ∧ x2 < 2147483648) (r1 : -2147483648 ≤ M 38 18 ∧ M 38 18 < 2147483648) (h1 : M 38 18 ≤ x2 → pj_G L d 116 118 [pj_vU, pj_vU, pj_vU] [] M Q) (h2 : x2 < M 38 18 → pj_G L d 116 20 [pj_vR 38, pj_vI x1, pj_vI x2] [] M Q) : pj_G L d 116 12 [pj_vR 38, pj_vI x1, pj_vI x2] [] M Q := by
  refine pj_G_s pj_np116 3 (show pj_gs 3 L 116 12 [pj_vR 38, pj_vI x1, pj_vI x2] [] M = some ([], 17, [pj_vR 38, pj_vI x1, pj_vI x2], [pj_vI (M 38 18), pj_vI x2], M) from rfl) trivial ?_
  exact pj_G_if (t := 118) rfl rfl (fun z => pj_G_loc (pj_lle_u rfl (pj_lle_u rfl (pj_lle_u rfl pj_lle_nil))) (h1 (pj_ct_ge (pj_nrm_id r0.1 r0.2) (pj_nrm_id r1.1 r1.2) z))) (fun z => h2 (pj_cf_ge (pj_nrm_id r0.1 r0.2) (pj_nrm_id r1.1 r1.2) z))
theorem pj_C116_20 {L d : Nat} {Q : Option pj_V → pj_M → Prop} {M : pj_M} {x1 x2 : Int} (j0 : Nat) (ej0 : x2 = (j0 : Int)) (bj0 : j0 < 32) (h1 : pj_bt x1 j0 = true → pj_G L d 116 31 [pj_vR 38, pj_vI x1, pj_vI x2] [] M Q) (h2 : pj_bt x1 j0 = false → pj_G L d 116 28 [pj_vR 38, pj_vI x1, pj_vI x2] [] M Q) : pj_G L d 116 20 [pj_vR 38, pj_vI x1, pj_vI x2] [] M Q := by
  have nj0 : pj_nrm x2 = (j0 : Int) := pj_nk ej0 (by omega)
  refine pj_G_s pj_np116 5 (show pj_gs 5 L 116 20 [pj_vR 38, pj_vI x1, pj_vI x2] [] M = some ([], 25, [pj_vR 38, pj_vI x1, pj_vI x2], [pj_vI (pj_and (pj_shr x1 x2) 1)], M) from rfl) trivial ?_
  exact pj_G_if0 (t := 31) rfl rfl (fun z => h1 (pj_ine0 (pj_ct_ne (pj_tst ej0 (by omega)) rfl z))) (fun z => h2 (pj_ieq0 (pj_cf_ne (pj_tst ej0 (by omega)) rfl z)))
theorem pj_C116_28 {L d : Nat} {Q : Option pj_V → pj_M → Prop} {M : pj_M} {x1 x2 : Int}  (h : pj_G L d 116 112 [pj_vR 38, pj_vI x1, pj_vI x2] [] M Q) : pj_G L d 116 28 [pj_vR 38, pj_vI x1, pj_vI x2] [] M Q := by
  refine pj_G_s pj_np116 1 (show pj_gs 1 L 116 28 [pj_vR 38, pj_vI x1, pj_vI x2] [] M = some ([], 112, [pj_vR 38, pj_vI x1, pj_vI x2], [], M) from rfl) trivial ?_
  exact h
theorem pj_C116_112 {L d : Nat} {Q : Option pj_V → pj_M → Prop} {M : pj_M} {x1 x2 : Int}  (h : pj_G L d 116 12 [pj_vR 38, pj_vI x1, pj_vI (x2 + 1)] [] M Q) : pj_G L d 116 112 [pj_vR 38, pj_vI x1, pj_vI x2] [] M Q := by
  refine pj_G_s pj_np116 2 (show pj_gs 2 L 116 112 [pj_vR 38, pj_vI x1, pj_vI x2] [] M = some ([], 12, [pj_vR 38, pj_vI x1, pj_vI (x2 + 1)], [], M) from rfl) trivial ?_
  exact h
theorem pj_C116_31 {L d : Nat} {Q : Option pj_V → pj_M → Prop} {M : pj_M} {x1 x2 : Int} (j0 : Nat) (ej0 : x2 = (j0 : Int)) (bj0 : j0 < 7) (r0 : -2147483648 ≤ M 49 j0 ∧ M 49 j0 < 2147483648) (h1 : M 49 j0 ≠ 0 → pj_G L d 116 55 [pj_vR 38, pj_vI x1, pj_vI x2] [] M Q) (h2 : M 49 j0 = 0 → pj_G L d 116 40 [pj_vR 38, pj_vI x1, pj_vI x2] [] M Q) : pj_G L d 116 31 [pj_vR 38, pj_vI x1, pj_vI x2] [] M Q := by
  have nj0 : pj_nrm x2 = (j0 : Int) := pj_nk ej0 (by omega)
  refine pj_G_s pj_np116 4 (show pj_gs 4 L 116 31 [pj_vR 38, pj_vI x1, pj_vI x2] [] M = some ([0 ≤ pj_nrm x2 ∧ pj_nrm x2 < (7 : Int)], 37, [pj_vR 38, pj_vI x1, pj_vI x2], [pj_vI (M 49 (pj_nrm x2).toNat)], M) from rfl) ⟨by omega, trivial⟩ ?_
  simp only [nj0, Int.toNat_natCast]
  exact pj_G_if0 (t := 55) rfl rfl (fun z => h1 (pj_ct_ne (pj_nrm_id r0.1 r0.2) rfl z)) (fun z => h2 (pj_cf_ne (pj_nrm_id r0.1 r0.2) rfl z))
theorem pj_C116_40 {L d : Nat} {Q : Option pj_V → pj_M → Prop} {M : pj_M} {x1 x2 : Int}  (h : pj_G L d 116 67 [pj_vR 38, pj_vI x1, pj_vI x2] [] (pj_up M 38 23 (pj_or (M 38 23) (pj_shl 1 x2))) Q) : pj_G L d 116 40 [pj_vR 38, pj_vI x1, pj_vI x2] [] M Q := by
  refine pj_G_s pj_np116 9 (show pj_gs 9 L 116 40 [pj_vR 38, pj_vI x1, pj_vI x2] [] M = some ([], 67, [pj_vR 38, pj_vI x1, pj_vI x2], [], pj_up M 38 23 (pj_or (M 38 23) (pj_shl 1 x2))) from rfl) trivial ?_
  exact h
theorem pj_C116_67 {L d : Nat} {Q : Option pj_V → pj_M → Prop} {M : pj_M} {x1 x2 : Int} (j0 : Nat) (ej0 : x2 = (j0 : Int)) (bj0 : j0 < 7) (h : pj_G L d 116 74 [pj_vR 38, pj_vI x1, pj_vI x2] [] (pj_up M 58 j0 1) Q) : pj_G L d 116 67 [pj_vR 38, pj_vI x1, pj_vI x2] [] M Q := by
  have nj0 : pj_nrm x2 = (j0 : Int) := pj_nk ej0 (by omega)
  refine pj_G_s pj_np116 5 (show pj_gs 5 L 116 67 [pj_vR 38, pj_vI x1, pj_vI x2] [] M = some ([0 ≤ pj_nrm x2 ∧ pj_nrm x2 < (7 : Int)], 74, [pj_vR 38, pj_vI x1, pj_vI x2], [], pj_up M 58 (pj_nrm x2).toNat 1) from rfl) ⟨by omega, trivial⟩ ?_
  simp only [nj0, Int.toNat_natCast]
  exact h
theorem pj_C116_74 {L d : Nat} {Q : Option pj_V → pj_M → Prop} {M : pj_M} {x1 x2 : Int} (j0 : Nat) (ej0 : x2 = (j0 : Int)) (bj0 : j0 < 7) (r0 : -2147483648 ≤ M 49 j0 ∧ M 49 j0 < 2147483648) (h1 : M 49 j0 = 0 → pj_G L d 116 112 [pj_vR 38, pj_vI x1, pj_vI x2] [] M Q) (h2 : M 49 j0 ≠ 0 → pj_G L d 116 83 [pj_vR 38, pj_vI x1, pj_vI x2] [] M Q) : pj_G L d 116 74 [pj_vR 38, pj_vI x1, pj_vI x2] [] M Q := by
  have nj0 : pj_nrm x2 = (j0 : Int) := pj_nk ej0 (by omega)
  refine pj_G_s pj_np116 4 (show pj_gs 4 L 116 74 [pj_vR 38, pj_vI x1, pj_vI x2] [] M = some ([0 ≤ pj_nrm x2 ∧ pj_nrm x2 < (7 : Int)], 80, [pj_vR 38, pj_vI x1, pj_vI x2], [pj_vI (M 49 (pj_nrm x2).toNat)], M) from rfl) ⟨by omega, trivial⟩ ?_
  simp only [nj0, Int.toNat_natCast]
  exact pj_G_if0 (t := 112) rfl rfl (fun z => h1 (pj_ct_eq (pj_nrm_id r0.1 r0.2) rfl z)) (fun z => h2 (pj_cf_eq (pj_nrm_id r0.1 r0.2) rfl z))
theorem pj_C116_83 {L d : Nat} {Q : Option pj_V → pj_M → Prop} {M : pj_M} {x1 x2 : Int} (j0 : Nat) (ej0 : x2 = (j0 : Int)) (bj0 : j0 < 7) (h1 : pj_and (M 49 j0) (M 58 j0) ≠ 0 → pj_G L d 116 112 [pj_vR 38, pj_vI x1, pj_vI x2] [] M Q) (h2 : pj_and (M 49 j0) (M 58 j0) = 0 → pj_G L d 116 99 [pj_vR 38, pj_vI x1, pj_vI x2] [] M Q) : pj_G L d 116 83 [pj_vR 38, pj_vI x1, pj_vI x2] [] M Q := by
  have nj0 : pj_nrm x2 = (j0 : Int) := pj_nk ej0 (by omega)
  refine pj_G_s pj_np116 9 (show pj_gs 9 L 116 83 [pj_vR 38, pj_vI x1, pj_vI x2] [] M = some ([0 ≤ pj_nrm x2 ∧ pj_nrm x2 < (7 : Int), 0 ≤ pj_nrm x2 ∧ pj_nrm x2 < (7 : Int)], 96, [pj_vR 38, pj_vI x1, pj_vI x2], [pj_vI (pj_and (M 49 (pj_nrm x2).toNat) (M 58 (pj_nrm x2).toNat))], M) from rfl) ⟨by omega, by omega, trivial⟩ ?_
  simp only [nj0, Int.toNat_natCast]
  exact pj_G_if0 (t := 112) rfl rfl (fun z => h1 (pj_ct_ne (pj_nrm_op _) rfl z)) (fun z => h2 (pj_cf_ne (pj_nrm_op _) rfl z))
theorem pj_C116_99 {L d : Nat} {Q : Option pj_V → pj_M → Prop} {M : pj_M} {x1 x2 : Int} (j0 : Nat) (ej0 : x2 = (j0 : Int)) (bj0 : j0 < 7) (h : pj_G L d 116 74 [pj_vR 38, pj_vI x1, pj_vI x2] [] (pj_up M 58 j0 ((M 58 j0) * 2)) Q) : pj_G L d 116 99 [pj_vR 38, pj_vI x1, pj_vI x2] [] M Q := by
  have nj0 : pj_nrm x2 = (j0 : Int) := pj_nk ej0 (by omega)
  refine pj_G_s pj_np116 9 (show pj_gs 9 L 116 99 [pj_vR 38, pj_vI x1, pj_vI x2] [] M = some ([0 ≤ pj_nrm x2 ∧ pj_nrm x2 < (7 : Int), 0 ≤ pj_nrm x2 ∧ pj_nrm x2 < (7 : Int)], 74, [pj_vR 38, pj_vI x1, pj_vI x2], [], pj_up M 58 (pj_nrm x2).toNat ((M 58 (pj_nrm x2).toNat) * 2)) from rfl) ⟨by omega, by omega, trivial⟩ ?_
  simp only [nj0, Int.toNat_natCast]
  exact h
theorem pj_C116_55 {L d : Nat} {Q : Option pj_V → pj_M → Prop} {M : pj_M} {x1 x2 : Int}  (h : pj_G L d 116 67 [pj_vR 38, pj_vI x1, pj_vI x2] [] (pj_up M 38 24 (pj_or (M 38 24) (pj_shl 1 x2))) Q) : pj_G L d 116 55 [pj_vR 38, pj_vI x1, pj_vI x2] [] M Q := by
  refine pj_G_s pj_np116 8 (show pj_gs 8 L 116 55 [pj_vR 38, pj_vI x1, pj_vI x2] [] M = some ([], 67, [pj_vR 38, pj_vI x1, pj_vI x2], [], pj_up M 38 24 (pj_or (M 38 24) (pj_shl 1 x2))) from rfl) trivial ?_
  exact h
theorem pj_C116_118 {L d : Nat} {Q : Option pj_V → pj_M → Prop} {M : pj_M}  (h : Q (none) M) : pj_G L d 116 118 [pj_vU, pj_vU, pj_vU] [] M Q := by
  exact pj_G_r rfl rfl rfl h
theorem pj_C117_0 {L d : Nat} {Q : Option pj_V → pj_M → Prop} {M : pj_M}  (h : pj_G L d 117 2 [pj_vR 38, pj_vI 0] [] M Q) : pj_G L d 117 0 [pj_vR 38, pj_vU] [] M Q := by
  refine pj_G_s pj_np117 2 (show pj_gs 2 L 117 0 [pj_vR 38, pj_vU] [] M = some ([], 2, [pj_vR 38, pj_vI 0], [], M) from rfl) trivial ?_
  exact h
theorem pj_C117_2 {L d : Nat} {Q : Option pj_V → pj_M → Prop} {M : pj_M} {x1 : Int} (r0 : -2147483648 ≤ x1 ∧ x1 < 2147483648) (r1 : -2147483648 ≤ M 38 18 ∧ M 38 18 < 2147483648) (h1 : M 38 18 ≤ x1 → pj_G L d 117 129 [pj_vU, pj_vU] [] M Q) (h2 : x1 < M 38 18 → pj_G L d 117 10 [pj_vR 38, pj_vI x1] [] M Q) : pj_G L d 117 2 [pj_vR 38, pj_vI x1] [] M Q := by
  refine pj_G_s pj_np117 3 (show pj_gs 3 L 117 2 [pj_vR 38, pj_vI x1] [] M = some ([], 7, [pj_vR 38, pj_vI x1], [pj_vI (M 38 18), pj_vI x1], M) from rfl) trivial ?_
  exact pj_G_if (t := 129) rfl rfl (fun z => pj_G_loc (pj_lle_u rfl (pj_lle_u rfl pj_lle_nil)) (h1 (pj_ct_ge (pj_nrm_id r0.1 r0.2) (pj_nrm_id r1.1 r1.2) z))) (fun z => h2 (pj_cf_ge (pj_nrm_id r0.1 r0.2) (pj_nrm_id r1.1 r1.2) z))
theorem pj_C117_10 {L d : Nat} {Q : Option pj_V → pj_M → Prop} {M : pj_M} {x1 : Int} (j0 : Nat) (ej0 : x1 = (j0 : Int)) (bj0 : j0 < 32) (h1 : pj_bt (M 38 24) j0 = true → pj_G L d 117 24 [pj_vR 38, pj_vI x1] [] M Q) (h2 : pj_bt (M 38 24) j0 = false → pj_G L d 117 21 [pj_vR 38, pj_vI x1] [] M Q) : pj_G L d 117 10 [pj_vR 38, pj_vI x1] [] M Q := by
  have nj0 : pj_nrm x1 = (j0 : Int) := pj_nk ej0 (by omega)
  refine pj_G_s pj_np117 6 (show pj_gs 6 L 117 10 [pj_vR 38, pj_vI x1] [] M = some ([], 18, [pj_vR 38, pj_vI x1], [pj_vI (pj_and (pj_shr (M 38 24) x1) 1)], M) from rfl) trivial ?_
  exact pj_G_if0 (t := 24) rfl rfl (fun z => h1 (pj_ine0 (pj_ct_ne (pj_tst ej0 (by omega)) rfl z))) (fun z => h2 (pj_ieq0 (pj_cf_ne (pj_tst ej0 (by omega)) rfl z)))
theorem pj_C117_21 {L d : Nat} {Q : Option pj_V → pj_M → Prop} {M : pj_M} {x1 : Int}  (h : pj_G L d 117 123 [pj_vR 38, pj_vI x1] [] M Q) : pj_G L d 117 21 [pj_vR 38, pj_vI x1] [] M Q := by
  refine pj_G_s pj_np117 1 (show pj_gs 1 L 117 21 [pj_vR 38, pj_vI x1] [] M = some ([], 123, [pj_vR 38, pj_vI x1], [], M) from rfl) trivial ?_
  exact h
theorem pj_C117_123 {L d : Nat} {Q : Option pj_V → pj_M → Prop} {M : pj_M} {x1 : Int}  (h : pj_G L d 117 2 [pj_vR 38, pj_vI (x1 + 1)] [] M Q) : pj_G L d 117 123 [pj_vR 38, pj_vI x1] [] M Q := by
  refine pj_G_s pj_np117 2 (show pj_gs 2 L 117 123 [pj_vR 38, pj_vI x1] [] M = some ([], 2, [pj_vR 38, pj_vI (x1 + 1)], [], M) from rfl) trivial ?_
  exact h
theorem pj_C117_24 {L d : Nat} {Q : Option pj_V → pj_M → Prop} {M : pj_M} {x1 : Int} (j0 : Nat) (ej0 : x1 = (j0 : Int)) (bj0 : j0 < 7) (h : pj_G L d 117 34 [pj_vR 38, pj_vI x1] [] (pj_up M 58 j0 ((M 58 j0) * 2)) Q) : pj_G L d 117 24 [pj_vR 38, pj_vI x1] [] M Q := by
  have nj0 : pj_nrm x1 = (j0 : Int) := pj_nk ej0 (by omega)
  refine pj_G_s pj_np117 8 (show pj_gs 8 L 117 24 [pj_vR 38, pj_vI x1] [] M = some ([0 ≤ pj_nrm x1 ∧ pj_nrm x1 < (7 : Int), 0 ≤ pj_nrm x1 ∧ pj_nrm x1 < (7 : Int)], 34, [pj_vR 38, pj_vI x1], [], pj_up M 58 (pj_nrm x1).toNat ((M 58 (pj_nrm x1).toNat) * 2)) from rfl) ⟨by omega, by omega, trivial⟩ ?_
  simp only [nj0, Int.toNat_natCast]
  exact h
theorem pj_C117_34 {L d : Nat} {Q : Option pj_V → pj_M → Prop} {M : pj_M} {x1 : Int} (j0 : Nat) (ej0 : x1 = (j0 : Int)) (bj0 : j0 < 7) (r0 : -2147483648 ≤ M 58 j0 ∧ M 58 j0 < 2147483648) (h1 : (16 : Int) ≤ M 58 j0 → pj_G L d 117 74 [pj_vR 38, pj_vI x1] [] M Q) (h2 : M 58 j0 < (16 : Int) → pj_G L d 117 45 [pj_vR 38, pj_vI x1] [] M Q) : pj_G L d 117 34 [pj_vR 38, pj_vI x1] [] M Q := by
  have nj0 : pj_nrm x1 = (j0 : Int) := pj_nk ej0 (by omega)
  refine pj_G_s pj_np117 5 (show pj_gs 5 L 117 34 [pj_vR 38, pj_vI x1] [] M = some ([0 ≤ pj_nrm x1 ∧ pj_nrm x1 < (7 : Int)], 42, [pj_vR 38, pj_vI x1], [pj_vI 16, pj_vI (M 58 (pj_nrm x1).toNat)], M) from rfl) ⟨by omega, trivial⟩ ?_
  simp only [nj0, Int.toNat_natCast]
  exact pj_G_if (t := 74) rfl rfl (fun z => h1 (pj_ct_ge (pj_nrm_id r0.1 r0.2) (pj_nrm_id (by omega) (by omega)) z)) (fun z => h2 (pj_cf_ge (pj_nrm_id r0.1 r0.2) (pj_nrm_id (by omega) (by omega)) z))
theorem pj_C117_45 {L d : Nat} {Q : Option pj_V → pj_M → Prop} {M : pj_M} {x1 : Int} (j0 : Nat) (ej0 : x1 = (j0 : Int)) (bj0 : j0 < 7) (h1 : pj_and (M 49 j0) (M 58 j0) ≠ 0 → pj_G L d 117 74 [pj_vR 38, pj_vI x1] [] M Q) (h2 : pj_and (M 49 j0) (M 58 j0) = 0 → pj_G L d 117 61 [pj_vR 38, pj_vI x1] [] M Q) : pj_G L d 117 45 [pj_vR 38, pj_vI x1] [] M Q := by
  have nj0 : pj_nrm x1 = (j0 : Int) := pj_nk ej0 (by omega)
  refine pj_G_s pj_np117 9 (show pj_gs 9 L 117 45 [pj_vR 38, pj_vI x1] [] M = some ([0 ≤ pj_nrm x1 ∧ pj_nrm x1 < (7 : Int), 0 ≤ pj_nrm x1 ∧ pj_nrm x1 < (7 : Int)], 58, [pj_vR 38, pj_vI x1], [pj_vI (pj_and (M 49 (pj_nrm x1).toNat) (M 58 (pj_nrm x1).toNat))], M) from rfl) ⟨by omega, by omega, trivial⟩ ?_
  simp only [nj0, Int.toNat_natCast]
  exact pj_G_if0 (t := 74) rfl rfl (fun z => h1 (pj_ct_ne (pj_nrm_op _) rfl z)) (fun z => h2 (pj_cf_ne (pj_nrm_op _) rfl z))
theorem pj_C117_61 {L d : Nat} {Q : Option pj_V → pj_M → Prop} {M : pj_M} {x1 : Int} (j0 : Nat) (ej0 : x1 = (j0 : Int)) (bj0 : j0 < 7) (h : pj_G L d 117 34 [pj_vR 38, pj_vI x1] [] (pj_up M 58 j0 ((M 58 j0) * 2)) Q) : pj_G L d 117 61 [pj_vR 38, pj_vI x1] [] M Q := by
  have nj0 : pj_nrm x1 = (j0 : Int) := pj_nk ej0 (by omega)
  refine pj_G_s pj_np117 9 (show pj_gs 9 L 117 61 [pj_vR 38, pj_vI x1] [] M = some ([0 ≤ pj_nrm x1 ∧ pj_nrm x1 < (7 : Int), 0 ≤ pj_nrm x1 ∧ pj_nrm x1 < (7 : Int)], 34, [pj_vR 38, pj_vI x1], [], pj_up M 58 (pj_nrm x1).toNat ((M 58 (pj_nrm x1).toNat) * 2)) from rfl) ⟨by omega, by omega, trivial⟩ ?_
  simp only [nj0, Int.toNat_natCast]
  exact h
theorem pj_C117_74 {L d : Nat} {Q : Option pj_V → pj_M → Prop} {M : pj_M} {x1 : Int} (j0 : Nat) (ej0 : x1 = (j0 : Int)) (bj0 : j0 < 7) (r0 : -2147483648 ≤ M 58 j0 ∧ M 58 j0 < 2147483648) (h1 : (16 : Int) ≤ M 58 j0 → pj_G L d 117 87 [pj_vR 38, pj_vI x1] [] M Q) (h2 : M 58 j0 < (16 : Int) → pj_G L d 117 85 [pj_vU, pj_vU] [] M Q) : pj_G L d 117 74 [pj_vR 38, pj_vI x1] [] M Q := by
  have nj0 : pj_nrm x1 = (j0 : Int) := pj_nk ej0 (by omega)
  refine pj_G_s pj_np117 5 (show pj_gs 5 L 117 74 [pj_vR 38, pj_vI x1] [] M = some ([0 ≤ pj_nrm x1 ∧ pj_nrm x1 < (7 : Int)], 82, [pj_vR 38, pj_vI x1], [pj_vI 16, pj_vI (M 58 (pj_nrm x1).toNat)], M) from rfl) ⟨by omega, trivial⟩ ?_
  simp only [nj0, Int.toNat_natCast]
  exact pj_G_if (t := 87) rfl rfl (fun z => h1 (pj_ct_ge (pj_nrm_id r0.1 r0.2) (pj_nrm_id (by omega) (by omega)) z)) (fun z => pj_G_loc (pj_lle_u rfl (pj_lle_u rfl pj_lle_nil)) (h2 (pj_cf_ge (pj_nrm_id r0.1 r0.2) (pj_nrm_id (by omega) (by omega)) z)))
theorem pj_C117_85 {L d : Nat} {Q : Option pj_V → pj_M → Prop} {M : pj_M}  (h : Q (some (pj_vI 1)) M) : pj_G L d 117 85 [pj_vU, pj_vU] [] M Q := by
  refine pj_G_s pj_np117 1 (show pj_gs 1 L 117 85 [pj_vU, pj_vU] [] M = some ([], 86, [pj_vU, pj_vU], [pj_vI 1], M) from rfl) trivial ?_
  exact pj_G_r rfl rfl rfl h
theorem pj_C117_87 {L d : Nat} {Q : Option pj_V → pj_M → Prop} {M : pj_M} {x1 : Int} (j0 : Nat) (ej0 : x1 = (j0 : Int)) (bj0 : j0 < 7) (h : pj_G L d 117 94 [pj_vR 38, pj_vI x1] [] (pj_up M 58 j0 1) Q) : pj_G L d 117 87 [pj_vR 38, pj_vI x1] [] M Q := by
  have nj0 : pj_nrm x1 = (j0 : Int) := pj_nk ej0 (by omega)
  refine pj_G_s pj_np117 5 (show pj_gs 5 L 117 87 [pj_vR 38, pj_vI x1] [] M = some ([0 ≤ pj_nrm x1 ∧ pj_nrm x1 < (7 : Int)], 94, [pj_vR 38, pj_vI x1], [], pj_up M 58 (pj_nrm x1).toNat 1) from rfl) ⟨by omega, trivial⟩ ?_
  simp only [nj0, Int.toNat_natCast]
  exact h
theorem pj_C117_94 {L d : Nat} {Q : Option pj_V → pj_M → Prop} {M : pj_M} {x1 : Int} (j0 : Nat) (ej0 : x1 = (j0 : Int)) (bj0 : j0 < 7) (h1 : pj_and (M 49 j0) (M 58 j0) ≠ 0 → pj_G L d 117 123 [pj_vR 38, pj_vI x1] [] M Q) (h2 : pj_and (M 49 j0) (M 58 j0) = 0 → pj_G L d 117 110 [pj_vR 38, pj_vI x1] [] M Q) : pj_G L d 117 94 [pj_vR 38, pj_vI x1] [] M Q := by
  have nj0 : pj_nrm x1 = (j0 : Int) := pj_nk ej0 (by omega)
  refine pj_G_s pj_np117 9 (show pj_gs 9 L 117 94 [pj_vR 38, pj_vI x1] [] M = some ([0 ≤ pj_nrm x1 ∧ pj_nrm x1 < (7 : Int), 0 ≤ pj_nrm x1 ∧ pj_nrm x1 < (7 : Int)], 107, [pj_vR 38, pj_vI x1], [pj_vI (pj_and (M 49 (pj_nrm x1).toNat) (M 58 (pj_nrm x1).toNat))], M) from rfl) ⟨by omega, by omega, trivial⟩ ?_
  simp only [nj0, Int.toNat_natCast]
  exact pj_G_if0 (t := 123) rfl rfl (fun z => h1 (pj_ct_ne (pj_nrm_op _) rfl z)) (fun z => h2 (pj_cf_ne (pj_nrm_op _) rfl z))
theorem pj_C117_110 {L d : Nat} {Q : Option pj_V → pj_M → Prop} {M : pj_M} {x1 : Int} (j0 : Nat) (ej0 : x1 = (j0 : Int)) (bj0 : j0 < 7) (h : pj_G L d 117 94 [pj_vR 38, pj_vI x1] [] (pj_up M 58 j0 ((M 58 j0) * 2)) Q) : pj_G L d 117 110 [pj_vR 38, pj_vI x1] [] M Q := by
  have nj0 : pj_nrm x1 = (j0 : Int) := pj_nk ej0 (by omega)
  refine pj_G_s pj_np117 9 (show pj_gs 9 L 117 110 [pj_vR 38, pj_vI x1] [] M = some ([0 ≤ pj_nrm x1 ∧ pj_nrm x1 < (7 : Int), 0 ≤ pj_nrm x1 ∧ pj_nrm x1 < (7 : Int)], 94, [pj_vR 38, pj_vI x1], [], pj_up M 58 (pj_nrm x1).toNat ((M 58 (pj_nrm x1).toNat) * 2)) from rfl) ⟨by omega, by omega, trivial⟩ ?_
  simp only [nj0, Int.toNat_natCast]
  exact h
theorem pj_C117_129 {L d : Nat} {Q : Option pj_V → pj_M → Prop} {M : pj_M}  (h : Q (some (pj_vI 0)) M) : pj_G L d 117 129 [pj_vU, pj_vU] [] M Q := by
  refine pj_G_s pj_np117 1 (show pj_gs 1 L 117 129 [pj_vU, pj_vU] [] M = some ([], 130, [pj_vU, pj_vU], [pj_vI 0], M) from rfl) trivial ?_
  exact pj_G_r rfl rfl rfl h
theorem pj_C118_0 {L d : Nat} {Q : Option pj_V → pj_M → Prop} {M : pj_M} {x1 : Int}  (h : pj_G L d 116 0 [pj_vR 38, pj_vI x1, pj_vU] [] M (fun r M1 => pj_G L (d + 1) 118 5 [pj_vR 38, pj_vU, pj_vU] (r.toList ++ []) M1 Q)) : pj_G L (d + 1) 118 0 [pj_vR 38, pj_vI x1, pj_vU] [] M Q := by
  refine pj_G_s (d := d + 1) pj_np118 2 (show pj_gs 2 L 118 0 [pj_vR 38, pj_vI x1, pj_vU] [] M = some ([], 2, [pj_vR 38, pj_vI x1, pj_vU], [pj_vI x1, pj_vR 38], M) from rfl) trivial ?_
  exact pj_G_k (j := 116) (vs := [pj_vR 38, pj_vI x1]) (st := []) rfl rfl rfl rfl rfl (Nat.le_of_ble_eq_true rfl) pj_nc116 (pj_G.mono h (fun _ _ hh => pj_G_loc (pj_lle_e (pj_lle_u rfl (pj_lle_e pj_lle_nil))) hh))
theorem pj_C118_5 {L d : Nat} {Q : Option pj_V → pj_M → Prop} {M : pj_M}  (h : pj_G L d 118 7 [pj_vR 38, pj_vU, pj_vI 1] [] M Q) : pj_G L d 118 5 [pj_vR 38, pj_vU, pj_vU] [] M Q := by
  refine pj_G_s pj_np118 2 (show pj_gs 2 L 118 5 [pj_vR 38, pj_vU, pj_vU] [] M = some ([], 7, [pj_vR 38, pj_vU, pj_vI 1], [], M) from rfl) trivial ?_
  exact h
theorem pj_C118_7 {L d : Nat} {Q : Option pj_V → pj_M → Prop} {M : pj_M} {x2 : Int} (r0 : -2147483648 ≤ x2 ∧ x2 < 2147483648) (h1 : x2 = 0 → pj_G L d 118 28 [pj_vU, pj_vU, pj_vU] [] M Q) (h2 : x2 ≠ 0 → pj_G L d 118 11 [pj_vR 38, pj_vU, pj_vU] [] M Q) : pj_G L d 118 7 [pj_vR 38, pj_vU, pj_vI x2] [] M Q := by
  refine pj_G_s pj_np118 1 (show pj_gs 1 L 118 7 [pj_vR 38, pj_vU, pj_vI x2] [] M = some ([], 8, [pj_vR 38, pj_vU, pj_vI x2], [pj_vI x2], M) from rfl) trivial ?_
  exact pj_G_if0 (t := 28) rfl rfl (fun z => pj_G_loc (pj_lle_u rfl (pj_lle_e (pj_lle_u rfl pj_lle_nil))) (h1 (pj_ct_eq (pj_nrm_id r0.1 r0.2) rfl z))) (fun z => pj_G_loc (pj_lle_e (pj_lle_e (pj_lle_u rfl pj_lle_nil))) (h2 (pj_cf_eq (pj_nrm_id r0.1 r0.2) rfl z)))
theorem pj_C118_11 {L d : Nat} {Q : Option pj_V → pj_M → Prop} {M : pj_M}  (h : pj_G L d 112 0 [pj_vR 38, pj_vU, pj_vU] [] M (fun r M1 => pj_G L (d + 1) 118 15 [pj_vR 38, pj_vU, pj_vU] (r.toList ++ []) M1 Q)) : pj_G L (d + 1) 118 11 [pj_vR 38, pj_vU, pj_vU] [] M Q := by
  refine pj_G_s (d := d + 1) pj_np118 1 (show pj_gs 1 L 118 11 [pj_vR 38, pj_vU, pj_vU] [] M = some ([], 12, [pj_vR 38, pj_vU, pj_vU], [pj_vR 38], M) from rfl) trivial ?_
  exact pj_G_k (j := 112) (vs := [pj_vR 38]) (st := []) rfl rfl rfl rfl rfl (Nat.le_of_ble_eq_true rfl) pj_nc112 h
theorem pj_C118_15 {L d : Nat} {Q : Option pj_V → pj_M → Prop} {M : pj_M} {s0 : Int} (r0 : -2147483648 ≤ s0 ∧ s0 < 2147483648) (h1 : s0 = 0 → pj_G L d 118 20 [pj_vR 38, pj_vU, pj_vU] [] M Q) (h2 : s0 ≠ 0 → pj_G L d 118 18 [pj_vU, pj_vU, pj_vU] [] M Q) : pj_G L d 118 15 [pj_vR 38, pj_vU, pj_vU] [pj_vI s0] M Q := by
  exact pj_G_if0 (t := 20) rfl rfl (fun z => h1 (pj_ct_eq (pj_nrm_id r0.1 r0.2) rfl z)) (fun z => pj_G_loc (pj_lle_u rfl (pj_lle_e (pj_lle_e pj_lle_nil))) (h2 (pj_cf_eq (pj_nrm_id r0.1 r0.2) rfl z)))
theorem pj_C118_18 {L d : Nat} {Q : Option pj_V → pj_M → Prop} {M : pj_M}  (h : Q (some (pj_vI 1)) M) : pj_G L d 118 18 [pj_vU, pj_vU, pj_vU] [] M Q := by
  refine pj_G_s pj_np118 1 (show pj_gs 1 L 118 18 [pj_vU, pj_vU, pj_vU] [] M = some ([], 19, [pj_vU, pj_vU, pj_vU], [pj_vI 1], M) from rfl) trivial ?_
  exact pj_G_r rfl rfl rfl h
theorem pj_C118_20 {L d : Nat} {Q : Option pj_V → pj_M → Prop} {M : pj_M}  (h : pj_G L d 117 0 [pj_vR 38, pj_vU] [] M (fun r M1 => pj_G L (d + 1) 118 24 [pj_vR 38, pj_vU, pj_vU] (r.toList ++ []) M1 Q)) : pj_G L (d + 1) 118 20 [pj_vR 38, pj_vU, pj_vU] [] M Q := by
  refine pj_G_s (d := d + 1) pj_np118 1 (show pj_gs 1 L 118 20 [pj_vR 38, pj_vU, pj_vU] [] M = some ([], 21, [pj_vR 38, pj_vU, pj_vU], [pj_vR 38], M) from rfl) trivial ?_
  exact pj_G_k (j := 117) (vs := [pj_vR 38]) (st := []) rfl rfl rfl rfl rfl (Nat.le_of_ble_eq_true rfl) pj_nc117 h
theorem pj_C118_24 {L d : Nat} {Q : Option pj_V → pj_M → Prop} {M : pj_M} {s0 : Int}  (h : pj_G L d 118 7 [pj_vR 38, pj_vU, pj_vI s0] [] M Q) : pj_G L d 118 24 [pj_vR 38, pj_vU, pj_vU] [pj_vI s0] M Q := by
  refine pj_G_s pj_np118 2 (show pj_gs 2 L 118 24 [pj_vR 38, pj_vU, pj_vU] [pj_vI s0] M = some ([], 7, [pj_vR 38, pj_vU, pj_vI s0], [], M) from rfl) trivial ?_
  exact h
theorem pj_C118_28 {L d : Nat} {Q : Option pj_V → pj_M → Prop} {M : pj_M}  (h : Q (some (pj_vI 0)) M) : pj_G L d 118 28 [pj_vU, pj_vU, pj_vU] [] M Q := by
  refine pj_G_s pj_np118 1 (show pj_gs 1 L 118 28 [pj_vU, pj_vU, pj_vU] [] M = some ([], 29, [pj_vU, pj_vU, pj_vU], [pj_vI 0], M) from rfl) trivial ?_
  exact pj_G_r rfl rfl rfl h
theorem pj_C119_0 {L d : Nat} {Q : Option pj_V → pj_M → Prop} {M : pj_M} {x0 : Int}  (h : pj_G L d 119 4 [pj_vI x0, pj_vI 0, pj_vI 0] [] M Q) : pj_G L d 119 0 [pj_vI x0, pj_vU, pj_vU] [] M Q := by
  refine pj_G_s pj_np119 4 (show pj_gs 4 L 119 0 [pj_vI x0, pj_vU, pj_vU] [] M = some ([], 4, [pj_vI x0, pj_vI 0, pj_vI 0], [], M) from rfl) trivial ?_
  exact h
theorem pj_C119_4 {L d : Nat} {Q : Option pj_V → pj_M → Prop} {M : pj_M} {x0 x1 x2 : Int} (r0 : -2147483648 ≤ x2 ∧ x2 < 2147483648) (h1 : (8 : Int) ≤ x2 → pj_G L d 119 24 [pj_vU, pj_vI x1, pj_vU] [] M Q) (h2 : x2 < (8 : Int) → pj_G L d 119 10 [pj_vI x0, pj_vI x1, pj_vI x2] [] M Q) : pj_G L d 119 4 [pj_vI x0, pj_vI x1, pj_vI x2] [] M Q := by
  refine pj_G_s pj_np119 2 (show pj_gs 2 L 119 4 [pj_vI x0, pj_vI x1, pj_vI x2] [] M = some ([], 7, [pj_vI x0, pj_vI x1, pj_vI x2], [pj_vI 8, pj_vI x2], M) from rfl) trivial ?_
  exact pj_G_if (t := 24) rfl rfl (fun z => pj_G_loc (pj_lle_u rfl (pj_lle_e (pj_lle_u rfl pj_lle_nil))) (h1 (pj_ct_ge (pj_nrm_id r0.1 r0.2) (pj_nrm_id (by omega) (by omega)) z))) (fun z => h2 (pj_cf_ge (pj_nrm_id r0.1 r0.2) (pj_nrm_id (by omega) (by omega)) z))
theorem pj_C119_10 {L d : Nat} {Q : Option pj_V → pj_M → Prop} {M : pj_M} {x0 x1 x2 : Int}  (h : pj_G L d 119 4 [pj_vI x0, pj_vI (x1 + (pj_and (pj_shr x0 x2) 1)), pj_vI (x2 + 1)] [] M Q) : pj_G L d 119 10 [pj_vI x0, pj_vI x1, pj_vI x2] [] M Q := by
  refine pj_G_s pj_np119 10 (show pj_gs 10 L 119 10 [pj_vI x0, pj_vI x1, pj_vI x2] [] M = some ([], 4, [pj_vI x0, pj_vI (x1 + (pj_and (pj_shr x0 x2) 1)), pj_vI (x2 + 1)], [], M) from rfl) trivial ?_
  exact h
theorem pj_C119_24 {L d : Nat} {Q : Option pj_V → pj_M → Prop} {M : pj_M} {x1 : Int}  (h : Q (some (pj_vI x1)) M) : pj_G L d 119 24 [pj_vU, pj_vI x1, pj_vU] [] M Q := by
  refine pj_G_s pj_np119 1 (show pj_gs 1 L 119 24 [pj_vU, pj_vI x1, pj_vU] [] M = some ([], 25, [pj_vU, pj_vI x1, pj_vU], [pj_vI x1], M) from rfl) trivial ?_
  exact pj_G_r rfl rfl rfl h
theorem pj_C120_0 {L d : Nat} {Q : Option pj_V → pj_M → Prop} {M : pj_M} {x1 : Int} (j0 : Nat) (ej0 : x1 = (j0 : Int)) (bj0 : j0 < 7) (r0 : -2147483648 ≤ M 43 j0 ∧ M 43 j0 < 2147483648) (h1 : M 43 j0 = (4 : Int) → pj_G L d 120 23 [pj_vU, pj_vU] [] M Q) (h2 : M 43 j0 ≠ (4 : Int) → pj_G L d 120 10 [pj_vR 38, pj_vI x1] [] M Q) : pj_G L d 120 0 [pj_vR 38, pj_vI x1] [] M Q := by
  have nj0 : pj_nrm x1 = (j0 : Int) := pj_nk ej0 (by omega)
  refine pj_G_s pj_np120 5 (show pj_gs 5 L 120 0 [pj_vR 38, pj_vI x1] [] M = some ([0 ≤ pj_nrm x1 ∧ pj_nrm x1 < (7 : Int)], 7, [pj_vR 38, pj_vI x1], [pj_vI 4, pj_vI (M 43 (pj_nrm x1).toNat)], M) from rfl) ⟨by omega, trivial⟩ ?_
  simp only [nj0, Int.toNat_natCast]
  exact pj_G_if (t := 23) rfl rfl (fun z => pj_G_loc (pj_lle_u rfl (pj_lle_u rfl pj_lle_nil)) (h1 (pj_ct_eq (pj_nrm_id r0.1 r0.2) (pj_nrm_id (by omega) (by omega)) z))) (fun z => h2 (pj_cf_eq (pj_nrm_id r0.1 r0.2) (pj_nrm_id (by omega) (by omega)) z))
theorem pj_C120_10 {L d : Nat} {Q : Option pj_V → pj_M → Prop} {M : pj_M} {x1 : Int} (j0 : Nat) (ej0 : x1 = (j0 : Int)) (bj0 : j0 < 7) (r0 : -2147483648 ≤ M 52 j0 ∧ M 52 j0 < 2147483648) (h1 : M 52 j0 ≠ 0 → pj_G L d 120 23 [pj_vU, pj_vU] [] M Q) (h2 : M 52 j0 = 0 → pj_G L d 120 19 [pj_vU, pj_vU] [] M Q) : pj_G L d 120 10 [pj_vR 38, pj_vI x1] [] M Q := by
  have nj0 : pj_nrm x1 = (j0 : Int) := pj_nk ej0 (by omega)
  refine pj_G_s pj_np120 4 (show pj_gs 4 L 120 10 [pj_vR 38, pj_vI x1] [] M = some ([0 ≤ pj_nrm x1 ∧ pj_nrm x1 < (7 : Int)], 16, [pj_vR 38, pj_vI x1], [pj_vI (M 52 (pj_nrm x1).toNat)], M) from rfl) ⟨by omega, trivial⟩ ?_
  simp only [nj0, Int.toNat_natCast]
  exact pj_G_if0 (t := 23) rfl rfl (fun z => pj_G_loc (pj_lle_u rfl (pj_lle_u rfl pj_lle_nil)) (h1 (pj_ct_ne (pj_nrm_id r0.1 r0.2) rfl z))) (fun z => pj_G_loc (pj_lle_u rfl (pj_lle_u rfl pj_lle_nil)) (h2 (pj_cf_ne (pj_nrm_id r0.1 r0.2) rfl z)))
theorem pj_C120_19 {L d : Nat} {Q : Option pj_V → pj_M → Prop} {M : pj_M}  (h : pj_G L d 120 24 [pj_vU, pj_vU] [pj_vI 1] M Q) : pj_G L d 120 19 [pj_vU, pj_vU] [] M Q := by
  refine pj_G_s pj_np120 2 (show pj_gs 2 L 120 19 [pj_vU, pj_vU] [] M = some ([], 24, [pj_vU, pj_vU], [pj_vI 1], M) from rfl) trivial ?_
  exact h
theorem pj_C120_24 {L d : Nat} {Q : Option pj_V → pj_M → Prop} {M : pj_M} {s0 : Int}  (cb : s0 = 0 ∨ s0 = 1) (h : Q (some (pj_vI s0)) M) : pj_G L d 120 24 [pj_vU, pj_vU] [pj_vI s0] M Q := by
  exact pj_G_r rfl rfl (if_pos (Or.inr cb)) h
theorem pj_C120_23 {L d : Nat} {Q : Option pj_V → pj_M → Prop} {M : pj_M}  (h : pj_G L d 120 24 [pj_vU, pj_vU] [pj_vI 0] M Q) : pj_G L d 120 23 [pj_vU, pj_vU] [] M Q := by
  refine pj_G_s pj_np120 1 (show pj_gs 1 L 120 23 [pj_vU, pj_vU] [] M = some ([], 24, [pj_vU, pj_vU], [pj_vI 0], M) from rfl) trivial ?_
  exact h
theorem pj_C121_0 {L d : Nat} {Q : Option pj_V → pj_M → Prop} {M : pj_M} (r0 : -2147483648 ≤ M 38 35 ∧ M 38 35 < 2147483648) (h1 : M 38 35 = 0 → pj_G L d 121 8 [pj_vR 38, pj_vU, pj_vU, pj_vU, pj_vU] [] M Q) (h2 : M 38 35 ≠ 0 → pj_G L d 121 7 [pj_vU, pj_vU, pj_vU, pj_vU, pj_vU] [] M Q) : pj_G L d 121 0 [pj_vR 38, pj_vU, pj_vU, pj_vU, pj_vU] [] M Q := by
  refine pj_G_s pj_np121 2 (show pj_gs 2 L 121 0 [pj_vR 38, pj_vU, pj_vU, pj_vU, pj_vU] [] M = some ([], 4, [pj_vR 38, pj_vU, pj_vU, pj_vU, pj_vU], [pj_vI (M 38 35)], M) from rfl) trivial ?_
  exact pj_G_if0 (t := 8) rfl rfl (fun z => h1 (pj_ct_eq (pj_nrm_id r0.1 r0.2) rfl z)) (fun z => pj_G_loc (pj_lle_u rfl (pj_lle_e (pj_lle_e (pj_lle_e (pj_lle_e pj_lle_nil))))) (h2 (pj_cf_eq (pj_nrm_id r0.1 r0.2) rfl z)))
theorem pj_C121_7 {L d : Nat} {Q : Option pj_V → pj_M → Prop} {M : pj_M}  (h : Q (none) M) : pj_G L d 121 7 [pj_vU, pj_vU, pj_vU, pj_vU, pj_vU] [] M Q := by
  exact pj_G_r rfl rfl rfl h
theorem pj_C121_8 {L d : Nat} {Q : Option pj_V → pj_M → Prop} {M : pj_M}  (h : pj_G L d 121 22 [pj_vR 38, pj_vI 0, pj_vI 0, pj_vU, pj_vU] [] (pj_up (pj_up M 38 35 1) 38 34 0) Q) : pj_G L d 121 8 [pj_vR 38, pj_vU, pj_vU, pj_vU, pj_vU] [] M Q := by
  refine pj_G_s pj_np121 10 (show pj_gs 10 L 121 8 [pj_vR 38, pj_vU, pj_vU, pj_vU, pj_vU] [] M = some ([(1 : Int) = 0 ∨ (1 : Int) = 1], 22, [pj_vR 38, pj_vI 0, pj_vI 0, pj_vU, pj_vU], [], pj_up (pj_up M 38 35 1) 38 34 0) from rfl) ⟨by decide, trivial⟩ ?_
  exact h
theorem pj_C121_22 {L d : Nat} {Q : Option pj_V → pj_M → Prop} {M : pj_M} {x1 x2 : Int} (r0 : -2147483648 ≤ x2 ∧ x2 < 2147483648) (r1 : -2147483648 ≤ M 38 18 ∧ M 38 18 < 2147483648) (h1 : M 38 18 ≤ x2 → pj_G L d 121 54 [pj_vR 38, pj_vI x1, pj_vU, pj_vU, pj_vU] [] M Q) (h2 : x2 < M 38 18 → pj_G L d 121 30 [pj_vR 38, pj_vI x1, pj_vI x2, pj_vU, pj_vU] [] M Q) : pj_G L d 121 22 [pj_vR 38, pj_vI x1, pj_vI x2, pj_vU, pj_vU] [] M Q := by
  refine pj_G_s pj_np121 3 (show pj_gs 3 L 121 22 [pj_vR 38, pj_vI x1, pj_vI x2, pj_vU, pj_vU] [] M = some ([], 27, [pj_vR 38, pj_vI x1, pj_vI x2, pj_vU, pj_vU], [pj_vI (M 38 18), pj_vI x2], M) from rfl) trivial ?_
  exact pj_G_if (t := 54) rfl rfl (fun z => pj_G_loc (pj_lle_e (pj_lle_e (pj_lle_u rfl (pj_lle_e (pj_lle_e pj_lle_nil))))) (h1 (pj_ct_ge (pj_nrm_id r0.1 r0.2) (pj_nrm_id r1.1 r1.2) z))) (fun z => h2 (pj_cf_ge (pj_nrm_id r0.1 r0.2) (pj_nrm_id r1.1 r1.2) z))
theorem pj_C121_30 {L d : Nat} {Q : Option pj_V → pj_M → Prop} {M : pj_M} {x1 x2 : Int}  (h : pj_G L d 120 0 [pj_vR 38, pj_vI x2] [] M (fun r M1 => pj_G L (d + 1) 121 36 [pj_vR 38, pj_vU, pj_vI x2, pj_vU, pj_vU] (r.toList ++ [pj_vI x1]) M1 Q)) : pj_G L (d + 1) 121 30 [pj_vR 38, pj_vI x1, pj_vI x2, pj_vU, pj_vU] [] M Q := by
  refine pj_G_s (d := d + 1) pj_np121 3 (show pj_gs 3 L 121 30 [pj_vR 38, pj_vI x1, pj_vI x2, pj_vU, pj_vU] [] M = some ([], 33, [pj_vR 38, pj_vI x1, pj_vI x2, pj_vU, pj_vU], [pj_vI x2, pj_vR 38, pj_vI x1], M) from rfl) trivial ?_
  exact pj_G_k (j := 120) (vs := [pj_vR 38, pj_vI x2]) (st := [pj_vI x1]) rfl rfl rfl rfl rfl (Nat.le_of_ble_eq_true rfl) pj_nc120 (pj_G.mono h (fun _ _ hh => pj_G_loc (pj_lle_e (pj_lle_u rfl (pj_lle_e (pj_lle_e (pj_lle_e pj_lle_nil))))) hh))
theorem pj_C121_36 {L d : Nat} {Q : Option pj_V → pj_M → Prop} {M : pj_M} {x2 s0 s1 : Int} (r0 : -2147483648 ≤ s1 ∧ s1 < 2147483648) (h1 : s1 = 0 → pj_G L d 121 45 [pj_vR 38, pj_vU, pj_vI x2, pj_vU, pj_vU] [pj_vI s0] M Q) (h2 : s1 ≠ 0 → pj_G L d 121 39 [pj_vR 38, pj_vU, pj_vI x2, pj_vU, pj_vU] [pj_vI s0] M Q) : pj_G L d 121 36 [pj_vR 38, pj_vU, pj_vI x2, pj_vU, pj_vU] [pj_vI s1, pj_vI s0] M Q := by
  exact pj_G_if0 (t := 45) rfl rfl (fun z => h1 (pj_ct_eq (pj_nrm_id r0.1 r0.2) rfl z)) (fun z => h2 (pj_cf_eq (pj_nrm_id r0.1 r0.2) rfl z))
theorem pj_C121_39 {L d : Nat} {Q : Option pj_V → pj_M → Prop} {M : pj_M} {x2 s0 : Int}  (h : pj_G L d 121 46 [pj_vR 38, pj_vU, pj_vI x2, pj_vU, pj_vU] [pj_vI (pj_shl 1 x2), pj_vI s0] M Q) : pj_G L d 121 39 [pj_vR 38, pj_vU, pj_vI x2, pj_vU, pj_vU] [pj_vI s0] M Q := by
  refine pj_G_s pj_np121 4 (show pj_gs 4 L 121 39 [pj_vR 38, pj_vU, pj_vI x2, pj_vU, pj_vU] [pj_vI s0] M = some ([], 46, [pj_vR 38, pj_vU, pj_vI x2, pj_vU, pj_vU], [pj_vI (pj_shl 1 x2), pj_vI s0], M) from rfl) trivial ?_
  exact h
theorem pj_C121_46 {L d : Nat} {Q : Option pj_V → pj_M → Prop} {M : pj_M} {x2 s0 s1 : Int}  (h : pj_G L d 121 22 [pj_vR 38, pj_vI (pj_or s0 s1), pj_vI (x2 + 1), pj_vU, pj_vU] [] M Q) : pj_G L d 121 46 [pj_vR 38, pj_vU, pj_vI x2, pj_vU, pj_vU] [pj_vI s1, pj_vI s0] M Q := by
  refine pj_G_s pj_np121 4 (show pj_gs 4 L 121 46 [pj_vR 38, pj_vU, pj_vI x2, pj_vU, pj_vU] [pj_vI s1, pj_vI s0] M = some ([], 22, [pj_vR 38, pj_vI (pj_or s0 s1), pj_vI (x2 + 1), pj_vU, pj_vU], [], M) from rfl) trivial ?_
  exact h
theorem pj_C121_45 {L d : Nat} {Q : Option pj_V → pj_M → Prop} {M : pj_M} {x2 s0 : Int}  (h : pj_G L d 121 46 [pj_vR 38, pj_vU, pj_vI x2, pj_vU, pj_vU] [pj_vI 0, pj_vI s0] M Q) : pj_G L d 121 45 [pj_vR 38, pj_vU, pj_vI x2, pj_vU, pj_vU] [pj_vI s0] M Q := by
  refine pj_G_s pj_np121 1 (show pj_gs 1 L 121 45 [pj_vR 38, pj_vU, pj_vI x2, pj_vU, pj_vU] [pj_vI s0] M = some ([], 46, [pj_vR 38, pj_vU, pj_vI x2, pj_vU, pj_vU], [pj_vI 0, pj_vI s0], M) from rfl) trivial ?_
  exact h
theorem pj_C121_54 {L d : Nat} {Q : Option pj_V → pj_M → Prop} {M : pj_M} {x1 : Int}  (h : pj_G L d 121 56 [pj_vR 38, pj_vI x1, pj_vI 0, pj_vU, pj_vU] [] M Q) : pj_G L d 121 54 [pj_vR 38, pj_vI x1, pj_vU, pj_vU, pj_vU] [] M Q := by
  refine pj_G_s pj_np121 2 (show pj_gs 2 L 121 54 [pj_vR 38, pj_vI x1, pj_vU, pj_vU, pj_vU] [] M = some ([], 56, [pj_vR 38, pj_vI x1, pj_vI 0, pj_vU, pj_vU], [], M) from rfl) trivial ?_
  exact h
theorem pj_C121_56 {L d : Nat} {Q : Option pj_V → pj_M → Prop} {M : pj_M} {x1 x2 : Int} (r0 : -2147483648 ≤ x2 ∧ x2 < 2147483648) (h1 : (3 : Int) < x2 → pj_G L d 121 140 [pj_vR 38, pj_vU, pj_vU, pj_vU, pj_vU] [] M Q) (h2 : x2 ≤ (3 : Int) → pj_G L d 121 61 [pj_vR 38, pj_vI x1, pj_vI x2, pj_vU, pj_vU] [] M Q) : pj_G L d 121 56 [pj_vR 38, pj_vI x1, pj_vI x2, pj_vU, pj_vU] [] M Q := by
  refine pj_G_s pj_np121 2 (show pj_gs 2 L 121 56 [pj_vR 38, pj_vI x1, pj_vI x2, pj_vU, pj_vU] [] M = some ([], 58, [pj_vR 38, pj_vI x1, pj_vI x2, pj_vU, pj_vU], [pj_vI 3, pj_vI x2], M) from rfl) trivial ?_
  exact pj_G_if (t := 140) rfl rfl (fun z => pj_G_loc (pj_lle_e (pj_lle_u rfl (pj_lle_u rfl (pj_lle_e (pj_lle_e pj_lle_nil))))) (h1 (pj_ct_gt (pj_nrm_id r0.1 r0.2) (pj_nrm_id (by omega) (by omega)) z))) (fun z => h2 (pj_cf_gt (pj_nrm_id r0.1 r0.2) (pj_nrm_id (by omega) (by omega)) z))
theorem pj_C121_61 {L d : Nat} {Q : Option pj_V → pj_M → Prop} {M : pj_M} {x1 x2 : Int}  (h : pj_G L d 121 63 [pj_vR 38, pj_vI x1, pj_vI x2, pj_vI 0, pj_vU] [] M Q) : pj_G L d 121 61 [pj_vR 38, pj_vI x1, pj_vI x2, pj_vU, pj_vU] [] M Q := by
  refine pj_G_s pj_np121 2 (show pj_gs 2 L 121 61 [pj_vR 38, pj_vI x1, pj_vI x2, pj_vU, pj_vU] [] M = some ([], 63, [pj_vR 38, pj_vI x1, pj_vI x2, pj_vI 0, pj_vU], [], M) from rfl) trivial ?_
  exact h
theorem pj_C121_63 {L d : Nat} {Q : Option pj_V → pj_M → Prop} {M : pj_M} {x1 x2 x3 : Int} (r0 : -2147483648 ≤ x3 ∧ x3 < 2147483648) (h1 : pj_shl 1 (M 38 18) ≤ x3 → pj_G L d 121 134 [pj_vR 38, pj_vI x1, pj_vI x2, pj_vU, pj_vU] [] M Q) (h2 : x3 < pj_shl 1 (M 38 18) → pj_G L d 121 73 [pj_vR 38, pj_vI x1, pj_vI x2, pj_vI x3, pj_vU] [] M Q) : pj_G L d 121 63 [pj_vR 38, pj_vI x1, pj_vI x2, pj_vI x3, pj_vU] [] M Q := by
  refine pj_G_s pj_np121 5 (show pj_gs 5 L 121 63 [pj_vR 38, pj_vI x1, pj_vI x2, pj_vI x3, pj_vU] [] M = some ([], 70, [pj_vR 38, pj_vI x1, pj_vI x2, pj_vI x3, pj_vU], [pj_vI (pj_shl 1 (M 38 18)), pj_vI x3], M) from rfl) trivial ?_
  exact pj_G_if (t := 134) rfl rfl (fun z => pj_G_loc (pj_lle_e (pj_lle_e (pj_lle_e (pj_lle_u rfl (pj_lle_e pj_lle_nil))))) (h1 (pj_ct_ge (pj_nrm_id r0.1 r0.2) (pj_nrm_op _) z))) (fun z => h2 (pj_cf_ge (pj_nrm_id r0.1 r0.2) (pj_nrm_op _) z))
theorem pj_C121_73 {L d : Nat} {Q : Option pj_V → pj_M → Prop} {M : pj_M} {x1 x2 x3 : Int}  (h : pj_G L d 119 0 [pj_vI x3, pj_vU, pj_vU] [] M (fun r M1 => pj_G L (d + 1) 121 77 [pj_vR 38, pj_vI x1, pj_vI x2, pj_vI x3, pj_vU] (r.toList ++ []) M1 Q)) : pj_G L (d + 1) 121 73 [pj_vR 38, pj_vI x1, pj_vI x2, pj_vI x3, pj_vU] [] M Q := by
  refine pj_G_s (d := d + 1) pj_np121 1 (show pj_gs 1 L 121 73 [pj_vR 38, pj_vI x1, pj_vI x2, pj_vI x3, pj_vU] [] M = some ([], 74, [pj_vR 38, pj_vI x1, pj_vI x2, pj_vI x3, pj_vU], [pj_vI x3], M) from rfl) trivial ?_
  exact pj_G_k (j := 119) (vs := [pj_vI x3]) (st := []) rfl rfl rfl rfl rfl (Nat.le_of_ble_eq_true rfl) pj_nc119 h
theorem pj_C121_77 {L d : Nat} {Q : Option pj_V → pj_M → Prop} {M : pj_M} {x1 x2 x3 s0 : Int} (r0 : -2147483648 ≤ s0 ∧ s0 < 2147483648) (r1 : -2147483648 ≤ x2 ∧ x2 < 2147483648) (h1 : s0 ≠ x2 → pj_G L d 121 128 [pj_vR 38, pj_vI x1, pj_vI x2, pj_vI x3, pj_vU] [] M Q) (h2 : s0 = x2 → pj_G L d 121 81 [pj_vR 38, pj_vI x1, pj_vI x2, pj_vI x3, pj_vU] [] M Q) : pj_G L d 121 77 [pj_vR 38, pj_vI x1, pj_vI x2, pj_vI x3, pj_vU] [pj_vI s0] M Q := by
  refine pj_G_s pj_np121 1 (show pj_gs 1 L 121 77 [pj_vR 38, pj_vI x1, pj_vI x2, pj_vI x3, pj_vU] [pj_vI s0] M = some ([], 78, [pj_vR 38, pj_vI x1, pj_vI x2, pj_vI x3, pj_vU], [pj_vI x2, pj_vI s0], M) from rfl) trivial ?_
  exact pj_G_if (t := 128) rfl rfl (fun z => h1 (pj_ct_ne (pj_nrm_id r0.1 r0.2) (pj_nrm_id r1.1 r1.2) z)) (fun z => h2 (pj_cf_ne (pj_nrm_id r0.1 r0.2) (pj_nrm_id r1.1 r1.2) z))
theorem pj_C121_81 {L d : Nat} {Q : Option pj_V → pj_M → Prop} {M : pj_M} {x1 x2 x3 : Int}  (h1 : pj_and x3 (pj_xor x1 ((-1))) ≠ 0 → pj_G L d 121 128 [pj_vR 38, pj_vI x1, pj_vI x2, pj_vI x3, pj_vU] [] M Q) (h2 : pj_and x3 (pj_xor x1 ((-1))) = 0 → pj_G L d 121 89 [pj_vR 38, pj_vI x1, pj_vI x2, pj_vI x3, pj_vU] [] M Q) : pj_G L d 121 81 [pj_vR 38, pj_vI x1, pj_vI x2, pj_vI x3, pj_vU] [] M Q := by
  refine pj_G_s pj_np121 5 (show pj_gs 5 L 121 81 [pj_vR 38, pj_vI x1, pj_vI x2, pj_vI x3, pj_vU] [] M = some ([], 86, [pj_vR 38, pj_vI x1, pj_vI x2, pj_vI x3, pj_vU], [pj_vI (pj_and x3 (pj_xor x1 ((-1))))], M) from rfl) trivial ?_
  exact pj_G_if0 (t := 128) rfl rfl (fun z => h1 (pj_ct_ne (pj_nrm_op _) rfl z)) (fun z => h2 (pj_cf_ne (pj_nrm_op _) rfl z))
theorem pj_C121_89 {L d : Nat} {Q : Option pj_V → pj_M → Prop} {M : pj_M} {x1 x2 x3 : Int}  (h : pj_G L d 122 0 [pj_vR 38, pj_vI x3, pj_vU, pj_vU] [] M (fun r M1 => pj_G L (d + 1) 121 94 [pj_vR 38, pj_vI x1, pj_vI x2, pj_vI x3, pj_vU] (r.toList ++ []) M1 Q)) : pj_G L (d + 1) 121 89 [pj_vR 38, pj_vI x1, pj_vI x2, pj_vI x3, pj_vU] [] M Q := by
  refine pj_G_s (d := d + 1) pj_np121 2 (show pj_gs 2 L 121 89 [pj_vR 38, pj_vI x1, pj_vI x2, pj_vI x3, pj_vU] [] M = some ([], 91, [pj_vR 38, pj_vI x1, pj_vI x2, pj_vI x3, pj_vU], [pj_vI x3, pj_vR 38], M) from rfl) trivial ?_
  exact pj_G_k (j := 122) (vs := [pj_vR 38, pj_vI x3]) (st := []) rfl rfl rfl rfl rfl (Nat.le_of_ble_eq_true rfl) pj_nc122 h
theorem pj_C121_94 {L d : Nat} {Q : Option pj_V → pj_M → Prop} {M : pj_M} {x1 x2 x3 s0 : Int} (r0 : -2147483648 ≤ s0 ∧ s0 < 2147483648) (h1 : s0 ≠ 0 → pj_G L d 121 128 [pj_vR 38, pj_vI x1, pj_vI x2, pj_vI x3, pj_vU] [] M Q) (h2 : s0 = 0 → pj_G L d 121 97 [pj_vR 38, pj_vI x1, pj_vI x2, pj_vI x3, pj_vU] [] M Q) : pj_G L d 121 94 [pj_vR 38, pj_vI x1, pj_vI x2, pj_vI x3, pj_vU] [pj_vI s0] M Q := by
  exact pj_G_if0 (t := 128) rfl rfl (fun z => h1 (pj_ct_ne (pj_nrm_id r0.1 r0.2) rfl z)) (fun z => h2 (pj_cf_ne (pj_nrm_id r0.1 r0.2) rfl z))
theorem pj_C121_97 {L d : Nat} {Q : Option pj_V → pj_M → Prop} {M : pj_M} {x1 x2 x3 : Int}  (h : pj_G L d 118 0 [pj_vR 38, pj_vI x3, pj_vU] [] M (fun r M1 => pj_G L (d + 1) 121 102 [pj_vR 38, pj_vI x1, pj_vI x2, pj_vI x3, pj_vU] (r.toList ++ []) M1 Q)) : pj_G L (d + 1) 121 97 [pj_vR 38, pj_vI x1, pj_vI x2, pj_vI x3, pj_vU] [] M Q := by
  refine pj_G_s (d := d + 1) pj_np121 2 (show pj_gs 2 L 121 97 [pj_vR 38, pj_vI x1, pj_vI x2, pj_vI x3, pj_vU] [] M = some ([], 99, [pj_vR 38, pj_vI x1, pj_vI x2, pj_vI x3, pj_vU], [pj_vI x3, pj_vR 38], M) from rfl) trivial ?_
  exact pj_G_k (j := 118) (vs := [pj_vR 38, pj_vI x3]) (st := []) rfl rfl rfl rfl rfl (Nat.le_of_ble_eq_true rfl) pj_nc118 h
theorem pj_C121_102 {L d : Nat} {Q : Option pj_V → pj_M → Prop} {M : pj_M} {x1 x2 x3 s0 : Int} (r0 : -2147483648 ≤ s0 ∧ s0 < 2147483648) (h1 : s0 ≠ 0 → pj_G L d 121 108 [pj_vR 38, pj_vI x1, pj_vI x2, pj_vI x3, pj_vU] [] M Q) (h2 : s0 = 0 → pj_G L d 121 105 [pj_vR 38, pj_vI x1, pj_vI x2, pj_vI x3, pj_vU] [] M Q) : pj_G L d 121 102 [pj_vR 38, pj_vI x1, pj_vI x2, pj_vI x3, pj_vU] [pj_vI s0] M Q := by
  exact pj_G_if0 (t := 108) rfl rfl (fun z => h1 (pj_ct_ne (pj_nrm_id r0.1 r0.2) rfl z)) (fun z => h2 (pj_cf_ne (pj_nrm_id r0.1 r0.2) rfl z))
theorem pj_C121_105 {L d : Nat} {Q : Option pj_V → pj_M → Prop} {M : pj_M} {x1 x2 x3 : Int}  (h : pj_G L d 121 128 [pj_vR 38, pj_vI x1, pj_vI x2, pj_vI x3, pj_vU] [] M Q) : pj_G L d 121 105 [pj_vR 38, pj_vI x1, pj_vI x2, pj_vI x3, pj_vU] [] M Q := by
  refine pj_G_s pj_np121 1 (show pj_gs 1 L 121 105 [pj_vR 38, pj_vI x1, pj_vI x2, pj_vI x3, pj_vU] [] M = some ([], 128, [pj_vR 38, pj_vI x1, pj_vI x2, pj_vI x3, pj_vU], [], M) from rfl) trivial ?_
  exact h
theorem pj_C121_128 {L d : Nat} {Q : Option pj_V → pj_M → Prop} {M : pj_M} {x1 x2 x3 : Int}  (h : pj_G L d 121 63 [pj_vR 38, pj_vI x1, pj_vI x2, pj_vI (x3 + 1), pj_vU] [] M Q) : pj_G L d 121 128 [pj_vR 38, pj_vI x1, pj_vI x2, pj_vI x3, pj_vU] [] M Q := by
  refine pj_G_s pj_np121 2 (show pj_gs 2 L 121 128 [pj_vR 38, pj_vI x1, pj_vI x2, pj_vI x3, pj_vU] [] M = some ([], 63, [pj_vR 38, pj_vI x1, pj_vI x2, pj_vI (x3 + 1), pj_vU], [], M) from rfl) trivial ?_
  exact h
theorem pj_C121_108 {L d : Nat} {Q : Option pj_V → pj_M → Prop} {M : pj_M} {x1 x2 x3 : Int} (j0 : Nat) (ej0 : M 38 34 = (j0 : Int)) (bj0 : j0 < 64) (h : pj_G L d 121 128 [pj_vR 38, pj_vI x1, pj_vI x2, pj_vI x3, pj_vU] [] (pj_up (pj_up M 64 j0 x3) 38 34 ((M 38 34) + 1)) Q) : pj_G L d 121 108 [pj_vR 38, pj_vI x1, pj_vI x2, pj_vI x3, pj_vU] [] M Q := by
  have nj0 : pj_nrm (M 38 34) = (j0 : Int) := pj_nk ej0 (by omega)
  refine pj_G_s pj_np121 12 (show pj_gs 12 L 121 108 [pj_vR 38, pj_vI x1, pj_vI x2, pj_vI x3, pj_vU] [] M = some ([0 ≤ pj_nrm (M 38 34) ∧ pj_nrm (M 38 34) < (64 : Int)], 128, [pj_vR 38, pj_vI x1, pj_vI x2, pj_vI x3, pj_vU], [], pj_up (pj_up M 64 (pj_nrm (M 38 34)).toNat x3) 38 34 ((M 38 34) + 1)) from rfl) ⟨by omega, trivial⟩ ?_
  simp only [nj0, Int.toNat_natCast]
  exact h
theorem pj_C121_134 {L d : Nat} {Q : Option pj_V → pj_M → Prop} {M : pj_M} {x1 x2 : Int}  (h : pj_G L d 121 56 [pj_vR 38, pj_vI x1, pj_vI (x2 + 1), pj_vU, pj_vU] [] M Q) : pj_G L d 121 134 [pj_vR 38, pj_vI x1, pj_vI x2, pj_vU, pj_vU] [] M Q := by
  refine pj_G_s pj_np121 2 (show pj_gs 2 L 121 134 [pj_vR 38, pj_vI x1, pj_vI x2, pj_vU, pj_vU] [] M = some ([], 56, [pj_vR 38, pj_vI x1, pj_vI (x2 + 1), pj_vU, pj_vU], [], M) from rfl) trivial ?_
  exact h
theorem pj_C121_140 {L d : Nat} {Q : Option pj_V → pj_M → Prop} {M : pj_M}  (h : pj_G L d 121 142 [pj_vR 38, pj_vU, pj_vI 0, pj_vU, pj_vU] [] M Q) : pj_G L d 121 140 [pj_vR 38, pj_vU, pj_vU, pj_vU, pj_vU] [] M Q := by
  refine pj_G_s pj_np121 2 (show pj_gs 2 L 121 140 [pj_vR 38, pj_vU, pj_vU, pj_vU, pj_vU] [] M = some ([], 142, [pj_vR 38, pj_vU, pj_vI 0, pj_vU, pj_vU], [], M) from rfl) trivial ?_
  exact h
theorem pj_C121_142 {L d : Nat} {Q : Option pj_V → pj_M → Prop} {M : pj_M} {x2 : Int} (r0 : -2147483648 ≤ x2 ∧ x2 < 2147483648) (r1 : -2147483648 ≤ M 38 34 ∧ M 38 34 < 2147483648) (h1 : M 38 34 ≤ x2 → pj_G L d 121 247 [pj_vU, pj_vU, pj_vU, pj_vU, pj_vU] [] M Q) (h2 : x2 < M 38 34 → pj_G L d 121 150 [pj_vR 38, pj_vU, pj_vI x2, pj_vU, pj_vU] [] M Q) : pj_G L d 121 142 [pj_vR 38, pj_vU, pj_vI x2, pj_vU, pj_vU] [] M Q := by
  refine pj_G_s pj_np121 3 (show pj_gs 3 L 121 142 [pj_vR 38, pj_vU, pj_vI x2, pj_vU, pj_vU] [] M = some ([], 147, [pj_vR 38, pj_vU, pj_vI x2, pj_vU, pj_vU], [pj_vI (M 38 34), pj_vI x2], M) from rfl) trivial ?_
  exact pj_G_if (t := 247) rfl rfl (fun z => pj_G_loc (pj_lle_u rfl (pj_lle_e (pj_lle_u rfl (pj_lle_e (pj_lle_e pj_lle_nil))))) (h1 (pj_ct_ge (pj_nrm_id r0.1 r0.2) (pj_nrm_id r1.1 r1.2) z))) (fun z => h2 (pj_cf_ge (pj_nrm_id r0.1 r0.2) (pj_nrm_id r1.1 r1.2) z))
theorem pj_C121_150 {L d : Nat} {Q : Option pj_V → pj_M → Prop} {M : pj_M} {x2 : Int}  (h : pj_G L d 121 152 [pj_vR 38, pj_vU, pj_vI x2, pj_vI 0, pj_vU] [] M Q) : pj_G L d 121 150 [pj_vR 38, pj_vU, pj_vI x2, pj_vU, pj_vU] [] M Q := by
  refine pj_G_s pj_np121 2 (show pj_gs 2 L 121 150 [pj_vR 38, pj_vU, pj_vI x2, pj_vU, pj_vU] [] M = some ([], 152, [pj_vR 38, pj_vU, pj_vI x2, pj_vI 0, pj_vU], [], M) from rfl) trivial ?_
  exact h
theorem pj_C121_152 {L d : Nat} {Q : Option pj_V → pj_M → Prop} {M : pj_M} {x2 x3 : Int} (r0 : -2147483648 ≤ x3 ∧ x3 < 2147483648) (h1 : (42 : Int) ≤ x3 → pj_G L d 121 171 [pj_vR 38, pj_vU, pj_vI x2, pj_vU, pj_vU] [] M Q) (h2 : x3 < (42 : Int) → pj_G L d 121 158 [pj_vR 38, pj_vU, pj_vI x2, pj_vI x3, pj_vU] [] M Q) : pj_G L d 121 152 [pj_vR 38, pj_vU, pj_vI x2, pj_vI x3, pj_vU] [] M Q := by
  refine pj_G_s pj_np121 2 (show pj_gs 2 L 121 152 [pj_vR 38, pj_vU, pj_vI x2, pj_vI x3, pj_vU] [] M = some ([], 155, [pj_vR 38, pj_vU, pj_vI x2, pj_vI x3, pj_vU], [pj_vI 42, pj_vI x3], M) from rfl) trivial ?_
  exact pj_G_if (t := 171) rfl rfl (fun z => pj_G_loc (pj_lle_e (pj_lle_e (pj_lle_e (pj_lle_u rfl (pj_lle_e pj_lle_nil))))) (h1 (pj_ct_ge (pj_nrm_id r0.1 r0.2) (pj_nrm_id (by omega) (by omega)) z))) (fun z => h2 (pj_cf_ge (pj_nrm_id r0.1 r0.2) (pj_nrm_id (by omega) (by omega)) z))
theorem pj_C121_158 {L d : Nat} {Q : Option pj_V → pj_M → Prop} {M : pj_M} {x2 x3 : Int} (j0 : Nat) (ej0 : x3 = (j0 : Int)) (bj0 : j0 < 42) (h : pj_G L d 121 152 [pj_vR 38, pj_vU, pj_vI x2, pj_vI (x3 + 1), pj_vU] [] (pj_up M 63 j0 0) Q) : pj_G L d 121 158 [pj_vR 38, pj_vU, pj_vI x2, pj_vI x3, pj_vU] [] M Q := by
  have nj0 : pj_nrm x3 = (j0 : Int) := pj_nk ej0 (by omega)
  refine pj_G_s pj_np121 7 (show pj_gs 7 L 121 158 [pj_vR 38, pj_vU, pj_vI x2, pj_vI x3, pj_vU] [] M = some ([0 ≤ pj_nrm x3 ∧ pj_nrm x3 < (42 : Int)], 152, [pj_vR 38, pj_vU, pj_vI x2, pj_vI (x3 + 1), pj_vU], [], pj_up M 63 (pj_nrm x3).toNat 0) from rfl) ⟨by omega, trivial⟩ ?_
  simp only [nj0, Int.toNat_natCast]
  exact h
theorem pj_C121_171 {L d : Nat} {Q : Option pj_V → pj_M → Prop} {M : pj_M} {x2 : Int} (j0 : Nat) (ej0 : x2 = (j0 : Int)) (bj0 : j0 < 64) (h : pj_G L d 116 0 [pj_vR 38, pj_vI (M 64 j0), pj_vU] [] M (fun r M1 => pj_G L (d + 1) 121 181 [pj_vR 38, pj_vU, pj_vI x2, pj_vU, pj_vU] (r.toList ++ []) M1 Q)) : pj_G L (d + 1) 121 171 [pj_vR 38, pj_vU, pj_vI x2, pj_vU, pj_vU] [] M Q := by
  have nj0 : pj_nrm x2 = (j0 : Int) := pj_nk ej0 (by omega)
  refine pj_G_s (d := d + 1) pj_np121 5 (show pj_gs 5 L 121 171 [pj_vR 38, pj_vU, pj_vI x2, pj_vU, pj_vU] [] M = some ([0 ≤ pj_nrm x2 ∧ pj_nrm x2 < (64 : Int)], 178, [pj_vR 38, pj_vU, pj_vI x2, pj_vU, pj_vU], [pj_vI (M 64 (pj_nrm x2).toNat), pj_vR 38], M) from rfl) ⟨by omega, trivial⟩ ?_
  simp only [nj0, Int.toNat_natCast]
  exact pj_G_k (j := 116) (vs := [pj_vR 38, pj_vI (M 64 j0)]) (st := []) rfl rfl rfl rfl rfl (Nat.le_of_ble_eq_true rfl) pj_nc116 h
theorem pj_C121_181 {L d : Nat} {Q : Option pj_V → pj_M → Prop} {M : pj_M} {x2 : Int}  (h : pj_G L d 121 183 [pj_vR 38, pj_vU, pj_vI x2, pj_vI 1, pj_vU] [] M Q) : pj_G L d 121 181 [pj_vR 38, pj_vU, pj_vI x2, pj_vU, pj_vU] [] M Q := by
  refine pj_G_s pj_np121 2 (show pj_gs 2 L 121 181 [pj_vR 38, pj_vU, pj_vI x2, pj_vU, pj_vU] [] M = some ([], 183, [pj_vR 38, pj_vU, pj_vI x2, pj_vI 1, pj_vU], [], M) from rfl) trivial ?_
  exact h
theorem pj_C121_183 {L d : Nat} {Q : Option pj_V → pj_M → Prop} {M : pj_M} {x2 x3 : Int} (r0 : -2147483648 ≤ x3 ∧ x3 < 2147483648) (h1 : x3 = 0 → pj_G L d 121 206 [pj_vR 38, pj_vU, pj_vI x2, pj_vU, pj_vU] [] M Q) (h2 : x3 ≠ 0 → pj_G L d 121 187 [pj_vR 38, pj_vU, pj_vI x2, pj_vU, pj_vU] [] M Q) : pj_G L d 121 183 [pj_vR 38, pj_vU, pj_vI x2, pj_vI x3, pj_vU] [] M Q := by
  refine pj_G_s pj_np121 1 (show pj_gs 1 L 121 183 [pj_vR 38, pj_vU, pj_vI x2, pj_vI x3, pj_vU] [] M = some ([], 184, [pj_vR 38, pj_vU, pj_vI x2, pj_vI x3, pj_vU], [pj_vI x3], M) from rfl) trivial ?_
  exact pj_G_if0 (t := 206) rfl rfl (fun z => pj_G_loc (pj_lle_e (pj_lle_e (pj_lle_e (pj_lle_u rfl (pj_lle_e pj_lle_nil))))) (h1 (pj_ct_eq (pj_nrm_id r0.1 r0.2) rfl z))) (fun z => pj_G_loc (pj_lle_e (pj_lle_e (pj_lle_e (pj_lle_u rfl (pj_lle_e pj_lle_nil))))) (h2 (pj_cf_eq (pj_nrm_id r0.1 r0.2) rfl z)))
theorem pj_C121_187 {L d : Nat} {Q : Option pj_V → pj_M → Prop} {M : pj_M} {x2 : Int}  (h : pj_G L d 112 0 [pj_vR 38, pj_vU, pj_vU] [] M (fun r M1 => pj_G L (d + 1) 121 191 [pj_vR 38, pj_vU, pj_vI x2, pj_vU, pj_vU] (r.toList ++ []) M1 Q)) : pj_G L (d + 1) 121 187 [pj_vR 38, pj_vU, pj_vI x2, pj_vU, pj_vU] [] M Q := by
  refine pj_G_s (d := d + 1) pj_np121 1 (show pj_gs 1 L 121 187 [pj_vR 38, pj_vU, pj_vI x2, pj_vU, pj_vU] [] M = some ([], 188, [pj_vR 38, pj_vU, pj_vI x2, pj_vU, pj_vU], [pj_vR 38], M) from rfl) trivial ?_
  exact pj_G_k (j := 112) (vs := [pj_vR 38]) (st := []) rfl rfl rfl rfl rfl (Nat.le_of_ble_eq_true rfl) pj_nc112 h
theorem pj_C121_191 {L d : Nat} {Q : Option pj_V → pj_M → Prop} {M : pj_M} {x2 s0 : Int} (r0 : -2147483648 ≤ s0 ∧ s0 < 2147483648) (h1 : s0 = 0 → pj_G L d 121 198 [pj_vR 38, pj_vU, pj_vI x2, pj_vU, pj_vU] [] M Q) (h2 : s0 ≠ 0 → pj_G L d 121 194 [pj_vR 38, pj_vU, pj_vI x2, pj_vU, pj_vU] [] M Q) : pj_G L d 121 191 [pj_vR 38, pj_vU, pj_vI x2, pj_vU, pj_vU] [pj_vI s0] M Q := by
  exact pj_G_if0 (t := 198) rfl rfl (fun z => h1 (pj_ct_eq (pj_nrm_id r0.1 r0.2) rfl z)) (fun z => h2 (pj_cf_eq (pj_nrm_id r0.1 r0.2) rfl z))
theorem pj_C121_194 {L d : Nat} {Q : Option pj_V → pj_M → Prop} {M : pj_M} {x2 : Int}  (h : pj_G L d 113 0 [pj_vR 38, pj_vU, pj_vU] [] M (fun r M1 => pj_G L (d + 1) 121 198 [pj_vR 38, pj_vU, pj_vI x2, pj_vU, pj_vU] (r.toList ++ []) M1 Q)) : pj_G L (d + 1) 121 194 [pj_vR 38, pj_vU, pj_vI x2, pj_vU, pj_vU] [] M Q := by
  refine pj_G_s (d := d + 1) pj_np121 1 (show pj_gs 1 L 121 194 [pj_vR 38, pj_vU, pj_vI x2, pj_vU, pj_vU] [] M = some ([], 195, [pj_vR 38, pj_vU, pj_vI x2, pj_vU, pj_vU], [pj_vR 38], M) from rfl) trivial ?_
  exact pj_G_k (j := 113) (vs := [pj_vR 38]) (st := []) rfl rfl rfl rfl rfl (Nat.le_of_ble_eq_true rfl) pj_nc113 h
theorem pj_C121_198 {L d : Nat} {Q : Option pj_V → pj_M → Prop} {M : pj_M} {x2 : Int}  (h : pj_G L d 117 0 [pj_vR 38, pj_vU] [] M (fun r M1 => pj_G L (d + 1) 121 202 [pj_vR 38, pj_vU, pj_vI x2, pj_vU, pj_vU] (r.toList ++ []) M1 Q)) : pj_G L (d + 1) 121 198 [pj_vR 38, pj_vU, pj_vI x2, pj_vU, pj_vU] [] M Q := by
  refine pj_G_s (d := d + 1) pj_np121 1 (show pj_gs 1 L 121 198 [pj_vR 38, pj_vU, pj_vI x2, pj_vU, pj_vU] [] M = some ([], 199, [pj_vR 38, pj_vU, pj_vI x2, pj_vU, pj_vU], [pj_vR 38], M) from rfl) trivial ?_
  exact pj_G_k (j := 117) (vs := [pj_vR 38]) (st := []) rfl rfl rfl rfl rfl (Nat.le_of_ble_eq_true rfl) pj_nc117 h
theorem pj_C121_202 {L d : Nat} {Q : Option pj_V → pj_M → Prop} {M : pj_M} {x2 s0 : Int}  (h : pj_G L d 121 183 [pj_vR 38, pj_vU, pj_vI x2, pj_vI s0, pj_vU] [] M Q) : pj_G L d 121 202 [pj_vR 38, pj_vU, pj_vI x2, pj_vU, pj_vU] [pj_vI s0] M Q := by
  refine pj_G_s pj_np121 2 (show pj_gs 2 L 121 202 [pj_vR 38, pj_vU, pj_vI x2, pj_vU, pj_vU] [pj_vI s0] M = some ([], 183, [pj_vR 38, pj_vU, pj_vI x2, pj_vI s0, pj_vU], [], M) from rfl) trivial ?_
  exact h
theorem pj_C121_206 {L d : Nat} {Q : Option pj_V → pj_M → Prop} {M : pj_M} {x2 : Int}  (h : pj_G L d 121 209 [pj_vR 38, pj_vU, pj_vI x2, pj_vU, pj_vI 0] [] M Q) : pj_G L d 121 206 [pj_vR 38, pj_vU, pj_vI x2, pj_vU, pj_vU] [] M Q := by
  refine pj_G_s pj_np121 2 (show pj_gs 2 L 121 206 [pj_vR 38, pj_vU, pj_vI x2, pj_vU, pj_vU] [] M = some ([], 209, [pj_vR 38, pj_vU, pj_vI x2, pj_vU, pj_vI 0], [], M) from rfl) trivial ?_
  exact h
theorem pj_C121_209 {L d : Nat} {Q : Option pj_V → pj_M → Prop} {M : pj_M} {x2 x4 : Int} (r0 : -2147483648 ≤ x4 ∧ x4 < 2147483648) (h1 : (42 : Int) ≤ x4 → pj_G L d 121 241 [pj_vR 38, pj_vU, pj_vI x2, pj_vU, pj_vU] [] M Q) (h2 : x4 < (42 : Int) → pj_G L d 121 216 [pj_vR 38, pj_vU, pj_vI x2, pj_vU, pj_vI x4] [] M Q) : pj_G L d 121 209 [pj_vR 38, pj_vU, pj_vI x2, pj_vU, pj_vI x4] [] M Q := by
  refine pj_G_s pj_np121 2 (show pj_gs 2 L 121 209 [pj_vR 38, pj_vU, pj_vI x2, pj_vU, pj_vI x4] [] M = some ([], 213, [pj_vR 38, pj_vU, pj_vI x2, pj_vU, pj_vI x4], [pj_vI 42, pj_vI x4], M) from rfl) trivial ?_
  exact pj_G_if (t := 241) rfl rfl (fun z => pj_G_loc (pj_lle_e (pj_lle_e (pj_lle_e (pj_lle_e (pj_lle_u rfl pj_lle_nil))))) (h1 (pj_ct_ge (pj_nrm_id r0.1 r0.2) (pj_nrm_id (by omega) (by omega)) z))) (fun z => h2 (pj_cf_ge (pj_nrm_id r0.1 r0.2) (pj_nrm_id (by omega) (by omega)) z))
theorem pj_C121_216 {L d : Nat} {Q : Option pj_V → pj_M → Prop} {M : pj_M} {x2 x4 : Int} (j0 j1 : Nat) (ej0 : x4 = (j0 : Int)) (bj0 : j0 < 42) (ej1 : (42 * x2) + x4 = (j1 : Int)) (bj1 : j1 < 2688) (h : pj_G L d 121 209 [pj_vR 38, pj_vU, pj_vI x2, pj_vU, pj_vI (x4 + 1)] [] (pj_up M 65 j1 (M 63 j0)) Q) : pj_G L d 121 216 [pj_vR 38, pj_vU, pj_vI x2, pj_vU, pj_vI x4] [] M Q := by
  have nj0 : pj_nrm x4 = (j0 : Int) := pj_nk ej0 (by omega)
  have nj1 : pj_nrm ((42 * x2) + x4) = (j1 : Int) := pj_nk ej1 (by omega)
  refine pj_G_s pj_np121 14 (show pj_gs 14 L 121 216 [pj_vR 38, pj_vU, pj_vI x2, pj_vU, pj_vI x4] [] M = some ([0 ≤ pj_nrm x4 ∧ pj_nrm x4 < (42 : Int), 0 ≤ pj_nrm ((42 * x2) + x4) ∧ pj_nrm ((42 * x2) + x4) < (2688 : Int)], 209, [pj_vR 38, pj_vU, pj_vI x2, pj_vU, pj_vI (x4 + 1)], [], pj_up M 65 (pj_nrm ((42 * x2) + x4)).toNat (M 63 (pj_nrm x4).toNat)) from rfl) ⟨by omega, by omega, trivial⟩ ?_
  simp only [nj0, nj1, Int.toNat_natCast]
  exact h
