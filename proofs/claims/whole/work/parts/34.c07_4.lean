theorem pj_C137_8 {L d : Nat} {Q : Option pj_V → pj_M → Prop} {M : pj_M}  (h : pj_G L d 86 0 [pj_vR 38, pj_vI ((-3))] [] M (fun r M1 => pj_G L (d + 1) 137 14 [pj_vU, pj_vU] (r.toList ++ []) M1 Q)) : pj_G L (d + 1) 137 8 [pj_vR 38, pj_vU] [] M Q := by
  refine pj_G_s (d := d + 1) pj_np137 2 (show pj_gs 2 L 137 8 [pj_vR 38, pj_vU] [] M = some ([], 11, [pj_vR 38, pj_vU], [pj_vI ((-3)), pj_vR 38], M) from rfl) trivial ?_
  exact pj_G_k (j := 86) (vs := [pj_vR 38, pj_vI ((-3))]) (st := []) rfl rfl rfl rfl rfl (Nat.le_of_ble_eq_true rfl) pj_nc86 (pj_G.mono h (fun _ _ hh => pj_G_loc (pj_lle_u rfl (pj_lle_e pj_lle_nil)) hh))
theorem pj_C137_14 {L d : Nat} {Q : Option pj_V → pj_M → Prop} {M : pj_M} {s0 : Int}  (h : Q (some (pj_vI s0)) M) : pj_G L d 137 14 [pj_vU, pj_vU] [pj_vI s0] M Q := by
  exact pj_G_r rfl rfl rfl h
theorem pj_C137_15 {L d : Nat} {Q : Option pj_V → pj_M → Prop} {M : pj_M} {x1 : Int}  (h : pj_G L d 126 0 [pj_vR 38, pj_vI x1, pj_vU, pj_vU] [] M (fun r M1 => pj_G L (d + 1) 137 20 [pj_vR 38, pj_vI x1] (r.toList ++ []) M1 Q)) : pj_G L (d + 1) 137 15 [pj_vR 38, pj_vI x1] [] M Q := by
  refine pj_G_s (d := d + 1) pj_np137 2 (show pj_gs 2 L 137 15 [pj_vR 38, pj_vI x1] [] M = some ([], 17, [pj_vR 38, pj_vI x1], [pj_vI x1, pj_vR 38], M) from rfl) trivial ?_
  exact pj_G_k (j := 126) (vs := [pj_vR 38, pj_vI x1]) (st := []) rfl rfl rfl rfl rfl (Nat.le_of_ble_eq_true rfl) pj_nc126 h
theorem pj_C137_20 {L d : Nat} {Q : Option pj_V → pj_M → Prop} {M : pj_M} {x1 s0 : Int} (r0 : -2147483648 ≤ s0 ∧ s0 < 2147483648) (h1 : s0 = 0 → pj_G L d 137 32 [pj_vR 38, pj_vI x1] [] M Q) (h2 : s0 ≠ 0 → pj_G L d 137 23 [pj_vR 38, pj_vU] [] M Q) : pj_G L d 137 20 [pj_vR 38, pj_vI x1] [pj_vI s0] M Q := by
  exact pj_G_if0 (t := 32) rfl rfl (fun z => h1 (pj_ct_eq (pj_nrm_id r0.1 r0.2) rfl z)) (fun z => pj_G_loc (pj_lle_e (pj_lle_u rfl pj_lle_nil)) (h2 (pj_cf_eq (pj_nrm_id r0.1 r0.2) rfl z)))
theorem pj_C137_23 {L d : Nat} {Q : Option pj_V → pj_M → Prop} {M : pj_M}  (h : pj_G L d 86 0 [pj_vR 38, pj_vI ((-7))] [] M (fun r M1 => pj_G L (d + 1) 137 29 [pj_vU, pj_vU] (r.toList ++ []) M1 Q)) : pj_G L (d + 1) 137 23 [pj_vR 38, pj_vU] [] M Q := by
  refine pj_G_s (d := d + 1) pj_np137 2 (show pj_gs 2 L 137 23 [pj_vR 38, pj_vU] [] M = some ([], 26, [pj_vR 38, pj_vU], [pj_vI ((-7)), pj_vR 38], M) from rfl) trivial ?_
  exact pj_G_k (j := 86) (vs := [pj_vR 38, pj_vI ((-7))]) (st := []) rfl rfl rfl rfl rfl (Nat.le_of_ble_eq_true rfl) pj_nc86 (pj_G.mono h (fun _ _ hh => pj_G_loc (pj_lle_u rfl (pj_lle_e pj_lle_nil)) hh))
theorem pj_C137_29 {L d : Nat} {Q : Option pj_V → pj_M → Prop} {M : pj_M} {s0 : Int}  (h : pj_G L d 137 37 [pj_vU, pj_vU] [pj_vI s0] M Q) : pj_G L d 137 29 [pj_vU, pj_vU] [pj_vI s0] M Q := by
  refine pj_G_s pj_np137 1 (show pj_gs 1 L 137 29 [pj_vU, pj_vU] [pj_vI s0] M = some ([], 37, [pj_vU, pj_vU], [pj_vI s0], M) from rfl) trivial ?_
  exact h
theorem pj_C137_37 {L d : Nat} {Q : Option pj_V → pj_M → Prop} {M : pj_M} {s0 : Int}  (h : Q (some (pj_vI s0)) M) : pj_G L d 137 37 [pj_vU, pj_vU] [pj_vI s0] M Q := by
  exact pj_G_r rfl rfl rfl h
theorem pj_C137_32 {L d : Nat} {Q : Option pj_V → pj_M → Prop} {M : pj_M} {x1 : Int}  (h : pj_G L d 133 0 [pj_vR 38, pj_vI x1, pj_vU] [] M (fun r M1 => pj_G L (d + 1) 137 37 [pj_vU, pj_vU] (r.toList ++ []) M1 Q)) : pj_G L (d + 1) 137 32 [pj_vR 38, pj_vI x1] [] M Q := by
  refine pj_G_s (d := d + 1) pj_np137 2 (show pj_gs 2 L 137 32 [pj_vR 38, pj_vI x1] [] M = some ([], 34, [pj_vR 38, pj_vI x1], [pj_vI x1, pj_vR 38], M) from rfl) trivial ?_
  exact pj_G_k (j := 133) (vs := [pj_vR 38, pj_vI x1]) (st := []) rfl rfl rfl rfl rfl (Nat.le_of_ble_eq_true rfl) pj_nc133 (pj_G.mono h (fun _ _ hh => pj_G_loc (pj_lle_u rfl (pj_lle_u rfl pj_lle_nil)) hh))
theorem pj_C138_0 {L d : Nat} {Q : Option pj_V → pj_M → Prop} {M : pj_M} {x1 x2 x3 : Int}  (h : pj_G L d 89 0 [pj_vR 38, pj_vI x1] [] M (fun r M1 => pj_G L (d + 1) 138 5 [pj_vR 38, pj_vI x1, pj_vI x2, pj_vI x3] (r.toList ++ []) M1 Q)) : pj_G L (d + 1) 138 0 [pj_vR 38, pj_vI x1, pj_vI x2, pj_vI x3] [] M Q := by
  refine pj_G_s (d := d + 1) pj_np138 2 (show pj_gs 2 L 138 0 [pj_vR 38, pj_vI x1, pj_vI x2, pj_vI x3] [] M = some ([], 2, [pj_vR 38, pj_vI x1, pj_vI x2, pj_vI x3], [pj_vI x1, pj_vR 38], M) from rfl) trivial ?_
  exact pj_G_k (j := 89) (vs := [pj_vR 38, pj_vI x1]) (st := []) rfl rfl rfl rfl rfl (Nat.le_of_ble_eq_true rfl) pj_nc89 h
theorem pj_C138_5 {L d : Nat} {Q : Option pj_V → pj_M → Prop} {M : pj_M} {x1 x2 x3 s0 : Int} (r0 : -2147483648 ≤ s0 ∧ s0 < 2147483648) (h1 : s0 = 0 → pj_G L d 138 16 [pj_vR 38, pj_vU, pj_vU, pj_vU] [] M Q) (h2 : s0 ≠ 0 → pj_G L d 138 8 [pj_vR 38, pj_vI x1, pj_vI x2, pj_vI x3] [] M Q) : pj_G L d 138 5 [pj_vR 38, pj_vI x1, pj_vI x2, pj_vI x3] [pj_vI s0] M Q := by
  exact pj_G_if0 (t := 16) rfl rfl (fun z => pj_G_loc (pj_lle_e (pj_lle_u rfl (pj_lle_u rfl (pj_lle_u rfl pj_lle_nil)))) (h1 (pj_ct_eq (pj_nrm_id r0.1 r0.2) rfl z))) (fun z => h2 (pj_cf_eq (pj_nrm_id r0.1 r0.2) rfl z))
theorem pj_C138_8 {L d : Nat} {Q : Option pj_V → pj_M → Prop} {M : pj_M} {x1 x2 x3 : Int}  (h : pj_G L d 87 0 [pj_vR 38, pj_vI x2] [] M (fun r M1 => pj_G L (d + 1) 138 13 [pj_vR 38, pj_vI x1, pj_vI x2, pj_vI x3] (r.toList ++ []) M1 Q)) : pj_G L (d + 1) 138 8 [pj_vR 38, pj_vI x1, pj_vI x2, pj_vI x3] [] M Q := by
  refine pj_G_s (d := d + 1) pj_np138 2 (show pj_gs 2 L 138 8 [pj_vR 38, pj_vI x1, pj_vI x2, pj_vI x3] [] M = some ([], 10, [pj_vR 38, pj_vI x1, pj_vI x2, pj_vI x3], [pj_vI x2, pj_vR 38], M) from rfl) trivial ?_
  exact pj_G_k (j := 87) (vs := [pj_vR 38, pj_vI x2]) (st := []) rfl rfl rfl rfl rfl (Nat.le_of_ble_eq_true rfl) pj_nc87 h
theorem pj_C138_13 {L d : Nat} {Q : Option pj_V → pj_M → Prop} {M : pj_M} {x1 x2 x3 s0 : Int} (r0 : -2147483648 ≤ s0 ∧ s0 < 2147483648) (h1 : s0 ≠ 0 → pj_G L d 138 23 [pj_vR 38, pj_vI x1, pj_vI x2, pj_vI x3] [] M Q) (h2 : s0 = 0 → pj_G L d 138 16 [pj_vR 38, pj_vU, pj_vU, pj_vU] [] M Q) : pj_G L d 138 13 [pj_vR 38, pj_vI x1, pj_vI x2, pj_vI x3] [pj_vI s0] M Q := by
  exact pj_G_if0 (t := 23) rfl rfl (fun z => h1 (pj_ct_ne (pj_nrm_id r0.1 r0.2) rfl z)) (fun z => pj_G_loc (pj_lle_e (pj_lle_u rfl (pj_lle_u rfl (pj_lle_u rfl pj_lle_nil)))) (h2 (pj_cf_ne (pj_nrm_id r0.1 r0.2) rfl z)))
theorem pj_C138_16 {L d : Nat} {Q : Option pj_V → pj_M → Prop} {M : pj_M}  (h : pj_G L d 86 0 [pj_vR 38, pj_vI ((-3))] [] M (fun r M1 => pj_G L (d + 1) 138 22 [pj_vU, pj_vU, pj_vU, pj_vU] (r.toList ++ []) M1 Q)) : pj_G L (d + 1) 138 16 [pj_vR 38, pj_vU, pj_vU, pj_vU] [] M Q := by
  refine pj_G_s (d := d + 1) pj_np138 2 (show pj_gs 2 L 138 16 [pj_vR 38, pj_vU, pj_vU, pj_vU] [] M = some ([], 19, [pj_vR 38, pj_vU, pj_vU, pj_vU], [pj_vI ((-3)), pj_vR 38], M) from rfl) trivial ?_
  exact pj_G_k (j := 86) (vs := [pj_vR 38, pj_vI ((-3))]) (st := []) rfl rfl rfl rfl rfl (Nat.le_of_ble_eq_true rfl) pj_nc86 (pj_G.mono h (fun _ _ hh => pj_G_loc (pj_lle_u rfl (pj_lle_e (pj_lle_e (pj_lle_e pj_lle_nil)))) hh))
theorem pj_C138_22 {L d : Nat} {Q : Option pj_V → pj_M → Prop} {M : pj_M} {s0 : Int}  (h : Q (some (pj_vI s0)) M) : pj_G L d 138 22 [pj_vU, pj_vU, pj_vU, pj_vU] [pj_vI s0] M Q := by
  exact pj_G_r rfl rfl rfl h
theorem pj_C138_23 {L d : Nat} {Q : Option pj_V → pj_M → Prop} {M : pj_M} {x1 x2 x3 : Int}  (h : pj_G L d 121 0 [pj_vR 38, pj_vU, pj_vU, pj_vU, pj_vU] [] M (fun r M1 => pj_G L (d + 1) 138 27 [pj_vR 38, pj_vI x1, pj_vI x2, pj_vI x3] (r.toList ++ []) M1 Q)) : pj_G L (d + 1) 138 23 [pj_vR 38, pj_vI x1, pj_vI x2, pj_vI x3] [] M Q := by
  refine pj_G_s (d := d + 1) pj_np138 1 (show pj_gs 1 L 138 23 [pj_vR 38, pj_vI x1, pj_vI x2, pj_vI x3] [] M = some ([], 24, [pj_vR 38, pj_vI x1, pj_vI x2, pj_vI x3], [pj_vR 38], M) from rfl) trivial ?_
  exact pj_G_k (j := 121) (vs := [pj_vR 38]) (st := []) rfl rfl rfl rfl rfl (Nat.le_of_ble_eq_true rfl) pj_nc121 h
theorem pj_C138_27 {L d : Nat} {Q : Option pj_V → pj_M → Prop} {M : pj_M} {x1 x2 x3 : Int} (r0 : -2147483648 ≤ x3 ∧ x3 < 2147483648) (r1 : -2147483648 ≤ (M 38 34) - 1 ∧ (M 38 34) - 1 < 2147483648) (h : pj_G L d 85 0 [pj_vL x3, pj_vU, pj_vL 0, pj_vU, pj_vL ((M 38 34) - 1), pj_vU] [] M (fun r M1 => pj_G L (d + 1) 138 40 [pj_vR 38, pj_vI x1, pj_vI x2, pj_vI x3] (r.toList ++ []) M1 Q)) : pj_G L (d + 1) 138 27 [pj_vR 38, pj_vI x1, pj_vI x2, pj_vI x3] [] M Q := by
  have q0 : pj_nrm x3 = x3 := (pj_nrm_id r0.1 r0.2)
  have q1 : pj_nrm ((M 38 34) - 1) = (M 38 34) - 1 := (pj_nrm_id r1.1 r1.2)
  refine pj_G_s (d := d + 1) pj_np138 8 (show pj_gs 8 L 138 27 [pj_vR 38, pj_vI x1, pj_vI x2, pj_vI x3] [] M = some ([], 37, [pj_vR 38, pj_vI x1, pj_vI x2, pj_vI x3], [pj_vL (pj_nrm ((M 38 34) - 1)), pj_vL 0, pj_vL (pj_nrm x3)], M) from rfl) trivial ?_
  simp only [q0, q1, Int.toNat_natCast]
  exact pj_G_k (j := 85) (vs := [pj_vL x3, pj_vL 0, pj_vL ((M 38 34) - 1)]) (st := []) rfl rfl rfl rfl rfl (Nat.le_of_ble_eq_true rfl) pj_nc85 h
theorem pj_C138_40 {L d : Nat} {Q : Option pj_V → pj_M → Prop} {M : pj_M} {x1 x2 x3 s0 : Int} (r0 : -2147483648 ≤ s0 ∧ s0 < 2147483648) (h1 : s0 = 0 → pj_G L d 138 62 [pj_vR 38, pj_vU, pj_vU, pj_vU] [] M Q) (h2 : s0 ≠ 0 → pj_G L d 138 43 [pj_vR 38, pj_vI x1, pj_vI x2, pj_vI x3] [] M Q) : pj_G L d 138 40 [pj_vR 38, pj_vI x1, pj_vI x2, pj_vI x3] [pj_vI s0] M Q := by
  exact pj_G_if0 (t := 62) rfl rfl (fun z => pj_G_loc (pj_lle_e (pj_lle_u rfl (pj_lle_u rfl (pj_lle_u rfl pj_lle_nil)))) (h1 (pj_ct_eq (pj_nrm_id r0.1 r0.2) rfl z))) (fun z => h2 (pj_cf_eq (pj_nrm_id r0.1 r0.2) rfl z))
theorem pj_C138_43 {L d : Nat} {Q : Option pj_V → pj_M → Prop} {M : pj_M} {x1 x2 x3 : Int} (j0 : Nat) (ej0 : ((42 * x3) + (14 * x1)) + x2 = (j0 : Int)) (bj0 : j0 < 2688) (h : pj_G L d 138 68 [pj_vU, pj_vU, pj_vU, pj_vU] [pj_vI (M 65 j0)] M Q) : pj_G L d 138 43 [pj_vR 38, pj_vI x1, pj_vI x2, pj_vI x3] [] M Q := by
  have nj0 : pj_nrm (((42 * x3) + (14 * x1)) + x2) = (j0 : Int) := pj_nk ej0 (by omega)
  refine pj_G_s pj_np138 13 (show pj_gs 13 L 138 43 [pj_vR 38, pj_vI x1, pj_vI x2, pj_vI x3] [] M = some ([0 ≤ pj_nrm (((42 * x3) + (14 * x1)) + x2) ∧ pj_nrm (((42 * x3) + (14 * x1)) + x2) < (2688 : Int)], 68, [pj_vR 38, pj_vI x1, pj_vI x2, pj_vI x3], [pj_vI (M 65 (pj_nrm (((42 * x3) + (14 * x1)) + x2)).toNat)], M) from rfl) ⟨by omega, trivial⟩ ?_
  simp only [nj0, Int.toNat_natCast]
  exact pj_G_loc (pj_lle_u rfl (pj_lle_u rfl (pj_lle_u rfl (pj_lle_u rfl pj_lle_nil)))) h
theorem pj_C138_68 {L d : Nat} {Q : Option pj_V → pj_M → Prop} {M : pj_M} {s0 : Int}  (h : Q (some (pj_vI s0)) M) : pj_G L d 138 68 [pj_vU, pj_vU, pj_vU, pj_vU] [pj_vI s0] M Q := by
  exact pj_G_r rfl rfl rfl h
theorem pj_C138_62 {L d : Nat} {Q : Option pj_V → pj_M → Prop} {M : pj_M}  (h : pj_G L d 86 0 [pj_vR 38, pj_vI ((-3))] [] M (fun r M1 => pj_G L (d + 1) 138 68 [pj_vU, pj_vU, pj_vU, pj_vU] (r.toList ++ []) M1 Q)) : pj_G L (d + 1) 138 62 [pj_vR 38, pj_vU, pj_vU, pj_vU] [] M Q := by
  refine pj_G_s (d := d + 1) pj_np138 2 (show pj_gs 2 L 138 62 [pj_vR 38, pj_vU, pj_vU, pj_vU] [] M = some ([], 65, [pj_vR 38, pj_vU, pj_vU, pj_vU], [pj_vI ((-3)), pj_vR 38], M) from rfl) trivial ?_
  exact pj_G_k (j := 86) (vs := [pj_vR 38, pj_vI ((-3))]) (st := []) rfl rfl rfl rfl rfl (Nat.le_of_ble_eq_true rfl) pj_nc86 (pj_G.mono h (fun _ _ hh => pj_G_loc (pj_lle_u rfl (pj_lle_e (pj_lle_e (pj_lle_e pj_lle_nil)))) hh))
theorem pj_C139_0 {L d : Nat} {Q : Option pj_V → pj_M → Prop} {M : pj_M} {x1 x2 : Int}  (h : pj_G L d 139 5 [pj_vR 38, pj_vI x1, pj_vI x2, pj_vI 0, pj_vI 0, pj_vU, pj_vU] [] M Q) : pj_G L d 139 0 [pj_vR 38, pj_vI x1, pj_vI x2, pj_vU, pj_vU, pj_vU, pj_vU] [] M Q := by
  refine pj_G_s pj_np139 4 (show pj_gs 4 L 139 0 [pj_vR 38, pj_vI x1, pj_vI x2, pj_vU, pj_vU, pj_vU, pj_vU] [] M = some ([], 5, [pj_vR 38, pj_vI x1, pj_vI x2, pj_vI 0, pj_vI 0, pj_vU, pj_vU], [], M) from rfl) trivial ?_
  exact h
theorem pj_C139_5 {L d : Nat} {Q : Option pj_V → pj_M → Prop} {M : pj_M} {x1 x2 x3 x4 : Int} (j0 : Nat) (ej0 : x2 = (j0 : Int)) (bj0 : j0 < 14) (r0 : -2147483648 ≤ x4 ∧ x4 < 2147483648) (r1 : -2147483648 ≤ M 39 j0 ∧ M 39 j0 < 2147483648) (h1 : M 39 j0 ≤ x4 → pj_G L d 139 78 [pj_vU, pj_vU, pj_vU, pj_vI x3, pj_vU, pj_vU, pj_vU] [] M Q) (h2 : x4 < M 39 j0 → pj_G L d 139 16 [pj_vR 38, pj_vI x1, pj_vI x2, pj_vI x3, pj_vI x4, pj_vU, pj_vU] [] M Q) : pj_G L d 139 5 [pj_vR 38, pj_vI x1, pj_vI x2, pj_vI x3, pj_vI x4, pj_vU, pj_vU] [] M Q := by
  have nj0 : pj_nrm x2 = (j0 : Int) := pj_nk ej0 (by omega)
  refine pj_G_s pj_np139 5 (show pj_gs 5 L 139 5 [pj_vR 38, pj_vI x1, pj_vI x2, pj_vI x3, pj_vI x4, pj_vU, pj_vU] [] M = some ([0 ≤ pj_nrm x2 ∧ pj_nrm x2 < (14 : Int)], 13, [pj_vR 38, pj_vI x1, pj_vI x2, pj_vI x3, pj_vI x4, pj_vU, pj_vU], [pj_vI (M 39 (pj_nrm x2).toNat), pj_vI x4], M) from rfl) ⟨by omega, trivial⟩ ?_
  simp only [nj0, Int.toNat_natCast]
  exact pj_G_if (t := 78) rfl rfl (fun z => pj_G_loc (pj_lle_u rfl (pj_lle_u rfl (pj_lle_u rfl (pj_lle_e (pj_lle_u rfl (pj_lle_e (pj_lle_e pj_lle_nil))))))) (h1 (pj_ct_ge (pj_nrm_id r0.1 r0.2) (pj_nrm_id r1.1 r1.2) z))) (fun z => h2 (pj_cf_ge (pj_nrm_id r0.1 r0.2) (pj_nrm_id r1.1 r1.2) z))
theorem pj_C139_16 {L d : Nat} {Q : Option pj_V → pj_M → Prop} {M : pj_M} {x1 x2 x3 x4 : Int}  (h : pj_G L d 139 22 [pj_vR 38, pj_vI x1, pj_vI x2, pj_vI x3, pj_vI x4, pj_vI 0, pj_vI 0] [] M Q) : pj_G L d 139 16 [pj_vR 38, pj_vI x1, pj_vI x2, pj_vI x3, pj_vI x4, pj_vU, pj_vU] [] M Q := by
  refine pj_G_s pj_np139 4 (show pj_gs 4 L 139 16 [pj_vR 38, pj_vI x1, pj_vI x2, pj_vI x3, pj_vI x4, pj_vU, pj_vU] [] M = some ([], 22, [pj_vR 38, pj_vI x1, pj_vI x2, pj_vI x3, pj_vI x4, pj_vI 0, pj_vI 0], [], M) from rfl) trivial ?_
  exact h
theorem pj_C139_22 {L d : Nat} {Q : Option pj_V → pj_M → Prop} {M : pj_M} {x1 x2 x3 x4 x5 x6 : Int} (r0 : -2147483648 ≤ x6 ∧ x6 < 2147483648) (r1 : -2147483648 ≤ M 38 34 ∧ M 38 34 < 2147483648) (h1 : M 38 34 ≤ x6 → pj_G L d 139 64 [pj_vR 38, pj_vI x1, pj_vI x2, pj_vI x3, pj_vI x4, pj_vI x5, pj_vU] [] M Q) (h2 : x6 < M 38 34 → pj_G L d 139 31 [pj_vR 38, pj_vI x1, pj_vI x2, pj_vI x3, pj_vI x4, pj_vI x5, pj_vI x6] [] M Q) : pj_G L d 139 22 [pj_vR 38, pj_vI x1, pj_vI x2, pj_vI x3, pj_vI x4, pj_vI x5, pj_vI x6] [] M Q := by
  refine pj_G_s pj_np139 3 (show pj_gs 3 L 139 22 [pj_vR 38, pj_vI x1, pj_vI x2, pj_vI x3, pj_vI x4, pj_vI x5, pj_vI x6] [] M = some ([], 28, [pj_vR 38, pj_vI x1, pj_vI x2, pj_vI x3, pj_vI x4, pj_vI x5, pj_vI x6], [pj_vI (M 38 34), pj_vI x6], M) from rfl) trivial ?_
  exact pj_G_if (t := 64) rfl rfl (fun z => pj_G_loc (pj_lle_e (pj_lle_e (pj_lle_e (pj_lle_e (pj_lle_e (pj_lle_e (pj_lle_u rfl pj_lle_nil))))))) (h1 (pj_ct_ge (pj_nrm_id r0.1 r0.2) (pj_nrm_id r1.1 r1.2) z))) (fun z => h2 (pj_cf_ge (pj_nrm_id r0.1 r0.2) (pj_nrm_id r1.1 r1.2) z))
theorem pj_C139_31 {L d : Nat} {Q : Option pj_V → pj_M → Prop} {M : pj_M} {x1 x2 x3 x4 x5 x6 : Int} (j0 : Nat) (ej0 : ((42 * x6) + (14 * x1)) + x2 = (j0 : Int)) (bj0 : j0 < 2688) (h : pj_G L d 139 22 [pj_vR 38, pj_vI x1, pj_vI x2, pj_vI x3, pj_vI x4, pj_vI (x5 + (pj_and (pj_shr (M 65 j0) x4) 1)), pj_vI (x6 + 1)] [] M Q) : pj_G L d 139 31 [pj_vR 38, pj_vI x1, pj_vI x2, pj_vI x3, pj_vI x4, pj_vI x5, pj_vI x6] [] M Q := by
  have nj0 : pj_nrm (((42 * x6) + (14 * x1)) + x2) = (j0 : Int) := pj_nk ej0 (by omega)
  refine pj_G_s pj_np139 21 (show pj_gs 21 L 139 31 [pj_vR 38, pj_vI x1, pj_vI x2, pj_vI x3, pj_vI x4, pj_vI x5, pj_vI x6] [] M = some ([0 ≤ pj_nrm (((42 * x6) + (14 * x1)) + x2) ∧ pj_nrm (((42 * x6) + (14 * x1)) + x2) < (2688 : Int)], 22, [pj_vR 38, pj_vI x1, pj_vI x2, pj_vI x3, pj_vI x4, pj_vI (x5 + (pj_and (pj_shr (M 65 (pj_nrm (((42 * x6) + (14 * x1)) + x2)).toNat) x4) 1)), pj_vI (x6 + 1)], [], M) from rfl) ⟨by omega, trivial⟩ ?_
  simp only [nj0, Int.toNat_natCast]
  exact h
theorem pj_C139_64 {L d : Nat} {Q : Option pj_V → pj_M → Prop} {M : pj_M} {x1 x2 x3 x4 x5 : Int}  (h : pj_G L d 139 5 [pj_vR 38, pj_vI x1, pj_vI x2, pj_vI (x3 + (x5 * x5)), pj_vI (x4 + 1), pj_vU, pj_vU] [] M Q) : pj_G L d 139 64 [pj_vR 38, pj_vI x1, pj_vI x2, pj_vI x3, pj_vI x4, pj_vI x5, pj_vU] [] M Q := by
  refine pj_G_s pj_np139 8 (show pj_gs 8 L 139 64 [pj_vR 38, pj_vI x1, pj_vI x2, pj_vI x3, pj_vI x4, pj_vI x5, pj_vU] [] M = some ([], 5, [pj_vR 38, pj_vI x1, pj_vI x2, pj_vI (x3 + (x5 * x5)), pj_vI (x4 + 1), pj_vI x5, pj_vU], [], M) from rfl) trivial ?_
  exact pj_G_loc (pj_lle_e (pj_lle_e (pj_lle_e (pj_lle_e (pj_lle_e (pj_lle_u rfl (pj_lle_e pj_lle_nil))))))) h
theorem pj_C139_78 {L d : Nat} {Q : Option pj_V → pj_M → Prop} {M : pj_M} {x3 : Int}  (h : Q (some (pj_vI x3)) M) : pj_G L d 139 78 [pj_vU, pj_vU, pj_vU, pj_vI x3, pj_vU, pj_vU, pj_vU] [] M Q := by
  refine pj_G_s pj_np139 1 (show pj_gs 1 L 139 78 [pj_vU, pj_vU, pj_vU, pj_vI x3, pj_vU, pj_vU, pj_vU] [] M = some ([], 79, [pj_vU, pj_vU, pj_vU, pj_vI x3, pj_vU, pj_vU, pj_vU], [pj_vI x3], M) from rfl) trivial ?_
  exact pj_G_r rfl rfl rfl h
theorem pj_C140_0 {L d : Nat} {Q : Option pj_V → pj_M → Prop} {M : pj_M} {x1 x2 : Int}  (h : pj_G L d 89 0 [pj_vR 38, pj_vI x1] [] M (fun r M1 => pj_G L (d + 1) 140 5 [pj_vR 38, pj_vI x1, pj_vI x2] (r.toList ++ []) M1 Q)) : pj_G L (d + 1) 140 0 [pj_vR 38, pj_vI x1, pj_vI x2] [] M Q := by
  refine pj_G_s (d := d + 1) pj_np140 2 (show pj_gs 2 L 140 0 [pj_vR 38, pj_vI x1, pj_vI x2] [] M = some ([], 2, [pj_vR 38, pj_vI x1, pj_vI x2], [pj_vI x1, pj_vR 38], M) from rfl) trivial ?_
  exact pj_G_k (j := 89) (vs := [pj_vR 38, pj_vI x1]) (st := []) rfl rfl rfl rfl rfl (Nat.le_of_ble_eq_true rfl) pj_nc89 h
theorem pj_C140_5 {L d : Nat} {Q : Option pj_V → pj_M → Prop} {M : pj_M} {x1 x2 s0 : Int} (r0 : -2147483648 ≤ s0 ∧ s0 < 2147483648) (h1 : s0 = 0 → pj_G L d 140 16 [pj_vR 38, pj_vU, pj_vU] [] M Q) (h2 : s0 ≠ 0 → pj_G L d 140 8 [pj_vR 38, pj_vI x1, pj_vI x2] [] M Q) : pj_G L d 140 5 [pj_vR 38, pj_vI x1, pj_vI x2] [pj_vI s0] M Q := by
  exact pj_G_if0 (t := 16) rfl rfl (fun z => pj_G_loc (pj_lle_e (pj_lle_u rfl (pj_lle_u rfl pj_lle_nil))) (h1 (pj_ct_eq (pj_nrm_id r0.1 r0.2) rfl z))) (fun z => h2 (pj_cf_eq (pj_nrm_id r0.1 r0.2) rfl z))
theorem pj_C140_8 {L d : Nat} {Q : Option pj_V → pj_M → Prop} {M : pj_M} {x1 x2 : Int}  (h : pj_G L d 87 0 [pj_vR 38, pj_vI x2] [] M (fun r M1 => pj_G L (d + 1) 140 13 [pj_vR 38, pj_vI x1, pj_vI x2] (r.toList ++ []) M1 Q)) : pj_G L (d + 1) 140 8 [pj_vR 38, pj_vI x1, pj_vI x2] [] M Q := by
  refine pj_G_s (d := d + 1) pj_np140 2 (show pj_gs 2 L 140 8 [pj_vR 38, pj_vI x1, pj_vI x2] [] M = some ([], 10, [pj_vR 38, pj_vI x1, pj_vI x2], [pj_vI x2, pj_vR 38], M) from rfl) trivial ?_
  exact pj_G_k (j := 87) (vs := [pj_vR 38, pj_vI x2]) (st := []) rfl rfl rfl rfl rfl (Nat.le_of_ble_eq_true rfl) pj_nc87 h
theorem pj_C140_13 {L d : Nat} {Q : Option pj_V → pj_M → Prop} {M : pj_M} {x1 x2 s0 : Int} (r0 : -2147483648 ≤ s0 ∧ s0 < 2147483648) (h1 : s0 ≠ 0 → pj_G L d 140 23 [pj_vR 38, pj_vI x1, pj_vI x2] [] M Q) (h2 : s0 = 0 → pj_G L d 140 16 [pj_vR 38, pj_vU, pj_vU] [] M Q) : pj_G L d 140 13 [pj_vR 38, pj_vI x1, pj_vI x2] [pj_vI s0] M Q := by
  exact pj_G_if0 (t := 23) rfl rfl (fun z => h1 (pj_ct_ne (pj_nrm_id r0.1 r0.2) rfl z)) (fun z => pj_G_loc (pj_lle_e (pj_lle_u rfl (pj_lle_u rfl pj_lle_nil))) (h2 (pj_cf_ne (pj_nrm_id r0.1 r0.2) rfl z)))
theorem pj_C140_16 {L d : Nat} {Q : Option pj_V → pj_M → Prop} {M : pj_M}  (h : pj_G L d 86 0 [pj_vR 38, pj_vI ((-3))] [] M (fun r M1 => pj_G L (d + 1) 140 22 [pj_vU, pj_vU, pj_vU] (r.toList ++ []) M1 Q)) : pj_G L (d + 1) 140 16 [pj_vR 38, pj_vU, pj_vU] [] M Q := by
  refine pj_G_s (d := d + 1) pj_np140 2 (show pj_gs 2 L 140 16 [pj_vR 38, pj_vU, pj_vU] [] M = some ([], 19, [pj_vR 38, pj_vU, pj_vU], [pj_vI ((-3)), pj_vR 38], M) from rfl) trivial ?_
  exact pj_G_k (j := 86) (vs := [pj_vR 38, pj_vI ((-3))]) (st := []) rfl rfl rfl rfl rfl (Nat.le_of_ble_eq_true rfl) pj_nc86 (pj_G.mono h (fun _ _ hh => pj_G_loc (pj_lle_u rfl (pj_lle_e (pj_lle_e pj_lle_nil))) hh))
theorem pj_C140_22 {L d : Nat} {Q : Option pj_V → pj_M → Prop} {M : pj_M} {s0 : Int}  (h : Q (some (pj_vI s0)) M) : pj_G L d 140 22 [pj_vU, pj_vU, pj_vU] [pj_vI s0] M Q := by
  exact pj_G_r rfl rfl rfl h
theorem pj_C140_23 {L d : Nat} {Q : Option pj_V → pj_M → Prop} {M : pj_M} {x1 x2 : Int}  (h : pj_G L d 121 0 [pj_vR 38, pj_vU, pj_vU, pj_vU, pj_vU] [] M (fun r M1 => pj_G L (d + 1) 140 27 [pj_vR 38, pj_vI x1, pj_vI x2] (r.toList ++ []) M1 Q)) : pj_G L (d + 1) 140 23 [pj_vR 38, pj_vI x1, pj_vI x2] [] M Q := by
  refine pj_G_s (d := d + 1) pj_np140 1 (show pj_gs 1 L 140 23 [pj_vR 38, pj_vI x1, pj_vI x2] [] M = some ([], 24, [pj_vR 38, pj_vI x1, pj_vI x2], [pj_vR 38], M) from rfl) trivial ?_
  exact pj_G_k (j := 121) (vs := [pj_vR 38]) (st := []) rfl rfl rfl rfl rfl (Nat.le_of_ble_eq_true rfl) pj_nc121 h
theorem pj_C140_27 {L d : Nat} {Q : Option pj_V → pj_M → Prop} {M : pj_M} {x1 x2 : Int}  (h : pj_G L d 139 0 [pj_vR 38, pj_vI x1, pj_vI x2, pj_vU, pj_vU, pj_vU, pj_vU] [] M (fun r M1 => pj_G L (d + 1) 140 33 [pj_vU, pj_vU, pj_vU] (r.toList ++ []) M1 Q)) : pj_G L (d + 1) 140 27 [pj_vR 38, pj_vI x1, pj_vI x2] [] M Q := by
  refine pj_G_s (d := d + 1) pj_np140 3 (show pj_gs 3 L 140 27 [pj_vR 38, pj_vI x1, pj_vI x2] [] M = some ([], 30, [pj_vR 38, pj_vI x1, pj_vI x2], [pj_vI x2, pj_vI x1, pj_vR 38], M) from rfl) trivial ?_
  exact pj_G_k (j := 139) (vs := [pj_vR 38, pj_vI x1, pj_vI x2]) (st := []) rfl rfl rfl rfl rfl (Nat.le_of_ble_eq_true rfl) pj_nc139 (pj_G.mono h (fun _ _ hh => pj_G_loc (pj_lle_u rfl (pj_lle_u rfl (pj_lle_u rfl pj_lle_nil))) hh))
theorem pj_C140_33 {L d : Nat} {Q : Option pj_V → pj_M → Prop} {M : pj_M} {s0 : Int}  (h : Q (some (pj_vI s0)) M) : pj_G L d 140 33 [pj_vU, pj_vU, pj_vU] [pj_vI s0] M Q := by
  exact pj_G_r rfl rfl rfl h
theorem pj_C141_0 {L d : Nat} {Q : Option pj_V → pj_M → Prop} {M : pj_M} {x1 x2 : Int}  (h : pj_G L d 141 5 [pj_vR 38, pj_vI x1, pj_vI x2, pj_vI 0, pj_vI 1] [] M Q) : pj_G L d 141 0 [pj_vR 38, pj_vI x1, pj_vI x2, pj_vU, pj_vU] [] M Q := by
  refine pj_G_s pj_np141 4 (show pj_gs 4 L 141 0 [pj_vR 38, pj_vI x1, pj_vI x2, pj_vU, pj_vU] [] M = some ([], 5, [pj_vR 38, pj_vI x1, pj_vI x2, pj_vI 0, pj_vI 1], [], M) from rfl) trivial ?_
  exact h
theorem pj_C141_5 {L d : Nat} {Q : Option pj_V → pj_M → Prop} {M : pj_M} {x1 x2 x3 x4 : Int} (r0 : -2147483648 ≤ x4 ∧ x4 < 2147483648) (r1 : -2147483648 ≤ M 38 34 ∧ M 38 34 < 2147483648) (h1 : M 38 34 ≤ x4 → pj_G L d 141 61 [pj_vR 38, pj_vU, pj_vI x2, pj_vI x3, pj_vU] [] M Q) (h2 : x4 < M 38 34 → pj_G L d 141 14 [pj_vR 38, pj_vI x1, pj_vI x2, pj_vI x3, pj_vI x4] [] M Q) : pj_G L d 141 5 [pj_vR 38, pj_vI x1, pj_vI x2, pj_vI x3, pj_vI x4] [] M Q := by
  refine pj_G_s pj_np141 3 (show pj_gs 3 L 141 5 [pj_vR 38, pj_vI x1, pj_vI x2, pj_vI x3, pj_vI x4] [] M = some ([], 11, [pj_vR 38, pj_vI x1, pj_vI x2, pj_vI x3, pj_vI x4], [pj_vI (M 38 34), pj_vI x4], M) from rfl) trivial ?_
  exact pj_G_if (t := 61) rfl rfl (fun z => pj_G_loc (pj_lle_e (pj_lle_u rfl (pj_lle_e (pj_lle_e (pj_lle_u rfl pj_lle_nil))))) (h1 (pj_ct_ge (pj_nrm_id r0.1 r0.2) (pj_nrm_id r1.1 r1.2) z))) (fun z => h2 (pj_cf_ge (pj_nrm_id r0.1 r0.2) (pj_nrm_id r1.1 r1.2) z))
theorem pj_C141_14 {L d : Nat} {Q : Option pj_V → pj_M → Prop} {M : pj_M} {x1 x2 x3 x4 : Int} (r0 : -2147483648 ≤ x3 ∧ x3 < 2147483648) (h1 : x3 ≠ 0 → pj_G L d 141 49 [pj_vR 38, pj_vI x1, pj_vI x2, pj_vU, pj_vI x4] [] M Q) (h2 : x3 = 0 → pj_G L d 141 18 [pj_vR 38, pj_vI x1, pj_vI x2, pj_vU, pj_vI x4] [] M Q) : pj_G L d 141 14 [pj_vR 38, pj_vI x1, pj_vI x2, pj_vI x3, pj_vI x4] [] M Q := by
  refine pj_G_s pj_np141 1 (show pj_gs 1 L 141 14 [pj_vR 38, pj_vI x1, pj_vI x2, pj_vI x3, pj_vI x4] [] M = some ([], 15, [pj_vR 38, pj_vI x1, pj_vI x2, pj_vI x3, pj_vI x4], [pj_vI x3], M) from rfl) trivial ?_
  exact pj_G_if0 (t := 49) rfl rfl (fun z => pj_G_loc (pj_lle_e (pj_lle_e (pj_lle_e (pj_lle_u rfl (pj_lle_e pj_lle_nil))))) (h1 (pj_ct_ne (pj_nrm_id r0.1 r0.2) rfl z))) (fun z => pj_G_loc (pj_lle_e (pj_lle_e (pj_lle_e (pj_lle_u rfl (pj_lle_e pj_lle_nil))))) (h2 (pj_cf_ne (pj_nrm_id r0.1 r0.2) rfl z)))
theorem pj_C141_18 {L d : Nat} {Q : Option pj_V → pj_M → Prop} {M : pj_M} {x1 x2 x4 : Int} (j0 j1 : Nat) (ej0 : ((42 * x4) + (14 * x1)) + x2 = (j0 : Int)) (bj0 : j0 < 2688) (ej1 : (14 * x1) + x2 = (j1 : Int)) (bj1 : j1 < 2688) (r0 : -2147483648 ≤ M 65 j0 ∧ M 65 j0 < 2147483648) (r1 : -2147483648 ≤ M 65 j1 ∧ M 65 j1 < 2147483648) (h1 : M 65 j0 = M 65 j1 → pj_G L d 141 53 [pj_vR 38, pj_vI x1, pj_vI x2, pj_vU, pj_vI x4] [] M Q) (h2 : M 65 j0 ≠ M 65 j1 → pj_G L d 141 49 [pj_vR 38, pj_vI x1, pj_vI x2, pj_vU, pj_vI x4] [] M Q) : pj_G L d 141 18 [pj_vR 38, pj_vI x1, pj_vI x2, pj_vU, pj_vI x4] [] M Q := by
  have nj0 : pj_nrm (((42 * x4) + (14 * x1)) + x2) = (j0 : Int) := pj_nk ej0 (by omega)
  have nj1 : pj_nrm ((14 * x1) + x2) = (j1 : Int) := pj_nk ej1 (by omega)
  refine pj_G_s pj_np141 20 (show pj_gs 20 L 141 18 [pj_vR 38, pj_vI x1, pj_vI x2, pj_vU, pj_vI x4] [] M = some ([0 ≤ pj_nrm (((42 * x4) + (14 * x1)) + x2) ∧ pj_nrm (((42 * x4) + (14 * x1)) + x2) < (2688 : Int), 0 ≤ pj_nrm ((14 * x1) + x2) ∧ pj_nrm ((14 * x1) + x2) < (2688 : Int)], 46, [pj_vR 38, pj_vI x1, pj_vI x2, pj_vU, pj_vI x4], [pj_vI (M 65 (pj_nrm ((14 * x1) + x2)).toNat), pj_vI (M 65 (pj_nrm (((42 * x4) + (14 * x1)) + x2)).toNat)], M) from rfl) ⟨by omega, by omega, trivial⟩ ?_
  simp only [nj0, nj1, Int.toNat_natCast]
  exact pj_G_if (t := 53) rfl rfl (fun z => h1 (pj_ct_eq (pj_nrm_id r0.1 r0.2) (pj_nrm_id r1.1 r1.2) z)) (fun z => h2 (pj_cf_eq (pj_nrm_id r0.1 r0.2) (pj_nrm_id r1.1 r1.2) z))
theorem pj_C141_49 {L d : Nat} {Q : Option pj_V → pj_M → Prop} {M : pj_M} {x1 x2 x4 : Int}  (h : pj_G L d 141 54 [pj_vR 38, pj_vI x1, pj_vI x2, pj_vU, pj_vI x4] [pj_vI 1] M Q) : pj_G L d 141 49 [pj_vR 38, pj_vI x1, pj_vI x2, pj_vU, pj_vI x4] [] M Q := by
  refine pj_G_s pj_np141 2 (show pj_gs 2 L 141 49 [pj_vR 38, pj_vI x1, pj_vI x2, pj_vU, pj_vI x4] [] M = some ([], 54, [pj_vR 38, pj_vI x1, pj_vI x2, pj_vU, pj_vI x4], [pj_vI 1], M) from rfl) trivial ?_
  exact h
theorem pj_C141_54 {L d : Nat} {Q : Option pj_V → pj_M → Prop} {M : pj_M} {x1 x2 x4 s0 : Int}  (h : pj_G L d 141 5 [pj_vR 38, pj_vI x1, pj_vI x2, pj_vI s0, pj_vI (x4 + 1)] [] M Q) : pj_G L d 141 54 [pj_vR 38, pj_vI x1, pj_vI x2, pj_vU, pj_vI x4] [pj_vI s0] M Q := by
  refine pj_G_s pj_np141 3 (show pj_gs 3 L 141 54 [pj_vR 38, pj_vI x1, pj_vI x2, pj_vU, pj_vI x4] [pj_vI s0] M = some ([], 5, [pj_vR 38, pj_vI x1, pj_vI x2, pj_vI s0, pj_vI (x4 + 1)], [], M) from rfl) trivial ?_
  exact h
theorem pj_C141_53 {L d : Nat} {Q : Option pj_V → pj_M → Prop} {M : pj_M} {x1 x2 x4 : Int}  (h : pj_G L d 141 54 [pj_vR 38, pj_vI x1, pj_vI x2, pj_vU, pj_vI x4] [pj_vI 0] M Q) : pj_G L d 141 53 [pj_vR 38, pj_vI x1, pj_vI x2, pj_vU, pj_vI x4] [] M Q := by
  refine pj_G_s pj_np141 1 (show pj_gs 1 L 141 53 [pj_vR 38, pj_vI x1, pj_vI x2, pj_vU, pj_vI x4] [] M = some ([], 54, [pj_vR 38, pj_vI x1, pj_vI x2, pj_vU, pj_vI x4], [pj_vI 0], M) from rfl) trivial ?_
  exact h
theorem pj_C141_61 {L d : Nat} {Q : Option pj_V → pj_M → Prop} {M : pj_M} {x2 x3 : Int} (r0 : -2147483648 ≤ x3 ∧ x3 < 2147483648) (h1 : x3 = 0 → pj_G L d 141 77 [pj_vU, pj_vU, pj_vU, pj_vU, pj_vU] [] M Q) (h2 : x3 ≠ 0 → pj_G L d 141 65 [pj_vR 38, pj_vU, pj_vI x2, pj_vU, pj_vU] [] M Q) : pj_G L d 141 61 [pj_vR 38, pj_vU, pj_vI x2, pj_vI x3, pj_vU] [] M Q := by
  refine pj_G_s pj_np141 1 (show pj_gs 1 L 141 61 [pj_vR 38, pj_vU, pj_vI x2, pj_vI x3, pj_vU] [] M = some ([], 62, [pj_vR 38, pj_vU, pj_vI x2, pj_vI x3, pj_vU], [pj_vI x3], M) from rfl) trivial ?_
  exact pj_G_if0 (t := 77) rfl rfl (fun z => pj_G_loc (pj_lle_u rfl (pj_lle_e (pj_lle_u rfl (pj_lle_u rfl (pj_lle_e pj_lle_nil))))) (h1 (pj_ct_eq (pj_nrm_id r0.1 r0.2) rfl z))) (fun z => pj_G_loc (pj_lle_e (pj_lle_e (pj_lle_e (pj_lle_u rfl (pj_lle_e pj_lle_nil))))) (h2 (pj_cf_eq (pj_nrm_id r0.1 r0.2) rfl z)))
theorem pj_C141_65 {L d : Nat} {Q : Option pj_V → pj_M → Prop} {M : pj_M} {x2 : Int}  (h : pj_G L d 142 0 [pj_vR 38, pj_vI x2] [] M (fun r M1 => pj_G L (d + 1) 141 70 [pj_vU, pj_vU, pj_vU, pj_vU, pj_vU] (r.toList ++ []) M1 Q)) : pj_G L (d + 1) 141 65 [pj_vR 38, pj_vU, pj_vI x2, pj_vU, pj_vU] [] M Q := by
  refine pj_G_s (d := d + 1) pj_np141 2 (show pj_gs 2 L 141 65 [pj_vR 38, pj_vU, pj_vI x2, pj_vU, pj_vU] [] M = some ([], 67, [pj_vR 38, pj_vU, pj_vI x2, pj_vU, pj_vU], [pj_vI x2, pj_vR 38], M) from rfl) trivial ?_
  exact pj_G_k (j := 142) (vs := [pj_vR 38, pj_vI x2]) (st := []) rfl rfl rfl rfl rfl (Nat.le_of_ble_eq_true rfl) pj_nc142 (pj_G.mono h (fun _ _ hh => pj_G_loc (pj_lle_u rfl (pj_lle_e (pj_lle_u rfl (pj_lle_e (pj_lle_e pj_lle_nil))))) hh))
theorem pj_C141_70 {L d : Nat} {Q : Option pj_V → pj_M → Prop} {M : pj_M} {s0 : Int} (r0 : -2147483648 ≤ s0 ∧ s0 < 2147483648) (h1 : s0 ≠ 0 → pj_G L d 141 77 [pj_vU, pj_vU, pj_vU, pj_vU, pj_vU] [] M Q) (h2 : s0 = 0 → pj_G L d 141 73 [pj_vU, pj_vU, pj_vU, pj_vU, pj_vU] [] M Q) : pj_G L d 141 70 [pj_vU, pj_vU, pj_vU, pj_vU, pj_vU] [pj_vI s0] M Q := by
  exact pj_G_if0 (t := 77) rfl rfl (fun z => h1 (pj_ct_ne (pj_nrm_id r0.1 r0.2) rfl z)) (fun z => h2 (pj_cf_ne (pj_nrm_id r0.1 r0.2) rfl z))
theorem pj_C141_73 {L d : Nat} {Q : Option pj_V → pj_M → Prop} {M : pj_M}  (h : pj_G L d 141 78 [pj_vU, pj_vU, pj_vU, pj_vU, pj_vU] [pj_vI 1] M Q) : pj_G L d 141 73 [pj_vU, pj_vU, pj_vU, pj_vU, pj_vU] [] M Q := by
  refine pj_G_s pj_np141 2 (show pj_gs 2 L 141 73 [pj_vU, pj_vU, pj_vU, pj_vU, pj_vU] [] M = some ([], 78, [pj_vU, pj_vU, pj_vU, pj_vU, pj_vU], [pj_vI 1], M) from rfl) trivial ?_
  exact h
theorem pj_C141_78 {L d : Nat} {Q : Option pj_V → pj_M → Prop} {M : pj_M} {s0 : Int}  (cb : s0 = 0 ∨ s0 = 1) (h : Q (some (pj_vI s0)) M) : pj_G L d 141 78 [pj_vU, pj_vU, pj_vU, pj_vU, pj_vU] [pj_vI s0] M Q := by
  exact pj_G_r rfl rfl (if_pos (Or.inr cb)) h
theorem pj_C141_77 {L d : Nat} {Q : Option pj_V → pj_M → Prop} {M : pj_M}  (h : pj_G L d 141 78 [pj_vU, pj_vU, pj_vU, pj_vU, pj_vU] [pj_vI 0] M Q) : pj_G L d 141 77 [pj_vU, pj_vU, pj_vU, pj_vU, pj_vU] [] M Q := by
  refine pj_G_s pj_np141 1 (show pj_gs 1 L 141 77 [pj_vU, pj_vU, pj_vU, pj_vU, pj_vU] [] M = some ([], 78, [pj_vU, pj_vU, pj_vU, pj_vU, pj_vU], [pj_vI 0], M) from rfl) trivial ?_
  exact h
theorem pj_C142_0 {L d : Nat} {Q : Option pj_V → pj_M → Prop} {M : pj_M} {x1 : Int} (j0 : Nat) (ej0 : x1 = (j0 : Int)) (bj0 : j0 < 14) (r0 : -2147483648 ≤ M 40 j0 ∧ M 40 j0 < 2147483648) (h1 : M 40 j0 < 0 → pj_G L d 142 28 [pj_vU, pj_vU] [] M Q) (h2 : 0 ≤ M 40 j0 → pj_G L d 142 9 [pj_vR 38, pj_vI x1] [] M Q) : pj_G L d 142 0 [pj_vR 38, pj_vI x1] [] M Q := by
  have nj0 : pj_nrm x1 = (j0 : Int) := pj_nk ej0 (by omega)
  refine pj_G_s pj_np142 4 (show pj_gs 4 L 142 0 [pj_vR 38, pj_vI x1] [] M = some ([0 ≤ pj_nrm x1 ∧ pj_nrm x1 < (14 : Int)], 6, [pj_vR 38, pj_vI x1], [pj_vI (M 40 (pj_nrm x1).toNat)], M) from rfl) ⟨by omega, trivial⟩ ?_
  simp only [nj0, Int.toNat_natCast]
  exact pj_G_if0 (t := 28) rfl rfl (fun z => pj_G_loc (pj_lle_u rfl (pj_lle_u rfl pj_lle_nil)) (h1 (pj_ct_lt (pj_nrm_id r0.1 r0.2) rfl z))) (fun z => h2 (pj_cf_lt (pj_nrm_id r0.1 r0.2) rfl z))
theorem pj_C142_9 {L d : Nat} {Q : Option pj_V → pj_M → Prop} {M : pj_M} {x1 : Int} (j0 j1 : Nat) (ej0 : x1 = (j0 : Int)) (bj0 : j0 < 14) (ej1 : M 40 j0 = (j1 : Int)) (bj1 : j1 < 7) (r0 : -2147483648 ≤ M 43 j1 ∧ M 43 j1 < 2147483648) (h1 : M 43 j1 ≠ (4 : Int) → pj_G L d 142 28 [pj_vU, pj_vU] [] M Q) (h2 : M 43 j1 = (4 : Int) → pj_G L d 142 24 [pj_vU, pj_vU] [] M Q) : pj_G L d 142 9 [pj_vR 38, pj_vI x1] [] M Q := by
  have nj0 : pj_nrm x1 = (j0 : Int) := pj_nk ej0 (by omega)
  have nj1 : pj_nrm (M 40 j0) = (j1 : Int) := pj_nk ej1 (by omega)
  refine pj_G_s pj_np142 8 (show pj_gs 8 L 142 9 [pj_vR 38, pj_vI x1] [] M = some ([0 ≤ pj_nrm x1 ∧ pj_nrm x1 < (14 : Int), 0 ≤ pj_nrm (M 40 (pj_nrm x1).toNat) ∧ pj_nrm (M 40 (pj_nrm x1).toNat) < (7 : Int)], 21, [pj_vR 38, pj_vI x1], [pj_vI 4, pj_vI (M 43 (pj_nrm (M 40 (pj_nrm x1).toNat)).toNat)], M) from rfl) ⟨by omega, by simp only [nj0, nj1, Int.toNat_natCast]; omega, trivial⟩ ?_
  simp only [nj0, nj1, Int.toNat_natCast]
  exact pj_G_if (t := 28) rfl rfl (fun z => pj_G_loc (pj_lle_u rfl (pj_lle_u rfl pj_lle_nil)) (h1 (pj_ct_ne (pj_nrm_id r0.1 r0.2) (pj_nrm_id (by omega) (by omega)) z))) (fun z => pj_G_loc (pj_lle_u rfl (pj_lle_u rfl pj_lle_nil)) (h2 (pj_cf_ne (pj_nrm_id r0.1 r0.2) (pj_nrm_id (by omega) (by omega)) z)))
theorem pj_C142_24 {L d : Nat} {Q : Option pj_V → pj_M → Prop} {M : pj_M}  (h : pj_G L d 142 29 [pj_vU, pj_vU] [pj_vI 1] M Q) : pj_G L d 142 24 [pj_vU, pj_vU] [] M Q := by
  refine pj_G_s pj_np142 2 (show pj_gs 2 L 142 24 [pj_vU, pj_vU] [] M = some ([], 29, [pj_vU, pj_vU], [pj_vI 1], M) from rfl) trivial ?_
  exact h
theorem pj_C142_29 {L d : Nat} {Q : Option pj_V → pj_M → Prop} {M : pj_M} {s0 : Int}  (cb : s0 = 0 ∨ s0 = 1) (h : Q (some (pj_vI s0)) M) : pj_G L d 142 29 [pj_vU, pj_vU] [pj_vI s0] M Q := by
  exact pj_G_r rfl rfl (if_pos (Or.inr cb)) h
theorem pj_C142_28 {L d : Nat} {Q : Option pj_V → pj_M → Prop} {M : pj_M}  (h : pj_G L d 142 29 [pj_vU, pj_vU] [pj_vI 0] M Q) : pj_G L d 142 28 [pj_vU, pj_vU] [] M Q := by
  refine pj_G_s pj_np142 1 (show pj_gs 1 L 142 28 [pj_vU, pj_vU] [] M = some ([], 29, [pj_vU, pj_vU], [pj_vI 0], M) from rfl) trivial ?_
  exact h
theorem pj_C143_0 {L d : Nat} {Q : Option pj_V → pj_M → Prop} {M : pj_M}  (h : pj_G L d 121 0 [pj_vR 38, pj_vU, pj_vU, pj_vU, pj_vU] [] M (fun r M1 => pj_G L (d + 1) 143 4 [pj_vR 38, pj_vU, pj_vU, pj_vU, pj_vU, pj_vU] (r.toList ++ []) M1 Q)) : pj_G L (d + 1) 143 0 [pj_vR 38, pj_vU, pj_vU, pj_vU, pj_vU, pj_vU] [] M Q := by
  refine pj_G_s (d := d + 1) pj_np143 1 (show pj_gs 1 L 143 0 [pj_vR 38, pj_vU, pj_vU, pj_vU, pj_vU, pj_vU] [] M = some ([], 1, [pj_vR 38, pj_vU, pj_vU, pj_vU, pj_vU, pj_vU], [pj_vR 38], M) from rfl) trivial ?_
  exact pj_G_k (j := 121) (vs := [pj_vR 38]) (st := []) rfl rfl rfl rfl rfl (Nat.le_of_ble_eq_true rfl) pj_nc121 h
theorem pj_C143_4 {L d : Nat} {Q : Option pj_V → pj_M → Prop} {M : pj_M}  (h : pj_G L d 143 10 [pj_vR 38, pj_vI ((-1)), pj_vI 0, pj_vI 0, pj_vU, pj_vU] [] M Q) : pj_G L d 143 4 [pj_vR 38, pj_vU, pj_vU, pj_vU, pj_vU, pj_vU] [] M Q := by
  refine pj_G_s pj_np143 6 (show pj_gs 6 L 143 4 [pj_vR 38, pj_vU, pj_vU, pj_vU, pj_vU, pj_vU] [] M = some ([], 10, [pj_vR 38, pj_vI ((-1)), pj_vI 0, pj_vI 0, pj_vU, pj_vU], [], M) from rfl) trivial ?_
  exact h
theorem pj_C143_10 {L d : Nat} {Q : Option pj_V → pj_M → Prop} {M : pj_M} {x1 x2 x3 : Int} (r0 : -2147483648 ≤ x3 ∧ x3 < 2147483648) (r1 : -2147483648 ≤ M 38 20 ∧ M 38 20 < 2147483648) (h1 : M 38 20 ≤ x3 → pj_G L d 143 96 [pj_vU, pj_vI x1, pj_vU, pj_vU, pj_vU, pj_vU] [] M Q) (h2 : x3 < M 38 20 → pj_G L d 143 18 [pj_vR 38, pj_vI x1, pj_vI x2, pj_vI x3, pj_vU, pj_vU] [] M Q) : pj_G L d 143 10 [pj_vR 38, pj_vI x1, pj_vI x2, pj_vI x3, pj_vU, pj_vU] [] M Q := by
  refine pj_G_s pj_np143 3 (show pj_gs 3 L 143 10 [pj_vR 38, pj_vI x1, pj_vI x2, pj_vI x3, pj_vU, pj_vU] [] M = some ([], 15, [pj_vR 38, pj_vI x1, pj_vI x2, pj_vI x3, pj_vU, pj_vU], [pj_vI (M 38 20), pj_vI x3], M) from rfl) trivial ?_
  exact pj_G_if (t := 96) rfl rfl (fun z => pj_G_loc (pj_lle_u rfl (pj_lle_e (pj_lle_u rfl (pj_lle_u rfl (pj_lle_e (pj_lle_e pj_lle_nil)))))) (h1 (pj_ct_ge (pj_nrm_id r0.1 r0.2) (pj_nrm_id r1.1 r1.2) z))) (fun z => h2 (pj_cf_ge (pj_nrm_id r0.1 r0.2) (pj_nrm_id r1.1 r1.2) z))
theorem pj_C143_18 {L d : Nat} {Q : Option pj_V → pj_M → Prop} {M : pj_M} {x1 x2 x3 : Int}  (h : pj_G L d 143 21 [pj_vR 38, pj_vI x1, pj_vI x2, pj_vI x3, pj_vI 0, pj_vU] [] M Q) : pj_G L d 143 18 [pj_vR 38, pj_vI x1, pj_vI x2, pj_vI x3, pj_vU, pj_vU] [] M Q := by
  refine pj_G_s pj_np143 2 (show pj_gs 2 L 143 18 [pj_vR 38, pj_vI x1, pj_vI x2, pj_vI x3, pj_vU, pj_vU] [] M = some ([], 21, [pj_vR 38, pj_vI x1, pj_vI x2, pj_vI x3, pj_vI 0, pj_vU], [], M) from rfl) trivial ?_
  exact h
theorem pj_C143_21 {L d : Nat} {Q : Option pj_V → pj_M → Prop} {M : pj_M} {x1 x2 x3 x4 : Int} (r0 : -2147483648 ≤ x4 ∧ x4 < 2147483648) (r1 : -2147483648 ≤ M 38 17 ∧ M 38 17 < 2147483648) (h1 : M 38 17 ≤ x4 → pj_G L d 143 90 [pj_vR 38, pj_vI x1, pj_vI x2, pj_vI x3, pj_vU, pj_vU] [] M Q) (h2 : x4 < M 38 17 → pj_G L d 143 30 [pj_vR 38, pj_vI x1, pj_vI x2, pj_vI x3, pj_vI x4, pj_vU] [] M Q) : pj_G L d 143 21 [pj_vR 38, pj_vI x1, pj_vI x2, pj_vI x3, pj_vI x4, pj_vU] [] M Q := by
  refine pj_G_s pj_np143 3 (show pj_gs 3 L 143 21 [pj_vR 38, pj_vI x1, pj_vI x2, pj_vI x3, pj_vI x4, pj_vU] [] M = some ([], 27, [pj_vR 38, pj_vI x1, pj_vI x2, pj_vI x3, pj_vI x4, pj_vU], [pj_vI (M 38 17), pj_vI x4], M) from rfl) trivial ?_
  exact pj_G_if (t := 90) rfl rfl (fun z => pj_G_loc (pj_lle_e (pj_lle_e (pj_lle_e (pj_lle_e (pj_lle_u rfl (pj_lle_e pj_lle_nil)))))) (h1 (pj_ct_ge (pj_nrm_id r0.1 r0.2) (pj_nrm_id r1.1 r1.2) z))) (fun z => h2 (pj_cf_ge (pj_nrm_id r0.1 r0.2) (pj_nrm_id r1.1 r1.2) z))
theorem pj_C143_30 {L d : Nat} {Q : Option pj_V → pj_M → Prop} {M : pj_M} {x1 x2 x3 x4 : Int}  (h : pj_G L d 141 0 [pj_vR 38, pj_vI x3, pj_vI x4, pj_vU, pj_vU] [] M (fun r M1 => pj_G L (d + 1) 143 37 [pj_vR 38, pj_vI x1, pj_vI x2, pj_vI x3, pj_vI x4, pj_vU] (r.toList ++ []) M1 Q)) : pj_G L (d + 1) 143 30 [pj_vR 38, pj_vI x1, pj_vI x2, pj_vI x3, pj_vI x4, pj_vU] [] M Q := by
  refine pj_G_s (d := d + 1) pj_np143 3 (show pj_gs 3 L 143 30 [pj_vR 38, pj_vI x1, pj_vI x2, pj_vI x3, pj_vI x4, pj_vU] [] M = some ([], 34, [pj_vR 38, pj_vI x1, pj_vI x2, pj_vI x3, pj_vI x4, pj_vU], [pj_vI x4, pj_vI x3, pj_vR 38], M) from rfl) trivial ?_
  exact pj_G_k (j := 141) (vs := [pj_vR 38, pj_vI x3, pj_vI x4]) (st := []) rfl rfl rfl rfl rfl (Nat.le_of_ble_eq_true rfl) pj_nc141 h
theorem pj_C143_37 {L d : Nat} {Q : Option pj_V → pj_M → Prop} {M : pj_M} {x1 x2 x3 x4 s0 : Int} (r0 : -2147483648 ≤ s0 ∧ s0 < 2147483648) (h1 : s0 ≠ 0 → pj_G L d 143 43 [pj_vR 38, pj_vI x1, pj_vI x2, pj_vI x3, pj_vI x4, pj_vU] [] M Q) (h2 : s0 = 0 → pj_G L d 143 40 [pj_vR 38, pj_vI x1, pj_vI x2, pj_vI x3, pj_vI x4, pj_vU] [] M Q) : pj_G L d 143 37 [pj_vR 38, pj_vI x1, pj_vI x2, pj_vI x3, pj_vI x4, pj_vU] [pj_vI s0] M Q := by
  exact pj_G_if0 (t := 43) rfl rfl (fun z => h1 (pj_ct_ne (pj_nrm_id r0.1 r0.2) rfl z)) (fun z => h2 (pj_cf_ne (pj_nrm_id r0.1 r0.2) rfl z))
theorem pj_C143_40 {L d : Nat} {Q : Option pj_V → pj_M → Prop} {M : pj_M} {x1 x2 x3 x4 : Int}  (h : pj_G L d 143 84 [pj_vR 38, pj_vI x1, pj_vI x2, pj_vI x3, pj_vI x4, pj_vU] [] M Q) : pj_G L d 143 40 [pj_vR 38, pj_vI x1, pj_vI x2, pj_vI x3, pj_vI x4, pj_vU] [] M Q := by
  refine pj_G_s pj_np143 1 (show pj_gs 1 L 143 40 [pj_vR 38, pj_vI x1, pj_vI x2, pj_vI x3, pj_vI x4, pj_vU] [] M = some ([], 84, [pj_vR 38, pj_vI x1, pj_vI x2, pj_vI x3, pj_vI x4, pj_vU], [], M) from rfl) trivial ?_
  exact h
theorem pj_C143_84 {L d : Nat} {Q : Option pj_V → pj_M → Prop} {M : pj_M} {x1 x2 x3 x4 : Int}  (h : pj_G L d 143 21 [pj_vR 38, pj_vI x1, pj_vI x2, pj_vI x3, pj_vI (x4 + 1), pj_vU] [] M Q) : pj_G L d 143 84 [pj_vR 38, pj_vI x1, pj_vI x2, pj_vI x3, pj_vI x4, pj_vU] [] M Q := by
  refine pj_G_s pj_np143 2 (show pj_gs 2 L 143 84 [pj_vR 38, pj_vI x1, pj_vI x2, pj_vI x3, pj_vI x4, pj_vU] [] M = some ([], 21, [pj_vR 38, pj_vI x1, pj_vI x2, pj_vI x3, pj_vI (x4 + 1), pj_vU], [], M) from rfl) trivial ?_
  exact h
theorem pj_C143_43 {L d : Nat} {Q : Option pj_V → pj_M → Prop} {M : pj_M} {x1 x2 x3 x4 : Int}  (h : pj_G L d 139 0 [pj_vR 38, pj_vI x3, pj_vI x4, pj_vU, pj_vU, pj_vU, pj_vU] [] M (fun r M1 => pj_G L (d + 1) 143 50 [pj_vR 38, pj_vI x1, pj_vI x2, pj_vI x3, pj_vI x4, pj_vU] (r.toList ++ []) M1 Q)) : pj_G L (d + 1) 143 43 [pj_vR 38, pj_vI x1, pj_vI x2, pj_vI x3, pj_vI x4, pj_vU] [] M Q := by
  refine pj_G_s (d := d + 1) pj_np143 3 (show pj_gs 3 L 143 43 [pj_vR 38, pj_vI x1, pj_vI x2, pj_vI x3, pj_vI x4, pj_vU] [] M = some ([], 47, [pj_vR 38, pj_vI x1, pj_vI x2, pj_vI x3, pj_vI x4, pj_vU], [pj_vI x4, pj_vI x3, pj_vR 38], M) from rfl) trivial ?_
  exact pj_G_k (j := 139) (vs := [pj_vR 38, pj_vI x3, pj_vI x4]) (st := []) rfl rfl rfl rfl rfl (Nat.le_of_ble_eq_true rfl) pj_nc139 h
theorem pj_C143_50 {L d : Nat} {Q : Option pj_V → pj_M → Prop} {M : pj_M} {x1 x2 x3 x4 s0 : Int} (j0 : Nat) (ej0 : x4 = (j0 : Int)) (bj0 : j0 < 14) (r0 : -2147483648 ≤ x1 ∧ x1 < 2147483648) (h1 : x1 < 0 → pj_G L d 143 73 [pj_vR 38, pj_vU, pj_vU, pj_vI x3, pj_vI x4, pj_vI (s0 * (M 41 j0))] [] M Q) (h2 : 0 ≤ x1 → pj_G L d 143 64 [pj_vR 38, pj_vI x1, pj_vI x2, pj_vI x3, pj_vI x4, pj_vI (s0 * (M 41 j0))] [] M Q) : pj_G L d 143 50 [pj_vR 38, pj_vI x1, pj_vI x2, pj_vI x3, pj_vI x4, pj_vU] [pj_vI s0] M Q := by
  have nj0 : pj_nrm x4 = (j0 : Int) := pj_nk ej0 (by omega)
  refine pj_G_s pj_np143 7 (show pj_gs 7 L 143 50 [pj_vR 38, pj_vI x1, pj_vI x2, pj_vI x3, pj_vI x4, pj_vU] [pj_vI s0] M = some ([0 ≤ pj_nrm x4 ∧ pj_nrm x4 < (14 : Int)], 61, [pj_vR 38, pj_vI x1, pj_vI x2, pj_vI x3, pj_vI x4, pj_vI (s0 * (M 41 (pj_nrm x4).toNat))], [pj_vI x1], M) from rfl) ⟨by omega, trivial⟩ ?_
  simp only [nj0, Int.toNat_natCast]
  exact pj_G_if0 (t := 73) rfl rfl (fun z => pj_G_loc (pj_lle_e (pj_lle_u rfl (pj_lle_u rfl (pj_lle_e (pj_lle_e (pj_lle_e pj_lle_nil)))))) (h1 (pj_ct_lt (pj_nrm_id r0.1 r0.2) rfl z))) (fun z => h2 (pj_cf_lt (pj_nrm_id r0.1 r0.2) rfl z))
theorem pj_C143_64 {L d : Nat} {Q : Option pj_V → pj_M → Prop} {M : pj_M} {x1 x2 x3 x4 x5 : Int} (r0 : -2147483648 ≤ x5 ∧ x5 < 2147483648) (r1 : -2147483648 ≤ x2 ∧ x2 < 2147483648) (h1 : x5 < x2 → pj_G L d 143 73 [pj_vR 38, pj_vU, pj_vU, pj_vI x3, pj_vI x4, pj_vI x5] [] M Q) (h2 : x2 ≤ x5 → pj_G L d 143 70 [pj_vR 38, pj_vI x1, pj_vI x2, pj_vI x3, pj_vI x4, pj_vU] [] M Q) : pj_G L d 143 64 [pj_vR 38, pj_vI x1, pj_vI x2, pj_vI x3, pj_vI x4, pj_vI x5] [] M Q := by
  refine pj_G_s pj_np143 2 (show pj_gs 2 L 143 64 [pj_vR 38, pj_vI x1, pj_vI x2, pj_vI x3, pj_vI x4, pj_vI x5] [] M = some ([], 67, [pj_vR 38, pj_vI x1, pj_vI x2, pj_vI x3, pj_vI x4, pj_vI x5], [pj_vI x2, pj_vI x5], M) from rfl) trivial ?_
  exact pj_G_if (t := 73) rfl rfl (fun z => pj_G_loc (pj_lle_e (pj_lle_u rfl (pj_lle_u rfl (pj_lle_e (pj_lle_e (pj_lle_e pj_lle_nil)))))) (h1 (pj_ct_lt (pj_nrm_id r0.1 r0.2) (pj_nrm_id r1.1 r1.2) z))) (fun z => pj_G_loc (pj_lle_e (pj_lle_e (pj_lle_e (pj_lle_e (pj_lle_e (pj_lle_u rfl pj_lle_nil)))))) (h2 (pj_cf_lt (pj_nrm_id r0.1 r0.2) (pj_nrm_id r1.1 r1.2) z)))
theorem pj_C143_70 {L d : Nat} {Q : Option pj_V → pj_M → Prop} {M : pj_M} {x1 x2 x3 x4 : Int}  (h : pj_G L d 143 84 [pj_vR 38, pj_vI x1, pj_vI x2, pj_vI x3, pj_vI x4, pj_vU] [] M Q) : pj_G L d 143 70 [pj_vR 38, pj_vI x1, pj_vI x2, pj_vI x3, pj_vI x4, pj_vU] [] M Q := by
  refine pj_G_s pj_np143 1 (show pj_gs 1 L 143 70 [pj_vR 38, pj_vI x1, pj_vI x2, pj_vI x3, pj_vI x4, pj_vU] [] M = some ([], 84, [pj_vR 38, pj_vI x1, pj_vI x2, pj_vI x3, pj_vI x4, pj_vU], [], M) from rfl) trivial ?_
  exact h
theorem pj_C143_73 {L d : Nat} {Q : Option pj_V → pj_M → Prop} {M : pj_M} {x3 x4 x5 : Int}  (h : pj_G L d 143 84 [pj_vR 38, pj_vI ((100 * x3) + x4), pj_vI x5, pj_vI x3, pj_vI x4, pj_vU] [] M Q) : pj_G L d 143 73 [pj_vR 38, pj_vU, pj_vU, pj_vI x3, pj_vI x4, pj_vI x5] [] M Q := by
  refine pj_G_s pj_np143 8 (show pj_gs 8 L 143 73 [pj_vR 38, pj_vU, pj_vU, pj_vI x3, pj_vI x4, pj_vI x5] [] M = some ([], 84, [pj_vR 38, pj_vI ((100 * x3) + x4), pj_vI x5, pj_vI x3, pj_vI x4, pj_vI x5], [], M) from rfl) trivial ?_
  exact pj_G_loc (pj_lle_e (pj_lle_e (pj_lle_e (pj_lle_e (pj_lle_e (pj_lle_u rfl pj_lle_nil)))))) h
theorem pj_C143_90 {L d : Nat} {Q : Option pj_V → pj_M → Prop} {M : pj_M} {x1 x2 x3 : Int}  (h : pj_G L d 143 10 [pj_vR 38, pj_vI x1, pj_vI x2, pj_vI (x3 + 1), pj_vU, pj_vU] [] M Q) : pj_G L d 143 90 [pj_vR 38, pj_vI x1, pj_vI x2, pj_vI x3, pj_vU, pj_vU] [] M Q := by
  refine pj_G_s pj_np143 2 (show pj_gs 2 L 143 90 [pj_vR 38, pj_vI x1, pj_vI x2, pj_vI x3, pj_vU, pj_vU] [] M = some ([], 10, [pj_vR 38, pj_vI x1, pj_vI x2, pj_vI (x3 + 1), pj_vU, pj_vU], [], M) from rfl) trivial ?_
  exact h
theorem pj_C143_96 {L d : Nat} {Q : Option pj_V → pj_M → Prop} {M : pj_M} {x1 : Int}  (h : Q (some (pj_vI x1)) M) : pj_G L d 143 96 [pj_vU, pj_vI x1, pj_vU, pj_vU, pj_vU, pj_vU] [] M Q := by
  refine pj_G_s pj_np143 1 (show pj_gs 1 L 143 96 [pj_vU, pj_vI x1, pj_vU, pj_vU, pj_vU, pj_vU] [] M = some ([], 97, [pj_vU, pj_vI x1, pj_vU, pj_vU, pj_vU, pj_vU], [pj_vI x1], M) from rfl) trivial ?_
  exact pj_G_r rfl rfl rfl h
theorem pj_C144_0 {L d : Nat} {Q : Option pj_V → pj_M → Prop} {M : pj_M} {x1 x2 : Int}  (h : pj_G L d 121 0 [pj_vR 38, pj_vU, pj_vU, pj_vU, pj_vU] [] M (fun r M1 => pj_G L (d + 1) 144 4 [pj_vR 38, pj_vI x1, pj_vI x2, pj_vU, pj_vU, pj_vU] (r.toList ++ []) M1 Q)) : pj_G L (d + 1) 144 0 [pj_vR 38, pj_vI x1, pj_vI x2, pj_vU, pj_vU, pj_vU] [] M Q := by
  refine pj_G_s (d := d + 1) pj_np144 1 (show pj_gs 1 L 144 0 [pj_vR 38, pj_vI x1, pj_vI x2, pj_vU, pj_vU, pj_vU] [] M = some ([], 1, [pj_vR 38, pj_vI x1, pj_vI x2, pj_vU, pj_vU, pj_vU], [pj_vR 38], M) from rfl) trivial ?_
  exact pj_G_k (j := 121) (vs := [pj_vR 38]) (st := []) rfl rfl rfl rfl rfl (Nat.le_of_ble_eq_true rfl) pj_nc121 h
theorem pj_C144_4 {L d : Nat} {Q : Option pj_V → pj_M → Prop} {M : pj_M} {x1 x2 : Int} (r0 : -2147483648 ≤ x1 ∧ x1 < 2147483648) (r1 : -2147483648 ≤ (M 38 34) - 1 ∧ (M 38 34) - 1 < 2147483648) (h : pj_G L d 85 0 [pj_vL x1, pj_vU, pj_vL 0, pj_vU, pj_vL ((M 38 34) - 1), pj_vU] [] M (fun r M1 => pj_G L (d + 1) 144 17 [pj_vR 38, pj_vI x1, pj_vI x2, pj_vU, pj_vU, pj_vU] (r.toList ++ []) M1 Q)) : pj_G L (d + 1) 144 4 [pj_vR 38, pj_vI x1, pj_vI x2, pj_vU, pj_vU, pj_vU] [] M Q := by
  have q0 : pj_nrm x1 = x1 := (pj_nrm_id r0.1 r0.2)
  have q1 : pj_nrm ((M 38 34) - 1) = (M 38 34) - 1 := (pj_nrm_id r1.1 r1.2)
  refine pj_G_s (d := d + 1) pj_np144 8 (show pj_gs 8 L 144 4 [pj_vR 38, pj_vI x1, pj_vI x2, pj_vU, pj_vU, pj_vU] [] M = some ([], 14, [pj_vR 38, pj_vI x1, pj_vI x2, pj_vU, pj_vU, pj_vU], [pj_vL (pj_nrm ((M 38 34) - 1)), pj_vL 0, pj_vL (pj_nrm x1)], M) from rfl) trivial ?_
  simp only [q0, q1, Int.toNat_natCast]
  exact pj_G_k (j := 85) (vs := [pj_vL x1, pj_vL 0, pj_vL ((M 38 34) - 1)]) (st := []) rfl rfl rfl rfl rfl (Nat.le_of_ble_eq_true rfl) pj_nc85 h
theorem pj_C144_17 {L d : Nat} {Q : Option pj_V → pj_M → Prop} {M : pj_M} {x1 x2 s0 : Int} (r0 : -2147483648 ≤ s0 ∧ s0 < 2147483648) (h1 : s0 = 0 → pj_G L d 144 36 [pj_vR 38, pj_vU, pj_vU, pj_vU, pj_vU, pj_vU] [] M Q) (h2 : s0 ≠ 0 → pj_G L d 144 20 [pj_vR 38, pj_vI x1, pj_vI x2, pj_vU, pj_vU, pj_vU] [] M Q) : pj_G L d 144 17 [pj_vR 38, pj_vI x1, pj_vI x2, pj_vU, pj_vU, pj_vU] [pj_vI s0] M Q := by
  exact pj_G_if0 (t := 36) rfl rfl (fun z => pj_G_loc (pj_lle_e (pj_lle_u rfl (pj_lle_u rfl (pj_lle_e (pj_lle_e (pj_lle_e pj_lle_nil)))))) (h1 (pj_ct_eq (pj_nrm_id r0.1 r0.2) rfl z))) (fun z => h2 (pj_cf_eq (pj_nrm_id r0.1 r0.2) rfl z))
theorem pj_C144_20 {L d : Nat} {Q : Option pj_V → pj_M → Prop} {M : pj_M} {x1 x2 : Int} (r0 : -2147483648 ≤ x2 ∧ x2 < 2147483648) (r1 : -2147483648 ≤ (M 38 34) - 1 ∧ (M 38 34) - 1 < 2147483648) (h : pj_G L d 85 0 [pj_vL x2, pj_vU, pj_vL 0, pj_vU, pj_vL ((M 38 34) - 1), pj_vU] [] M (fun r M1 => pj_G L (d + 1) 144 33 [pj_vR 38, pj_vI x1, pj_vI x2, pj_vU, pj_vU, pj_vU] (r.toList ++ []) M1 Q)) : pj_G L (d + 1) 144 20 [pj_vR 38, pj_vI x1, pj_vI x2, pj_vU, pj_vU, pj_vU] [] M Q := by
  have q0 : pj_nrm x2 = x2 := (pj_nrm_id r0.1 r0.2)
  have q1 : pj_nrm ((M 38 34) - 1) = (M 38 34) - 1 := (pj_nrm_id r1.1 r1.2)
  refine pj_G_s (d := d + 1) pj_np144 8 (show pj_gs 8 L 144 20 [pj_vR 38, pj_vI x1, pj_vI x2, pj_vU, pj_vU, pj_vU] [] M = some ([], 30, [pj_vR 38, pj_vI x1, pj_vI x2, pj_vU, pj_vU, pj_vU], [pj_vL (pj_nrm ((M 38 34) - 1)), pj_vL 0, pj_vL (pj_nrm x2)], M) from rfl) trivial ?_
  simp only [q0, q1, Int.toNat_natCast]
  exact pj_G_k (j := 85) (vs := [pj_vL x2, pj_vL 0, pj_vL ((M 38 34) - 1)]) (st := []) rfl rfl rfl rfl rfl (Nat.le_of_ble_eq_true rfl) pj_nc85 h
theorem pj_C144_33 {L d : Nat} {Q : Option pj_V → pj_M → Prop} {M : pj_M} {x1 x2 s0 : Int} (r0 : -2147483648 ≤ s0 ∧ s0 < 2147483648) (h1 : s0 ≠ 0 → pj_G L d 144 43 [pj_vR 38, pj_vI x1, pj_vI x2, pj_vU, pj_vU, pj_vU] [] M Q) (h2 : s0 = 0 → pj_G L d 144 36 [pj_vR 38, pj_vU, pj_vU, pj_vU, pj_vU, pj_vU] [] M Q) : pj_G L d 144 33 [pj_vR 38, pj_vI x1, pj_vI x2, pj_vU, pj_vU, pj_vU] [pj_vI s0] M Q := by
  exact pj_G_if0 (t := 43) rfl rfl (fun z => h1 (pj_ct_ne (pj_nrm_id r0.1 r0.2) rfl z)) (fun z => pj_G_loc (pj_lle_e (pj_lle_u rfl (pj_lle_u rfl (pj_lle_e (pj_lle_e (pj_lle_e pj_lle_nil)))))) (h2 (pj_cf_ne (pj_nrm_id r0.1 r0.2) rfl z)))
theorem pj_C144_36 {L d : Nat} {Q : Option pj_V → pj_M → Prop} {M : pj_M}  (h : pj_G L d 86 0 [pj_vR 38, pj_vI ((-3))] [] M (fun r M1 => pj_G L (d + 1) 144 42 [pj_vU, pj_vU, pj_vU, pj_vU, pj_vU, pj_vU] (r.toList ++ []) M1 Q)) : pj_G L (d + 1) 144 36 [pj_vR 38, pj_vU, pj_vU, pj_vU, pj_vU, pj_vU] [] M Q := by
  refine pj_G_s (d := d + 1) pj_np144 2 (show pj_gs 2 L 144 36 [pj_vR 38, pj_vU, pj_vU, pj_vU, pj_vU, pj_vU] [] M = some ([], 39, [pj_vR 38, pj_vU, pj_vU, pj_vU, pj_vU, pj_vU], [pj_vI ((-3)), pj_vR 38], M) from rfl) trivial ?_
  exact pj_G_k (j := 86) (vs := [pj_vR 38, pj_vI ((-3))]) (st := []) rfl rfl rfl rfl rfl (Nat.le_of_ble_eq_true rfl) pj_nc86 (pj_G.mono h (fun _ _ hh => pj_G_loc (pj_lle_u rfl (pj_lle_e (pj_lle_e (pj_lle_e (pj_lle_e (pj_lle_e pj_lle_nil)))))) hh))
theorem pj_C144_42 {L d : Nat} {Q : Option pj_V → pj_M → Prop} {M : pj_M} {s0 : Int}  (h : Q (some (pj_vI s0)) M) : pj_G L d 144 42 [pj_vU, pj_vU, pj_vU, pj_vU, pj_vU, pj_vU] [pj_vI s0] M Q := by
  exact pj_G_r rfl rfl rfl h
theorem pj_C144_43 {L d : Nat} {Q : Option pj_V → pj_M → Prop} {M : pj_M} {x1 x2 : Int}  (h : pj_G L d 144 45 [pj_vR 38, pj_vI x1, pj_vI x2, pj_vI 0, pj_vU, pj_vU] [] M Q) : pj_G L d 144 43 [pj_vR 38, pj_vI x1, pj_vI x2, pj_vU, pj_vU, pj_vU] [] M Q := by
  refine pj_G_s pj_np144 2 (show pj_gs 2 L 144 43 [pj_vR 38, pj_vI x1, pj_vI x2, pj_vU, pj_vU, pj_vU] [] M = some ([], 45, [pj_vR 38, pj_vI x1, pj_vI x2, pj_vI 0, pj_vU, pj_vU], [], M) from rfl) trivial ?_
  exact h
theorem pj_C144_45 {L d : Nat} {Q : Option pj_V → pj_M → Prop} {M : pj_M} {x1 x2 x3 : Int} (r0 : -2147483648 ≤ x3 ∧ x3 < 2147483648) (r1 : -2147483648 ≤ M 38 20 ∧ M 38 20 < 2147483648) (h1 : M 38 20 ≤ x3 → pj_G L d 144 136 [pj_vU, pj_vU, pj_vU, pj_vU, pj_vU, pj_vU] [] M Q) (h2 : x3 < M 38 20 → pj_G L d 144 53 [pj_vR 38, pj_vI x1, pj_vI x2, pj_vI x3, pj_vU, pj_vU] [] M Q) : pj_G L d 144 45 [pj_vR 38, pj_vI x1, pj_vI x2, pj_vI x3, pj_vU, pj_vU] [] M Q := by
  refine pj_G_s pj_np144 3 (show pj_gs 3 L 144 45 [pj_vR 38, pj_vI x1, pj_vI x2, pj_vI x3, pj_vU, pj_vU] [] M = some ([], 50, [pj_vR 38, pj_vI x1, pj_vI x2, pj_vI x3, pj_vU, pj_vU], [pj_vI (M 38 20), pj_vI x3], M) from rfl) trivial ?_
  exact pj_G_if (t := 136) rfl rfl (fun z => pj_G_loc (pj_lle_u rfl (pj_lle_u rfl (pj_lle_u rfl (pj_lle_u rfl (pj_lle_e (pj_lle_e pj_lle_nil)))))) (h1 (pj_ct_ge (pj_nrm_id r0.1 r0.2) (pj_nrm_id r1.1 r1.2) z))) (fun z => h2 (pj_cf_ge (pj_nrm_id r0.1 r0.2) (pj_nrm_id r1.1 r1.2) z))
theorem pj_C144_53 {L d : Nat} {Q : Option pj_V → pj_M → Prop} {M : pj_M} {x1 x2 x3 : Int}  (h : pj_G L d 144 56 [pj_vR 38, pj_vI x1, pj_vI x2, pj_vI x3, pj_vI 0, pj_vU] [] M Q) : pj_G L d 144 53 [pj_vR 38, pj_vI x1, pj_vI x2, pj_vI x3, pj_vU, pj_vU] [] M Q := by
  refine pj_G_s pj_np144 2 (show pj_gs 2 L 144 53 [pj_vR 38, pj_vI x1, pj_vI x2, pj_vI x3, pj_vU, pj_vU] [] M = some ([], 56, [pj_vR 38, pj_vI x1, pj_vI x2, pj_vI x3, pj_vI 0, pj_vU], [], M) from rfl) trivial ?_
  exact h
theorem pj_C144_56 {L d : Nat} {Q : Option pj_V → pj_M → Prop} {M : pj_M} {x1 x2 x3 x4 : Int} (r0 : -2147483648 ≤ x4 ∧ x4 < 2147483648) (r1 : -2147483648 ≤ M 38 17 ∧ M 38 17 < 2147483648) (h1 : M 38 17 ≤ x4 → pj_G L d 144 130 [pj_vR 38, pj_vI x1, pj_vI x2, pj_vI x3, pj_vU, pj_vU] [] M Q) (h2 : x4 < M 38 17 → pj_G L d 144 65 [pj_vR 38, pj_vI x1, pj_vI x2, pj_vI x3, pj_vI x4, pj_vU] [] M Q) : pj_G L d 144 56 [pj_vR 38, pj_vI x1, pj_vI x2, pj_vI x3, pj_vI x4, pj_vU] [] M Q := by
  refine pj_G_s pj_np144 3 (show pj_gs 3 L 144 56 [pj_vR 38, pj_vI x1, pj_vI x2, pj_vI x3, pj_vI x4, pj_vU] [] M = some ([], 62, [pj_vR 38, pj_vI x1, pj_vI x2, pj_vI x3, pj_vI x4, pj_vU], [pj_vI (M 38 17), pj_vI x4], M) from rfl) trivial ?_
  exact pj_G_if (t := 130) rfl rfl (fun z => pj_G_loc (pj_lle_e (pj_lle_e (pj_lle_e (pj_lle_e (pj_lle_u rfl (pj_lle_e pj_lle_nil)))))) (h1 (pj_ct_ge (pj_nrm_id r0.1 r0.2) (pj_nrm_id r1.1 r1.2) z))) (fun z => h2 (pj_cf_ge (pj_nrm_id r0.1 r0.2) (pj_nrm_id r1.1 r1.2) z))
theorem pj_C144_65 {L d : Nat} {Q : Option pj_V → pj_M → Prop} {M : pj_M} {x1 x2 x3 x4 : Int} (j0 j1 : Nat) (ej0 : ((42 * x1) + (14 * x3)) + x4 = (j0 : Int)) (bj0 : j0 < 2688) (ej1 : ((42 * x2) + (14 * x3)) + x4 = (j1 : Int)) (bj1 : j1 < 2688) (h1 : pj_and (M 65 j0) (M 65 j1) ≠ 0 → pj_G L d 144 124 [pj_vR 38, pj_vI x1, pj_vI x2, pj_vI x3, pj_vI x4, pj_vU] [] M Q) (h2 : pj_and (M 65 j0) (M 65 j1) = 0 → pj_G L d 144 107 [pj_vR 38, pj_vI x1, pj_vI x2, pj_vI x3, pj_vI x4, pj_vU] [] M Q) : pj_G L d 144 65 [pj_vR 38, pj_vI x1, pj_vI x2, pj_vI x3, pj_vI x4, pj_vU] [] M Q := by
  have nj0 : pj_nrm (((42 * x1) + (14 * x3)) + x4) = (j0 : Int) := pj_nk ej0 (by omega)
  have nj1 : pj_nrm (((42 * x2) + (14 * x3)) + x4) = (j1 : Int) := pj_nk ej1 (by omega)
  refine pj_G_s pj_np144 27 (show pj_gs 27 L 144 65 [pj_vR 38, pj_vI x1, pj_vI x2, pj_vI x3, pj_vI x4, pj_vU] [] M = some ([0 ≤ pj_nrm (((42 * x1) + (14 * x3)) + x4) ∧ pj_nrm (((42 * x1) + (14 * x3)) + x4) < (2688 : Int), 0 ≤ pj_nrm (((42 * x2) + (14 * x3)) + x4) ∧ pj_nrm (((42 * x2) + (14 * x3)) + x4) < (2688 : Int)], 104, [pj_vR 38, pj_vI x1, pj_vI x2, pj_vI x3, pj_vI x4, pj_vI (pj_and (M 65 (pj_nrm (((42 * x1) + (14 * x3)) + x4)).toNat) (M 65 (pj_nrm (((42 * x2) + (14 * x3)) + x4)).toNat))], [pj_vI (pj_and (M 65 (pj_nrm (((42 * x1) + (14 * x3)) + x4)).toNat) (M 65 (pj_nrm (((42 * x2) + (14 * x3)) + x4)).toNat))], M) from rfl) ⟨by omega, by omega, trivial⟩ ?_
  simp only [nj0, nj1, Int.toNat_natCast]
  exact pj_G_if0 (t := 124) rfl rfl (fun z => pj_G_loc (pj_lle_e (pj_lle_e (pj_lle_e (pj_lle_e (pj_lle_e (pj_lle_u rfl pj_lle_nil)))))) (h1 (pj_ct_ne (pj_nrm_op _) rfl z))) (fun z => pj_G_loc (pj_lle_e (pj_lle_e (pj_lle_e (pj_lle_e (pj_lle_e (pj_lle_u rfl pj_lle_nil)))))) (h2 (pj_cf_ne (pj_nrm_op _) rfl z)))
theorem pj_C144_107 {L d : Nat} {Q : Option pj_V → pj_M → Prop} {M : pj_M} {x1 x2 x3 x4 : Int}  (h : pj_G L d 142 0 [pj_vR 38, pj_vI x4] [] M (fun r M1 => pj_G L (d + 1) 144 113 [pj_vR 38, pj_vI x1, pj_vI x2, pj_vI x3, pj_vI x4, pj_vU] (r.toList ++ []) M1 Q)) : pj_G L (d + 1) 144 107 [pj_vR 38, pj_vI x1, pj_vI x2, pj_vI x3, pj_vI x4, pj_vU] [] M Q := by
  refine pj_G_s (d := d + 1) pj_np144 2 (show pj_gs 2 L 144 107 [pj_vR 38, pj_vI x1, pj_vI x2, pj_vI x3, pj_vI x4, pj_vU] [] M = some ([], 110, [pj_vR 38, pj_vI x1, pj_vI x2, pj_vI x3, pj_vI x4, pj_vU], [pj_vI x4, pj_vR 38], M) from rfl) trivial ?_
  exact pj_G_k (j := 142) (vs := [pj_vR 38, pj_vI x4]) (st := []) rfl rfl rfl rfl rfl (Nat.le_of_ble_eq_true rfl) pj_nc142 h
theorem pj_C144_113 {L d : Nat} {Q : Option pj_V → pj_M → Prop} {M : pj_M} {x1 x2 x3 x4 s0 : Int} (r0 : -2147483648 ≤ s0 ∧ s0 < 2147483648) (h1 : s0 ≠ 0 → pj_G L d 144 124 [pj_vR 38, pj_vI x1, pj_vI x2, pj_vI x3, pj_vI x4, pj_vU] [] M Q) (h2 : s0 = 0 → pj_G L d 144 116 [pj_vU, pj_vU, pj_vU, pj_vI x3, pj_vI x4, pj_vU] [] M Q) : pj_G L d 144 113 [pj_vR 38, pj_vI x1, pj_vI x2, pj_vI x3, pj_vI x4, pj_vU] [pj_vI s0] M Q := by
  exact pj_G_if0 (t := 124) rfl rfl (fun z => h1 (pj_ct_ne (pj_nrm_id r0.1 r0.2) rfl z)) (fun z => pj_G_loc (pj_lle_u rfl (pj_lle_u rfl (pj_lle_u rfl (pj_lle_e (pj_lle_e (pj_lle_e pj_lle_nil)))))) (h2 (pj_cf_ne (pj_nrm_id r0.1 r0.2) rfl z)))
theorem pj_C144_116 {L d : Nat} {Q : Option pj_V → pj_M → Prop} {M : pj_M} {x3 x4 : Int}  (h : Q (some (pj_vI ((100 * x3) + x4))) M) : pj_G L d 144 116 [pj_vU, pj_vU, pj_vU, pj_vI x3, pj_vI x4, pj_vU] [] M Q := by
  refine pj_G_s pj_np144 5 (show pj_gs 5 L 144 116 [pj_vU, pj_vU, pj_vU, pj_vI x3, pj_vI x4, pj_vU] [] M = some ([], 123, [pj_vU, pj_vU, pj_vU, pj_vI x3, pj_vI x4, pj_vU], [pj_vI ((100 * x3) + x4)], M) from rfl) trivial ?_
  exact pj_G_r rfl rfl rfl h
theorem pj_C144_124 {L d : Nat} {Q : Option pj_V → pj_M → Prop} {M : pj_M} {x1 x2 x3 x4 : Int}  (h : pj_G L d 144 56 [pj_vR 38, pj_vI x1, pj_vI x2, pj_vI x3, pj_vI (x4 + 1), pj_vU] [] M Q) : pj_G L d 144 124 [pj_vR 38, pj_vI x1, pj_vI x2, pj_vI x3, pj_vI x4, pj_vU] [] M Q := by
  refine pj_G_s pj_np144 2 (show pj_gs 2 L 144 124 [pj_vR 38, pj_vI x1, pj_vI x2, pj_vI x3, pj_vI x4, pj_vU] [] M = some ([], 56, [pj_vR 38, pj_vI x1, pj_vI x2, pj_vI x3, pj_vI (x4 + 1), pj_vU], [], M) from rfl) trivial ?_
  exact h
theorem pj_C144_130 {L d : Nat} {Q : Option pj_V → pj_M → Prop} {M : pj_M} {x1 x2 x3 : Int}  (h : pj_G L d 144 45 [pj_vR 38, pj_vI x1, pj_vI x2, pj_vI (x3 + 1), pj_vU, pj_vU] [] M Q) : pj_G L d 144 130 [pj_vR 38, pj_vI x1, pj_vI x2, pj_vI x3, pj_vU, pj_vU] [] M Q := by
  refine pj_G_s pj_np144 2 (show pj_gs 2 L 144 130 [pj_vR 38, pj_vI x1, pj_vI x2, pj_vI x3, pj_vU, pj_vU] [] M = some ([], 45, [pj_vR 38, pj_vI x1, pj_vI x2, pj_vI (x3 + 1), pj_vU, pj_vU], [], M) from rfl) trivial ?_
  exact h
theorem pj_C144_136 {L d : Nat} {Q : Option pj_V → pj_M → Prop} {M : pj_M}  (h : Q (some (pj_vI ((-1)))) M) : pj_G L d 144 136 [pj_vU, pj_vU, pj_vU, pj_vU, pj_vU, pj_vU] [] M Q := by
  refine pj_G_s pj_np144 1 (show pj_gs 1 L 144 136 [pj_vU, pj_vU, pj_vU, pj_vU, pj_vU, pj_vU] [] M = some ([], 137, [pj_vU, pj_vU, pj_vU, pj_vU, pj_vU, pj_vU], [pj_vI ((-1))], M) from rfl) trivial ?_
  exact pj_G_r rfl rfl rfl h
theorem pj_C145_0 {L d : Nat} {Q : Option pj_V → pj_M → Prop} {M : pj_M} {x1 : Int}  (h : pj_G L d 89 0 [pj_vR 38, pj_vI x1] [] M (fun r M1 => pj_G L (d + 1) 145 5 [pj_vR 38, pj_vI x1, pj_vU] (r.toList ++ []) M1 Q)) : pj_G L (d + 1) 145 0 [pj_vR 38, pj_vI x1, pj_vU] [] M Q := by
  refine pj_G_s (d := d + 1) pj_np145 2 (show pj_gs 2 L 145 0 [pj_vR 38, pj_vI x1, pj_vU] [] M = some ([], 2, [pj_vR 38, pj_vI x1, pj_vU], [pj_vI x1, pj_vR 38], M) from rfl) trivial ?_
  exact pj_G_k (j := 89) (vs := [pj_vR 38, pj_vI x1]) (st := []) rfl rfl rfl rfl rfl (Nat.le_of_ble_eq_true rfl) pj_nc89 h
theorem pj_C145_5 {L d : Nat} {Q : Option pj_V → pj_M → Prop} {M : pj_M} {x1 s0 : Int} (r0 : -2147483648 ≤ s0 ∧ s0 < 2147483648) (h1 : s0 ≠ 0 → pj_G L d 145 15 [pj_vR 38, pj_vI x1, pj_vU] [] M Q) (h2 : s0 = 0 → pj_G L d 145 8 [pj_vR 38, pj_vU, pj_vU] [] M Q) : pj_G L d 145 5 [pj_vR 38, pj_vI x1, pj_vU] [pj_vI s0] M Q := by
  exact pj_G_if0 (t := 15) rfl rfl (fun z => h1 (pj_ct_ne (pj_nrm_id r0.1 r0.2) rfl z)) (fun z => pj_G_loc (pj_lle_e (pj_lle_u rfl (pj_lle_e pj_lle_nil))) (h2 (pj_cf_ne (pj_nrm_id r0.1 r0.2) rfl z)))
theorem pj_C145_8 {L d : Nat} {Q : Option pj_V → pj_M → Prop} {M : pj_M}  (h : pj_G L d 86 0 [pj_vR 38, pj_vI ((-3))] [] M (fun r M1 => pj_G L (d + 1) 145 14 [pj_vU, pj_vU, pj_vU] (r.toList ++ []) M1 Q)) : pj_G L (d + 1) 145 8 [pj_vR 38, pj_vU, pj_vU] [] M Q := by
  refine pj_G_s (d := d + 1) pj_np145 2 (show pj_gs 2 L 145 8 [pj_vR 38, pj_vU, pj_vU] [] M = some ([], 11, [pj_vR 38, pj_vU, pj_vU], [pj_vI ((-3)), pj_vR 38], M) from rfl) trivial ?_
  exact pj_G_k (j := 86) (vs := [pj_vR 38, pj_vI ((-3))]) (st := []) rfl rfl rfl rfl rfl (Nat.le_of_ble_eq_true rfl) pj_nc86 (pj_G.mono h (fun _ _ hh => pj_G_loc (pj_lle_u rfl (pj_lle_e (pj_lle_e pj_lle_nil))) hh))
theorem pj_C145_14 {L d : Nat} {Q : Option pj_V → pj_M → Prop} {M : pj_M} {s0 : Int}  (h : Q (some (pj_vI s0)) M) : pj_G L d 145 14 [pj_vU, pj_vU, pj_vU] [pj_vI s0] M Q := by
  exact pj_G_r rfl rfl rfl h
theorem pj_C145_15 {L d : Nat} {Q : Option pj_V → pj_M → Prop} {M : pj_M} {x1 : Int}  (h : pj_G L d 115 0 [pj_vR 38, pj_vI x1, pj_vU, pj_vU] [] M (fun r M1 => pj_G L (d + 1) 145 20 [pj_vR 38, pj_vU, pj_vU] (r.toList ++ []) M1 Q)) : pj_G L (d + 1) 145 15 [pj_vR 38, pj_vI x1, pj_vU] [] M Q := by
  refine pj_G_s (d := d + 1) pj_np145 2 (show pj_gs 2 L 145 15 [pj_vR 38, pj_vI x1, pj_vU] [] M = some ([], 17, [pj_vR 38, pj_vI x1, pj_vU], [pj_vI x1, pj_vR 38], M) from rfl) trivial ?_
  exact pj_G_k (j := 115) (vs := [pj_vR 38, pj_vI x1]) (st := []) rfl rfl rfl rfl rfl (Nat.le_of_ble_eq_true rfl) pj_nc115 (pj_G.mono h (fun _ _ hh => pj_G_loc (pj_lle_e (pj_lle_u rfl (pj_lle_e pj_lle_nil))) hh))
theorem pj_C145_20 {L d : Nat} {Q : Option pj_V → pj_M → Prop} {M : pj_M}  (h : pj_G L d 145 30 [pj_vR 38, pj_vU, pj_vI 0] [] (pj_up M 38 39 (M 38 17)) Q) : pj_G L d 145 20 [pj_vR 38, pj_vU, pj_vU] [] M Q := by
  refine pj_G_s pj_np145 6 (show pj_gs 6 L 145 20 [pj_vR 38, pj_vU, pj_vU] [] M = some ([], 30, [pj_vR 38, pj_vU, pj_vI 0], [], pj_up M 38 39 (M 38 17)) from rfl) trivial ?_
  exact h
theorem pj_C145_30 {L d : Nat} {Q : Option pj_V → pj_M → Prop} {M : pj_M} {x2 : Int} (r0 : -2147483648 ≤ x2 ∧ x2 < 2147483648) (r1 : -2147483648 ≤ M 38 17 ∧ M 38 17 < 2147483648) (h1 : M 38 17 ≤ x2 → pj_G L d 145 56 [pj_vR 38, pj_vU, pj_vU] [] M Q) (h2 : x2 < M 38 17 → pj_G L d 145 38 [pj_vR 38, pj_vU, pj_vI x2] [] M Q) : pj_G L d 145 30 [pj_vR 38, pj_vU, pj_vI x2] [] M Q := by
  refine pj_G_s pj_np145 3 (show pj_gs 3 L 145 30 [pj_vR 38, pj_vU, pj_vI x2] [] M = some ([], 35, [pj_vR 38, pj_vU, pj_vI x2], [pj_vI (M 38 17), pj_vI x2], M) from rfl) trivial ?_
  exact pj_G_if (t := 56) rfl rfl (fun z => pj_G_loc (pj_lle_e (pj_lle_e (pj_lle_u rfl pj_lle_nil))) (h1 (pj_ct_ge (pj_nrm_id r0.1 r0.2) (pj_nrm_id r1.1 r1.2) z))) (fun z => h2 (pj_cf_ge (pj_nrm_id r0.1 r0.2) (pj_nrm_id r1.1 r1.2) z))
theorem pj_C145_38 {L d : Nat} {Q : Option pj_V → pj_M → Prop} {M : pj_M} {x2 : Int} (j0 : Nat) (ej0 : x2 = (j0 : Int)) (bj0 : j0 < 14) (h : pj_G L d 145 30 [pj_vR 38, pj_vU, pj_vI (x2 + 1)] [] (pj_up M 66 j0 (M 59 j0)) Q) : pj_G L d 145 38 [pj_vR 38, pj_vU, pj_vI x2] [] M Q := by
  have nj0 : pj_nrm x2 = (j0 : Int) := pj_nk ej0 (by omega)
  refine pj_G_s pj_np145 10 (show pj_gs 10 L 145 38 [pj_vR 38, pj_vU, pj_vI x2] [] M = some ([0 ≤ pj_nrm x2 ∧ pj_nrm x2 < (14 : Int), 0 ≤ pj_nrm x2 ∧ pj_nrm x2 < (14 : Int)], 30, [pj_vR 38, pj_vU, pj_vI (x2 + 1)], [], pj_up M 66 (pj_nrm x2).toNat (M 59 (pj_nrm x2).toNat)) from rfl) ⟨by omega, by omega, trivial⟩ ?_
  simp only [nj0, Int.toNat_natCast]
  exact h
theorem pj_C145_56 {L d : Nat} {Q : Option pj_V → pj_M → Prop} {M : pj_M}  (h : Q (some (pj_vI (M 38 17))) M) : pj_G L d 145 56 [pj_vR 38, pj_vU, pj_vU] [] M Q := by
  refine pj_G_s pj_np145 2 (show pj_gs 2 L 145 56 [pj_vR 38, pj_vU, pj_vU] [] M = some ([], 60, [pj_vR 38, pj_vU, pj_vU], [pj_vI (M 38 17)], M) from rfl) trivial ?_
  exact pj_G_r rfl rfl rfl h
theorem pj_C146_0 {L d : Nat} {Q : Option pj_V → pj_M → Prop} {M : pj_M} (r0 : -2147483648 ≤ M 38 39 ∧ M 38 39 < 2147483648) (h1 : M 38 39 < 0 → pj_G L d 146 11 [pj_vR 38, pj_vU] [] M Q) (h2 : 0 ≤ M 38 39 → pj_G L d 146 7 [pj_vR 38, pj_vU] [] M Q) : pj_G L d 146 0 [pj_vR 38, pj_vU] [] M Q := by
  refine pj_G_s pj_np146 2 (show pj_gs 2 L 146 0 [pj_vR 38, pj_vU] [] M = some ([], 4, [pj_vR 38, pj_vU], [pj_vI (M 38 39)], M) from rfl) trivial ?_
  exact pj_G_if0 (t := 11) rfl rfl (fun z => h1 (pj_ct_lt (pj_nrm_id r0.1 r0.2) rfl z)) (fun z => h2 (pj_cf_lt (pj_nrm_id r0.1 r0.2) rfl z))
theorem pj_C146_7 {L d : Nat} {Q : Option pj_V → pj_M → Prop} {M : pj_M}  (h : pj_G L d 146 12 [pj_vR 38, pj_vU] [pj_vI 1] M Q) : pj_G L d 146 7 [pj_vR 38, pj_vU] [] M Q := by
  refine pj_G_s pj_np146 2 (show pj_gs 2 L 146 7 [pj_vR 38, pj_vU] [] M = some ([], 12, [pj_vR 38, pj_vU], [pj_vI 1], M) from rfl) trivial ?_
  exact h
theorem pj_C146_12 {L d : Nat} {Q : Option pj_V → pj_M → Prop} {M : pj_M} {s0 : Int}  (h : Q (some (pj_vI s0)) (pj_up M 38 39 ((-1)))) : pj_G L d 146 12 [pj_vR 38, pj_vU] [pj_vI s0] M Q := by
  refine pj_G_s pj_np146 5 (show pj_gs 5 L 146 12 [pj_vR 38, pj_vU] [pj_vI s0] M = some ([], 19, [pj_vR 38, pj_vI s0], [pj_vI s0], pj_up M 38 39 ((-1))) from rfl) trivial ?_
  exact pj_G_r rfl rfl rfl h
theorem pj_C146_11 {L d : Nat} {Q : Option pj_V → pj_M → Prop} {M : pj_M}  (h : pj_G L d 146 12 [pj_vR 38, pj_vU] [pj_vI 0] M Q) : pj_G L d 146 11 [pj_vR 38, pj_vU] [] M Q := by
  refine pj_G_s pj_np146 1 (show pj_gs 1 L 146 11 [pj_vR 38, pj_vU] [] M = some ([], 12, [pj_vR 38, pj_vU], [pj_vI 0], M) from rfl) trivial ?_
  exact h
theorem pj_C147_0 {L d : Nat} {Q : Option pj_V → pj_M → Prop} {M : pj_M} {x1 : Int} (r0 : -2147483648 ≤ M 38 39 ∧ M 38 39 < 2147483648) (h1 : 0 ≤ M 38 39 → pj_G L d 147 14 [pj_vR 38, pj_vI x1] [] M Q) (h2 : M 38 39 < 0 → pj_G L d 147 7 [pj_vR 38, pj_vU] [] M Q) : pj_G L d 147 0 [pj_vR 38, pj_vI x1] [] M Q := by
  refine pj_G_s pj_np147 2 (show pj_gs 2 L 147 0 [pj_vR 38, pj_vI x1] [] M = some ([], 4, [pj_vR 38, pj_vI x1], [pj_vI (M 38 39)], M) from rfl) trivial ?_
  exact pj_G_if0 (t := 14) rfl rfl (fun z => h1 (pj_ct_ge (pj_nrm_id r0.1 r0.2) rfl z)) (fun z => pj_G_loc (pj_lle_e (pj_lle_u rfl pj_lle_nil)) (h2 (pj_cf_ge (pj_nrm_id r0.1 r0.2) rfl z)))
theorem pj_C147_7 {L d : Nat} {Q : Option pj_V → pj_M → Prop} {M : pj_M}  (h : pj_G L d 86 0 [pj_vR 38, pj_vI ((-2))] [] M (fun r M1 => pj_G L (d + 1) 147 13 [pj_vU, pj_vU] (r.toList ++ []) M1 Q)) : pj_G L (d + 1) 147 7 [pj_vR 38, pj_vU] [] M Q := by
  refine pj_G_s (d := d + 1) pj_np147 2 (show pj_gs 2 L 147 7 [pj_vR 38, pj_vU] [] M = some ([], 10, [pj_vR 38, pj_vU], [pj_vI ((-2)), pj_vR 38], M) from rfl) trivial ?_
  exact pj_G_k (j := 86) (vs := [pj_vR 38, pj_vI ((-2))]) (st := []) rfl rfl rfl rfl rfl (Nat.le_of_ble_eq_true rfl) pj_nc86 (pj_G.mono h (fun _ _ hh => pj_G_loc (pj_lle_u rfl (pj_lle_e pj_lle_nil)) hh))
theorem pj_C147_13 {L d : Nat} {Q : Option pj_V → pj_M → Prop} {M : pj_M} {s0 : Int}  (h : Q (some (pj_vI s0)) M) : pj_G L d 147 13 [pj_vU, pj_vU] [pj_vI s0] M Q := by
  exact pj_G_r rfl rfl rfl h
theorem pj_C147_14 {L d : Nat} {Q : Option pj_V → pj_M → Prop} {M : pj_M} {x1 : Int} (r0 : -2147483648 ≤ x1 ∧ x1 < 2147483648) (r1 : -2147483648 ≤ (M 38 39) - 1 ∧ (M 38 39) - 1 < 2147483648) (h : pj_G L d 85 0 [pj_vL x1, pj_vU, pj_vL 0, pj_vU, pj_vL ((M 38 39) - 1), pj_vU] [] M (fun r M1 => pj_G L (d + 1) 147 27 [pj_vR 38, pj_vI x1] (r.toList ++ []) M1 Q)) : pj_G L (d + 1) 147 14 [pj_vR 38, pj_vI x1] [] M Q := by
  have q0 : pj_nrm x1 = x1 := (pj_nrm_id r0.1 r0.2)
  have q1 : pj_nrm ((M 38 39) - 1) = (M 38 39) - 1 := (pj_nrm_id r1.1 r1.2)
  refine pj_G_s (d := d + 1) pj_np147 8 (show pj_gs 8 L 147 14 [pj_vR 38, pj_vI x1] [] M = some ([], 24, [pj_vR 38, pj_vI x1], [pj_vL (pj_nrm ((M 38 39) - 1)), pj_vL 0, pj_vL (pj_nrm x1)], M) from rfl) trivial ?_
  simp only [q0, q1, Int.toNat_natCast]
  exact pj_G_k (j := 85) (vs := [pj_vL x1, pj_vL 0, pj_vL ((M 38 39) - 1)]) (st := []) rfl rfl rfl rfl rfl (Nat.le_of_ble_eq_true rfl) pj_nc85 h
theorem pj_C147_27 {L d : Nat} {Q : Option pj_V → pj_M → Prop} {M : pj_M} {x1 s0 : Int} (r0 : -2147483648 ≤ s0 ∧ s0 < 2147483648) (h1 : s0 = 0 → pj_G L d 147 39 [pj_vR 38, pj_vU] [] M Q) (h2 : s0 ≠ 0 → pj_G L d 147 30 [pj_vR 38, pj_vI x1] [] M Q) : pj_G L d 147 27 [pj_vR 38, pj_vI x1] [pj_vI s0] M Q := by
  exact pj_G_if0 (t := 39) rfl rfl (fun z => pj_G_loc (pj_lle_e (pj_lle_u rfl pj_lle_nil)) (h1 (pj_ct_eq (pj_nrm_id r0.1 r0.2) rfl z))) (fun z => h2 (pj_cf_eq (pj_nrm_id r0.1 r0.2) rfl z))
theorem pj_C147_30 {L d : Nat} {Q : Option pj_V → pj_M → Prop} {M : pj_M} {x1 : Int} (j0 : Nat) (ej0 : x1 = (j0 : Int)) (bj0 : j0 < 14) (h : pj_G L d 147 45 [pj_vU, pj_vU] [pj_vI (M 66 j0)] M Q) : pj_G L d 147 30 [pj_vR 38, pj_vI x1] [] M Q := by
  have nj0 : pj_nrm x1 = (j0 : Int) := pj_nk ej0 (by omega)
  refine pj_G_s pj_np147 5 (show pj_gs 5 L 147 30 [pj_vR 38, pj_vI x1] [] M = some ([0 ≤ pj_nrm x1 ∧ pj_nrm x1 < (14 : Int)], 45, [pj_vR 38, pj_vI x1], [pj_vI (M 66 (pj_nrm x1).toNat)], M) from rfl) ⟨by omega, trivial⟩ ?_
  simp only [nj0, Int.toNat_natCast]
  exact pj_G_loc (pj_lle_u rfl (pj_lle_u rfl pj_lle_nil)) h
theorem pj_C147_45 {L d : Nat} {Q : Option pj_V → pj_M → Prop} {M : pj_M} {s0 : Int}  (h : Q (some (pj_vI s0)) M) : pj_G L d 147 45 [pj_vU, pj_vU] [pj_vI s0] M Q := by
  exact pj_G_r rfl rfl rfl h
theorem pj_C147_39 {L d : Nat} {Q : Option pj_V → pj_M → Prop} {M : pj_M}  (h : pj_G L d 86 0 [pj_vR 38, pj_vI ((-3))] [] M (fun r M1 => pj_G L (d + 1) 147 45 [pj_vU, pj_vU] (r.toList ++ []) M1 Q)) : pj_G L (d + 1) 147 39 [pj_vR 38, pj_vU] [] M Q := by
  refine pj_G_s (d := d + 1) pj_np147 2 (show pj_gs 2 L 147 39 [pj_vR 38, pj_vU] [] M = some ([], 42, [pj_vR 38, pj_vU], [pj_vI ((-3)), pj_vR 38], M) from rfl) trivial ?_
  exact pj_G_k (j := 86) (vs := [pj_vR 38, pj_vI ((-3))]) (st := []) rfl rfl rfl rfl rfl (Nat.le_of_ble_eq_true rfl) pj_nc86 (pj_G.mono h (fun _ _ hh => pj_G_loc (pj_lle_u rfl (pj_lle_e pj_lle_nil)) hh))
theorem pj_C148_0 {L d : Nat} {Q : Option pj_V → pj_M → Prop} {M : pj_M} {x1 x2 x3 : Int} (r0 : -2147483648 ≤ M 38 39 ∧ M 38 39 < 2147483648) (h1 : 0 ≤ M 38 39 → pj_G L d 148 14 [pj_vR 38, pj_vI x1, pj_vI x2, pj_vI x3, pj_vU] [] M Q) (h2 : M 38 39 < 0 → pj_G L d 148 7 [pj_vR 38, pj_vU, pj_vU, pj_vU, pj_vU] [] M Q) : pj_G L d 148 0 [pj_vR 38, pj_vI x1, pj_vI x2, pj_vI x3, pj_vU] [] M Q := by
  refine pj_G_s pj_np148 2 (show pj_gs 2 L 148 0 [pj_vR 38, pj_vI x1, pj_vI x2, pj_vI x3, pj_vU] [] M = some ([], 4, [pj_vR 38, pj_vI x1, pj_vI x2, pj_vI x3, pj_vU], [pj_vI (M 38 39)], M) from rfl) trivial ?_
  exact pj_G_if0 (t := 14) rfl rfl (fun z => h1 (pj_ct_ge (pj_nrm_id r0.1 r0.2) rfl z)) (fun z => pj_G_loc (pj_lle_e (pj_lle_u rfl (pj_lle_u rfl (pj_lle_u rfl (pj_lle_e pj_lle_nil))))) (h2 (pj_cf_ge (pj_nrm_id r0.1 r0.2) rfl z)))
theorem pj_C148_7 {L d : Nat} {Q : Option pj_V → pj_M → Prop} {M : pj_M}  (h : pj_G L d 86 0 [pj_vR 38, pj_vI ((-2))] [] M (fun r M1 => pj_G L (d + 1) 148 13 [pj_vU, pj_vU, pj_vU, pj_vU, pj_vU] (r.toList ++ []) M1 Q)) : pj_G L (d + 1) 148 7 [pj_vR 38, pj_vU, pj_vU, pj_vU, pj_vU] [] M Q := by
  refine pj_G_s (d := d + 1) pj_np148 2 (show pj_gs 2 L 148 7 [pj_vR 38, pj_vU, pj_vU, pj_vU, pj_vU] [] M = some ([], 10, [pj_vR 38, pj_vU, pj_vU, pj_vU, pj_vU], [pj_vI ((-2)), pj_vR 38], M) from rfl) trivial ?_
  exact pj_G_k (j := 86) (vs := [pj_vR 38, pj_vI ((-2))]) (st := []) rfl rfl rfl rfl rfl (Nat.le_of_ble_eq_true rfl) pj_nc86 (pj_G.mono h (fun _ _ hh => pj_G_loc (pj_lle_u rfl (pj_lle_e (pj_lle_e (pj_lle_e (pj_lle_e pj_lle_nil))))) hh))
theorem pj_C148_13 {L d : Nat} {Q : Option pj_V → pj_M → Prop} {M : pj_M} {s0 : Int}  (h : Q (some (pj_vI s0)) M) : pj_G L d 148 13 [pj_vU, pj_vU, pj_vU, pj_vU, pj_vU] [pj_vI s0] M Q := by
  exact pj_G_r rfl rfl rfl h
theorem pj_C148_14 {L d : Nat} {Q : Option pj_V → pj_M → Prop} {M : pj_M} {x1 x2 x3 : Int} (r0 : -2147483648 ≤ x3 ∧ x3 < 2147483648) (h1 : 0 ≤ x3 → pj_G L d 148 25 [pj_vR 38, pj_vI x1, pj_vI x2, pj_vI x3, pj_vU] [] M Q) (h2 : x3 < 0 → pj_G L d 148 18 [pj_vR 38, pj_vU, pj_vU, pj_vU, pj_vU] [] M Q) : pj_G L d 148 14 [pj_vR 38, pj_vI x1, pj_vI x2, pj_vI x3, pj_vU] [] M Q := by
  refine pj_G_s pj_np148 1 (show pj_gs 1 L 148 14 [pj_vR 38, pj_vI x1, pj_vI x2, pj_vI x3, pj_vU] [] M = some ([], 15, [pj_vR 38, pj_vI x1, pj_vI x2, pj_vI x3, pj_vU], [pj_vI x3], M) from rfl) trivial ?_
  exact pj_G_if0 (t := 25) rfl rfl (fun z => h1 (pj_ct_ge (pj_nrm_id r0.1 r0.2) rfl z)) (fun z => pj_G_loc (pj_lle_e (pj_lle_u rfl (pj_lle_u rfl (pj_lle_u rfl (pj_lle_e pj_lle_nil))))) (h2 (pj_cf_ge (pj_nrm_id r0.1 r0.2) rfl z)))
theorem pj_C148_18 {L d : Nat} {Q : Option pj_V → pj_M → Prop} {M : pj_M}  (h : pj_G L d 86 0 [pj_vR 38, pj_vI ((-4))] [] M (fun r M1 => pj_G L (d + 1) 148 24 [pj_vU, pj_vU, pj_vU, pj_vU, pj_vU] (r.toList ++ []) M1 Q)) : pj_G L (d + 1) 148 18 [pj_vR 38, pj_vU, pj_vU, pj_vU, pj_vU] [] M Q := by
  refine pj_G_s (d := d + 1) pj_np148 2 (show pj_gs 2 L 148 18 [pj_vR 38, pj_vU, pj_vU, pj_vU, pj_vU] [] M = some ([], 21, [pj_vR 38, pj_vU, pj_vU, pj_vU, pj_vU], [pj_vI ((-4)), pj_vR 38], M) from rfl) trivial ?_
  exact pj_G_k (j := 86) (vs := [pj_vR 38, pj_vI ((-4))]) (st := []) rfl rfl rfl rfl rfl (Nat.le_of_ble_eq_true rfl) pj_nc86 (pj_G.mono h (fun _ _ hh => pj_G_loc (pj_lle_u rfl (pj_lle_e (pj_lle_e (pj_lle_e (pj_lle_e pj_lle_nil))))) hh))
theorem pj_C148_24 {L d : Nat} {Q : Option pj_V → pj_M → Prop} {M : pj_M} {s0 : Int}  (h : Q (some (pj_vI s0)) M) : pj_G L d 148 24 [pj_vU, pj_vU, pj_vU, pj_vU, pj_vU] [pj_vI s0] M Q := by
  exact pj_G_r rfl rfl rfl h
theorem pj_C148_25 {L d : Nat} {Q : Option pj_V → pj_M → Prop} {M : pj_M} {x1 x2 x3 : Int} (r0 : -2147483648 ≤ x1 ∧ x1 < 2147483648) (h1 : x1 < 0 → pj_G L d 148 61 [pj_vR 38, pj_vU, pj_vU, pj_vU, pj_vU] [] M Q) (h2 : 0 ≤ x1 → pj_G L d 148 29 [pj_vR 38, pj_vI x1, pj_vI x2, pj_vI x3, pj_vU] [] M Q) : pj_G L d 148 25 [pj_vR 38, pj_vI x1, pj_vI x2, pj_vI x3, pj_vU] [] M Q := by
  refine pj_G_s pj_np148 1 (show pj_gs 1 L 148 25 [pj_vR 38, pj_vI x1, pj_vI x2, pj_vI x3, pj_vU] [] M = some ([], 26, [pj_vR 38, pj_vI x1, pj_vI x2, pj_vI x3, pj_vU], [pj_vI x1], M) from rfl) trivial ?_
  exact pj_G_if0 (t := 61) rfl rfl (fun z => pj_G_loc (pj_lle_e (pj_lle_u rfl (pj_lle_u rfl (pj_lle_u rfl (pj_lle_e pj_lle_nil))))) (h1 (pj_ct_lt (pj_nrm_id r0.1 r0.2) rfl z))) (fun z => h2 (pj_cf_lt (pj_nrm_id r0.1 r0.2) rfl z))
theorem pj_C148_29 {L d : Nat} {Q : Option pj_V → pj_M → Prop} {M : pj_M} {x1 x2 x3 : Int} (r0 : -2147483648 ≤ x2 ∧ x2 < 2147483648) (h1 : x2 < 0 → pj_G L d 148 61 [pj_vR 38, pj_vU, pj_vU, pj_vU, pj_vU] [] M Q) (h2 : 0 ≤ x2 → pj_G L d 148 33 [pj_vR 38, pj_vI x1, pj_vI x2, pj_vI x3, pj_vU] [] M Q) : pj_G L d 148 29 [pj_vR 38, pj_vI x1, pj_vI x2, pj_vI x3, pj_vU] [] M Q := by
  refine pj_G_s pj_np148 1 (show pj_gs 1 L 148 29 [pj_vR 38, pj_vI x1, pj_vI x2, pj_vI x3, pj_vU] [] M = some ([], 30, [pj_vR 38, pj_vI x1, pj_vI x2, pj_vI x3, pj_vU], [pj_vI x2], M) from rfl) trivial ?_
  exact pj_G_if0 (t := 61) rfl rfl (fun z => pj_G_loc (pj_lle_e (pj_lle_u rfl (pj_lle_u rfl (pj_lle_u rfl (pj_lle_e pj_lle_nil))))) (h1 (pj_ct_lt (pj_nrm_id r0.1 r0.2) rfl z))) (fun z => h2 (pj_cf_lt (pj_nrm_id r0.1 r0.2) rfl z))
theorem pj_C148_33 {L d : Nat} {Q : Option pj_V → pj_M → Prop} {M : pj_M} {x1 x2 x3 : Int} (r0 : -2147483648 ≤ x1 ∧ x1 < 2147483648) (r1 : -2147483648 ≤ x3 ∧ x3 < 2147483648) (r2 : -2147483648 ≤ M 38 39 ∧ M 38 39 < 2147483648) (h1 : 0 < pj_lcmp (x1 + x3) (M 38 39) → pj_G L d 148 61 [pj_vR 38, pj_vU, pj_vU, pj_vU, pj_vU] [] M Q) (h2 : pj_lcmp (x1 + x3) (M 38 39) ≤ 0 → pj_G L d 148 47 [pj_vR 38, pj_vI x1, pj_vI x2, pj_vI x3, pj_vU] [] M Q) : pj_G L d 148 33 [pj_vR 38, pj_vI x1, pj_vI x2, pj_vI x3, pj_vU] [] M Q := by
  have q0 : pj_nrm x1 = x1 := (pj_nrm_id r0.1 r0.2)
  have q1 : pj_nrm x3 = x3 := (pj_nrm_id r1.1 r1.2)
  have q2 : pj_nrm (M 38 39) = M 38 39 := (pj_nrm_id r2.1 r2.2)
  refine pj_G_s pj_np148 9 (show pj_gs 9 L 148 33 [pj_vR 38, pj_vI x1, pj_vI x2, pj_vI x3, pj_vU] [] M = some ([], 44, [pj_vR 38, pj_vI x1, pj_vI x2, pj_vI x3, pj_vU], [pj_vI (pj_lcmp ((pj_nrm x1) + (pj_nrm x3)) (pj_nrm (M 38 39)))], M) from rfl) trivial ?_
  simp only [q0, q1, q2, Int.toNat_natCast]
  exact pj_G_if0 (t := 61) rfl rfl (fun z => pj_G_loc (pj_lle_e (pj_lle_u rfl (pj_lle_u rfl (pj_lle_u rfl (pj_lle_e pj_lle_nil))))) (h1 (pj_ct_gt (pj_nrm_op _) rfl z))) (fun z => h2 (pj_cf_gt (pj_nrm_op _) rfl z))
theorem pj_C148_47 {L d : Nat} {Q : Option pj_V → pj_M → Prop} {M : pj_M} {x1 x2 x3 : Int} (r0 : -2147483648 ≤ x2 ∧ x2 < 2147483648) (r1 : -2147483648 ≤ x3 ∧ x3 < 2147483648) (r2 : -2147483648 ≤ M 38 39 ∧ M 38 39 < 2147483648) (h1 : pj_lcmp (x2 + x3) (M 38 39) ≤ 0 → pj_G L d 148 68 [pj_vR 38, pj_vI x1, pj_vI x2, pj_vI x3, pj_vU] [] M Q) (h2 : 0 < pj_lcmp (x2 + x3) (M 38 39) → pj_G L d 148 61 [pj_vR 38, pj_vU, pj_vU, pj_vU, pj_vU] [] M Q) : pj_G L d 148 47 [pj_vR 38, pj_vI x1, pj_vI x2, pj_vI x3, pj_vU] [] M Q := by
  have q0 : pj_nrm x2 = x2 := (pj_nrm_id r0.1 r0.2)
  have q1 : pj_nrm x3 = x3 := (pj_nrm_id r1.1 r1.2)
  have q2 : pj_nrm (M 38 39) = M 38 39 := (pj_nrm_id r2.1 r2.2)
  refine pj_G_s pj_np148 9 (show pj_gs 9 L 148 47 [pj_vR 38, pj_vI x1, pj_vI x2, pj_vI x3, pj_vU] [] M = some ([], 58, [pj_vR 38, pj_vI x1, pj_vI x2, pj_vI x3, pj_vU], [pj_vI (pj_lcmp ((pj_nrm x2) + (pj_nrm x3)) (pj_nrm (M 38 39)))], M) from rfl) trivial ?_
  simp only [q0, q1, q2, Int.toNat_natCast]
  exact pj_G_if0 (t := 68) rfl rfl (fun z => h1 (pj_ct_le (pj_nrm_op _) rfl z)) (fun z => pj_G_loc (pj_lle_e (pj_lle_u rfl (pj_lle_u rfl (pj_lle_u rfl (pj_lle_e pj_lle_nil))))) (h2 (pj_cf_le (pj_nrm_op _) rfl z)))
theorem pj_C148_61 {L d : Nat} {Q : Option pj_V → pj_M → Prop} {M : pj_M}  (h : pj_G L d 86 0 [pj_vR 38, pj_vI ((-6))] [] M (fun r M1 => pj_G L (d + 1) 148 67 [pj_vU, pj_vU, pj_vU, pj_vU, pj_vU] (r.toList ++ []) M1 Q)) : pj_G L (d + 1) 148 61 [pj_vR 38, pj_vU, pj_vU, pj_vU, pj_vU] [] M Q := by
  refine pj_G_s (d := d + 1) pj_np148 2 (show pj_gs 2 L 148 61 [pj_vR 38, pj_vU, pj_vU, pj_vU, pj_vU] [] M = some ([], 64, [pj_vR 38, pj_vU, pj_vU, pj_vU, pj_vU], [pj_vI ((-6)), pj_vR 38], M) from rfl) trivial ?_
  exact pj_G_k (j := 86) (vs := [pj_vR 38, pj_vI ((-6))]) (st := []) rfl rfl rfl rfl rfl (Nat.le_of_ble_eq_true rfl) pj_nc86 (pj_G.mono h (fun _ _ hh => pj_G_loc (pj_lle_u rfl (pj_lle_e (pj_lle_e (pj_lle_e (pj_lle_e pj_lle_nil))))) hh))
theorem pj_C148_67 {L d : Nat} {Q : Option pj_V → pj_M → Prop} {M : pj_M} {s0 : Int}  (h : Q (some (pj_vI s0)) M) : pj_G L d 148 67 [pj_vU, pj_vU, pj_vU, pj_vU, pj_vU] [pj_vI s0] M Q := by
  exact pj_G_r rfl rfl rfl h
theorem pj_C148_68 {L d : Nat} {Q : Option pj_V → pj_M → Prop} {M : pj_M} {x1 x2 x3 : Int}  (h : pj_G L d 148 71 [pj_vR 38, pj_vI x1, pj_vI x2, pj_vI x3, pj_vI 0] [] M Q) : pj_G L d 148 68 [pj_vR 38, pj_vI x1, pj_vI x2, pj_vI x3, pj_vU] [] M Q := by
  refine pj_G_s pj_np148 2 (show pj_gs 2 L 148 68 [pj_vR 38, pj_vI x1, pj_vI x2, pj_vI x3, pj_vU] [] M = some ([], 71, [pj_vR 38, pj_vI x1, pj_vI x2, pj_vI x3, pj_vI 0], [], M) from rfl) trivial ?_
  exact h
theorem pj_C148_71 {L d : Nat} {Q : Option pj_V → pj_M → Prop} {M : pj_M} {x1 x2 x3 x4 : Int} (r0 : -2147483648 ≤ x4 ∧ x4 < 2147483648) (r1 : -2147483648 ≤ x3 ∧ x3 < 2147483648) (h1 : x3 ≤ x4 → pj_G L d 148 99 [pj_vR 38, pj_vU, pj_vI x2, pj_vI x3, pj_vU] [] M Q) (h2 : x4 < x3 → pj_G L d 148 77 [pj_vR 38, pj_vI x1, pj_vI x2, pj_vI x3, pj_vI x4] [] M Q) : pj_G L d 148 71 [pj_vR 38, pj_vI x1, pj_vI x2, pj_vI x3, pj_vI x4] [] M Q := by
  refine pj_G_s pj_np148 2 (show pj_gs 2 L 148 71 [pj_vR 38, pj_vI x1, pj_vI x2, pj_vI x3, pj_vI x4] [] M = some ([], 74, [pj_vR 38, pj_vI x1, pj_vI x2, pj_vI x3, pj_vI x4], [pj_vI x3, pj_vI x4], M) from rfl) trivial ?_
  exact pj_G_if (t := 99) rfl rfl (fun z => pj_G_loc (pj_lle_e (pj_lle_u rfl (pj_lle_e (pj_lle_e (pj_lle_u rfl pj_lle_nil))))) (h1 (pj_ct_ge (pj_nrm_id r0.1 r0.2) (pj_nrm_id r1.1 r1.2) z))) (fun z => h2 (pj_cf_ge (pj_nrm_id r0.1 r0.2) (pj_nrm_id r1.1 r1.2) z))
theorem pj_C148_77 {L d : Nat} {Q : Option pj_V → pj_M → Prop} {M : pj_M} {x1 x2 x3 x4 : Int} (j0 j1 : Nat) (ej0 : x1 + x4 = (j0 : Int)) (bj0 : j0 < 14) (ej1 : x4 = (j1 : Int)) (bj1 : j1 < 14) (h : pj_G L d 148 71 [pj_vR 38, pj_vI x1, pj_vI x2, pj_vI x3, pj_vI (x4 + 1)] [] (pj_up M 67 j1 (M 66 j0)) Q) : pj_G L d 148 77 [pj_vR 38, pj_vI x1, pj_vI x2, pj_vI x3, pj_vI x4] [] M Q := by
  have nj0 : pj_nrm (x1 + x4) = (j0 : Int) := pj_nk ej0 (by omega)
  have nj1 : pj_nrm x4 = (j1 : Int) := pj_nk ej1 (by omega)
  refine pj_G_s pj_np148 12 (show pj_gs 12 L 148 77 [pj_vR 38, pj_vI x1, pj_vI x2, pj_vI x3, pj_vI x4] [] M = some ([0 ≤ pj_nrm (x1 + x4) ∧ pj_nrm (x1 + x4) < (14 : Int), 0 ≤ pj_nrm x4 ∧ pj_nrm x4 < (14 : Int)], 71, [pj_vR 38, pj_vI x1, pj_vI x2, pj_vI x3, pj_vI (x4 + 1)], [], pj_up M 67 (pj_nrm x4).toNat (M 66 (pj_nrm (x1 + x4)).toNat)) from rfl) ⟨by omega, by omega, trivial⟩ ?_
  simp only [nj0, nj1, Int.toNat_natCast]
  exact h
theorem pj_C148_99 {L d : Nat} {Q : Option pj_V → pj_M → Prop} {M : pj_M} {x2 x3 : Int}  (h : pj_G L d 148 102 [pj_vR 38, pj_vU, pj_vI x2, pj_vI x3, pj_vI 0] [] M Q) : pj_G L d 148 99 [pj_vR 38, pj_vU, pj_vI x2, pj_vI x3, pj_vU] [] M Q := by
  refine pj_G_s pj_np148 2 (show pj_gs 2 L 148 99 [pj_vR 38, pj_vU, pj_vI x2, pj_vI x3, pj_vU] [] M = some ([], 102, [pj_vR 38, pj_vU, pj_vI x2, pj_vI x3, pj_vI 0], [], M) from rfl) trivial ?_
  exact h
theorem pj_C148_102 {L d : Nat} {Q : Option pj_V → pj_M → Prop} {M : pj_M} {x2 x3 x4 : Int} (r0 : -2147483648 ≤ x4 ∧ x4 < 2147483648) (r1 : -2147483648 ≤ x3 ∧ x3 < 2147483648) (h1 : x3 ≤ x4 → pj_G L d 148 130 [pj_vU, pj_vU, pj_vU, pj_vI x3, pj_vU] [] M Q) (h2 : x4 < x3 → pj_G L d 148 108 [pj_vR 38, pj_vU, pj_vI x2, pj_vI x3, pj_vI x4] [] M Q) : pj_G L d 148 102 [pj_vR 38, pj_vU, pj_vI x2, pj_vI x3, pj_vI x4] [] M Q := by
  refine pj_G_s pj_np148 2 (show pj_gs 2 L 148 102 [pj_vR 38, pj_vU, pj_vI x2, pj_vI x3, pj_vI x4] [] M = some ([], 105, [pj_vR 38, pj_vU, pj_vI x2, pj_vI x3, pj_vI x4], [pj_vI x3, pj_vI x4], M) from rfl) trivial ?_
  exact pj_G_if (t := 130) rfl rfl (fun z => pj_G_loc (pj_lle_u rfl (pj_lle_e (pj_lle_u rfl (pj_lle_e (pj_lle_u rfl pj_lle_nil))))) (h1 (pj_ct_ge (pj_nrm_id r0.1 r0.2) (pj_nrm_id r1.1 r1.2) z))) (fun z => h2 (pj_cf_ge (pj_nrm_id r0.1 r0.2) (pj_nrm_id r1.1 r1.2) z))
theorem pj_C148_108 {L d : Nat} {Q : Option pj_V → pj_M → Prop} {M : pj_M} {x2 x3 x4 : Int} (j0 j1 : Nat) (ej0 : x4 = (j0 : Int)) (bj0 : j0 < 14) (ej1 : x2 + x4 = (j1 : Int)) (bj1 : j1 < 14) (h : pj_G L d 148 102 [pj_vR 38, pj_vU, pj_vI x2, pj_vI x3, pj_vI (x4 + 1)] [] (pj_up M 66 j1 (M 67 j0)) Q) : pj_G L d 148 108 [pj_vR 38, pj_vU, pj_vI x2, pj_vI x3, pj_vI x4] [] M Q := by
  have nj0 : pj_nrm x4 = (j0 : Int) := pj_nk ej0 (by omega)
  have nj1 : pj_nrm (x2 + x4) = (j1 : Int) := pj_nk ej1 (by omega)
  refine pj_G_s pj_np148 12 (show pj_gs 12 L 148 108 [pj_vR 38, pj_vU, pj_vI x2, pj_vI x3, pj_vI x4] [] M = some ([0 ≤ pj_nrm x4 ∧ pj_nrm x4 < (14 : Int), 0 ≤ pj_nrm (x2 + x4) ∧ pj_nrm (x2 + x4) < (14 : Int)], 102, [pj_vR 38, pj_vU, pj_vI x2, pj_vI x3, pj_vI (x4 + 1)], [], pj_up M 66 (pj_nrm (x2 + x4)).toNat (M 67 (pj_nrm x4).toNat)) from rfl) ⟨by omega, by omega, trivial⟩ ?_
  simp only [nj0, nj1, Int.toNat_natCast]
  exact h
theorem pj_C148_130 {L d : Nat} {Q : Option pj_V → pj_M → Prop} {M : pj_M} {x3 : Int}  (h : Q (some (pj_vI x3)) M) : pj_G L d 148 130 [pj_vU, pj_vU, pj_vU, pj_vI x3, pj_vU] [] M Q := by
  refine pj_G_s pj_np148 1 (show pj_gs 1 L 148 130 [pj_vU, pj_vU, pj_vU, pj_vI x3, pj_vU] [] M = some ([], 131, [pj_vU, pj_vU, pj_vU, pj_vI x3, pj_vU], [pj_vI x3], M) from rfl) trivial ?_
  exact pj_G_r rfl rfl rfl h
theorem pj_C149_0 {L d : Nat} {Q : Option pj_V → pj_M → Prop} {M : pj_M} {x1 : Int} (r0 : -2147483648 ≤ x1 ∧ x1 < 2147483648) (h : pj_G L d 85 0 [pj_vL x1, pj_vU, pj_vL ((-8)), pj_vU, pj_vL ((-2)), pj_vU] [] M (fun r M1 => pj_G L (d + 1) 149 11 [pj_vR 38, pj_vI x1] (r.toList ++ []) M1 Q)) : pj_G L (d + 1) 149 0 [pj_vR 38, pj_vI x1] [] M Q := by
  have q0 : pj_nrm x1 = x1 := (pj_nrm_id r0.1 r0.2)
  refine pj_G_s (d := d + 1) pj_np149 4 (show pj_gs 4 L 149 0 [pj_vR 38, pj_vI x1] [] M = some ([], 8, [pj_vR 38, pj_vI x1], [pj_vL ((-2)), pj_vL ((-8)), pj_vL (pj_nrm x1)], M) from rfl) trivial ?_
  simp only [q0, Int.toNat_natCast]
  exact pj_G_k (j := 85) (vs := [pj_vL x1, pj_vL ((-8)), pj_vL ((-2))]) (st := []) rfl rfl rfl rfl rfl (Nat.le_of_ble_eq_true rfl) pj_nc85 h
theorem pj_C149_11 {L d : Nat} {Q : Option pj_V → pj_M → Prop} {M : pj_M} {x1 s0 : Int} (r0 : -2147483648 ≤ s0 ∧ s0 < 2147483648) (h1 : s0 = 0 → pj_G L d 149 24 [pj_vR 38, pj_vU] [] M Q) (h2 : s0 ≠ 0 → pj_G L d 149 14 [pj_vR 38, pj_vI x1] [] M Q) : pj_G L d 149 11 [pj_vR 38, pj_vI x1] [pj_vI s0] M Q := by
  exact pj_G_if0 (t := 24) rfl rfl (fun z => pj_G_loc (pj_lle_e (pj_lle_u rfl pj_lle_nil)) (h1 (pj_ct_eq (pj_nrm_id r0.1 r0.2) rfl z))) (fun z => h2 (pj_cf_eq (pj_nrm_id r0.1 r0.2) rfl z))
theorem pj_C149_14 {L d : Nat} {Q : Option pj_V → pj_M → Prop} {M : pj_M} {x1 : Int} (j0 : Nat) (ej0 : -x1 = (j0 : Int)) (bj0 : j0 < 9) (h : pj_G L d 149 30 [pj_vU, pj_vU] [pj_vI (M 56 j0)] M Q) : pj_G L d 149 14 [pj_vR 38, pj_vI x1] [] M Q := by
  have nj0 : pj_nrm (-x1) = (j0 : Int) := pj_nk ej0 (by omega)
  refine pj_G_s pj_np149 6 (show pj_gs 6 L 149 14 [pj_vR 38, pj_vI x1] [] M = some ([0 ≤ pj_nrm (-x1) ∧ pj_nrm (-x1) < (9 : Int)], 30, [pj_vR 38, pj_vI x1], [pj_vI (M 56 (pj_nrm (-x1)).toNat)], M) from rfl) ⟨by omega, trivial⟩ ?_
  simp only [nj0, Int.toNat_natCast]
  exact pj_G_loc (pj_lle_u rfl (pj_lle_u rfl pj_lle_nil)) h
theorem pj_C149_30 {L d : Nat} {Q : Option pj_V → pj_M → Prop} {M : pj_M} {s0 : Int}  (h : Q (some (pj_vI s0)) M) : pj_G L d 149 30 [pj_vU, pj_vU] [pj_vI s0] M Q := by
  exact pj_G_r rfl rfl rfl h
theorem pj_C149_24 {L d : Nat} {Q : Option pj_V → pj_M → Prop} {M : pj_M}  (h : pj_G L d 86 0 [pj_vR 38, pj_vI ((-7))] [] M (fun r M1 => pj_G L (d + 1) 149 30 [pj_vU, pj_vU] (r.toList ++ []) M1 Q)) : pj_G L (d + 1) 149 24 [pj_vR 38, pj_vU] [] M Q := by
  refine pj_G_s (d := d + 1) pj_np149 2 (show pj_gs 2 L 149 24 [pj_vR 38, pj_vU] [] M = some ([], 27, [pj_vR 38, pj_vU], [pj_vI ((-7)), pj_vR 38], M) from rfl) trivial ?_
  exact pj_G_k (j := 86) (vs := [pj_vR 38, pj_vI ((-7))]) (st := []) rfl rfl rfl rfl rfl (Nat.le_of_ble_eq_true rfl) pj_nc86 (pj_G.mono h (fun _ _ hh => pj_G_loc (pj_lle_u rfl (pj_lle_e pj_lle_nil)) hh))
