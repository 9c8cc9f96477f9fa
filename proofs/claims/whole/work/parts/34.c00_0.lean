theorem pj_C1_0 {L d : Nat} {Q : Option pj_V → pj_M → Prop} {M : pj_M}  (h : Q (none) (pj_up (pj_up (pj_up M 22 8 0) 22 3 ((-1))) 22 5 ((-1)))) : pj_G L d 1 0 [pj_vR 22] [] M Q := by
  refine pj_G_s pj_np1 9 (show pj_gs 9 L 1 0 [pj_vR 22] [] M = some ([(0 : Int) = 0 ∨ (0 : Int) = 1], 15, [pj_vR 22], [], pj_up (pj_up (pj_up M 22 8 0) 22 3 ((-1))) 22 5 ((-1))) from rfl) ⟨by decide, trivial⟩ ?_
  exact pj_G_r rfl rfl rfl h
theorem pj_C2_0 {L d : Nat} {Q : Option pj_V → pj_M → Prop} {M : pj_M} (r0 : -2147483648 ≤ M 22 8 ∧ M 22 8 < 2147483648) (h1 : M 22 8 ≠ 0 → pj_G L d 2 19 [pj_vU] [] M Q) (h2 : M 22 8 = 0 → pj_G L d 2 7 [pj_vR 22] [] M Q) : pj_G L d 2 0 [pj_vR 22] [] M Q := by
  refine pj_G_s pj_np2 2 (show pj_gs 2 L 2 0 [pj_vR 22] [] M = some ([], 4, [pj_vR 22], [pj_vI (M 22 8)], M) from rfl) trivial ?_
  exact pj_G_if0 (t := 19) rfl rfl (fun z => pj_G_loc (pj_lle_u rfl pj_lle_nil) (h1 (pj_ct_ne (pj_nrm_id r0.1 r0.2) rfl z))) (fun z => h2 (pj_cf_ne (pj_nrm_id r0.1 r0.2) rfl z))
theorem pj_C2_7 {L d : Nat} {Q : Option pj_V → pj_M → Prop} {M : pj_M}  (h : pj_G L d 32 0 [pj_vR 26, pj_vU, pj_vU, pj_vU] [] M (fun r M1 => pj_G L (d + 1) 2 14 [pj_vR 22] (r.toList ++ []) M1 Q)) : pj_G L (d + 1) 2 7 [pj_vR 22] [] M Q := by
  refine pj_G_s (d := d + 1) pj_np2 2 (show pj_gs 2 L 2 7 [pj_vR 22] [] M = some ([], 11, [pj_vR 22], [pj_vR 26], M) from rfl) trivial ?_
  exact pj_G_k (j := 32) (vs := [pj_vR 26]) (st := []) rfl rfl rfl rfl rfl (Nat.le_of_ble_eq_true rfl) pj_nc32 h
theorem pj_C2_14 {L d : Nat} {Q : Option pj_V → pj_M → Prop} {M : pj_M}  (h : pj_G L d 2 19 [pj_vU] [] (pj_up M 22 8 1) Q) : pj_G L d 2 14 [pj_vR 22] [] M Q := by
  refine pj_G_s pj_np2 3 (show pj_gs 3 L 2 14 [pj_vR 22] [] M = some ([(1 : Int) = 0 ∨ (1 : Int) = 1], 19, [pj_vR 22], [], pj_up M 22 8 1) from rfl) ⟨by decide, trivial⟩ ?_
  exact pj_G_loc (pj_lle_u rfl pj_lle_nil) h
theorem pj_C2_19 {L d : Nat} {Q : Option pj_V → pj_M → Prop} {M : pj_M}  (h : Q (none) M) : pj_G L d 2 19 [pj_vU] [] M Q := by
  exact pj_G_r rfl rfl rfl h
theorem pj_C3_0 {L d : Nat} {Q : Option pj_V → pj_M → Prop} {M : pj_M} {x1 : Int}  (h : pj_G L d 2 0 [pj_vR 22] [] M (fun r M1 => pj_G L (d + 1) 3 4 [pj_vR 22, pj_vI x1] (r.toList ++ []) M1 Q)) : pj_G L (d + 1) 3 0 [pj_vR 22, pj_vI x1] [] M Q := by
  refine pj_G_s (d := d + 1) pj_np3 1 (show pj_gs 1 L 3 0 [pj_vR 22, pj_vI x1] [] M = some ([], 1, [pj_vR 22, pj_vI x1], [pj_vR 22], M) from rfl) trivial ?_
  exact pj_G_k (j := 2) (vs := [pj_vR 22]) (st := []) rfl rfl rfl rfl rfl (Nat.le_of_ble_eq_true rfl) pj_nc2 h
theorem pj_C3_4 {L d : Nat} {Q : Option pj_V → pj_M → Prop} {M : pj_M} {x1 : Int}  (h : pj_G L d 24 0 [pj_vR 31, pj_vI x1, pj_vU, pj_vU, pj_vU] [] M (fun r M1 => pj_G L (d + 1) 3 15 [pj_vR 22, pj_vU] (r.toList ++ []) M1 Q)) : pj_G L (d + 1) 3 4 [pj_vR 22, pj_vI x1] [] M Q := by
  refine pj_G_s (d := d + 1) pj_np3 4 (show pj_gs 4 L 3 4 [pj_vR 22, pj_vI x1] [] M = some ([], 12, [pj_vR 22, pj_vI x1], [pj_vI x1, pj_vR 31], M) from rfl) trivial ?_
  exact pj_G_k (j := 24) (vs := [pj_vR 31, pj_vI x1]) (st := []) rfl rfl rfl rfl rfl (Nat.le_of_ble_eq_true rfl) pj_nc24 (pj_G.mono h (fun _ _ hh => pj_G_loc (pj_lle_e (pj_lle_u rfl pj_lle_nil)) hh))
theorem pj_C3_15 {L d : Nat} {Q : Option pj_V → pj_M → Prop} {M : pj_M}  (h : Q (some (pj_vR 33)) M) : pj_G L d 3 15 [pj_vR 22, pj_vU] [] M Q := by
  refine pj_G_s pj_np3 4 (show pj_gs 4 L 3 15 [pj_vR 22, pj_vU] [] M = some ([], 25, [pj_vR 22, pj_vU], [pj_vR 33], M) from rfl) trivial ?_
  exact pj_G_r rfl rfl rfl h
theorem pj_C4_0 {L d : Nat} {Q : Option pj_V → pj_M → Prop} {M : pj_M} {x1 : Int}  (h : pj_G L d 2 0 [pj_vR 22] [] M (fun r M1 => pj_G L (d + 1) 4 4 [pj_vR 22, pj_vI x1] (r.toList ++ []) M1 Q)) : pj_G L (d + 1) 4 0 [pj_vR 22, pj_vI x1] [] M Q := by
  refine pj_G_s (d := d + 1) pj_np4 1 (show pj_gs 1 L 4 0 [pj_vR 22, pj_vI x1] [] M = some ([], 1, [pj_vR 22, pj_vI x1], [pj_vR 22], M) from rfl) trivial ?_
  exact pj_G_k (j := 2) (vs := [pj_vR 22]) (st := []) rfl rfl rfl rfl rfl (Nat.le_of_ble_eq_true rfl) pj_nc2 h
theorem pj_C4_4 {L d : Nat} {Q : Option pj_V → pj_M → Prop} {M : pj_M} {x1 : Int}  (h : pj_G L d 35 0 [pj_vR 26, pj_vI x1, pj_vI 0, pj_vU, pj_vU] [] M (fun r M1 => pj_G L (d + 1) 4 13 [pj_vR 22, pj_vU] (r.toList ++ []) M1 Q)) : pj_G L (d + 1) 4 4 [pj_vR 22, pj_vI x1] [] M Q := by
  refine pj_G_s (d := d + 1) pj_np4 4 (show pj_gs 4 L 4 4 [pj_vR 22, pj_vI x1] [] M = some ([], 10, [pj_vR 22, pj_vI x1], [pj_vI 0, pj_vI x1, pj_vR 26], M) from rfl) trivial ?_
  exact pj_G_k (j := 35) (vs := [pj_vR 26, pj_vI x1, pj_vI 0]) (st := []) rfl rfl rfl rfl rfl (Nat.le_of_ble_eq_true rfl) pj_nc35 (pj_G.mono h (fun _ _ hh => pj_G_loc (pj_lle_e (pj_lle_u rfl pj_lle_nil)) hh))
theorem pj_C4_13 {L d : Nat} {Q : Option pj_V → pj_M → Prop} {M : pj_M}  (h : pj_G L d 37 0 [pj_vR 26, pj_vI 0, pj_vU, pj_vU, pj_vU] [] M (fun r M1 => pj_G L (d + 1) 4 21 [pj_vU, pj_vU] (r.toList ++ []) M1 Q)) : pj_G L (d + 1) 4 13 [pj_vR 22, pj_vU] [] M Q := by
  refine pj_G_s (d := d + 1) pj_np4 3 (show pj_gs 3 L 4 13 [pj_vR 22, pj_vU] [] M = some ([], 18, [pj_vR 22, pj_vU], [pj_vI 0, pj_vR 26], M) from rfl) trivial ?_
  exact pj_G_k (j := 37) (vs := [pj_vR 26, pj_vI 0]) (st := []) rfl rfl rfl rfl rfl (Nat.le_of_ble_eq_true rfl) pj_nc37 (pj_G.mono h (fun _ _ hh => pj_G_loc (pj_lle_u rfl (pj_lle_e pj_lle_nil)) hh))
theorem pj_C4_21 {L d : Nat} {Q : Option pj_V → pj_M → Prop} {M : pj_M} {s0 : Int}  (cb : s0 = 0 ∨ s0 = 1) (h : Q (some (pj_vI s0)) M) : pj_G L d 4 21 [pj_vU, pj_vU] [pj_vI s0] M Q := by
  exact pj_G_r rfl rfl (if_pos (Or.inr cb)) h
theorem pj_C5_0 {L d : Nat} {Q : Option pj_V → pj_M → Prop} {M : pj_M} {x1 : Int}  (h : pj_G L d 2 0 [pj_vR 22] [] M (fun r M1 => pj_G L (d + 1) 5 4 [pj_vR 22, pj_vI x1] (r.toList ++ []) M1 Q)) : pj_G L (d + 1) 5 0 [pj_vR 22, pj_vI x1] [] M Q := by
  refine pj_G_s (d := d + 1) pj_np5 1 (show pj_gs 1 L 5 0 [pj_vR 22, pj_vI x1] [] M = some ([], 1, [pj_vR 22, pj_vI x1], [pj_vR 22], M) from rfl) trivial ?_
  exact pj_G_k (j := 2) (vs := [pj_vR 22]) (st := []) rfl rfl rfl rfl rfl (Nat.le_of_ble_eq_true rfl) pj_nc2 h
theorem pj_C5_4 {L d : Nat} {Q : Option pj_V → pj_M → Prop} {M : pj_M} {x1 : Int}  (h : pj_G L d 36 0 [pj_vR 26, pj_vI x1, pj_vU] [] M (fun r M1 => pj_G L (d + 1) 5 12 [pj_vR 22, pj_vU] (r.toList ++ []) M1 Q)) : pj_G L (d + 1) 5 4 [pj_vR 22, pj_vI x1] [] M Q := by
  refine pj_G_s (d := d + 1) pj_np5 3 (show pj_gs 3 L 5 4 [pj_vR 22, pj_vI x1] [] M = some ([], 9, [pj_vR 22, pj_vI x1], [pj_vI x1, pj_vR 26], M) from rfl) trivial ?_
  exact pj_G_k (j := 36) (vs := [pj_vR 26, pj_vI x1]) (st := []) rfl rfl rfl rfl rfl (Nat.le_of_ble_eq_true rfl) pj_nc36 (pj_G.mono h (fun _ _ hh => pj_G_loc (pj_lle_e (pj_lle_u rfl pj_lle_nil)) hh))
theorem pj_C5_12 {L d : Nat} {Q : Option pj_V → pj_M → Prop} {M : pj_M}  (h : pj_G L d 37 0 [pj_vR 26, pj_vI 0, pj_vU, pj_vU, pj_vU] [] M (fun r M1 => pj_G L (d + 1) 5 20 [pj_vU, pj_vU] (r.toList ++ []) M1 Q)) : pj_G L (d + 1) 5 12 [pj_vR 22, pj_vU] [] M Q := by
  refine pj_G_s (d := d + 1) pj_np5 3 (show pj_gs 3 L 5 12 [pj_vR 22, pj_vU] [] M = some ([], 17, [pj_vR 22, pj_vU], [pj_vI 0, pj_vR 26], M) from rfl) trivial ?_
  exact pj_G_k (j := 37) (vs := [pj_vR 26, pj_vI 0]) (st := []) rfl rfl rfl rfl rfl (Nat.le_of_ble_eq_true rfl) pj_nc37 (pj_G.mono h (fun _ _ hh => pj_G_loc (pj_lle_u rfl (pj_lle_e pj_lle_nil)) hh))
theorem pj_C5_20 {L d : Nat} {Q : Option pj_V → pj_M → Prop} {M : pj_M} {s0 : Int}  (cb : s0 = 0 ∨ s0 = 1) (h : Q (some (pj_vI s0)) M) : pj_G L d 5 20 [pj_vU, pj_vU] [pj_vI s0] M Q := by
  exact pj_G_r rfl rfl (if_pos (Or.inr cb)) h
theorem pj_C6_0 {L d : Nat} {Q : Option pj_V → pj_M → Prop} {M : pj_M} (r0 : -2147483648 ≤ M 22 3 ∧ M 22 3 < 2147483648) (h1 : M 22 3 = (-1 : Int) → pj_G L d 6 13 [pj_vR 22, pj_vU, pj_vU, pj_vU, pj_vU, pj_vU] [] M Q) (h2 : M 22 3 ≠ (-1 : Int) → pj_G L d 6 8 [pj_vR 22, pj_vU, pj_vU, pj_vU, pj_vU, pj_vU] [] M Q) : pj_G L d 6 0 [pj_vR 22, pj_vU, pj_vU, pj_vU, pj_vU, pj_vU] [] M Q := by
  refine pj_G_s pj_np6 3 (show pj_gs 3 L 6 0 [pj_vR 22, pj_vU, pj_vU, pj_vU, pj_vU, pj_vU] [] M = some ([], 5, [pj_vR 22, pj_vU, pj_vU, pj_vU, pj_vU, pj_vU], [pj_vI ((-1)), pj_vI (M 22 3)], M) from rfl) trivial ?_
  exact pj_G_if (t := 13) rfl rfl (fun z => h1 (pj_ct_eq (pj_nrm_id r0.1 r0.2) (pj_nrm_id (by omega) (by omega)) z)) (fun z => h2 (pj_cf_eq (pj_nrm_id r0.1 r0.2) (pj_nrm_id (by omega) (by omega)) z))
theorem pj_C6_8 {L d : Nat} {Q : Option pj_V → pj_M → Prop} {M : pj_M}  (h : Q (some (pj_vI (M 22 3))) M) : pj_G L d 6 8 [pj_vR 22, pj_vU, pj_vU, pj_vU, pj_vU, pj_vU] [] M Q := by
  refine pj_G_s pj_np6 2 (show pj_gs 2 L 6 8 [pj_vR 22, pj_vU, pj_vU, pj_vU, pj_vU, pj_vU] [] M = some ([], 12, [pj_vR 22, pj_vU, pj_vU, pj_vU, pj_vU, pj_vU], [pj_vI (M 22 3)], M) from rfl) trivial ?_
  exact pj_G_r rfl rfl rfl h
theorem pj_C6_13 {L d : Nat} {Q : Option pj_V → pj_M → Prop} {M : pj_M}  (h : pj_G L d 2 0 [pj_vR 22] [] M (fun r M1 => pj_G L (d + 1) 6 17 [pj_vR 22, pj_vU, pj_vU, pj_vU, pj_vU, pj_vU] (r.toList ++ []) M1 Q)) : pj_G L (d + 1) 6 13 [pj_vR 22, pj_vU, pj_vU, pj_vU, pj_vU, pj_vU] [] M Q := by
  refine pj_G_s (d := d + 1) pj_np6 1 (show pj_gs 1 L 6 13 [pj_vR 22, pj_vU, pj_vU, pj_vU, pj_vU, pj_vU] [] M = some ([], 14, [pj_vR 22, pj_vU, pj_vU, pj_vU, pj_vU, pj_vU], [pj_vR 22], M) from rfl) trivial ?_
  exact pj_G_k (j := 2) (vs := [pj_vR 22]) (st := []) rfl rfl rfl rfl rfl (Nat.le_of_ble_eq_true rfl) pj_nc2 h
theorem pj_C6_17 {L d : Nat} {Q : Option pj_V → pj_M → Prop} {M : pj_M}  (h : pj_G L d 6 54 [pj_vR 22, pj_vI (pj_and (pj_and (M 26 10) (pj_xor (M 7 13) ((-1)))) (pj_xor (M 7 14) ((-1)))), pj_vI 0, pj_vI 0, pj_vU, pj_vU] [] (pj_up M 22 7 0) Q) : pj_G L d 6 17 [pj_vR 22, pj_vU, pj_vU, pj_vU, pj_vU, pj_vU] [] M Q := by
  refine pj_G_s pj_np6 23 (show pj_gs 23 L 6 17 [pj_vR 22, pj_vU, pj_vU, pj_vU, pj_vU, pj_vU] [] M = some ([], 54, [pj_vR 22, pj_vI (pj_and (pj_and (M 26 10) (pj_xor (M 7 13) ((-1)))) (pj_xor (M 7 14) ((-1)))), pj_vI 0, pj_vI 0, pj_vU, pj_vU], [], pj_up M 22 7 0) from rfl) trivial ?_
  exact h
theorem pj_C6_54 {L d : Nat} {Q : Option pj_V → pj_M → Prop} {M : pj_M} {x1 x2 x3 : Int} (r0 : -2147483648 ≤ x3 ∧ x3 < 2147483648) (h1 : (3 : Int) < x3 → pj_G L d 6 161 [pj_vR 22, pj_vU, pj_vI x2, pj_vU, pj_vU, pj_vU] [] M Q) (h2 : x3 ≤ (3 : Int) → pj_G L d 6 59 [pj_vR 22, pj_vI x1, pj_vI x2, pj_vI x3, pj_vU, pj_vU] [] M Q) : pj_G L d 6 54 [pj_vR 22, pj_vI x1, pj_vI x2, pj_vI x3, pj_vU, pj_vU] [] M Q := by
  refine pj_G_s pj_np6 2 (show pj_gs 2 L 6 54 [pj_vR 22, pj_vI x1, pj_vI x2, pj_vI x3, pj_vU, pj_vU] [] M = some ([], 56, [pj_vR 22, pj_vI x1, pj_vI x2, pj_vI x3, pj_vU, pj_vU], [pj_vI 3, pj_vI x3], M) from rfl) trivial ?_
  exact pj_G_if (t := 161) rfl rfl (fun z => pj_G_loc (pj_lle_e (pj_lle_u rfl (pj_lle_e (pj_lle_u rfl (pj_lle_e (pj_lle_e pj_lle_nil)))))) (h1 (pj_ct_gt (pj_nrm_id r0.1 r0.2) (pj_nrm_id (by omega) (by omega)) z))) (fun z => h2 (pj_cf_gt (pj_nrm_id r0.1 r0.2) (pj_nrm_id (by omega) (by omega)) z))
theorem pj_C6_59 {L d : Nat} {Q : Option pj_V → pj_M → Prop} {M : pj_M} {x1 x2 x3 : Int}  (h : pj_G L d 6 62 [pj_vR 22, pj_vI x1, pj_vI x2, pj_vI x3, pj_vI 0, pj_vU] [] M Q) : pj_G L d 6 59 [pj_vR 22, pj_vI x1, pj_vI x2, pj_vI x3, pj_vU, pj_vU] [] M Q := by
  refine pj_G_s pj_np6 2 (show pj_gs 2 L 6 59 [pj_vR 22, pj_vI x1, pj_vI x2, pj_vI x3, pj_vU, pj_vU] [] M = some ([], 62, [pj_vR 22, pj_vI x1, pj_vI x2, pj_vI x3, pj_vI 0, pj_vU], [], M) from rfl) trivial ?_
  exact h
theorem pj_C6_62 {L d : Nat} {Q : Option pj_V → pj_M → Prop} {M : pj_M} {x1 x2 x3 x4 : Int} (r0 : -2147483648 ≤ x4 ∧ x4 < 2147483648) (r1 : -2147483648 ≤ x1 ∧ x1 < 2147483648) (h1 : x1 < x4 → pj_G L d 6 155 [pj_vR 22, pj_vI x1, pj_vI x2, pj_vI x3, pj_vU, pj_vU] [] M Q) (h2 : x4 ≤ x1 → pj_G L d 6 68 [pj_vR 22, pj_vI x1, pj_vI x2, pj_vI x3, pj_vI x4, pj_vU] [] M Q) : pj_G L d 6 62 [pj_vR 22, pj_vI x1, pj_vI x2, pj_vI x3, pj_vI x4, pj_vU] [] M Q := by
  refine pj_G_s pj_np6 2 (show pj_gs 2 L 6 62 [pj_vR 22, pj_vI x1, pj_vI x2, pj_vI x3, pj_vI x4, pj_vU] [] M = some ([], 65, [pj_vR 22, pj_vI x1, pj_vI x2, pj_vI x3, pj_vI x4, pj_vU], [pj_vI x1, pj_vI x4], M) from rfl) trivial ?_
  exact pj_G_if (t := 155) rfl rfl (fun z => pj_G_loc (pj_lle_e (pj_lle_e (pj_lle_e (pj_lle_e (pj_lle_u rfl (pj_lle_e pj_lle_nil)))))) (h1 (pj_ct_gt (pj_nrm_id r0.1 r0.2) (pj_nrm_id r1.1 r1.2) z))) (fun z => h2 (pj_cf_gt (pj_nrm_id r0.1 r0.2) (pj_nrm_id r1.1 r1.2) z))
theorem pj_C6_68 {L d : Nat} {Q : Option pj_V → pj_M → Prop} {M : pj_M} {x1 x2 x3 x4 : Int}  (h1 : pj_and x4 (pj_xor x1 ((-1))) ≠ 0 → pj_G L d 6 90 [pj_vR 22, pj_vI x1, pj_vI x2, pj_vI x3, pj_vI x4, pj_vU] [] M Q) (h2 : pj_and x4 (pj_xor x1 ((-1))) = 0 → pj_G L d 6 77 [pj_vR 22, pj_vI x1, pj_vI x2, pj_vI x3, pj_vI x4, pj_vU] [] M Q) : pj_G L d 6 68 [pj_vR 22, pj_vI x1, pj_vI x2, pj_vI x3, pj_vI x4, pj_vU] [] M Q := by
  refine pj_G_s pj_np6 5 (show pj_gs 5 L 6 68 [pj_vR 22, pj_vI x1, pj_vI x2, pj_vI x3, pj_vI x4, pj_vU] [] M = some ([], 74, [pj_vR 22, pj_vI x1, pj_vI x2, pj_vI x3, pj_vI x4, pj_vU], [pj_vI (pj_and x4 (pj_xor x1 ((-1))))], M) from rfl) trivial ?_
  exact pj_G_if0 (t := 90) rfl rfl (fun z => h1 (pj_ct_ne (pj_nrm_op _) rfl z)) (fun z => h2 (pj_cf_ne (pj_nrm_op _) rfl z))
theorem pj_C6_77 {L d : Nat} {Q : Option pj_V → pj_M → Prop} {M : pj_M} {x1 x2 x3 x4 : Int}  (h : pj_G L d 150 0 [pj_vI x4] [] M (fun r M1 => pj_G L (d + 1) 6 82 [pj_vR 22, pj_vI x1, pj_vI x2, pj_vI x3, pj_vI x4, pj_vU] (r.toList ++ []) M1 Q)) : pj_G L (d + 1) 6 77 [pj_vR 22, pj_vI x1, pj_vI x2, pj_vI x3, pj_vI x4, pj_vU] [] M Q := by
  refine pj_G_s (d := d + 1) pj_np6 1 (show pj_gs 1 L 6 77 [pj_vR 22, pj_vI x1, pj_vI x2, pj_vI x3, pj_vI x4, pj_vU] [] M = some ([], 79, [pj_vR 22, pj_vI x1, pj_vI x2, pj_vI x3, pj_vI x4, pj_vU], [pj_vI x4], M) from rfl) trivial ?_
  exact pj_G_k (j := 150) (vs := [pj_vI x4]) (st := []) rfl rfl rfl rfl rfl (Nat.le_of_ble_eq_true rfl) pj_nc150 h
theorem pj_C6_82 {L d : Nat} {Q : Option pj_V → pj_M → Prop} {M : pj_M} {x1 x2 x3 x4 s0 : Int} (r0 : -2147483648 ≤ s0 ∧ s0 < 2147483648) (r1 : -2147483648 ≤ x3 ∧ x3 < 2147483648) (h1 : s0 ≠ x3 → pj_G L d 6 90 [pj_vR 22, pj_vI x1, pj_vI x2, pj_vI x3, pj_vI x4, pj_vU] [] M Q) (h2 : s0 = x3 → pj_G L d 6 86 [pj_vR 22, pj_vI x1, pj_vI x2, pj_vI x3, pj_vI x4, pj_vU] [] M Q) : pj_G L d 6 82 [pj_vR 22, pj_vI x1, pj_vI x2, pj_vI x3, pj_vI x4, pj_vU] [pj_vI s0] M Q := by
  refine pj_G_s pj_np6 1 (show pj_gs 1 L 6 82 [pj_vR 22, pj_vI x1, pj_vI x2, pj_vI x3, pj_vI x4, pj_vU] [pj_vI s0] M = some ([], 83, [pj_vR 22, pj_vI x1, pj_vI x2, pj_vI x3, pj_vI x4, pj_vU], [pj_vI x3, pj_vI s0], M) from rfl) trivial ?_
  exact pj_G_if (t := 90) rfl rfl (fun z => h1 (pj_ct_ne (pj_nrm_id r0.1 r0.2) (pj_nrm_id r1.1 r1.2) z)) (fun z => h2 (pj_cf_ne (pj_nrm_id r0.1 r0.2) (pj_nrm_id r1.1 r1.2) z))
theorem pj_C6_86 {L d : Nat} {Q : Option pj_V → pj_M → Prop} {M : pj_M} {x1 x2 x3 x4 : Int}  (h : pj_G L d 6 91 [pj_vR 22, pj_vI x1, pj_vI x2, pj_vI x3, pj_vI x4, pj_vU] [pj_vI 1] M Q) : pj_G L d 6 86 [pj_vR 22, pj_vI x1, pj_vI x2, pj_vI x3, pj_vI x4, pj_vU] [] M Q := by
  refine pj_G_s pj_np6 2 (show pj_gs 2 L 6 86 [pj_vR 22, pj_vI x1, pj_vI x2, pj_vI x3, pj_vI x4, pj_vU] [] M = some ([], 91, [pj_vR 22, pj_vI x1, pj_vI x2, pj_vI x3, pj_vI x4, pj_vU], [pj_vI 1], M) from rfl) trivial ?_
  exact h
theorem pj_C6_91 {L d : Nat} {Q : Option pj_V → pj_M → Prop} {M : pj_M} {x1 x2 x3 x4 s0 : Int} (r0 : -2147483648 ≤ s0 ∧ s0 < 2147483648) (h1 : s0 = 0 → pj_G L d 6 149 [pj_vR 22, pj_vI x1, pj_vI x2, pj_vI x3, pj_vI x4, pj_vU] [] M Q) (h2 : s0 ≠ 0 → pj_G L d 6 98 [pj_vR 22, pj_vI x1, pj_vI x2, pj_vI x3, pj_vI x4, pj_vU] [] M Q) : pj_G L d 6 91 [pj_vR 22, pj_vI x1, pj_vI x2, pj_vI x3, pj_vI x4, pj_vU] [pj_vI s0] M Q := by
  refine pj_G_s pj_np6 2 (show pj_gs 2 L 6 91 [pj_vR 22, pj_vI x1, pj_vI x2, pj_vI x3, pj_vI x4, pj_vU] [pj_vI s0] M = some ([], 95, [pj_vR 22, pj_vI x1, pj_vI x2, pj_vI x3, pj_vI x4, pj_vI s0], [pj_vI s0], M) from rfl) trivial ?_
  exact pj_G_if0 (t := 149) rfl rfl (fun z => pj_G_loc (pj_lle_e (pj_lle_e (pj_lle_e (pj_lle_e (pj_lle_e (pj_lle_u rfl pj_lle_nil)))))) (h1 (pj_ct_eq (pj_nrm_id r0.1 r0.2) rfl z))) (fun z => pj_G_loc (pj_lle_e (pj_lle_e (pj_lle_e (pj_lle_e (pj_lle_e (pj_lle_u rfl pj_lle_nil)))))) (h2 (pj_cf_eq (pj_nrm_id r0.1 r0.2) rfl z)))
theorem pj_C6_98 {L d : Nat} {Q : Option pj_V → pj_M → Prop} {M : pj_M} {x1 x2 x3 x4 : Int} (r0 : -2147483648 ≤ x2 ∧ x2 < 2147483648) (h1 : (35 : Int) ≤ x2 → pj_G L d 6 149 [pj_vR 22, pj_vI x1, pj_vI x2, pj_vI x3, pj_vI x4, pj_vU] [] M Q) (h2 : x2 < (35 : Int) → pj_G L d 6 104 [pj_vR 22, pj_vI x1, pj_vI x2, pj_vI x3, pj_vI x4, pj_vU] [] M Q) : pj_G L d 6 98 [pj_vR 22, pj_vI x1, pj_vI x2, pj_vI x3, pj_vI x4, pj_vU] [] M Q := by
  refine pj_G_s pj_np6 2 (show pj_gs 2 L 6 98 [pj_vR 22, pj_vI x1, pj_vI x2, pj_vI x3, pj_vI x4, pj_vU] [] M = some ([], 101, [pj_vR 22, pj_vI x1, pj_vI x2, pj_vI x3, pj_vI x4, pj_vU], [pj_vI 35, pj_vI x2], M) from rfl) trivial ?_
  exact pj_G_if (t := 149) rfl rfl (fun z => h1 (pj_ct_ge (pj_nrm_id r0.1 r0.2) (pj_nrm_id (by omega) (by omega)) z)) (fun z => h2 (pj_cf_ge (pj_nrm_id r0.1 r0.2) (pj_nrm_id (by omega) (by omega)) z))
theorem pj_C6_104 {L d : Nat} {Q : Option pj_V → pj_M → Prop} {M : pj_M} {x1 x2 x3 x4 : Int}  (h : pj_G L d 8 0 [pj_vI x4, pj_vR 23, pj_vI x2, pj_vU] [] M (fun r M1 => pj_G L (d + 1) 6 114 [pj_vR 22, pj_vI x1, pj_vI x2, pj_vI x3, pj_vI x4, pj_vU] (r.toList ++ []) M1 Q)) : pj_G L (d + 1) 6 104 [pj_vR 22, pj_vI x1, pj_vI x2, pj_vI x3, pj_vI x4, pj_vU] [] M Q := by
  refine pj_G_s (d := d + 1) pj_np6 4 (show pj_gs 4 L 6 104 [pj_vR 22, pj_vI x1, pj_vI x2, pj_vI x3, pj_vI x4, pj_vU] [] M = some ([], 111, [pj_vR 22, pj_vI x1, pj_vI x2, pj_vI x3, pj_vI x4, pj_vU], [pj_vI x2, pj_vR 23, pj_vI x4], M) from rfl) trivial ?_
  exact pj_G_k (j := 8) (vs := [pj_vI x4, pj_vR 23, pj_vI x2]) (st := []) rfl rfl rfl rfl rfl (Nat.le_of_ble_eq_true rfl) pj_nc8 h
theorem pj_C6_114 {L d : Nat} {Q : Option pj_V → pj_M → Prop} {M : pj_M} {x1 x2 x3 x4 s0 : Int} (r0 : -2147483648 ≤ s0 ∧ s0 < 2147483648) (h1 : s0 ≠ 0 → pj_G L d 6 149 [pj_vR 22, pj_vI x1, pj_vI x2, pj_vI x3, pj_vI x4, pj_vU] [] M Q) (h2 : s0 = 0 → pj_G L d 6 117 [pj_vR 22, pj_vI x1, pj_vI x2, pj_vI x3, pj_vI x4, pj_vU] [] M Q) : pj_G L d 6 114 [pj_vR 22, pj_vI x1, pj_vI x2, pj_vI x3, pj_vI x4, pj_vU] [pj_vI s0] M Q := by
  exact pj_G_if0 (t := 149) rfl rfl (fun z => h1 (pj_ct_ne (pj_nrm_id r0.1 r0.2) rfl z)) (fun z => h2 (pj_cf_ne (pj_nrm_id r0.1 r0.2) rfl z))
theorem pj_C6_117 {L d : Nat} {Q : Option pj_V → pj_M → Prop} {M : pj_M} {x1 x2 x3 x4 : Int}  (h : pj_G L d 35 0 [pj_vR 26, pj_vI x4, pj_vI 0, pj_vU, pj_vU] [] M (fun r M1 => pj_G L (d + 1) 6 127 [pj_vR 22, pj_vI x1, pj_vI x2, pj_vI x3, pj_vI x4, pj_vU] (r.toList ++ []) M1 Q)) : pj_G L (d + 1) 6 117 [pj_vR 22, pj_vI x1, pj_vI x2, pj_vI x3, pj_vI x4, pj_vU] [] M Q := by
  refine pj_G_s (d := d + 1) pj_np6 4 (show pj_gs 4 L 6 117 [pj_vR 22, pj_vI x1, pj_vI x2, pj_vI x3, pj_vI x4, pj_vU] [] M = some ([], 124, [pj_vR 22, pj_vI x1, pj_vI x2, pj_vI x3, pj_vI x4, pj_vU], [pj_vI 0, pj_vI x4, pj_vR 26], M) from rfl) trivial ?_
  exact pj_G_k (j := 35) (vs := [pj_vR 26, pj_vI x4, pj_vI 0]) (st := []) rfl rfl rfl rfl rfl (Nat.le_of_ble_eq_true rfl) pj_nc35 h
theorem pj_C6_127 {L d : Nat} {Q : Option pj_V → pj_M → Prop} {M : pj_M} {x1 x2 x3 x4 : Int}  (h : pj_G L d 37 0 [pj_vR 26, pj_vI 0, pj_vU, pj_vU, pj_vU] [] M (fun r M1 => pj_G L (d + 1) 6 135 [pj_vR 22, pj_vI x1, pj_vI x2, pj_vI x3, pj_vI x4, pj_vU] (r.toList ++ []) M1 Q)) : pj_G L (d + 1) 6 127 [pj_vR 22, pj_vI x1, pj_vI x2, pj_vI x3, pj_vI x4, pj_vU] [] M Q := by
  refine pj_G_s (d := d + 1) pj_np6 3 (show pj_gs 3 L 6 127 [pj_vR 22, pj_vI x1, pj_vI x2, pj_vI x3, pj_vI x4, pj_vU] [] M = some ([], 132, [pj_vR 22, pj_vI x1, pj_vI x2, pj_vI x3, pj_vI x4, pj_vU], [pj_vI 0, pj_vR 26], M) from rfl) trivial ?_
  exact pj_G_k (j := 37) (vs := [pj_vR 26, pj_vI 0]) (st := []) rfl rfl rfl rfl rfl (Nat.le_of_ble_eq_true rfl) pj_nc37 h
theorem pj_C6_135 {L d : Nat} {Q : Option pj_V → pj_M → Prop} {M : pj_M} {x1 x2 x3 x4 s0 : Int} (r0 : -2147483648 ≤ s0 ∧ s0 < 2147483648) (h1 : s0 = 0 → pj_G L d 6 149 [pj_vR 22, pj_vI x1, pj_vI x2, pj_vI x3, pj_vI x4, pj_vU] [] M Q) (h2 : s0 ≠ 0 → pj_G L d 6 138 [pj_vR 22, pj_vI x1, pj_vI x2, pj_vI x3, pj_vI x4, pj_vU] [] M Q) : pj_G L d 6 135 [pj_vR 22, pj_vI x1, pj_vI x2, pj_vI x3, pj_vI x4, pj_vU] [pj_vI s0] M Q := by
  exact pj_G_if0 (t := 149) rfl rfl (fun z => h1 (pj_ct_eq (pj_nrm_id r0.1 r0.2) rfl z)) (fun z => h2 (pj_cf_eq (pj_nrm_id r0.1 r0.2) rfl z))
theorem pj_C6_138 {L d : Nat} {Q : Option pj_V → pj_M → Prop} {M : pj_M} {x1 x2 x3 x4 : Int} (j0 : Nat) (ej0 : x2 = (j0 : Int)) (bj0 : j0 < 35) (h : pj_G L d 6 149 [pj_vR 22, pj_vI x1, pj_vI (x2 + 1), pj_vI x3, pj_vI x4, pj_vU] [] (pj_up M 23 j0 x4) Q) : pj_G L d 6 138 [pj_vR 22, pj_vI x1, pj_vI x2, pj_vI x3, pj_vI x4, pj_vU] [] M Q := by
  have nj0 : pj_nrm x2 = (j0 : Int) := pj_nk ej0 (by omega)
  refine pj_G_s pj_np6 6 (show pj_gs 6 L 6 138 [pj_vR 22, pj_vI x1, pj_vI x2, pj_vI x3, pj_vI x4, pj_vU] [] M = some ([0 ≤ pj_nrm x2 ∧ pj_nrm x2 < (35 : Int)], 149, [pj_vR 22, pj_vI x1, pj_vI (x2 + 1), pj_vI x3, pj_vI x4, pj_vU], [], pj_up M 23 (pj_nrm x2).toNat x4) from rfl) ⟨by omega, trivial⟩ ?_
  simp only [nj0, Int.toNat_natCast]
  exact h
theorem pj_C6_149 {L d : Nat} {Q : Option pj_V → pj_M → Prop} {M : pj_M} {x1 x2 x3 x4 : Int}  (h : pj_G L d 6 62 [pj_vR 22, pj_vI x1, pj_vI x2, pj_vI x3, pj_vI (x4 + 1), pj_vU] [] M Q) : pj_G L d 6 149 [pj_vR 22, pj_vI x1, pj_vI x2, pj_vI x3, pj_vI x4, pj_vU] [] M Q := by
  refine pj_G_s pj_np6 2 (show pj_gs 2 L 6 149 [pj_vR 22, pj_vI x1, pj_vI x2, pj_vI x3, pj_vI x4, pj_vU] [] M = some ([], 62, [pj_vR 22, pj_vI x1, pj_vI x2, pj_vI x3, pj_vI (x4 + 1), pj_vU], [], M) from rfl) trivial ?_
  exact h
theorem pj_C6_90 {L d : Nat} {Q : Option pj_V → pj_M → Prop} {M : pj_M} {x1 x2 x3 x4 : Int}  (h : pj_G L d 6 91 [pj_vR 22, pj_vI x1, pj_vI x2, pj_vI x3, pj_vI x4, pj_vU] [pj_vI 0] M Q) : pj_G L d 6 90 [pj_vR 22, pj_vI x1, pj_vI x2, pj_vI x3, pj_vI x4, pj_vU] [] M Q := by
  refine pj_G_s pj_np6 1 (show pj_gs 1 L 6 90 [pj_vR 22, pj_vI x1, pj_vI x2, pj_vI x3, pj_vI x4, pj_vU] [] M = some ([], 91, [pj_vR 22, pj_vI x1, pj_vI x2, pj_vI x3, pj_vI x4, pj_vU], [pj_vI 0], M) from rfl) trivial ?_
  exact h
theorem pj_C6_155 {L d : Nat} {Q : Option pj_V → pj_M → Prop} {M : pj_M} {x1 x2 x3 : Int}  (h : pj_G L d 6 54 [pj_vR 22, pj_vI x1, pj_vI x2, pj_vI (x3 + 1), pj_vU, pj_vU] [] M Q) : pj_G L d 6 155 [pj_vR 22, pj_vI x1, pj_vI x2, pj_vI x3, pj_vU, pj_vU] [] M Q := by
  refine pj_G_s pj_np6 2 (show pj_gs 2 L 6 155 [pj_vR 22, pj_vI x1, pj_vI x2, pj_vI x3, pj_vU, pj_vU] [] M = some ([], 54, [pj_vR 22, pj_vI x1, pj_vI x2, pj_vI (x3 + 1), pj_vU, pj_vU], [], M) from rfl) trivial ?_
  exact h
theorem pj_C6_161 {L d : Nat} {Q : Option pj_V → pj_M → Prop} {M : pj_M} {x2 : Int}  (h : Q (some (pj_vI x2)) (pj_up M 22 3 x2)) : pj_G L d 6 161 [pj_vR 22, pj_vU, pj_vI x2, pj_vU, pj_vU, pj_vU] [] M Q := by
  refine pj_G_s pj_np6 4 (show pj_gs 4 L 6 161 [pj_vR 22, pj_vU, pj_vI x2, pj_vU, pj_vU, pj_vU] [] M = some ([], 167, [pj_vR 22, pj_vU, pj_vI x2, pj_vU, pj_vU, pj_vU], [pj_vI x2], pj_up M 22 3 x2) from rfl) trivial ?_
  exact pj_G_r rfl rfl rfl h
theorem pj_C7_0 {L d : Nat} {Q : Option pj_V → pj_M → Prop} {M : pj_M} (r0 : -2147483648 ≤ M 22 5 ∧ M 22 5 < 2147483648) (h1 : M 22 5 = (-1 : Int) → pj_G L d 7 13 [pj_vR 22, pj_vU, pj_vU, pj_vU, pj_vU, pj_vU] [] M Q) (h2 : M 22 5 ≠ (-1 : Int) → pj_G L d 7 8 [pj_vR 22, pj_vU, pj_vU, pj_vU, pj_vU, pj_vU] [] M Q) : pj_G L d 7 0 [pj_vR 22, pj_vU, pj_vU, pj_vU, pj_vU, pj_vU] [] M Q := by
  refine pj_G_s pj_np7 3 (show pj_gs 3 L 7 0 [pj_vR 22, pj_vU, pj_vU, pj_vU, pj_vU, pj_vU] [] M = some ([], 5, [pj_vR 22, pj_vU, pj_vU, pj_vU, pj_vU, pj_vU], [pj_vI ((-1)), pj_vI (M 22 5)], M) from rfl) trivial ?_
  exact pj_G_if (t := 13) rfl rfl (fun z => h1 (pj_ct_eq (pj_nrm_id r0.1 r0.2) (pj_nrm_id (by omega) (by omega)) z)) (fun z => h2 (pj_cf_eq (pj_nrm_id r0.1 r0.2) (pj_nrm_id (by omega) (by omega)) z))
theorem pj_C7_8 {L d : Nat} {Q : Option pj_V → pj_M → Prop} {M : pj_M}  (h : Q (some (pj_vI (M 22 5))) M) : pj_G L d 7 8 [pj_vR 22, pj_vU, pj_vU, pj_vU, pj_vU, pj_vU] [] M Q := by
  refine pj_G_s pj_np7 2 (show pj_gs 2 L 7 8 [pj_vR 22, pj_vU, pj_vU, pj_vU, pj_vU, pj_vU] [] M = some ([], 12, [pj_vR 22, pj_vU, pj_vU, pj_vU, pj_vU, pj_vU], [pj_vI (M 22 5)], M) from rfl) trivial ?_
  exact pj_G_r rfl rfl rfl h
theorem pj_C7_13 {L d : Nat} {Q : Option pj_V → pj_M → Prop} {M : pj_M}  (h : pj_G L d 2 0 [pj_vR 22] [] M (fun r M1 => pj_G L (d + 1) 7 17 [pj_vR 22, pj_vU, pj_vU, pj_vU, pj_vU, pj_vU] (r.toList ++ []) M1 Q)) : pj_G L (d + 1) 7 13 [pj_vR 22, pj_vU, pj_vU, pj_vU, pj_vU, pj_vU] [] M Q := by
  refine pj_G_s (d := d + 1) pj_np7 1 (show pj_gs 1 L 7 13 [pj_vR 22, pj_vU, pj_vU, pj_vU, pj_vU, pj_vU] [] M = some ([], 14, [pj_vR 22, pj_vU, pj_vU, pj_vU, pj_vU, pj_vU], [pj_vR 22], M) from rfl) trivial ?_
  exact pj_G_k (j := 2) (vs := [pj_vR 22]) (st := []) rfl rfl rfl rfl rfl (Nat.le_of_ble_eq_true rfl) pj_nc2 h
theorem pj_C7_17 {L d : Nat} {Q : Option pj_V → pj_M → Prop} {M : pj_M}  (h : pj_G L d 36 0 [pj_vR 26, pj_vI (pj_and (M 26 10) (pj_xor (M 7 13) ((-1)))), pj_vU] [] M (fun r M1 => pj_G L (d + 1) 7 43 [pj_vR 22, pj_vI (pj_and (M 26 10) (pj_xor (M 7 13) ((-1)))), pj_vU, pj_vU, pj_vU, pj_vU] (r.toList ++ []) M1 Q)) : pj_G L (d + 1) 7 17 [pj_vR 22, pj_vU, pj_vU, pj_vU, pj_vU, pj_vU] [] M Q := by
  refine pj_G_s (d := d + 1) pj_np7 13 (show pj_gs 13 L 7 17 [pj_vR 22, pj_vU, pj_vU, pj_vU, pj_vU, pj_vU] [] M = some ([], 40, [pj_vR 22, pj_vI (pj_and (M 26 10) (pj_xor (M 7 13) ((-1)))), pj_vU, pj_vU, pj_vU, pj_vU], [pj_vI (pj_and (M 26 10) (pj_xor (M 7 13) ((-1)))), pj_vR 26], M) from rfl) trivial ?_
  exact pj_G_k (j := 36) (vs := [pj_vR 26, pj_vI (pj_and (M 26 10) (pj_xor (M 7 13) ((-1))))]) (st := []) rfl rfl rfl rfl rfl (Nat.le_of_ble_eq_true rfl) pj_nc36 h
theorem pj_C7_43 {L d : Nat} {Q : Option pj_V → pj_M → Prop} {M : pj_M} {x1 : Int}  (h : pj_G L d 37 0 [pj_vR 26, pj_vI 0, pj_vU, pj_vU, pj_vU] [] M (fun r M1 => pj_G L (d + 1) 7 51 [pj_vR 22, pj_vI x1, pj_vU, pj_vU, pj_vU, pj_vU] (r.toList ++ []) M1 Q)) : pj_G L (d + 1) 7 43 [pj_vR 22, pj_vI x1, pj_vU, pj_vU, pj_vU, pj_vU] [] M Q := by
  refine pj_G_s (d := d + 1) pj_np7 3 (show pj_gs 3 L 7 43 [pj_vR 22, pj_vI x1, pj_vU, pj_vU, pj_vU, pj_vU] [] M = some ([], 48, [pj_vR 22, pj_vI x1, pj_vU, pj_vU, pj_vU, pj_vU], [pj_vI 0, pj_vR 26], M) from rfl) trivial ?_
  exact pj_G_k (j := 37) (vs := [pj_vR 26, pj_vI 0]) (st := []) rfl rfl rfl rfl rfl (Nat.le_of_ble_eq_true rfl) pj_nc37 h
theorem pj_C7_51 {L d : Nat} {Q : Option pj_V → pj_M → Prop} {M : pj_M} {x1 s0 : Int} (r0 : -2147483648 ≤ s0 ∧ s0 < 2147483648) (h1 : s0 = 0 → pj_G L d 7 58 [pj_vR 22, pj_vI x1, pj_vU, pj_vU, pj_vU, pj_vU] [] M Q) (h2 : s0 ≠ 0 → pj_G L d 7 54 [pj_vR 22, pj_vI x1, pj_vU, pj_vU, pj_vU, pj_vU] [] M Q) : pj_G L d 7 51 [pj_vR 22, pj_vI x1, pj_vU, pj_vU, pj_vU, pj_vU] [pj_vI s0] M Q := by
  exact pj_G_if0 (t := 58) rfl rfl (fun z => h1 (pj_ct_eq (pj_nrm_id r0.1 r0.2) rfl z)) (fun z => h2 (pj_cf_eq (pj_nrm_id r0.1 r0.2) rfl z))
theorem pj_C7_54 {L d : Nat} {Q : Option pj_V → pj_M → Prop} {M : pj_M} {x1 : Int}  (h : pj_G L d 7 59 [pj_vR 22, pj_vI x1, pj_vU, pj_vU, pj_vU, pj_vU] [pj_vI ((-1))] M Q) : pj_G L d 7 54 [pj_vR 22, pj_vI x1, pj_vU, pj_vU, pj_vU, pj_vU] [] M Q := by
  refine pj_G_s pj_np7 2 (show pj_gs 2 L 7 54 [pj_vR 22, pj_vI x1, pj_vU, pj_vU, pj_vU, pj_vU] [] M = some ([], 59, [pj_vR 22, pj_vI x1, pj_vU, pj_vU, pj_vU, pj_vU], [pj_vI ((-1))], M) from rfl) trivial ?_
  exact h
theorem pj_C7_59 {L d : Nat} {Q : Option pj_V → pj_M → Prop} {M : pj_M} {x1 s0 : Int}  (h : pj_G L d 7 65 [pj_vR 22, pj_vI x1, pj_vI s0, pj_vI 0, pj_vI 0, pj_vU] [] M Q) : pj_G L d 7 59 [pj_vR 22, pj_vI x1, pj_vU, pj_vU, pj_vU, pj_vU] [pj_vI s0] M Q := by
  refine pj_G_s pj_np7 5 (show pj_gs 5 L 7 59 [pj_vR 22, pj_vI x1, pj_vU, pj_vU, pj_vU, pj_vU] [pj_vI s0] M = some ([], 65, [pj_vR 22, pj_vI x1, pj_vI s0, pj_vI 0, pj_vI 0, pj_vU], [], M) from rfl) trivial ?_
  exact h
theorem pj_C7_65 {L d : Nat} {Q : Option pj_V → pj_M → Prop} {M : pj_M} {x1 x2 x3 x4 : Int} (r0 : -2147483648 ≤ x4 ∧ x4 < 2147483648) (r1 : -2147483648 ≤ x2 ∧ x2 < 2147483648) (h1 : x2 < x4 → pj_G L d 7 148 [pj_vR 22, pj_vU, pj_vU, pj_vI x3, pj_vU, pj_vU] [] M Q) (h2 : x4 ≤ x2 → pj_G L d 7 71 [pj_vR 22, pj_vI x1, pj_vI x2, pj_vI x3, pj_vI x4, pj_vU] [] M Q) : pj_G L d 7 65 [pj_vR 22, pj_vI x1, pj_vI x2, pj_vI x3, pj_vI x4, pj_vU] [] M Q := by
  refine pj_G_s pj_np7 2 (show pj_gs 2 L 7 65 [pj_vR 22, pj_vI x1, pj_vI x2, pj_vI x3, pj_vI x4, pj_vU] [] M = some ([], 68, [pj_vR 22, pj_vI x1, pj_vI x2, pj_vI x3, pj_vI x4, pj_vU], [pj_vI x2, pj_vI x4], M) from rfl) trivial ?_
  exact pj_G_if (t := 148) rfl rfl (fun z => pj_G_loc (pj_lle_e (pj_lle_u rfl (pj_lle_u rfl (pj_lle_e (pj_lle_u rfl (pj_lle_e pj_lle_nil)))))) (h1 (pj_ct_gt (pj_nrm_id r0.1 r0.2) (pj_nrm_id r1.1 r1.2) z))) (fun z => h2 (pj_cf_gt (pj_nrm_id r0.1 r0.2) (pj_nrm_id r1.1 r1.2) z))
theorem pj_C7_71 {L d : Nat} {Q : Option pj_V → pj_M → Prop} {M : pj_M} {x1 x2 x3 x4 : Int}  (h1 : pj_and x4 (pj_xor x1 ((-1))) ≠ 0 → pj_G L d 7 90 [pj_vR 22, pj_vI x1, pj_vI x2, pj_vI x3, pj_vI x4, pj_vU] [] M Q) (h2 : pj_and x4 (pj_xor x1 ((-1))) = 0 → pj_G L d 7 80 [pj_vR 22, pj_vI x1, pj_vI x2, pj_vI x3, pj_vI x4, pj_vU] [] M Q) : pj_G L d 7 71 [pj_vR 22, pj_vI x1, pj_vI x2, pj_vI x3, pj_vI x4, pj_vU] [] M Q := by
  refine pj_G_s pj_np7 5 (show pj_gs 5 L 7 71 [pj_vR 22, pj_vI x1, pj_vI x2, pj_vI x3, pj_vI x4, pj_vU] [] M = some ([], 77, [pj_vR 22, pj_vI x1, pj_vI x2, pj_vI x3, pj_vI x4, pj_vU], [pj_vI (pj_and x4 (pj_xor x1 ((-1))))], M) from rfl) trivial ?_
  exact pj_G_if0 (t := 90) rfl rfl (fun z => h1 (pj_ct_ne (pj_nrm_op _) rfl z)) (fun z => h2 (pj_cf_ne (pj_nrm_op _) rfl z))
theorem pj_C7_80 {L d : Nat} {Q : Option pj_V → pj_M → Prop} {M : pj_M} {x1 x2 x3 x4 : Int} (r0 : -2147483648 ≤ x3 ∧ x3 < 2147483648) (h1 : (35 : Int) ≤ x3 → pj_G L d 7 90 [pj_vR 22, pj_vI x1, pj_vI x2, pj_vI x3, pj_vI x4, pj_vU] [] M Q) (h2 : x3 < (35 : Int) → pj_G L d 7 86 [pj_vR 22, pj_vI x1, pj_vI x2, pj_vI x3, pj_vI x4, pj_vU] [] M Q) : pj_G L d 7 80 [pj_vR 22, pj_vI x1, pj_vI x2, pj_vI x3, pj_vI x4, pj_vU] [] M Q := by
  refine pj_G_s pj_np7 2 (show pj_gs 2 L 7 80 [pj_vR 22, pj_vI x1, pj_vI x2, pj_vI x3, pj_vI x4, pj_vU] [] M = some ([], 83, [pj_vR 22, pj_vI x1, pj_vI x2, pj_vI x3, pj_vI x4, pj_vU], [pj_vI 35, pj_vI x3], M) from rfl) trivial ?_
  exact pj_G_if (t := 90) rfl rfl (fun z => h1 (pj_ct_ge (pj_nrm_id r0.1 r0.2) (pj_nrm_id (by omega) (by omega)) z)) (fun z => h2 (pj_cf_ge (pj_nrm_id r0.1 r0.2) (pj_nrm_id (by omega) (by omega)) z))
theorem pj_C7_86 {L d : Nat} {Q : Option pj_V → pj_M → Prop} {M : pj_M} {x1 x2 x3 x4 : Int}  (h : pj_G L d 7 91 [pj_vR 22, pj_vI x1, pj_vI x2, pj_vI x3, pj_vI x4, pj_vU] [pj_vI 1] M Q) : pj_G L d 7 86 [pj_vR 22, pj_vI x1, pj_vI x2, pj_vI x3, pj_vI x4, pj_vU] [] M Q := by
  refine pj_G_s pj_np7 2 (show pj_gs 2 L 7 86 [pj_vR 22, pj_vI x1, pj_vI x2, pj_vI x3, pj_vI x4, pj_vU] [] M = some ([], 91, [pj_vR 22, pj_vI x1, pj_vI x2, pj_vI x3, pj_vI x4, pj_vU], [pj_vI 1], M) from rfl) trivial ?_
  exact h
theorem pj_C7_91 {L d : Nat} {Q : Option pj_V → pj_M → Prop} {M : pj_M} {x1 x2 x3 x4 s0 : Int} (r0 : -2147483648 ≤ s0 ∧ s0 < 2147483648) (h1 : s0 = 0 → pj_G L d 7 142 [pj_vR 22, pj_vI x1, pj_vI x2, pj_vI x3, pj_vI x4, pj_vU] [] M Q) (h2 : s0 ≠ 0 → pj_G L d 7 98 [pj_vR 22, pj_vI x1, pj_vI x2, pj_vI x3, pj_vI x4, pj_vU] [] M Q) : pj_G L d 7 91 [pj_vR 22, pj_vI x1, pj_vI x2, pj_vI x3, pj_vI x4, pj_vU] [pj_vI s0] M Q := by
  refine pj_G_s pj_np7 2 (show pj_gs 2 L 7 91 [pj_vR 22, pj_vI x1, pj_vI x2, pj_vI x3, pj_vI x4, pj_vU] [pj_vI s0] M = some ([], 95, [pj_vR 22, pj_vI x1, pj_vI x2, pj_vI x3, pj_vI x4, pj_vI s0], [pj_vI s0], M) from rfl) trivial ?_
  exact pj_G_if0 (t := 142) rfl rfl (fun z => pj_G_loc (pj_lle_e (pj_lle_e (pj_lle_e (pj_lle_e (pj_lle_e (pj_lle_u rfl pj_lle_nil)))))) (h1 (pj_ct_eq (pj_nrm_id r0.1 r0.2) rfl z))) (fun z => pj_G_loc (pj_lle_e (pj_lle_e (pj_lle_e (pj_lle_e (pj_lle_e (pj_lle_u rfl pj_lle_nil)))))) (h2 (pj_cf_eq (pj_nrm_id r0.1 r0.2) rfl z)))
theorem pj_C7_98 {L d : Nat} {Q : Option pj_V → pj_M → Prop} {M : pj_M} {x1 x2 x3 x4 : Int}  (h : pj_G L d 8 0 [pj_vI x4, pj_vR 24, pj_vI x3, pj_vU] [] M (fun r M1 => pj_G L (d + 1) 7 108 [pj_vR 22, pj_vI x1, pj_vI x2, pj_vI x3, pj_vI x4, pj_vU] (r.toList ++ []) M1 Q)) : pj_G L (d + 1) 7 98 [pj_vR 22, pj_vI x1, pj_vI x2, pj_vI x3, pj_vI x4, pj_vU] [] M Q := by
  refine pj_G_s (d := d + 1) pj_np7 4 (show pj_gs 4 L 7 98 [pj_vR 22, pj_vI x1, pj_vI x2, pj_vI x3, pj_vI x4, pj_vU] [] M = some ([], 105, [pj_vR 22, pj_vI x1, pj_vI x2, pj_vI x3, pj_vI x4, pj_vU], [pj_vI x3, pj_vR 24, pj_vI x4], M) from rfl) trivial ?_
  exact pj_G_k (j := 8) (vs := [pj_vI x4, pj_vR 24, pj_vI x3]) (st := []) rfl rfl rfl rfl rfl (Nat.le_of_ble_eq_true rfl) pj_nc8 h
theorem pj_C7_108 {L d : Nat} {Q : Option pj_V → pj_M → Prop} {M : pj_M} {x1 x2 x3 x4 s0 : Int} (r0 : -2147483648 ≤ s0 ∧ s0 < 2147483648) (h1 : s0 ≠ 0 → pj_G L d 7 142 [pj_vR 22, pj_vI x1, pj_vI x2, pj_vI x3, pj_vI x4, pj_vU] [] M Q) (h2 : s0 = 0 → pj_G L d 7 111 [pj_vR 22, pj_vI x1, pj_vI x2, pj_vI x3, pj_vI x4, pj_vU] [] M Q) : pj_G L d 7 108 [pj_vR 22, pj_vI x1, pj_vI x2, pj_vI x3, pj_vI x4, pj_vU] [pj_vI s0] M Q := by
  exact pj_G_if0 (t := 142) rfl rfl (fun z => h1 (pj_ct_ne (pj_nrm_id r0.1 r0.2) rfl z)) (fun z => h2 (pj_cf_ne (pj_nrm_id r0.1 r0.2) rfl z))
theorem pj_C7_111 {L d : Nat} {Q : Option pj_V → pj_M → Prop} {M : pj_M} {x1 x2 x3 x4 : Int}  (h : pj_G L d 36 0 [pj_vR 26, pj_vI x4, pj_vU] [] M (fun r M1 => pj_G L (d + 1) 7 120 [pj_vR 22, pj_vI x1, pj_vI x2, pj_vI x3, pj_vI x4, pj_vU] (r.toList ++ []) M1 Q)) : pj_G L (d + 1) 7 111 [pj_vR 22, pj_vI x1, pj_vI x2, pj_vI x3, pj_vI x4, pj_vU] [] M Q := by
  refine pj_G_s (d := d + 1) pj_np7 3 (show pj_gs 3 L 7 111 [pj_vR 22, pj_vI x1, pj_vI x2, pj_vI x3, pj_vI x4, pj_vU] [] M = some ([], 117, [pj_vR 22, pj_vI x1, pj_vI x2, pj_vI x3, pj_vI x4, pj_vU], [pj_vI x4, pj_vR 26], M) from rfl) trivial ?_
  exact pj_G_k (j := 36) (vs := [pj_vR 26, pj_vI x4]) (st := []) rfl rfl rfl rfl rfl (Nat.le_of_ble_eq_true rfl) pj_nc36 h
theorem pj_C7_120 {L d : Nat} {Q : Option pj_V → pj_M → Prop} {M : pj_M} {x1 x2 x3 x4 : Int}  (h : pj_G L d 37 0 [pj_vR 26, pj_vI 0, pj_vU, pj_vU, pj_vU] [] M (fun r M1 => pj_G L (d + 1) 7 128 [pj_vR 22, pj_vI x1, pj_vI x2, pj_vI x3, pj_vI x4, pj_vU] (r.toList ++ []) M1 Q)) : pj_G L (d + 1) 7 120 [pj_vR 22, pj_vI x1, pj_vI x2, pj_vI x3, pj_vI x4, pj_vU] [] M Q := by
  refine pj_G_s (d := d + 1) pj_np7 3 (show pj_gs 3 L 7 120 [pj_vR 22, pj_vI x1, pj_vI x2, pj_vI x3, pj_vI x4, pj_vU] [] M = some ([], 125, [pj_vR 22, pj_vI x1, pj_vI x2, pj_vI x3, pj_vI x4, pj_vU], [pj_vI 0, pj_vR 26], M) from rfl) trivial ?_
  exact pj_G_k (j := 37) (vs := [pj_vR 26, pj_vI 0]) (st := []) rfl rfl rfl rfl rfl (Nat.le_of_ble_eq_true rfl) pj_nc37 h
theorem pj_C7_128 {L d : Nat} {Q : Option pj_V → pj_M → Prop} {M : pj_M} {x1 x2 x3 x4 s0 : Int} (r0 : -2147483648 ≤ s0 ∧ s0 < 2147483648) (h1 : s0 ≠ 0 → pj_G L d 7 142 [pj_vR 22, pj_vI x1, pj_vI x2, pj_vI x3, pj_vI x4, pj_vU] [] M Q) (h2 : s0 = 0 → pj_G L d 7 131 [pj_vR 22, pj_vI x1, pj_vI x2, pj_vI x3, pj_vI x4, pj_vU] [] M Q) : pj_G L d 7 128 [pj_vR 22, pj_vI x1, pj_vI x2, pj_vI x3, pj_vI x4, pj_vU] [pj_vI s0] M Q := by
  exact pj_G_if0 (t := 142) rfl rfl (fun z => h1 (pj_ct_ne (pj_nrm_id r0.1 r0.2) rfl z)) (fun z => h2 (pj_cf_ne (pj_nrm_id r0.1 r0.2) rfl z))
theorem pj_C7_131 {L d : Nat} {Q : Option pj_V → pj_M → Prop} {M : pj_M} {x1 x2 x3 x4 : Int} (j0 : Nat) (ej0 : x3 = (j0 : Int)) (bj0 : j0 < 35) (h : pj_G L d 7 142 [pj_vR 22, pj_vI x1, pj_vI x2, pj_vI (x3 + 1), pj_vI x4, pj_vU] [] (pj_up M 24 j0 x4) Q) : pj_G L d 7 131 [pj_vR 22, pj_vI x1, pj_vI x2, pj_vI x3, pj_vI x4, pj_vU] [] M Q := by
  have nj0 : pj_nrm x3 = (j0 : Int) := pj_nk ej0 (by omega)
  refine pj_G_s pj_np7 6 (show pj_gs 6 L 7 131 [pj_vR 22, pj_vI x1, pj_vI x2, pj_vI x3, pj_vI x4, pj_vU] [] M = some ([0 ≤ pj_nrm x3 ∧ pj_nrm x3 < (35 : Int)], 142, [pj_vR 22, pj_vI x1, pj_vI x2, pj_vI (x3 + 1), pj_vI x4, pj_vU], [], pj_up M 24 (pj_nrm x3).toNat x4) from rfl) ⟨by omega, trivial⟩ ?_
  simp only [nj0, Int.toNat_natCast]
  exact h
theorem pj_C7_142 {L d : Nat} {Q : Option pj_V → pj_M → Prop} {M : pj_M} {x1 x2 x3 x4 : Int}  (h : pj_G L d 7 65 [pj_vR 22, pj_vI x1, pj_vI x2, pj_vI x3, pj_vI (x4 + 1), pj_vU] [] M Q) : pj_G L d 7 142 [pj_vR 22, pj_vI x1, pj_vI x2, pj_vI x3, pj_vI x4, pj_vU] [] M Q := by
  refine pj_G_s pj_np7 2 (show pj_gs 2 L 7 142 [pj_vR 22, pj_vI x1, pj_vI x2, pj_vI x3, pj_vI x4, pj_vU] [] M = some ([], 65, [pj_vR 22, pj_vI x1, pj_vI x2, pj_vI x3, pj_vI (x4 + 1), pj_vU], [], M) from rfl) trivial ?_
  exact h
theorem pj_C7_90 {L d : Nat} {Q : Option pj_V → pj_M → Prop} {M : pj_M} {x1 x2 x3 x4 : Int}  (h : pj_G L d 7 91 [pj_vR 22, pj_vI x1, pj_vI x2, pj_vI x3, pj_vI x4, pj_vU] [pj_vI 0] M Q) : pj_G L d 7 90 [pj_vR 22, pj_vI x1, pj_vI x2, pj_vI x3, pj_vI x4, pj_vU] [] M Q := by
  refine pj_G_s pj_np7 1 (show pj_gs 1 L 7 90 [pj_vR 22, pj_vI x1, pj_vI x2, pj_vI x3, pj_vI x4, pj_vU] [] M = some ([], 91, [pj_vR 22, pj_vI x1, pj_vI x2, pj_vI x3, pj_vI x4, pj_vU], [pj_vI 0], M) from rfl) trivial ?_
  exact h
theorem pj_C7_148 {L d : Nat} {Q : Option pj_V → pj_M → Prop} {M : pj_M} {x3 : Int}  (h : Q (some (pj_vI x3)) (pj_up M 22 5 x3)) : pj_G L d 7 148 [pj_vR 22, pj_vU, pj_vU, pj_vI x3, pj_vU, pj_vU] [] M Q := by
  refine pj_G_s pj_np7 4 (show pj_gs 4 L 7 148 [pj_vR 22, pj_vU, pj_vU, pj_vI x3, pj_vU, pj_vU] [] M = some ([], 154, [pj_vR 22, pj_vU, pj_vU, pj_vI x3, pj_vU, pj_vU], [pj_vI x3], pj_up M 22 5 x3) from rfl) trivial ?_
  exact pj_G_r rfl rfl rfl h
theorem pj_C7_58 {L d : Nat} {Q : Option pj_V → pj_M → Prop} {M : pj_M} {x1 : Int}  (h : pj_G L d 7 59 [pj_vR 22, pj_vI x1, pj_vU, pj_vU, pj_vU, pj_vU] [pj_vI x1] M Q) : pj_G L d 7 58 [pj_vR 22, pj_vI x1, pj_vU, pj_vU, pj_vU, pj_vU] [] M Q := by
  refine pj_G_s pj_np7 1 (show pj_gs 1 L 7 58 [pj_vR 22, pj_vI x1, pj_vU, pj_vU, pj_vU, pj_vU] [] M = some ([], 59, [pj_vR 22, pj_vI x1, pj_vU, pj_vU, pj_vU, pj_vU], [pj_vI x1], M) from rfl) trivial ?_
  exact h
theorem pj_C8_0r23 {L d : Nat} {Q : Option pj_V → pj_M → Prop} {M : pj_M} {x0 x2 : Int}  (h : pj_G L d 8 2 [pj_vI x0, pj_vR 23, pj_vI x2, pj_vI 0] [] M Q) : pj_G L d 8 0 [pj_vI x0, pj_vR 23, pj_vI x2, pj_vU] [] M Q := by
  refine pj_G_s pj_np8r23 2 (show pj_gs 2 L 8 0 [pj_vI x0, pj_vR 23, pj_vI x2, pj_vU] [] M = some ([], 2, [pj_vI x0, pj_vR 23, pj_vI x2, pj_vI 0], [], M) from rfl) trivial ?_
  exact h
theorem pj_C8_2r23 {L d : Nat} {Q : Option pj_V → pj_M → Prop} {M : pj_M} {x0 x2 x3 : Int} (r0 : -2147483648 ≤ x3 ∧ x3 < 2147483648) (r1 : -2147483648 ≤ x2 ∧ x2 < 2147483648) (h1 : x2 ≤ x3 → pj_G L d 8 25 [pj_vU, pj_vU, pj_vU, pj_vU] [] M Q) (h2 : x3 < x2 → pj_G L d 8 7 [pj_vI x0, pj_vR 23, pj_vI x2, pj_vI x3] [] M Q) : pj_G L d 8 2 [pj_vI x0, pj_vR 23, pj_vI x2, pj_vI x3] [] M Q := by
  refine pj_G_s pj_np8r23 2 (show pj_gs 2 L 8 2 [pj_vI x0, pj_vR 23, pj_vI x2, pj_vI x3] [] M = some ([], 4, [pj_vI x0, pj_vR 23, pj_vI x2, pj_vI x3], [pj_vI x2, pj_vI x3], M) from rfl) trivial ?_
  exact pj_G_if (t := 25) rfl rfl (fun z => pj_G_loc (pj_lle_u rfl (pj_lle_u rfl (pj_lle_u rfl (pj_lle_u rfl pj_lle_nil)))) (h1 (pj_ct_ge (pj_nrm_id r0.1 r0.2) (pj_nrm_id r1.1 r1.2) z))) (fun z => h2 (pj_cf_ge (pj_nrm_id r0.1 r0.2) (pj_nrm_id r1.1 r1.2) z))
theorem pj_C8_7r23 {L d : Nat} {Q : Option pj_V → pj_M → Prop} {M : pj_M} {x0 x2 x3 : Int} (j0 : Nat) (ej0 : x3 = (j0 : Int)) (bj0 : j0 < 35) (h1 : pj_and (M 23 j0) (pj_xor x0 ((-1))) ≠ 0 → pj_G L d 8 19 [pj_vI x0, pj_vR 23, pj_vI x2, pj_vI x3] [] M Q) (h2 : pj_and (M 23 j0) (pj_xor x0 ((-1))) = 0 → pj_G L d 8 17 [pj_vU, pj_vU, pj_vU, pj_vU] [] M Q) : pj_G L d 8 7 [pj_vI x0, pj_vR 23, pj_vI x2, pj_vI x3] [] M Q := by
  have nj0 : pj_nrm x3 = (j0 : Int) := pj_nk ej0 (by omega)
  refine pj_G_s pj_np8r23 7 (show pj_gs 7 L 8 7 [pj_vI x0, pj_vR 23, pj_vI x2, pj_vI x3] [] M = some ([0 ≤ pj_nrm x3 ∧ pj_nrm x3 < (35 : Int)], 14, [pj_vI x0, pj_vR 23, pj_vI x2, pj_vI x3], [pj_vI (pj_and (M 23 (pj_nrm x3).toNat) (pj_xor x0 ((-1))))], M) from rfl) ⟨by omega, trivial⟩ ?_
  simp only [nj0, Int.toNat_natCast]
  exact pj_G_if0 (t := 19) rfl rfl (fun z => h1 (pj_ct_ne (pj_nrm_op _) rfl z)) (fun z => pj_G_loc (pj_lle_u rfl (pj_lle_u rfl (pj_lle_u rfl (pj_lle_u rfl pj_lle_nil)))) (h2 (pj_cf_ne (pj_nrm_op _) rfl z)))
theorem pj_C8_17r23 {L d : Nat} {Q : Option pj_V → pj_M → Prop} {M : pj_M}  (h : Q (some (pj_vI 1)) M) : pj_G L d 8 17 [pj_vU, pj_vU, pj_vU, pj_vU] [] M Q := by
  refine pj_G_s pj_np8r23 1 (show pj_gs 1 L 8 17 [pj_vU, pj_vU, pj_vU, pj_vU] [] M = some ([], 18, [pj_vU, pj_vU, pj_vU, pj_vU], [pj_vI 1], M) from rfl) trivial ?_
  exact pj_G_r rfl rfl rfl h
theorem pj_C8_19r23 {L d : Nat} {Q : Option pj_V → pj_M → Prop} {M : pj_M} {x0 x2 x3 : Int}  (h : pj_G L d 8 2 [pj_vI x0, pj_vR 23, pj_vI x2, pj_vI (x3 + 1)] [] M Q) : pj_G L d 8 19 [pj_vI x0, pj_vR 23, pj_vI x2, pj_vI x3] [] M Q := by
  refine pj_G_s pj_np8r23 2 (show pj_gs 2 L 8 19 [pj_vI x0, pj_vR 23, pj_vI x2, pj_vI x3] [] M = some ([], 2, [pj_vI x0, pj_vR 23, pj_vI x2, pj_vI (x3 + 1)], [], M) from rfl) trivial ?_
  exact h
theorem pj_C8_25r23 {L d : Nat} {Q : Option pj_V → pj_M → Prop} {M : pj_M}  (h : Q (some (pj_vI 0)) M) : pj_G L d 8 25 [pj_vU, pj_vU, pj_vU, pj_vU] [] M Q := by
  refine pj_G_s pj_np8r23 1 (show pj_gs 1 L 8 25 [pj_vU, pj_vU, pj_vU, pj_vU] [] M = some ([], 26, [pj_vU, pj_vU, pj_vU, pj_vU], [pj_vI 0], M) from rfl) trivial ?_
  exact pj_G_r rfl rfl rfl h
theorem pj_C8_0r24 {L d : Nat} {Q : Option pj_V → pj_M → Prop} {M : pj_M} {x0 x2 : Int}  (h : pj_G L d 8 2 [pj_vI x0, pj_vR 24, pj_vI x2, pj_vI 0] [] M Q) : pj_G L d 8 0 [pj_vI x0, pj_vR 24, pj_vI x2, pj_vU] [] M Q := by
  refine pj_G_s pj_np8r24 2 (show pj_gs 2 L 8 0 [pj_vI x0, pj_vR 24, pj_vI x2, pj_vU] [] M = some ([], 2, [pj_vI x0, pj_vR 24, pj_vI x2, pj_vI 0], [], M) from rfl) trivial ?_
  exact h
theorem pj_C8_2r24 {L d : Nat} {Q : Option pj_V → pj_M → Prop} {M : pj_M} {x0 x2 x3 : Int} (r0 : -2147483648 ≤ x3 ∧ x3 < 2147483648) (r1 : -2147483648 ≤ x2 ∧ x2 < 2147483648) (h1 : x2 ≤ x3 → pj_G L d 8 25 [pj_vU, pj_vU, pj_vU, pj_vU] [] M Q) (h2 : x3 < x2 → pj_G L d 8 7 [pj_vI x0, pj_vR 24, pj_vI x2, pj_vI x3] [] M Q) : pj_G L d 8 2 [pj_vI x0, pj_vR 24, pj_vI x2, pj_vI x3] [] M Q := by
  refine pj_G_s pj_np8r24 2 (show pj_gs 2 L 8 2 [pj_vI x0, pj_vR 24, pj_vI x2, pj_vI x3] [] M = some ([], 4, [pj_vI x0, pj_vR 24, pj_vI x2, pj_vI x3], [pj_vI x2, pj_vI x3], M) from rfl) trivial ?_
  exact pj_G_if (t := 25) rfl rfl (fun z => pj_G_loc (pj_lle_u rfl (pj_lle_u rfl (pj_lle_u rfl (pj_lle_u rfl pj_lle_nil)))) (h1 (pj_ct_ge (pj_nrm_id r0.1 r0.2) (pj_nrm_id r1.1 r1.2) z))) (fun z => h2 (pj_cf_ge (pj_nrm_id r0.1 r0.2) (pj_nrm_id r1.1 r1.2) z))
theorem pj_C8_7r24 {L d : Nat} {Q : Option pj_V → pj_M → Prop} {M : pj_M} {x0 x2 x3 : Int} (j0 : Nat) (ej0 : x3 = (j0 : Int)) (bj0 : j0 < 35) (h1 : pj_and (M 24 j0) (pj_xor x0 ((-1))) ≠ 0 → pj_G L d 8 19 [pj_vI x0, pj_vR 24, pj_vI x2, pj_vI x3] [] M Q) (h2 : pj_and (M 24 j0) (pj_xor x0 ((-1))) = 0 → pj_G L d 8 17 [pj_vU, pj_vU, pj_vU, pj_vU] [] M Q) : pj_G L d 8 7 [pj_vI x0, pj_vR 24, pj_vI x2, pj_vI x3] [] M Q := by
  have nj0 : pj_nrm x3 = (j0 : Int) := pj_nk ej0 (by omega)
  refine pj_G_s pj_np8r24 7 (show pj_gs 7 L 8 7 [pj_vI x0, pj_vR 24, pj_vI x2, pj_vI x3] [] M = some ([0 ≤ pj_nrm x3 ∧ pj_nrm x3 < (35 : Int)], 14, [pj_vI x0, pj_vR 24, pj_vI x2, pj_vI x3], [pj_vI (pj_and (M 24 (pj_nrm x3).toNat) (pj_xor x0 ((-1))))], M) from rfl) ⟨by omega, trivial⟩ ?_
  simp only [nj0, Int.toNat_natCast]
  exact pj_G_if0 (t := 19) rfl rfl (fun z => h1 (pj_ct_ne (pj_nrm_op _) rfl z)) (fun z => pj_G_loc (pj_lle_u rfl (pj_lle_u rfl (pj_lle_u rfl (pj_lle_u rfl pj_lle_nil)))) (h2 (pj_cf_ne (pj_nrm_op _) rfl z)))
theorem pj_C8_17r24 {L d : Nat} {Q : Option pj_V → pj_M → Prop} {M : pj_M}  (h : Q (some (pj_vI 1)) M) : pj_G L d 8 17 [pj_vU, pj_vU, pj_vU, pj_vU] [] M Q := by
  refine pj_G_s pj_np8r24 1 (show pj_gs 1 L 8 17 [pj_vU, pj_vU, pj_vU, pj_vU] [] M = some ([], 18, [pj_vU, pj_vU, pj_vU, pj_vU], [pj_vI 1], M) from rfl) trivial ?_
  exact pj_G_r rfl rfl rfl h
theorem pj_C8_19r24 {L d : Nat} {Q : Option pj_V → pj_M → Prop} {M : pj_M} {x0 x2 x3 : Int}  (h : pj_G L d 8 2 [pj_vI x0, pj_vR 24, pj_vI x2, pj_vI (x3 + 1)] [] M Q) : pj_G L d 8 19 [pj_vI x0, pj_vR 24, pj_vI x2, pj_vI x3] [] M Q := by
  refine pj_G_s pj_np8r24 2 (show pj_gs 2 L 8 19 [pj_vI x0, pj_vR 24, pj_vI x2, pj_vI x3] [] M = some ([], 2, [pj_vI x0, pj_vR 24, pj_vI x2, pj_vI (x3 + 1)], [], M) from rfl) trivial ?_
  exact h
theorem pj_C8_25r24 {L d : Nat} {Q : Option pj_V → pj_M → Prop} {M : pj_M}  (h : Q (some (pj_vI 0)) M) : pj_G L d 8 25 [pj_vU, pj_vU, pj_vU, pj_vU] [] M Q := by
  refine pj_G_s pj_np8r24 1 (show pj_gs 1 L 8 25 [pj_vU, pj_vU, pj_vU, pj_vU] [] M = some ([], 26, [pj_vU, pj_vU, pj_vU, pj_vU], [pj_vI 0], M) from rfl) trivial ?_
  exact pj_G_r rfl rfl rfl h
theorem pj_C9_0 {L d : Nat} {Q : Option pj_V → pj_M → Prop} {M : pj_M} {x1 x2 : Int}  (h : pj_G L d 9 2 [pj_vR 22, pj_vU, pj_vI x2, pj_vI x1] [] M Q) : pj_G L d 9 0 [pj_vR 22, pj_vI x1, pj_vI x2, pj_vU] [] M Q := by
  refine pj_G_s pj_np9 2 (show pj_gs 2 L 9 0 [pj_vR 22, pj_vI x1, pj_vI x2, pj_vU] [] M = some ([], 2, [pj_vR 22, pj_vI x1, pj_vI x2, pj_vI x1], [], M) from rfl) trivial ?_
  exact pj_G_loc (pj_lle_e (pj_lle_u rfl (pj_lle_e (pj_lle_e pj_lle_nil)))) h
theorem pj_C9_2 {L d : Nat} {Q : Option pj_V → pj_M → Prop} {M : pj_M} {x2 x3 : Int} (r0 : -2147483648 ≤ x3 ∧ x3 < 2147483648) (r1 : -2147483648 ≤ x2 ∧ x2 < 2147483648) (h1 : x2 ≤ x3 → pj_G L d 9 99 [pj_vU, pj_vU, pj_vU, pj_vU] [] M Q) (h2 : x3 < x2 → pj_G L d 9 7 [pj_vR 22, pj_vU, pj_vI x2, pj_vI x3] [] M Q) : pj_G L d 9 2 [pj_vR 22, pj_vU, pj_vI x2, pj_vI x3] [] M Q := by
  refine pj_G_s pj_np9 2 (show pj_gs 2 L 9 2 [pj_vR 22, pj_vU, pj_vI x2, pj_vI x3] [] M = some ([], 4, [pj_vR 22, pj_vU, pj_vI x2, pj_vI x3], [pj_vI x2, pj_vI x3], M) from rfl) trivial ?_
  exact pj_G_if (t := 99) rfl rfl (fun z => pj_G_loc (pj_lle_u rfl (pj_lle_e (pj_lle_u rfl (pj_lle_u rfl pj_lle_nil)))) (h1 (pj_ct_ge (pj_nrm_id r0.1 r0.2) (pj_nrm_id r1.1 r1.2) z))) (fun z => h2 (pj_cf_ge (pj_nrm_id r0.1 r0.2) (pj_nrm_id r1.1 r1.2) z))
theorem pj_C9_7 {L d : Nat} {Q : Option pj_V → pj_M → Prop} {M : pj_M} {x2 x3 : Int}  (h1 : pj_lcmp (pj_land (pj_lshr (M 22 7) x3) 1) 0 ≠ 0 → pj_G L d 9 93 [pj_vR 22, pj_vU, pj_vI x2, pj_vI x3] [] M Q) (h2 : pj_lcmp (pj_land (pj_lshr (M 22 7) x3) 1) 0 = 0 → pj_G L d 9 20 [pj_vR 22, pj_vU, pj_vI x2, pj_vI x3] [] M Q) : pj_G L d 9 7 [pj_vR 22, pj_vU, pj_vI x2, pj_vI x3] [] M Q := by
  refine pj_G_s pj_np9 8 (show pj_gs 8 L 9 7 [pj_vR 22, pj_vU, pj_vI x2, pj_vI x3] [] M = some ([], 17, [pj_vR 22, pj_vU, pj_vI x2, pj_vI x3], [pj_vI (pj_lcmp (pj_land (pj_lshr (M 22 7) x3) 1) 0)], M) from rfl) trivial ?_
  exact pj_G_if0 (t := 93) rfl rfl (fun z => h1 (pj_ct_ne (pj_nrm_op _) rfl z)) (fun z => h2 (pj_cf_ne (pj_nrm_op _) rfl z))
theorem pj_C9_20 {L d : Nat} {Q : Option pj_V → pj_M → Prop} {M : pj_M} {x2 x3 : Int}  (h : pj_G L d 151 0 [pj_vR 35, pj_vI 0, pj_vU, pj_vU] [] M (fun r M1 => pj_G L (d + 1) 9 34 [pj_vR 22, pj_vU, pj_vI x2, pj_vI x3] (r.toList ++ []) M1 Q)) : pj_G L (d + 1) 9 20 [pj_vR 22, pj_vU, pj_vI x2, pj_vI x3] [] M Q := by
  refine pj_G_s (d := d + 1) pj_np9 5 (show pj_gs 5 L 9 20 [pj_vR 22, pj_vU, pj_vI x2, pj_vI x3] [] M = some ([], 31, [pj_vR 22, pj_vU, pj_vI x2, pj_vI x3], [pj_vI 0, pj_vR 35], M) from rfl) trivial ?_
  exact pj_G_k (j := 151) (vs := [pj_vR 35, pj_vI 0]) (st := []) rfl rfl rfl rfl rfl (Nat.le_of_ble_eq_true rfl) pj_nc151 h
theorem pj_C9_34 {L d : Nat} {Q : Option pj_V → pj_M → Prop} {M : pj_M} {x2 x3 : Int} (j0 : Nat) (ej0 : x3 = (j0 : Int)) (bj0 : j0 < 35) (h : pj_G L d 35 0 [pj_vR 26, pj_vI (M 23 j0), pj_vI 1, pj_vU, pj_vU] [] M (fun r M1 => pj_G L (d + 1) 9 48 [pj_vR 22, pj_vU, pj_vI x2, pj_vI x3] (r.toList ++ []) M1 Q)) : pj_G L (d + 1) 9 34 [pj_vR 22, pj_vU, pj_vI x2, pj_vI x3] [] M Q := by
  have nj0 : pj_nrm x3 = (j0 : Int) := pj_nk ej0 (by omega)
  refine pj_G_s (d := d + 1) pj_np9 7 (show pj_gs 7 L 9 34 [pj_vR 22, pj_vU, pj_vI x2, pj_vI x3] [] M = some ([0 ≤ pj_nrm x3 ∧ pj_nrm x3 < (35 : Int)], 45, [pj_vR 22, pj_vU, pj_vI x2, pj_vI x3], [pj_vI 1, pj_vI (M 23 (pj_nrm x3).toNat), pj_vR 26], M) from rfl) ⟨by omega, trivial⟩ ?_
  simp only [nj0, Int.toNat_natCast]
  exact pj_G_k (j := 35) (vs := [pj_vR 26, pj_vI (M 23 j0), pj_vI 1]) (st := []) rfl rfl rfl rfl rfl (Nat.le_of_ble_eq_true rfl) pj_nc35 h
theorem pj_C9_48 {L d : Nat} {Q : Option pj_V → pj_M → Prop} {M : pj_M} {x2 x3 : Int}  (h : pj_G L d 37 0 [pj_vR 26, pj_vI 0, pj_vU, pj_vU, pj_vU] [] M (fun r M1 => pj_G L (d + 1) 9 56 [pj_vR 22, pj_vU, pj_vI x2, pj_vI x3] (r.toList ++ []) M1 Q)) : pj_G L (d + 1) 9 48 [pj_vR 22, pj_vU, pj_vI x2, pj_vI x3] [] M Q := by
  refine pj_G_s (d := d + 1) pj_np9 3 (show pj_gs 3 L 9 48 [pj_vR 22, pj_vU, pj_vI x2, pj_vI x3] [] M = some ([], 53, [pj_vR 22, pj_vU, pj_vI x2, pj_vI x3], [pj_vI 0, pj_vR 26], M) from rfl) trivial ?_
  exact pj_G_k (j := 37) (vs := [pj_vR 26, pj_vI 0]) (st := []) rfl rfl rfl rfl rfl (Nat.le_of_ble_eq_true rfl) pj_nc37 h
theorem pj_C9_56 {L d : Nat} {Q : Option pj_V → pj_M → Prop} {M : pj_M} {x2 x3 s0 : Int} (j0 : Nat) (ej0 : x3 * 42 = (j0 : Int)) (k0 : 0 + 42 ≤ 42) (k1 : j0 + 42 ≤ 1470) (h : pj_G L d 9 81 [pj_vR 22, pj_vU, pj_vI x2, pj_vI x3] [] (pj_cpy M 35 25 0 j0 42) Q) : pj_G L d 9 56 [pj_vR 22, pj_vU, pj_vI x2, pj_vI x3] [pj_vI s0] M Q := by
  have nj0 : pj_nrm (x3 * 42) = (j0 : Int) := pj_nk ej0 (by omega)
  refine pj_G_s pj_np9 12 (show pj_gs 12 L 9 56 [pj_vR 22, pj_vU, pj_vI x2, pj_vI x3] [pj_vI s0] M = some ([], 78, [pj_vR 22, pj_vU, pj_vI x2, pj_vI x3], [pj_vI 42, pj_vI (x3 * 42), pj_vR 25, pj_vI 0, pj_vR 35], M) from rfl) trivial ?_
  have g0 : 0 ≤ (42 : Int) := by omega
  have g1 : 0 ≤ pj_nrm (x3 * 42) := by omega
  have g2 : 0 ≤ (0 : Int) := by omega
  have g3 : (0 : Int) + (42 : Int) ≤ 42 := by omega
  have g4 : pj_nrm (x3 * 42) + (42 : Int) ≤ 1470 := by omega
  refine pj_G_n (pc' := 81) (loc' := [pj_vR 22, pj_vU, pj_vI x2, pj_vI x3]) (stk' := []) (M' := pj_cpy M 35 25 0 (pj_nrm (x3 * 42)).toNat 42) pj_np9 rfl (if_pos ⟨by decide, by decide, g0, g1, g2, g3, g4, by decide⟩) ?_
  simp only [nj0, Int.toNat_natCast]
  exact h
theorem pj_C9_81 {L d : Nat} {Q : Option pj_V → pj_M → Prop} {M : pj_M} {x2 x3 : Int}  (h : pj_G L d 9 93 [pj_vR 22, pj_vU, pj_vI x2, pj_vI x3] [] (pj_up M 22 7 (pj_lor (M 22 7) (pj_lshl 1 x3))) Q) : pj_G L d 9 81 [pj_vR 22, pj_vU, pj_vI x2, pj_vI x3] [] M Q := by
  refine pj_G_s pj_np9 8 (show pj_gs 8 L 9 81 [pj_vR 22, pj_vU, pj_vI x2, pj_vI x3] [] M = some ([], 93, [pj_vR 22, pj_vU, pj_vI x2, pj_vI x3], [], pj_up M 22 7 (pj_lor (M 22 7) (pj_lshl 1 x3))) from rfl) trivial ?_
  exact h
theorem pj_C9_93 {L d : Nat} {Q : Option pj_V → pj_M → Prop} {M : pj_M} {x2 x3 : Int}  (h : pj_G L d 9 2 [pj_vR 22, pj_vU, pj_vI x2, pj_vI (x3 + 1)] [] M Q) : pj_G L d 9 93 [pj_vR 22, pj_vU, pj_vI x2, pj_vI x3] [] M Q := by
  refine pj_G_s pj_np9 2 (show pj_gs 2 L 9 93 [pj_vR 22, pj_vU, pj_vI x2, pj_vI x3] [] M = some ([], 2, [pj_vR 22, pj_vU, pj_vI x2, pj_vI (x3 + 1)], [], M) from rfl) trivial ?_
  exact h
theorem pj_C9_99 {L d : Nat} {Q : Option pj_V → pj_M → Prop} {M : pj_M}  (h : Q (none) M) : pj_G L d 9 99 [pj_vU, pj_vU, pj_vU, pj_vU] [] M Q := by
  exact pj_G_r rfl rfl rfl h
theorem pj_C10_0 {L d : Nat} {Q : Option pj_V → pj_M → Prop} {M : pj_M} {x1 : Int}  (h : pj_G L d 10 4 [pj_vR 22, pj_vI x1, pj_vI 0, pj_vI 0, pj_vU, pj_vU] [] M Q) : pj_G L d 10 0 [pj_vR 22, pj_vI x1, pj_vU, pj_vU, pj_vU, pj_vU] [] M Q := by
  refine pj_G_s pj_np10 4 (show pj_gs 4 L 10 0 [pj_vR 22, pj_vI x1, pj_vU, pj_vU, pj_vU, pj_vU] [] M = some ([], 4, [pj_vR 22, pj_vI x1, pj_vI 0, pj_vI 0, pj_vU, pj_vU], [], M) from rfl) trivial ?_
  exact h
theorem pj_C10_4 {L d : Nat} {Q : Option pj_V → pj_M → Prop} {M : pj_M} {x1 x2 x3 : Int} (r0 : -2147483648 ≤ x3 ∧ x3 < 2147483648) (h1 : (3 : Int) ≤ x3 → pj_G L d 10 65 [pj_vU, pj_vU, pj_vI x2, pj_vU, pj_vU, pj_vU] [] M Q) (h2 : x3 < (3 : Int) → pj_G L d 10 9 [pj_vR 22, pj_vI x1, pj_vI x2, pj_vI x3, pj_vU, pj_vU] [] M Q) : pj_G L d 10 4 [pj_vR 22, pj_vI x1, pj_vI x2, pj_vI x3, pj_vU, pj_vU] [] M Q := by
  refine pj_G_s pj_np10 2 (show pj_gs 2 L 10 4 [pj_vR 22, pj_vI x1, pj_vI x2, pj_vI x3, pj_vU, pj_vU] [] M = some ([], 6, [pj_vR 22, pj_vI x1, pj_vI x2, pj_vI x3, pj_vU, pj_vU], [pj_vI 3, pj_vI x3], M) from rfl) trivial ?_
  exact pj_G_if (t := 65) rfl rfl (fun z => pj_G_loc (pj_lle_u rfl (pj_lle_u rfl (pj_lle_e (pj_lle_u rfl (pj_lle_e (pj_lle_e pj_lle_nil)))))) (h1 (pj_ct_ge (pj_nrm_id r0.1 r0.2) (pj_nrm_id (by omega) (by omega)) z))) (fun z => h2 (pj_cf_ge (pj_nrm_id r0.1 r0.2) (pj_nrm_id (by omega) (by omega)) z))
theorem pj_C10_9 {L d : Nat} {Q : Option pj_V → pj_M → Prop} {M : pj_M} {x1 x2 x3 : Int}  (h : pj_G L d 10 15 [pj_vR 22, pj_vI x1, pj_vI x2, pj_vI x3, pj_vI 0, pj_vI 0] [] M Q) : pj_G L d 10 9 [pj_vR 22, pj_vI x1, pj_vI x2, pj_vI x3, pj_vU, pj_vU] [] M Q := by
  refine pj_G_s pj_np10 4 (show pj_gs 4 L 10 9 [pj_vR 22, pj_vI x1, pj_vI x2, pj_vI x3, pj_vU, pj_vU] [] M = some ([], 15, [pj_vR 22, pj_vI x1, pj_vI x2, pj_vI x3, pj_vI 0, pj_vI 0], [], M) from rfl) trivial ?_
  exact h
theorem pj_C10_15 {L d : Nat} {Q : Option pj_V → pj_M → Prop} {M : pj_M} {x1 x2 x3 x4 x5 : Int} (r0 : -2147483648 ≤ x5 ∧ x5 < 2147483648) (r1 : -2147483648 ≤ M 22 3 ∧ M 22 3 < 2147483648) (h1 : M 22 3 ≤ x5 → pj_G L d 10 51 [pj_vR 22, pj_vI x1, pj_vI x2, pj_vI x3, pj_vI x4, pj_vU] [] M Q) (h2 : x5 < M 22 3 → pj_G L d 10 24 [pj_vR 22, pj_vI x1, pj_vI x2, pj_vI x3, pj_vI x4, pj_vI x5] [] M Q) : pj_G L d 10 15 [pj_vR 22, pj_vI x1, pj_vI x2, pj_vI x3, pj_vI x4, pj_vI x5] [] M Q := by
  refine pj_G_s pj_np10 3 (show pj_gs 3 L 10 15 [pj_vR 22, pj_vI x1, pj_vI x2, pj_vI x3, pj_vI x4, pj_vI x5] [] M = some ([], 21, [pj_vR 22, pj_vI x1, pj_vI x2, pj_vI x3, pj_vI x4, pj_vI x5], [pj_vI (M 22 3), pj_vI x5], M) from rfl) trivial ?_
  exact pj_G_if (t := 51) rfl rfl (fun z => pj_G_loc (pj_lle_e (pj_lle_e (pj_lle_e (pj_lle_e (pj_lle_e (pj_lle_u rfl pj_lle_nil)))))) (h1 (pj_ct_ge (pj_nrm_id r0.1 r0.2) (pj_nrm_id r1.1 r1.2) z))) (fun z => h2 (pj_cf_ge (pj_nrm_id r0.1 r0.2) (pj_nrm_id r1.1 r1.2) z))
theorem pj_C10_24 {L d : Nat} {Q : Option pj_V → pj_M → Prop} {M : pj_M} {x1 x2 x3 x4 x5 : Int} (j0 : Nat) (ej0 : (x5 * 42) + x1 = (j0 : Int)) (bj0 : j0 < 1470) (h : pj_G L d 10 15 [pj_vR 22, pj_vI x1, pj_vI x2, pj_vI x3, pj_vI (x4 + (pj_and (pj_shr (M 25 j0) x3) 1)), pj_vI (x5 + 1)] [] M Q) : pj_G L d 10 24 [pj_vR 22, pj_vI x1, pj_vI x2, pj_vI x3, pj_vI x4, pj_vI x5] [] M Q := by
  have nj0 : pj_nrm ((x5 * 42) + x1) = (j0 : Int) := pj_nk ej0 (by omega)
  refine pj_G_s pj_np10 17 (show pj_gs 17 L 10 24 [pj_vR 22, pj_vI x1, pj_vI x2, pj_vI x3, pj_vI x4, pj_vI x5] [] M = some ([0 ≤ pj_nrm ((x5 * 42) + x1) ∧ pj_nrm ((x5 * 42) + x1) < (1470 : Int)], 15, [pj_vR 22, pj_vI x1, pj_vI x2, pj_vI x3, pj_vI (x4 + (pj_and (pj_shr (M 25 (pj_nrm ((x5 * 42) + x1)).toNat) x3) 1)), pj_vI (x5 + 1)], [], M) from rfl) ⟨by omega, trivial⟩ ?_
  simp only [nj0, Int.toNat_natCast]
  exact h
theorem pj_C10_51 {L d : Nat} {Q : Option pj_V → pj_M → Prop} {M : pj_M} {x1 x2 x3 x4 : Int}  (h : pj_G L d 10 4 [pj_vR 22, pj_vI x1, pj_vI (x2 + (x4 * x4)), pj_vI (x3 + 1), pj_vU, pj_vU] [] M Q) : pj_G L d 10 51 [pj_vR 22, pj_vI x1, pj_vI x2, pj_vI x3, pj_vI x4, pj_vU] [] M Q := by
  refine pj_G_s pj_np10 8 (show pj_gs 8 L 10 51 [pj_vR 22, pj_vI x1, pj_vI x2, pj_vI x3, pj_vI x4, pj_vU] [] M = some ([], 4, [pj_vR 22, pj_vI x1, pj_vI (x2 + (x4 * x4)), pj_vI (x3 + 1), pj_vI x4, pj_vU], [], M) from rfl) trivial ?_
  exact pj_G_loc (pj_lle_e (pj_lle_e (pj_lle_e (pj_lle_e (pj_lle_u rfl (pj_lle_e pj_lle_nil)))))) h
theorem pj_C10_65 {L d : Nat} {Q : Option pj_V → pj_M → Prop} {M : pj_M} {x2 : Int}  (h : Q (some (pj_vI x2)) M) : pj_G L d 10 65 [pj_vU, pj_vU, pj_vI x2, pj_vU, pj_vU, pj_vU] [] M Q := by
  refine pj_G_s pj_np10 1 (show pj_gs 1 L 10 65 [pj_vU, pj_vU, pj_vI x2, pj_vU, pj_vU, pj_vU] [] M = some ([], 66, [pj_vU, pj_vU, pj_vI x2, pj_vU, pj_vU, pj_vU], [pj_vI x2], M) from rfl) trivial ?_
  exact pj_G_r rfl rfl rfl h
theorem pj_C11_0 {L d : Nat} {Q : Option pj_V → pj_M → Prop} {M : pj_M} {x1 : Int}  (h : pj_G L d 11 2 [pj_vR 22, pj_vI x1, pj_vI 1] [] M Q) : pj_G L d 11 0 [pj_vR 22, pj_vI x1, pj_vU] [] M Q := by
  refine pj_G_s pj_np11 2 (show pj_gs 2 L 11 0 [pj_vR 22, pj_vI x1, pj_vU] [] M = some ([], 2, [pj_vR 22, pj_vI x1, pj_vI 1], [], M) from rfl) trivial ?_
  exact h
theorem pj_C11_2 {L d : Nat} {Q : Option pj_V → pj_M → Prop} {M : pj_M} {x1 x2 : Int} (r0 : -2147483648 ≤ x2 ∧ x2 < 2147483648) (r1 : -2147483648 ≤ M 22 3 ∧ M 22 3 < 2147483648) (h1 : M 22 3 ≤ x2 → pj_G L d 11 38 [pj_vU, pj_vU, pj_vU] [] M Q) (h2 : x2 < M 22 3 → pj_G L d 11 10 [pj_vR 22, pj_vI x1, pj_vI x2] [] M Q) : pj_G L d 11 2 [pj_vR 22, pj_vI x1, pj_vI x2] [] M Q := by
  refine pj_G_s pj_np11 3 (show pj_gs 3 L 11 2 [pj_vR 22, pj_vI x1, pj_vI x2] [] M = some ([], 7, [pj_vR 22, pj_vI x1, pj_vI x2], [pj_vI (M 22 3), pj_vI x2], M) from rfl) trivial ?_
  exact pj_G_if (t := 38) rfl rfl (fun z => pj_G_loc (pj_lle_u rfl (pj_lle_u rfl (pj_lle_u rfl pj_lle_nil))) (h1 (pj_ct_ge (pj_nrm_id r0.1 r0.2) (pj_nrm_id r1.1 r1.2) z))) (fun z => h2 (pj_cf_ge (pj_nrm_id r0.1 r0.2) (pj_nrm_id r1.1 r1.2) z))
theorem pj_C11_10 {L d : Nat} {Q : Option pj_V → pj_M → Prop} {M : pj_M} {x1 x2 : Int} (j0 j1 : Nat) (ej0 : (x2 * 42) + x1 = (j0 : Int)) (bj0 : j0 < 1470) (ej1 : x1 = (j1 : Int)) (bj1 : j1 < 1470) (r0 : -2147483648 ≤ M 25 j0 ∧ M 25 j0 < 2147483648) (r1 : -2147483648 ≤ M 25 j1 ∧ M 25 j1 < 2147483648) (h1 : M 25 j0 = M 25 j1 → pj_G L d 11 32 [pj_vR 22, pj_vI x1, pj_vI x2] [] M Q) (h2 : M 25 j0 ≠ M 25 j1 → pj_G L d 11 30 [pj_vU, pj_vU, pj_vU] [] M Q) : pj_G L d 11 10 [pj_vR 22, pj_vI x1, pj_vI x2] [] M Q := by
  have nj0 : pj_nrm ((x2 * 42) + x1) = (j0 : Int) := pj_nk ej0 (by omega)
  have nj1 : pj_nrm x1 = (j1 : Int) := pj_nk ej1 (by omega)
  refine pj_G_s pj_np11 12 (show pj_gs 12 L 11 10 [pj_vR 22, pj_vI x1, pj_vI x2] [] M = some ([0 ≤ pj_nrm ((x2 * 42) + x1) ∧ pj_nrm ((x2 * 42) + x1) < (1470 : Int), 0 ≤ pj_nrm x1 ∧ pj_nrm x1 < (1470 : Int)], 27, [pj_vR 22, pj_vI x1, pj_vI x2], [pj_vI (M 25 (pj_nrm x1).toNat), pj_vI (M 25 (pj_nrm ((x2 * 42) + x1)).toNat)], M) from rfl) ⟨by omega, by omega, trivial⟩ ?_
  simp only [nj0, nj1, Int.toNat_natCast]
  exact pj_G_if (t := 32) rfl rfl (fun z => h1 (pj_ct_eq (pj_nrm_id r0.1 r0.2) (pj_nrm_id r1.1 r1.2) z)) (fun z => pj_G_loc (pj_lle_u rfl (pj_lle_u rfl (pj_lle_u rfl pj_lle_nil))) (h2 (pj_cf_eq (pj_nrm_id r0.1 r0.2) (pj_nrm_id r1.1 r1.2) z)))
theorem pj_C11_30 {L d : Nat} {Q : Option pj_V → pj_M → Prop} {M : pj_M}  (h : Q (some (pj_vI 1)) M) : pj_G L d 11 30 [pj_vU, pj_vU, pj_vU] [] M Q := by
  refine pj_G_s pj_np11 1 (show pj_gs 1 L 11 30 [pj_vU, pj_vU, pj_vU] [] M = some ([], 31, [pj_vU, pj_vU, pj_vU], [pj_vI 1], M) from rfl) trivial ?_
  exact pj_G_r rfl rfl rfl h
theorem pj_C11_32 {L d : Nat} {Q : Option pj_V → pj_M → Prop} {M : pj_M} {x1 x2 : Int}  (h : pj_G L d 11 2 [pj_vR 22, pj_vI x1, pj_vI (x2 + 1)] [] M Q) : pj_G L d 11 32 [pj_vR 22, pj_vI x1, pj_vI x2] [] M Q := by
  refine pj_G_s pj_np11 2 (show pj_gs 2 L 11 32 [pj_vR 22, pj_vI x1, pj_vI x2] [] M = some ([], 2, [pj_vR 22, pj_vI x1, pj_vI (x2 + 1)], [], M) from rfl) trivial ?_
  exact h
theorem pj_C11_38 {L d : Nat} {Q : Option pj_V → pj_M → Prop} {M : pj_M}  (h : Q (some (pj_vI 0)) M) : pj_G L d 11 38 [pj_vU, pj_vU, pj_vU] [] M Q := by
  refine pj_G_s pj_np11 1 (show pj_gs 1 L 11 38 [pj_vU, pj_vU, pj_vU] [] M = some ([], 39, [pj_vU, pj_vU, pj_vU], [pj_vI 0], M) from rfl) trivial ?_
  exact pj_G_r rfl rfl rfl h
