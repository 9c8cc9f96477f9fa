theorem pj_C26_0 {L d : Nat} {Q : Option pj_V → pj_M → Prop} {M : pj_M} {x1 x2 x3 x4 x5 : Int} (j0 : Nat) (ej0 : M 7 0 = (j0 : Int)) (bj0 : j0 < 7) (h : pj_G L d 27 0 [pj_vR 7, pj_vI (M 7 0)] [] (pj_up (pj_up (pj_up (pj_up (pj_up (pj_up M 8 j0 x1) 9 j0 x2) 10 j0 x3) 11 j0 x4) 12 j0 x5) 14 j0 1) (fun r M1 => pj_G L (d + 1) 26 68 [pj_vR 7, pj_vI x1, pj_vU, pj_vI x3, pj_vU, pj_vU, pj_vI (M 7 0), pj_vU] (r.toList ++ [pj_vI (M 7 0), pj_vR 13]) M1 Q)) : pj_G L (d + 1) 26 0 [pj_vR 7, pj_vI x1, pj_vI x2, pj_vI x3, pj_vI x4, pj_vI x5, pj_vU, pj_vU] [] M Q := by
  have nj0 : pj_nrm (M 7 0) = (j0 : Int) := pj_nk ej0 (by omega)
  refine pj_G_s (d := d + 1) pj_np26 38 (show pj_gs 38 L 26 0 [pj_vR 7, pj_vI x1, pj_vI x2, pj_vI x3, pj_vI x4, pj_vI x5, pj_vU, pj_vU] [] M = some ([0 ≤ pj_nrm (M 7 0) ∧ pj_nrm (M 7 0) < (7 : Int), 0 ≤ pj_nrm (M 7 0) ∧ pj_nrm (M 7 0) < (7 : Int), 0 ≤ pj_nrm (M 7 0) ∧ pj_nrm (M 7 0) < (7 : Int), 0 ≤ pj_nrm (M 7 0) ∧ pj_nrm (M 7 0) < (7 : Int), 0 ≤ pj_nrm (M 7 0) ∧ pj_nrm (M 7 0) < (7 : Int), 0 ≤ pj_nrm (M 7 0) ∧ pj_nrm (M 7 0) < (7 : Int)], 65, [pj_vR 7, pj_vI x1, pj_vI x2, pj_vI x3, pj_vI x4, pj_vI x5, pj_vI (M 7 0), pj_vU], [pj_vI (M 7 0), pj_vR 7, pj_vI (M 7 0), pj_vR 13], pj_up (pj_up (pj_up (pj_up (pj_up (pj_up M 8 (pj_nrm (M 7 0)).toNat x1) 9 (pj_nrm (M 7 0)).toNat x2) 10 (pj_nrm (M 7 0)).toNat x3) 11 (pj_nrm (M 7 0)).toNat x4) 12 (pj_nrm (M 7 0)).toNat x5) 14 (pj_nrm (M 7 0)).toNat 1) from rfl) ⟨by omega, by omega, by omega, by omega, by omega, by omega, trivial⟩ ?_
  simp only [nj0, Int.toNat_natCast]
  exact pj_G_k (j := 27) (vs := [pj_vR 7, pj_vI (M 7 0)]) (st := [pj_vI (M 7 0), pj_vR 13]) rfl rfl rfl rfl rfl (Nat.le_of_ble_eq_true rfl) pj_nc27 (pj_G.mono h (fun _ _ hh => pj_G_loc (pj_lle_e (pj_lle_e (pj_lle_u rfl (pj_lle_e (pj_lle_u rfl (pj_lle_u rfl (pj_lle_e (pj_lle_e pj_lle_nil)))))))) hh))
theorem pj_C26_68 {L d : Nat} {Q : Option pj_V → pj_M → Prop} {M : pj_M} {x1 x3 x6 s1 s2 : Int} (r0 : -2147483648 ≤ s2 ∧ s2 < 2147483648) (h1 : s2 = 0 → pj_G L d 26 75 [pj_vR 7, pj_vI x1, pj_vU, pj_vI x3, pj_vU, pj_vU, pj_vI x6, pj_vU] [pj_vI s1, pj_vR 13] M Q) (h2 : s2 ≠ 0 → pj_G L d 26 71 [pj_vR 7, pj_vI x1, pj_vU, pj_vI x3, pj_vU, pj_vU, pj_vI x6, pj_vU] [pj_vI s1, pj_vR 13] M Q) : pj_G L d 26 68 [pj_vR 7, pj_vI x1, pj_vU, pj_vI x3, pj_vU, pj_vU, pj_vI x6, pj_vU] [pj_vI s2, pj_vI s1, pj_vR 13] M Q := by
  exact pj_G_if0 (t := 75) rfl rfl (fun z => h1 (pj_ct_eq (pj_nrm_id r0.1 r0.2) rfl z)) (fun z => h2 (pj_cf_eq (pj_nrm_id r0.1 r0.2) rfl z))
theorem pj_C26_71 {L d : Nat} {Q : Option pj_V → pj_M → Prop} {M : pj_M} {x1 x3 x6 s1 : Int}  (h : pj_G L d 26 76 [pj_vR 7, pj_vI x1, pj_vU, pj_vI x3, pj_vU, pj_vU, pj_vI x6, pj_vU] [pj_vI 1, pj_vI s1, pj_vR 13] M Q) : pj_G L d 26 71 [pj_vR 7, pj_vI x1, pj_vU, pj_vI x3, pj_vU, pj_vU, pj_vI x6, pj_vU] [pj_vI s1, pj_vR 13] M Q := by
  refine pj_G_s pj_np26 2 (show pj_gs 2 L 26 71 [pj_vR 7, pj_vI x1, pj_vU, pj_vI x3, pj_vU, pj_vU, pj_vI x6, pj_vU] [pj_vI s1, pj_vR 13] M = some ([], 76, [pj_vR 7, pj_vI x1, pj_vU, pj_vI x3, pj_vU, pj_vU, pj_vI x6, pj_vU], [pj_vI 1, pj_vI s1, pj_vR 13], M) from rfl) trivial ?_
  exact h
theorem pj_C26_76 {L d : Nat} {Q : Option pj_V → pj_M → Prop} {M : pj_M} {x1 x3 x6 s1 s2 : Int} (j0 : Nat) (ej0 : s1 = (j0 : Int)) (bj0 : j0 < 7) (r0 : -2147483648 ≤ x1 ∧ x1 < 2147483648) (h1 : x1 ≠ (4 : Int) → pj_G L d 26 95 [pj_vR 7, pj_vI x1, pj_vU, pj_vI x3, pj_vU, pj_vU, pj_vI x6, pj_vU] [] (pj_up M 13 j0 s2) Q) (h2 : x1 = (4 : Int) → pj_G L d 26 82 [pj_vR 7, pj_vI x1, pj_vU, pj_vI x3, pj_vU, pj_vU, pj_vI x6, pj_vU] [] (pj_up M 13 j0 s2) Q) : pj_G L d 26 76 [pj_vR 7, pj_vI x1, pj_vU, pj_vI x3, pj_vU, pj_vU, pj_vI x6, pj_vU] [pj_vI s2, pj_vI s1, pj_vR 13] M Q := by
  have nj0 : pj_nrm s1 = (j0 : Int) := pj_nk ej0 (by omega)
  refine pj_G_s pj_np26 3 (show pj_gs 3 L 26 76 [pj_vR 7, pj_vI x1, pj_vU, pj_vI x3, pj_vU, pj_vU, pj_vI x6, pj_vU] [pj_vI s2, pj_vI s1, pj_vR 13] M = some ([0 ≤ pj_nrm s1 ∧ pj_nrm s1 < (7 : Int)], 79, [pj_vR 7, pj_vI x1, pj_vU, pj_vI x3, pj_vU, pj_vU, pj_vI x6, pj_vU], [pj_vI 4, pj_vI x1], pj_up M 13 (pj_nrm s1).toNat s2) from rfl) ⟨by omega, trivial⟩ ?_
  simp only [nj0, Int.toNat_natCast]
  exact pj_G_if (t := 95) rfl rfl (fun z => h1 (pj_ct_ne (pj_nrm_id r0.1 r0.2) (pj_nrm_id (by omega) (by omega)) z)) (fun z => h2 (pj_cf_ne (pj_nrm_id r0.1 r0.2) (pj_nrm_id (by omega) (by omega)) z))
theorem pj_C26_82 {L d : Nat} {Q : Option pj_V → pj_M → Prop} {M : pj_M} {x1 x3 x6 : Int}  (h : pj_G L d 26 95 [pj_vR 7, pj_vI x1, pj_vU, pj_vI x3, pj_vU, pj_vU, pj_vI x6, pj_vU] [] (pj_up M 7 13 (pj_or (M 7 13) (pj_shl 1 x6))) Q) : pj_G L d 26 82 [pj_vR 7, pj_vI x1, pj_vU, pj_vI x3, pj_vU, pj_vU, pj_vI x6, pj_vU] [] M Q := by
  refine pj_G_s pj_np26 8 (show pj_gs 8 L 26 82 [pj_vR 7, pj_vI x1, pj_vU, pj_vI x3, pj_vU, pj_vU, pj_vI x6, pj_vU] [] M = some ([], 95, [pj_vR 7, pj_vI x1, pj_vU, pj_vI x3, pj_vU, pj_vU, pj_vI x6, pj_vU], [], pj_up M 7 13 (pj_or (M 7 13) (pj_shl 1 x6))) from rfl) trivial ?_
  exact h
theorem pj_C26_95 {L d : Nat} {Q : Option pj_V → pj_M → Prop} {M : pj_M} {x1 x3 x6 : Int} (r0 : -2147483648 ≤ x1 ∧ x1 < 2147483648) (h1 : x1 ≠ (2 : Int) → pj_G L d 26 121 [pj_vR 7, pj_vU, pj_vU, pj_vI x3, pj_vU, pj_vU, pj_vI x6, pj_vU] [] M Q) (h2 : x1 = (2 : Int) → pj_G L d 26 100 [pj_vR 7, pj_vU, pj_vU, pj_vI x3, pj_vU, pj_vU, pj_vI x6, pj_vU] [] M Q) : pj_G L d 26 95 [pj_vR 7, pj_vI x1, pj_vU, pj_vI x3, pj_vU, pj_vU, pj_vI x6, pj_vU] [] M Q := by
  refine pj_G_s pj_np26 2 (show pj_gs 2 L 26 95 [pj_vR 7, pj_vI x1, pj_vU, pj_vI x3, pj_vU, pj_vU, pj_vI x6, pj_vU] [] M = some ([], 97, [pj_vR 7, pj_vI x1, pj_vU, pj_vI x3, pj_vU, pj_vU, pj_vI x6, pj_vU], [pj_vI 2, pj_vI x1], M) from rfl) trivial ?_
  exact pj_G_if (t := 121) rfl rfl (fun z => pj_G_loc (pj_lle_e (pj_lle_u rfl (pj_lle_e (pj_lle_e (pj_lle_e (pj_lle_e (pj_lle_e (pj_lle_e pj_lle_nil)))))))) (h1 (pj_ct_ne (pj_nrm_id r0.1 r0.2) (pj_nrm_id (by omega) (by omega)) z))) (fun z => pj_G_loc (pj_lle_e (pj_lle_u rfl (pj_lle_e (pj_lle_e (pj_lle_e (pj_lle_e (pj_lle_e (pj_lle_e pj_lle_nil)))))))) (h2 (pj_cf_ne (pj_nrm_id r0.1 r0.2) (pj_nrm_id (by omega) (by omega)) z)))
theorem pj_C26_100 {L d : Nat} {Q : Option pj_V → pj_M → Prop} {M : pj_M} {x3 x6 : Int} (j0 : Nat) (ej0 : M 7 12 = (j0 : Int)) (bj0 : j0 < 2) (h : pj_G L d 26 121 [pj_vR 7, pj_vU, pj_vU, pj_vI x3, pj_vU, pj_vU, pj_vI x6, pj_vU] [] (pj_up (pj_up M 18 j0 x6) 7 12 ((M 7 12) + 1)) Q) : pj_G L d 26 100 [pj_vR 7, pj_vU, pj_vU, pj_vI x3, pj_vU, pj_vU, pj_vI x6, pj_vU] [] M Q := by
  have nj0 : pj_nrm (M 7 12) = (j0 : Int) := pj_nk ej0 (by omega)
  refine pj_G_s pj_np26 12 (show pj_gs 12 L 26 100 [pj_vR 7, pj_vU, pj_vU, pj_vI x3, pj_vU, pj_vU, pj_vI x6, pj_vU] [] M = some ([0 ≤ pj_nrm (M 7 12) ∧ pj_nrm (M 7 12) < (2 : Int)], 121, [pj_vR 7, pj_vU, pj_vU, pj_vI x3, pj_vU, pj_vU, pj_vI x6, pj_vU], [], pj_up (pj_up M 18 (pj_nrm (M 7 12)).toNat x6) 7 12 ((M 7 12) + 1)) from rfl) ⟨by omega, trivial⟩ ?_
  simp only [nj0, Int.toNat_natCast]
  exact h
theorem pj_C26_121 {L d : Nat} {Q : Option pj_V → pj_M → Prop} {M : pj_M} {x3 x6 : Int}  (h : pj_G L d 26 127 [pj_vR 7, pj_vU, pj_vU, pj_vI x3, pj_vU, pj_vU, pj_vI x6, pj_vI (M 7 0)] [] M Q) : pj_G L d 26 121 [pj_vR 7, pj_vU, pj_vU, pj_vI x3, pj_vU, pj_vU, pj_vI x6, pj_vU] [] M Q := by
  refine pj_G_s pj_np26 3 (show pj_gs 3 L 26 121 [pj_vR 7, pj_vU, pj_vU, pj_vI x3, pj_vU, pj_vU, pj_vI x6, pj_vU] [] M = some ([], 127, [pj_vR 7, pj_vU, pj_vU, pj_vI x3, pj_vU, pj_vU, pj_vI x6, pj_vI (M 7 0)], [], M) from rfl) trivial ?_
  exact h
theorem pj_C26_127 {L d : Nat} {Q : Option pj_V → pj_M → Prop} {M : pj_M} {x3 x6 x7 : Int} (r0 : -2147483648 ≤ x7 ∧ x7 < 2147483648) (h1 : x7 ≤ 0 → pj_G L d 26 172 [pj_vR 7, pj_vU, pj_vU, pj_vU, pj_vU, pj_vU, pj_vI x6, pj_vI x7] [] M Q) (h2 : 0 < x7 → pj_G L d 26 132 [pj_vR 7, pj_vU, pj_vU, pj_vI x3, pj_vU, pj_vU, pj_vI x6, pj_vI x7] [] M Q) : pj_G L d 26 127 [pj_vR 7, pj_vU, pj_vU, pj_vI x3, pj_vU, pj_vU, pj_vI x6, pj_vI x7] [] M Q := by
  refine pj_G_s pj_np26 1 (show pj_gs 1 L 26 127 [pj_vR 7, pj_vU, pj_vU, pj_vI x3, pj_vU, pj_vU, pj_vI x6, pj_vI x7] [] M = some ([], 129, [pj_vR 7, pj_vU, pj_vU, pj_vI x3, pj_vU, pj_vU, pj_vI x6, pj_vI x7], [pj_vI x7], M) from rfl) trivial ?_
  exact pj_G_if0 (t := 172) rfl rfl (fun z => pj_G_loc (pj_lle_e (pj_lle_e (pj_lle_e (pj_lle_u rfl (pj_lle_e (pj_lle_e (pj_lle_e (pj_lle_e pj_lle_nil)))))))) (h1 (pj_ct_le (pj_nrm_id r0.1 r0.2) rfl z))) (fun z => h2 (pj_cf_le (pj_nrm_id r0.1 r0.2) rfl z))
theorem pj_C26_132 {L d : Nat} {Q : Option pj_V → pj_M → Prop} {M : pj_M} {x3 x6 x7 : Int} (j0 j1 : Nat) (ej0 : x7 - 1 = (j0 : Int)) (bj0 : j0 < 7) (ej1 : M 17 j0 = (j1 : Int)) (bj1 : j1 < 7) (r0 : -2147483648 ≤ M 10 j1 ∧ M 10 j1 < 2147483648) (r1 : -2147483648 ≤ x3 ∧ x3 < 2147483648) (h1 : M 10 j1 ≤ x3 → pj_G L d 26 172 [pj_vR 7, pj_vU, pj_vU, pj_vU, pj_vU, pj_vU, pj_vI x6, pj_vI x7] [] M Q) (h2 : x3 < M 10 j1 → pj_G L d 26 150 [pj_vR 7, pj_vU, pj_vU, pj_vI x3, pj_vU, pj_vU, pj_vI x6, pj_vI x7] [] M Q) : pj_G L d 26 132 [pj_vR 7, pj_vU, pj_vU, pj_vI x3, pj_vU, pj_vU, pj_vI x6, pj_vI x7] [] M Q := by
  have nj0 : pj_nrm (x7 - 1) = (j0 : Int) := pj_nk ej0 (by omega)
  have nj1 : pj_nrm (M 17 j0) = (j1 : Int) := pj_nk ej1 (by omega)
  refine pj_G_s pj_np26 10 (show pj_gs 10 L 26 132 [pj_vR 7, pj_vU, pj_vU, pj_vI x3, pj_vU, pj_vU, pj_vI x6, pj_vI x7] [] M = some ([0 ≤ pj_nrm (x7 - 1) ∧ pj_nrm (x7 - 1) < (7 : Int), 0 ≤ pj_nrm (M 17 (pj_nrm (x7 - 1)).toNat) ∧ pj_nrm (M 17 (pj_nrm (x7 - 1)).toNat) < (7 : Int)], 147, [pj_vR 7, pj_vU, pj_vU, pj_vI x3, pj_vU, pj_vU, pj_vI x6, pj_vI x7], [pj_vI x3, pj_vI (M 10 (pj_nrm (M 17 (pj_nrm (x7 - 1)).toNat)).toNat)], M) from rfl) ⟨by omega, by simp only [nj0, nj1, Int.toNat_natCast]; omega, trivial⟩ ?_
  simp only [nj0, nj1, Int.toNat_natCast]
  exact pj_G_if (t := 172) rfl rfl (fun z => pj_G_loc (pj_lle_e (pj_lle_e (pj_lle_e (pj_lle_u rfl (pj_lle_e (pj_lle_e (pj_lle_e (pj_lle_e pj_lle_nil)))))))) (h1 (pj_ct_le (pj_nrm_id r0.1 r0.2) (pj_nrm_id r1.1 r1.2) z))) (fun z => h2 (pj_cf_le (pj_nrm_id r0.1 r0.2) (pj_nrm_id r1.1 r1.2) z))
theorem pj_C26_150 {L d : Nat} {Q : Option pj_V → pj_M → Prop} {M : pj_M} {x3 x6 x7 : Int} (j0 j1 : Nat) (ej0 : x7 - 1 = (j0 : Int)) (bj0 : j0 < 7) (ej1 : x7 = (j1 : Int)) (bj1 : j1 < 7) (h : pj_G L d 26 127 [pj_vR 7, pj_vU, pj_vU, pj_vI x3, pj_vU, pj_vU, pj_vI x6, pj_vI (x7 + ((-1)))] [] (pj_up M 17 j1 (M 17 j0)) Q) : pj_G L d 26 150 [pj_vR 7, pj_vU, pj_vU, pj_vI x3, pj_vU, pj_vU, pj_vI x6, pj_vI x7] [] M Q := by
  have nj0 : pj_nrm (x7 - 1) = (j0 : Int) := pj_nk ej0 (by omega)
  have nj1 : pj_nrm x7 = (j1 : Int) := pj_nk ej1 (by omega)
  refine pj_G_s pj_np26 12 (show pj_gs 12 L 26 150 [pj_vR 7, pj_vU, pj_vU, pj_vI x3, pj_vU, pj_vU, pj_vI x6, pj_vI x7] [] M = some ([0 ≤ pj_nrm (x7 - 1) ∧ pj_nrm (x7 - 1) < (7 : Int), 0 ≤ pj_nrm x7 ∧ pj_nrm x7 < (7 : Int)], 127, [pj_vR 7, pj_vU, pj_vU, pj_vI x3, pj_vU, pj_vU, pj_vI x6, pj_vI (x7 + ((-1)))], [], pj_up M 17 (pj_nrm x7).toNat (M 17 (pj_nrm (x7 - 1)).toNat)) from rfl) ⟨by omega, by omega, trivial⟩ ?_
  simp only [nj0, nj1, Int.toNat_natCast]
  exact h
theorem pj_C26_172 {L d : Nat} {Q : Option pj_V → pj_M → Prop} {M : pj_M} {x6 x7 : Int} (j0 : Nat) (ej0 : x7 = (j0 : Int)) (bj0 : j0 < 7) (h : Q (some (pj_vI x6)) (pj_up (pj_up M 17 j0 x6) 7 0 ((M 7 0) + 1))) : pj_G L d 26 172 [pj_vR 7, pj_vU, pj_vU, pj_vU, pj_vU, pj_vU, pj_vI x6, pj_vI x7] [] M Q := by
  have nj0 : pj_nrm x7 = (j0 : Int) := pj_nk ej0 (by omega)
  refine pj_G_s pj_np26 12 (show pj_gs 12 L 26 172 [pj_vR 7, pj_vU, pj_vU, pj_vU, pj_vU, pj_vU, pj_vI x6, pj_vI x7] [] M = some ([0 ≤ pj_nrm x7 ∧ pj_nrm x7 < (7 : Int)], 193, [pj_vR 7, pj_vU, pj_vU, pj_vU, pj_vU, pj_vU, pj_vI x6, pj_vI x7], [pj_vI x6], pj_up (pj_up M 17 (pj_nrm x7).toNat x6) 7 0 ((M 7 0) + 1)) from rfl) ⟨by omega, trivial⟩ ?_
  simp only [nj0, Int.toNat_natCast]
  exact pj_G_r rfl rfl rfl h
theorem pj_C26_75 {L d : Nat} {Q : Option pj_V → pj_M → Prop} {M : pj_M} {x1 x3 x6 s1 : Int}  (h : pj_G L d 26 76 [pj_vR 7, pj_vI x1, pj_vU, pj_vI x3, pj_vU, pj_vU, pj_vI x6, pj_vU] [pj_vI 0, pj_vI s1, pj_vR 13] M Q) : pj_G L d 26 75 [pj_vR 7, pj_vI x1, pj_vU, pj_vI x3, pj_vU, pj_vU, pj_vI x6, pj_vU] [pj_vI s1, pj_vR 13] M Q := by
  refine pj_G_s pj_np26 1 (show pj_gs 1 L 26 75 [pj_vR 7, pj_vI x1, pj_vU, pj_vI x3, pj_vU, pj_vU, pj_vI x6, pj_vU] [pj_vI s1, pj_vR 13] M = some ([], 76, [pj_vR 7, pj_vI x1, pj_vU, pj_vI x3, pj_vU, pj_vU, pj_vI x6, pj_vU], [pj_vI 0, pj_vI s1, pj_vR 13], M) from rfl) trivial ?_
  exact h
theorem pj_C27_0 {L d : Nat} {Q : Option pj_V → pj_M → Prop} {M : pj_M} {x1 : Int} (j0 : Nat) (ej0 : x1 = (j0 : Int)) (bj0 : j0 < 7) (r0 : -2147483648 ≤ M 8 j0 ∧ M 8 j0 < 2147483648) (h1 : M 8 j0 = (1 : Int) → pj_G L d 27 20 [pj_vU, pj_vU] [] M Q) (h2 : M 8 j0 ≠ (1 : Int) → pj_G L d 27 10 [pj_vR 7, pj_vI x1] [] M Q) : pj_G L d 27 0 [pj_vR 7, pj_vI x1] [] M Q := by
  have nj0 : pj_nrm x1 = (j0 : Int) := pj_nk ej0 (by omega)
  refine pj_G_s pj_np27 5 (show pj_gs 5 L 27 0 [pj_vR 7, pj_vI x1] [] M = some ([0 ≤ pj_nrm x1 ∧ pj_nrm x1 < (7 : Int)], 7, [pj_vR 7, pj_vI x1], [pj_vI 1, pj_vI (M 8 (pj_nrm x1).toNat)], M) from rfl) ⟨by omega, trivial⟩ ?_
  simp only [nj0, Int.toNat_natCast]
  exact pj_G_if (t := 20) rfl rfl (fun z => pj_G_loc (pj_lle_u rfl (pj_lle_u rfl pj_lle_nil)) (h1 (pj_ct_eq (pj_nrm_id r0.1 r0.2) (pj_nrm_id (by omega) (by omega)) z))) (fun z => h2 (pj_cf_eq (pj_nrm_id r0.1 r0.2) (pj_nrm_id (by omega) (by omega)) z))
theorem pj_C27_10 {L d : Nat} {Q : Option pj_V → pj_M → Prop} {M : pj_M} {x1 : Int} (j0 : Nat) (ej0 : x1 = (j0 : Int)) (bj0 : j0 < 7) (r0 : -2147483648 ≤ M 8 j0 ∧ M 8 j0 < 2147483648) (h1 : M 8 j0 ≠ (2 : Int) → pj_G L d 27 24 [pj_vU, pj_vU] [] M Q) (h2 : M 8 j0 = (2 : Int) → pj_G L d 27 20 [pj_vU, pj_vU] [] M Q) : pj_G L d 27 10 [pj_vR 7, pj_vI x1] [] M Q := by
  have nj0 : pj_nrm x1 = (j0 : Int) := pj_nk ej0 (by omega)
  refine pj_G_s pj_np27 5 (show pj_gs 5 L 27 10 [pj_vR 7, pj_vI x1] [] M = some ([0 ≤ pj_nrm x1 ∧ pj_nrm x1 < (7 : Int)], 17, [pj_vR 7, pj_vI x1], [pj_vI 2, pj_vI (M 8 (pj_nrm x1).toNat)], M) from rfl) ⟨by omega, trivial⟩ ?_
  simp only [nj0, Int.toNat_natCast]
  exact pj_G_if (t := 24) rfl rfl (fun z => pj_G_loc (pj_lle_u rfl (pj_lle_u rfl pj_lle_nil)) (h1 (pj_ct_ne (pj_nrm_id r0.1 r0.2) (pj_nrm_id (by omega) (by omega)) z))) (fun z => pj_G_loc (pj_lle_u rfl (pj_lle_u rfl pj_lle_nil)) (h2 (pj_cf_ne (pj_nrm_id r0.1 r0.2) (pj_nrm_id (by omega) (by omega)) z)))
theorem pj_C27_20 {L d : Nat} {Q : Option pj_V → pj_M → Prop} {M : pj_M}  (h : pj_G L d 27 25 [pj_vU, pj_vU] [pj_vI 1] M Q) : pj_G L d 27 20 [pj_vU, pj_vU] [] M Q := by
  refine pj_G_s pj_np27 2 (show pj_gs 2 L 27 20 [pj_vU, pj_vU] [] M = some ([], 25, [pj_vU, pj_vU], [pj_vI 1], M) from rfl) trivial ?_
  exact h
theorem pj_C27_25 {L d : Nat} {Q : Option pj_V → pj_M → Prop} {M : pj_M} {s0 : Int}  (cb : s0 = 0 ∨ s0 = 1) (h : Q (some (pj_vI s0)) M) : pj_G L d 27 25 [pj_vU, pj_vU] [pj_vI s0] M Q := by
  exact pj_G_r rfl rfl (if_pos (Or.inr cb)) h
theorem pj_C27_24 {L d : Nat} {Q : Option pj_V → pj_M → Prop} {M : pj_M}  (h : pj_G L d 27 25 [pj_vU, pj_vU] [pj_vI 0] M Q) : pj_G L d 27 24 [pj_vU, pj_vU] [] M Q := by
  refine pj_G_s pj_np27 1 (show pj_gs 1 L 27 24 [pj_vU, pj_vU] [] M = some ([], 25, [pj_vU, pj_vU], [pj_vI 0], M) from rfl) trivial ?_
  exact h
theorem pj_C28_0 {L d : Nat} {Q : Option pj_V → pj_M → Prop} {M : pj_M} {x1 x2 : Int} (r0 : -2147483648 ≤ x2 ∧ x2 < 2147483648) (h1 : (1 : Int) ≤ x2 → pj_G L d 28 6 [pj_vR 7, pj_vI x1, pj_vI x2, pj_vU, pj_vU] [] M Q) (h2 : x2 < (1 : Int) → pj_G L d 28 5 [pj_vU, pj_vU, pj_vU, pj_vU, pj_vU] [] M Q) : pj_G L d 28 0 [pj_vR 7, pj_vI x1, pj_vI x2, pj_vU, pj_vU] [] M Q := by
  refine pj_G_s pj_np28 2 (show pj_gs 2 L 28 0 [pj_vR 7, pj_vI x1, pj_vI x2, pj_vU, pj_vU] [] M = some ([], 2, [pj_vR 7, pj_vI x1, pj_vI x2, pj_vU, pj_vU], [pj_vI 1, pj_vI x2], M) from rfl) trivial ?_
  exact pj_G_if (t := 6) rfl rfl (fun z => h1 (pj_ct_ge (pj_nrm_id r0.1 r0.2) (pj_nrm_id (by omega) (by omega)) z)) (fun z => pj_G_loc (pj_lle_u rfl (pj_lle_u rfl (pj_lle_u rfl (pj_lle_e (pj_lle_e pj_lle_nil))))) (h2 (pj_cf_ge (pj_nrm_id r0.1 r0.2) (pj_nrm_id (by omega) (by omega)) z)))
theorem pj_C28_5 {L d : Nat} {Q : Option pj_V → pj_M → Prop} {M : pj_M}  (h : Q (none) M) : pj_G L d 28 5 [pj_vU, pj_vU, pj_vU, pj_vU, pj_vU] [] M Q := by
  exact pj_G_r rfl rfl rfl h
theorem pj_C28_6 {L d : Nat} {Q : Option pj_V → pj_M → Prop} {M : pj_M} {x1 x2 : Int}  (h : pj_G L d 28 8 [pj_vR 7, pj_vI x1, pj_vI x2, pj_vI 0, pj_vU] [] M Q) : pj_G L d 28 6 [pj_vR 7, pj_vI x1, pj_vI x2, pj_vU, pj_vU] [] M Q := by
  refine pj_G_s pj_np28 2 (show pj_gs 2 L 28 6 [pj_vR 7, pj_vI x1, pj_vI x2, pj_vU, pj_vU] [] M = some ([], 8, [pj_vR 7, pj_vI x1, pj_vI x2, pj_vI 0, pj_vU], [], M) from rfl) trivial ?_
  exact h
theorem pj_C28_8 {L d : Nat} {Q : Option pj_V → pj_M → Prop} {M : pj_M} {x1 x2 x3 : Int} (r0 : -2147483648 ≤ x3 ∧ x3 < 2147483648) (h1 : (3 : Int) ≤ x3 → pj_G L d 28 60 [pj_vU, pj_vU, pj_vU, pj_vU, pj_vU] [] M Q) (h2 : x3 < (3 : Int) → pj_G L d 28 13 [pj_vR 7, pj_vI x1, pj_vI x2, pj_vI x3, pj_vU] [] M Q) : pj_G L d 28 8 [pj_vR 7, pj_vI x1, pj_vI x2, pj_vI x3, pj_vU] [] M Q := by
  refine pj_G_s pj_np28 2 (show pj_gs 2 L 28 8 [pj_vR 7, pj_vI x1, pj_vI x2, pj_vI x3, pj_vU] [] M = some ([], 10, [pj_vR 7, pj_vI x1, pj_vI x2, pj_vI x3, pj_vU], [pj_vI 3, pj_vI x3], M) from rfl) trivial ?_
  exact pj_G_if (t := 60) rfl rfl (fun z => pj_G_loc (pj_lle_u rfl (pj_lle_u rfl (pj_lle_u rfl (pj_lle_u rfl (pj_lle_e pj_lle_nil))))) (h1 (pj_ct_ge (pj_nrm_id r0.1 r0.2) (pj_nrm_id (by omega) (by omega)) z))) (fun z => h2 (pj_cf_ge (pj_nrm_id r0.1 r0.2) (pj_nrm_id (by omega) (by omega)) z))
theorem pj_C28_13 {L d : Nat} {Q : Option pj_V → pj_M → Prop} {M : pj_M} {x1 x2 x3 : Int}  (h : pj_G L d 28 16 [pj_vR 7, pj_vI x1, pj_vI x2, pj_vI x3, pj_vI 0] [] M Q) : pj_G L d 28 13 [pj_vR 7, pj_vI x1, pj_vI x2, pj_vI x3, pj_vU] [] M Q := by
  refine pj_G_s pj_np28 2 (show pj_gs 2 L 28 13 [pj_vR 7, pj_vI x1, pj_vI x2, pj_vI x3, pj_vU] [] M = some ([], 16, [pj_vR 7, pj_vI x1, pj_vI x2, pj_vI x3, pj_vI 0], [], M) from rfl) trivial ?_
  exact h
theorem pj_C28_16 {L d : Nat} {Q : Option pj_V → pj_M → Prop} {M : pj_M} {x1 x2 x3 x4 : Int} (r0 : -2147483648 ≤ x4 ∧ x4 < 2147483648) (h1 : (3 : Int) ≤ x4 → pj_G L d 28 54 [pj_vR 7, pj_vI x1, pj_vI x2, pj_vI x3, pj_vU] [] M Q) (h2 : x4 < (3 : Int) → pj_G L d 28 22 [pj_vR 7, pj_vI x1, pj_vI x2, pj_vI x3, pj_vI x4] [] M Q) : pj_G L d 28 16 [pj_vR 7, pj_vI x1, pj_vI x2, pj_vI x3, pj_vI x4] [] M Q := by
  refine pj_G_s pj_np28 2 (show pj_gs 2 L 28 16 [pj_vR 7, pj_vI x1, pj_vI x2, pj_vI x3, pj_vI x4] [] M = some ([], 19, [pj_vR 7, pj_vI x1, pj_vI x2, pj_vI x3, pj_vI x4], [pj_vI 3, pj_vI x4], M) from rfl) trivial ?_
  exact pj_G_if (t := 54) rfl rfl (fun z => pj_G_loc (pj_lle_e (pj_lle_e (pj_lle_e (pj_lle_e (pj_lle_u rfl pj_lle_nil))))) (h1 (pj_ct_ge (pj_nrm_id r0.1 r0.2) (pj_nrm_id (by omega) (by omega)) z))) (fun z => h2 (pj_cf_ge (pj_nrm_id r0.1 r0.2) (pj_nrm_id (by omega) (by omega)) z))
theorem pj_C28_22 {L d : Nat} {Q : Option pj_V → pj_M → Prop} {M : pj_M} {x1 x2 x3 x4 : Int}  (h : pj_G L d 29 0 [pj_vR 7, pj_vI x1, pj_vI x3, pj_vI x4] [] M (fun r M1 => pj_G L (d + 1) 28 45 [pj_vR 7, pj_vI x1, pj_vI x2, pj_vI x3, pj_vI x4] (r.toList ++ [pj_vI (((x1 * 9) + (3 * x3)) + x4), pj_vR 16]) M1 Q)) : pj_G L (d + 1) 28 22 [pj_vR 7, pj_vI x1, pj_vI x2, pj_vI x3, pj_vI x4] [] M Q := by
  refine pj_G_s (d := d + 1) pj_np28 15 (show pj_gs 15 L 28 22 [pj_vR 7, pj_vI x1, pj_vI x2, pj_vI x3, pj_vI x4] [] M = some ([], 42, [pj_vR 7, pj_vI x1, pj_vI x2, pj_vI x3, pj_vI x4], [pj_vI x4, pj_vI x3, pj_vI x1, pj_vR 7, pj_vI (((x1 * 9) + (3 * x3)) + x4), pj_vR 16], M) from rfl) trivial ?_
  exact pj_G_k (j := 29) (vs := [pj_vR 7, pj_vI x1, pj_vI x3, pj_vI x4]) (st := [pj_vI (((x1 * 9) + (3 * x3)) + x4), pj_vR 16]) rfl rfl rfl rfl rfl (Nat.le_of_ble_eq_true rfl) pj_nc29 h
theorem pj_C28_45 {L d : Nat} {Q : Option pj_V → pj_M → Prop} {M : pj_M} {x1 x2 x3 x4 s1 s2 : Int} (j0 : Nat) (z0 : pj_nrm x2 ≠ 0) (ej0 : s1 = (j0 : Int)) (bj0 : j0 < 63) (h : pj_G L d 28 16 [pj_vR 7, pj_vI x1, pj_vI x2, pj_vI x3, pj_vI (x4 + 1)] [] (pj_up M 16 j0 (pj_rem s2 x2)) Q) : pj_G L d 28 45 [pj_vR 7, pj_vI x1, pj_vI x2, pj_vI x3, pj_vI x4] [pj_vI s2, pj_vI s1, pj_vR 16] M Q := by
  have nj0 : pj_nrm s1 = (j0 : Int) := pj_nk ej0 (by omega)
  refine pj_G_s pj_np28 5 (show pj_gs 5 L 28 45 [pj_vR 7, pj_vI x1, pj_vI x2, pj_vI x3, pj_vI x4] [pj_vI s2, pj_vI s1, pj_vR 16] M = some ([pj_nrm x2 ≠ 0, 0 ≤ pj_nrm s1 ∧ pj_nrm s1 < (63 : Int)], 16, [pj_vR 7, pj_vI x1, pj_vI x2, pj_vI x3, pj_vI (x4 + 1)], [], pj_up M 16 (pj_nrm s1).toNat (pj_rem s2 x2)) from rfl) ⟨by omega, by omega, trivial⟩ ?_
  simp only [nj0, Int.toNat_natCast]
  exact h
theorem pj_C28_54 {L d : Nat} {Q : Option pj_V → pj_M → Prop} {M : pj_M} {x1 x2 x3 : Int}  (h : pj_G L d 28 8 [pj_vR 7, pj_vI x1, pj_vI x2, pj_vI (x3 + 1), pj_vU] [] M Q) : pj_G L d 28 54 [pj_vR 7, pj_vI x1, pj_vI x2, pj_vI x3, pj_vU] [] M Q := by
  refine pj_G_s pj_np28 2 (show pj_gs 2 L 28 54 [pj_vR 7, pj_vI x1, pj_vI x2, pj_vI x3, pj_vU] [] M = some ([], 8, [pj_vR 7, pj_vI x1, pj_vI x2, pj_vI (x3 + 1), pj_vU], [], M) from rfl) trivial ?_
  exact h
theorem pj_C28_60 {L d : Nat} {Q : Option pj_V → pj_M → Prop} {M : pj_M}  (h : Q (none) M) : pj_G L d 28 60 [pj_vU, pj_vU, pj_vU, pj_vU, pj_vU] [] M Q := by
  exact pj_G_r rfl rfl rfl h
theorem pj_C29_0 {L d : Nat} {Q : Option pj_V → pj_M → Prop} {M : pj_M} {x1 x2 x3 : Int} (j0 : Nat) (ej0 : x1 = (j0 : Int)) (bj0 : j0 < 7) (r0 : -2147483648 ≤ M 8 j0 ∧ M 8 j0 < 2147483648) (h1 : M 8 j0 ≠ (4 : Int) → pj_G L d 29 12 [pj_vR 7, pj_vI x1, pj_vI x2, pj_vI x3] [] M Q) (h2 : M 8 j0 = (4 : Int) → pj_G L d 29 10 [pj_vU, pj_vU, pj_vI x2, pj_vU] [] M Q) : pj_G L d 29 0 [pj_vR 7, pj_vI x1, pj_vI x2, pj_vI x3] [] M Q := by
  have nj0 : pj_nrm x1 = (j0 : Int) := pj_nk ej0 (by omega)
  refine pj_G_s pj_np29 5 (show pj_gs 5 L 29 0 [pj_vR 7, pj_vI x1, pj_vI x2, pj_vI x3] [] M = some ([0 ≤ pj_nrm x1 ∧ pj_nrm x1 < (7 : Int)], 7, [pj_vR 7, pj_vI x1, pj_vI x2, pj_vI x3], [pj_vI 4, pj_vI (M 8 (pj_nrm x1).toNat)], M) from rfl) ⟨by omega, trivial⟩ ?_
  simp only [nj0, Int.toNat_natCast]
  exact pj_G_if (t := 12) rfl rfl (fun z => h1 (pj_ct_ne (pj_nrm_id r0.1 r0.2) (pj_nrm_id (by omega) (by omega)) z)) (fun z => pj_G_loc (pj_lle_u rfl (pj_lle_u rfl (pj_lle_e (pj_lle_u rfl pj_lle_nil)))) (h2 (pj_cf_ne (pj_nrm_id r0.1 r0.2) (pj_nrm_id (by omega) (by omega)) z)))
theorem pj_C29_10 {L d : Nat} {Q : Option pj_V → pj_M → Prop} {M : pj_M} {x2 : Int}  (h : Q (some (pj_vI x2)) M) : pj_G L d 29 10 [pj_vU, pj_vU, pj_vI x2, pj_vU] [] M Q := by
  refine pj_G_s pj_np29 1 (show pj_gs 1 L 29 10 [pj_vU, pj_vU, pj_vI x2, pj_vU] [] M = some ([], 11, [pj_vU, pj_vU, pj_vI x2, pj_vU], [pj_vI x2], M) from rfl) trivial ?_
  exact pj_G_r rfl rfl rfl h
theorem pj_C29_12 {L d : Nat} {Q : Option pj_V → pj_M → Prop} {M : pj_M} {x1 x2 x3 : Int} (j0 : Nat) (ej0 : x1 = (j0 : Int)) (bj0 : j0 < 7) (r0 : -2147483648 ≤ M 8 j0 ∧ M 8 j0 < 2147483648) (h1 : M 8 j0 ≠ (3 : Int) → pj_G L d 29 32 [pj_vR 7, pj_vI x1, pj_vI x2, pj_vI x3] [] M Q) (h2 : M 8 j0 = (3 : Int) → pj_G L d 29 22 [pj_vR 7, pj_vI x1, pj_vU, pj_vU] [] M Q) : pj_G L d 29 12 [pj_vR 7, pj_vI x1, pj_vI x2, pj_vI x3] [] M Q := by
  have nj0 : pj_nrm x1 = (j0 : Int) := pj_nk ej0 (by omega)
  refine pj_G_s pj_np29 5 (show pj_gs 5 L 29 12 [pj_vR 7, pj_vI x1, pj_vI x2, pj_vI x3] [] M = some ([0 ≤ pj_nrm x1 ∧ pj_nrm x1 < (7 : Int)], 19, [pj_vR 7, pj_vI x1, pj_vI x2, pj_vI x3], [pj_vI 3, pj_vI (M 8 (pj_nrm x1).toNat)], M) from rfl) ⟨by omega, trivial⟩ ?_
  simp only [nj0, Int.toNat_natCast]
  exact pj_G_if (t := 32) rfl rfl (fun z => h1 (pj_ct_ne (pj_nrm_id r0.1 r0.2) (pj_nrm_id (by omega) (by omega)) z)) (fun z => pj_G_loc (pj_lle_e (pj_lle_e (pj_lle_u rfl (pj_lle_u rfl pj_lle_nil)))) (h2 (pj_cf_ne (pj_nrm_id r0.1 r0.2) (pj_nrm_id (by omega) (by omega)) z)))
theorem pj_C29_22 {L d : Nat} {Q : Option pj_V → pj_M → Prop} {M : pj_M} {x1 : Int} (j0 : Nat) (ej0 : x1 * 9 = (j0 : Int)) (bj0 : j0 < 63) (h : Q (some (pj_vI (M 15 j0))) M) : pj_G L d 29 22 [pj_vR 7, pj_vI x1, pj_vU, pj_vU] [] M Q := by
  have nj0 : pj_nrm (x1 * 9) = (j0 : Int) := pj_nk ej0 (by omega)
  refine pj_G_s pj_np29 6 (show pj_gs 6 L 29 22 [pj_vR 7, pj_vI x1, pj_vU, pj_vU] [] M = some ([0 ≤ pj_nrm (x1 * 9) ∧ pj_nrm (x1 * 9) < (63 : Int)], 31, [pj_vR 7, pj_vI x1, pj_vU, pj_vU], [pj_vI (M 15 (pj_nrm (x1 * 9)).toNat)], M) from rfl) ⟨by omega, trivial⟩ ?_
  simp only [nj0, Int.toNat_natCast]
  exact pj_G_r rfl rfl rfl h
theorem pj_C29_32 {L d : Nat} {Q : Option pj_V → pj_M → Prop} {M : pj_M} {x1 x2 x3 : Int} (j0 : Nat) (ej0 : x1 = (j0 : Int)) (bj0 : j0 < 7) (r0 : -2147483648 ≤ M 9 j0 ∧ M 9 j0 < 2147483648) (k0 : M 9 j0 = 0 → pj_G L d 29 72 [pj_vU, pj_vU, pj_vI x2, pj_vI x3] [] M Q) (k1 : M 9 j0 = 1 → pj_G L d 29 76 [pj_vU, pj_vU, pj_vI x2, pj_vI x3] [] M Q) (k2 : M 9 j0 = 2 → pj_G L d 29 80 [pj_vU, pj_vU, pj_vI x2, pj_vI x3] [] M Q) (k3 : M 9 j0 = 3 → pj_G L d 29 91 [pj_vU, pj_vU, pj_vI x2, pj_vI x3] [] M Q) (k4 : M 9 j0 = 4 → pj_G L d 29 102 [pj_vU, pj_vU, pj_vI x2, pj_vI x3] [] M Q) (kd : (M 9 j0 < 0 ∨ 4 < M 9 j0) → pj_G L d 29 113 [pj_vR 7, pj_vI x1, pj_vI x2, pj_vI x3] [] M Q) : pj_G L d 29 32 [pj_vR 7, pj_vI x1, pj_vI x2, pj_vI x3] [] M Q := by
  have nj0 : pj_nrm x1 = (j0 : Int) := pj_nk ej0 (by omega)
  refine pj_G_s pj_np29 4 (show pj_gs 4 L 29 32 [pj_vR 7, pj_vI x1, pj_vI x2, pj_vI x3] [] M = some ([0 ≤ pj_nrm x1 ∧ pj_nrm x1 < (7 : Int)], 38, [pj_vR 7, pj_vI x1, pj_vI x2, pj_vI x3], [pj_vI (M 9 (pj_nrm x1).toNat)], M) from rfl) ⟨by omega, trivial⟩ ?_
  simp only [nj0, Int.toNat_natCast]
  have hX : pj_nrm (M 9 j0) = M 9 j0 := (pj_nrm_id r0.1 r0.2)
  by_cases z : M 9 j0 < 0 ∨ 4 < M 9 j0
  · refine pj_G_n (pc' := 113) (loc' := [pj_vR 7, pj_vI x1, pj_vI x2, pj_vI x3]) (stk' := []) (M' := M) pj_np29 rfl ?_ (kd z)
    show (if pj_nrm (M 9 j0) < 0 ∨ 4 < pj_nrm (M 9 j0) then _ else _) = _
    rw [hX, if_pos z]
    rfl
  · obtain w | w | w | w | w : M 9 j0 = 0 ∨ M 9 j0 = 1 ∨ M 9 j0 = 2 ∨ M 9 j0 = 3 ∨ M 9 j0 = 4 := by omega
    · refine pj_G_n (pc' := 72) (loc' := [pj_vR 7, pj_vI x1, pj_vI x2, pj_vI x3]) (stk' := []) (M' := M) pj_np29 rfl ?_ (pj_G_loc (pj_lle_u rfl (pj_lle_u rfl (pj_lle_e (pj_lle_e pj_lle_nil)))) (k0 w))
      show (if pj_nrm (M 9 j0) < 0 ∨ 4 < pj_nrm (M 9 j0) then _ else _) = _
      rw [hX, if_neg z, w]
      rfl
    · refine pj_G_n (pc' := 76) (loc' := [pj_vR 7, pj_vI x1, pj_vI x2, pj_vI x3]) (stk' := []) (M' := M) pj_np29 rfl ?_ (pj_G_loc (pj_lle_u rfl (pj_lle_u rfl (pj_lle_e (pj_lle_e pj_lle_nil)))) (k1 w))
      show (if pj_nrm (M 9 j0) < 0 ∨ 4 < pj_nrm (M 9 j0) then _ else _) = _
      rw [hX, if_neg z, w]
      rfl
    · refine pj_G_n (pc' := 80) (loc' := [pj_vR 7, pj_vI x1, pj_vI x2, pj_vI x3]) (stk' := []) (M' := M) pj_np29 rfl ?_ (pj_G_loc (pj_lle_u rfl (pj_lle_u rfl (pj_lle_e (pj_lle_e pj_lle_nil)))) (k2 w))
      show (if pj_nrm (M 9 j0) < 0 ∨ 4 < pj_nrm (M 9 j0) then _ else _) = _
      rw [hX, if_neg z, w]
      rfl
    · refine pj_G_n (pc' := 91) (loc' := [pj_vR 7, pj_vI x1, pj_vI x2, pj_vI x3]) (stk' := []) (M' := M) pj_np29 rfl ?_ (pj_G_loc (pj_lle_u rfl (pj_lle_u rfl (pj_lle_e (pj_lle_e pj_lle_nil)))) (k3 w))
      show (if pj_nrm (M 9 j0) < 0 ∨ 4 < pj_nrm (M 9 j0) then _ else _) = _
      rw [hX, if_neg z, w]
      rfl
    · refine pj_G_n (pc' := 102) (loc' := [pj_vR 7, pj_vI x1, pj_vI x2, pj_vI x3]) (stk' := []) (M' := M) pj_np29 rfl ?_ (pj_G_loc (pj_lle_u rfl (pj_lle_u rfl (pj_lle_e (pj_lle_e pj_lle_nil)))) (k4 w))
      show (if pj_nrm (M 9 j0) < 0 ∨ 4 < pj_nrm (M 9 j0) then _ else _) = _
      rw [hX, if_neg z, w]
      rfl
theorem pj_C29_113 {L d : Nat} {Q : Option pj_V → pj_M → Prop} {M : pj_M} {x1 x2 x3 : Int} (j0 : Nat) (ej0 : ((x1 * 9) + (3 * x2)) + x3 = (j0 : Int)) (bj0 : j0 < 63) (h : Q (some (pj_vI (M 15 j0))) M) : pj_G L d 29 113 [pj_vR 7, pj_vI x1, pj_vI x2, pj_vI x3] [] M Q := by
  have nj0 : pj_nrm (((x1 * 9) + (3 * x2)) + x3) = (j0 : Int) := pj_nk ej0 (by omega)
  refine pj_G_s pj_np29 12 (show pj_gs 12 L 29 113 [pj_vR 7, pj_vI x1, pj_vI x2, pj_vI x3] [] M = some ([0 ≤ pj_nrm (((x1 * 9) + (3 * x2)) + x3) ∧ pj_nrm (((x1 * 9) + (3 * x2)) + x3) < (63 : Int)], 128, [pj_vR 7, pj_vI x1, pj_vI x2, pj_vI x3], [pj_vI (M 15 (pj_nrm (((x1 * 9) + (3 * x2)) + x3)).toNat)], M) from rfl) ⟨by omega, trivial⟩ ?_
  simp only [nj0, Int.toNat_natCast]
  exact pj_G_r rfl rfl rfl h
theorem pj_C29_102 {L d : Nat} {Q : Option pj_V → pj_M → Prop} {M : pj_M} {x2 x3 : Int} (r0 : -2147483648 ≤ x2 ∧ x2 < 2147483648) (r1 : -2147483648 ≤ x3 ∧ x3 < 2147483648) (h1 : x2 ≠ x3 → pj_G L d 29 111 [pj_vU, pj_vU, pj_vU, pj_vU] [] M Q) (h2 : x2 = x3 → pj_G L d 29 107 [pj_vU, pj_vU, pj_vU, pj_vU] [] M Q) : pj_G L d 29 102 [pj_vU, pj_vU, pj_vI x2, pj_vI x3] [] M Q := by
  refine pj_G_s pj_np29 2 (show pj_gs 2 L 29 102 [pj_vU, pj_vU, pj_vI x2, pj_vI x3] [] M = some ([], 104, [pj_vU, pj_vU, pj_vI x2, pj_vI x3], [pj_vI x3, pj_vI x2], M) from rfl) trivial ?_
  exact pj_G_if (t := 111) rfl rfl (fun z => pj_G_loc (pj_lle_e (pj_lle_e (pj_lle_u rfl (pj_lle_u rfl pj_lle_nil)))) (h1 (pj_ct_ne (pj_nrm_id r0.1 r0.2) (pj_nrm_id r1.1 r1.2) z))) (fun z => pj_G_loc (pj_lle_e (pj_lle_e (pj_lle_u rfl (pj_lle_u rfl pj_lle_nil)))) (h2 (pj_cf_ne (pj_nrm_id r0.1 r0.2) (pj_nrm_id r1.1 r1.2) z)))
theorem pj_C29_107 {L d : Nat} {Q : Option pj_V → pj_M → Prop} {M : pj_M}  (h : pj_G L d 29 112 [pj_vU, pj_vU, pj_vU, pj_vU] [pj_vI 1] M Q) : pj_G L d 29 107 [pj_vU, pj_vU, pj_vU, pj_vU] [] M Q := by
  refine pj_G_s pj_np29 2 (show pj_gs 2 L 29 107 [pj_vU, pj_vU, pj_vU, pj_vU] [] M = some ([], 112, [pj_vU, pj_vU, pj_vU, pj_vU], [pj_vI 1], M) from rfl) trivial ?_
  exact h
theorem pj_C29_112 {L d : Nat} {Q : Option pj_V → pj_M → Prop} {M : pj_M} {s0 : Int}  (h : Q (some (pj_vI s0)) M) : pj_G L d 29 112 [pj_vU, pj_vU, pj_vU, pj_vU] [pj_vI s0] M Q := by
  exact pj_G_r rfl rfl rfl h
theorem pj_C29_111 {L d : Nat} {Q : Option pj_V → pj_M → Prop} {M : pj_M}  (h : pj_G L d 29 112 [pj_vU, pj_vU, pj_vU, pj_vU] [pj_vI 0] M Q) : pj_G L d 29 111 [pj_vU, pj_vU, pj_vU, pj_vU] [] M Q := by
  refine pj_G_s pj_np29 1 (show pj_gs 1 L 29 111 [pj_vU, pj_vU, pj_vU, pj_vU] [] M = some ([], 112, [pj_vU, pj_vU, pj_vU, pj_vU], [pj_vI 0], M) from rfl) trivial ?_
  exact h
theorem pj_C29_91 {L d : Nat} {Q : Option pj_V → pj_M → Prop} {M : pj_M} {x2 x3 : Int} (r0 : -2147483648 ≤ x2 ∧ x2 < 2147483648) (r1 : -2147483648 ≤ x3 ∧ x3 < 2147483648) (h1 : x3 ≤ x2 → pj_G L d 29 100 [pj_vU, pj_vU, pj_vU, pj_vI x3] [] M Q) (h2 : x2 < x3 → pj_G L d 29 96 [pj_vU, pj_vU, pj_vI x2, pj_vU] [] M Q) : pj_G L d 29 91 [pj_vU, pj_vU, pj_vI x2, pj_vI x3] [] M Q := by
  refine pj_G_s pj_np29 2 (show pj_gs 2 L 29 91 [pj_vU, pj_vU, pj_vI x2, pj_vI x3] [] M = some ([], 93, [pj_vU, pj_vU, pj_vI x2, pj_vI x3], [pj_vI x3, pj_vI x2], M) from rfl) trivial ?_
  exact pj_G_if (t := 100) rfl rfl (fun z => pj_G_loc (pj_lle_e (pj_lle_e (pj_lle_u rfl (pj_lle_e pj_lle_nil)))) (h1 (pj_ct_ge (pj_nrm_id r0.1 r0.2) (pj_nrm_id r1.1 r1.2) z))) (fun z => pj_G_loc (pj_lle_e (pj_lle_e (pj_lle_e (pj_lle_u rfl pj_lle_nil)))) (h2 (pj_cf_ge (pj_nrm_id r0.1 r0.2) (pj_nrm_id r1.1 r1.2) z)))
theorem pj_C29_96 {L d : Nat} {Q : Option pj_V → pj_M → Prop} {M : pj_M} {x2 : Int}  (h : pj_G L d 29 101 [pj_vU, pj_vU, pj_vU, pj_vU] [pj_vI x2] M Q) : pj_G L d 29 96 [pj_vU, pj_vU, pj_vI x2, pj_vU] [] M Q := by
  refine pj_G_s pj_np29 2 (show pj_gs 2 L 29 96 [pj_vU, pj_vU, pj_vI x2, pj_vU] [] M = some ([], 101, [pj_vU, pj_vU, pj_vI x2, pj_vU], [pj_vI x2], M) from rfl) trivial ?_
  exact pj_G_loc (pj_lle_e (pj_lle_e (pj_lle_u rfl (pj_lle_e pj_lle_nil)))) h
theorem pj_C29_101 {L d : Nat} {Q : Option pj_V → pj_M → Prop} {M : pj_M} {s0 : Int}  (h : Q (some (pj_vI s0)) M) : pj_G L d 29 101 [pj_vU, pj_vU, pj_vU, pj_vU] [pj_vI s0] M Q := by
  exact pj_G_r rfl rfl rfl h
theorem pj_C29_100 {L d : Nat} {Q : Option pj_V → pj_M → Prop} {M : pj_M} {x3 : Int}  (h : pj_G L d 29 101 [pj_vU, pj_vU, pj_vU, pj_vU] [pj_vI x3] M Q) : pj_G L d 29 100 [pj_vU, pj_vU, pj_vU, pj_vI x3] [] M Q := by
  refine pj_G_s pj_np29 1 (show pj_gs 1 L 29 100 [pj_vU, pj_vU, pj_vU, pj_vI x3] [] M = some ([], 101, [pj_vU, pj_vU, pj_vU, pj_vI x3], [pj_vI x3], M) from rfl) trivial ?_
  exact pj_G_loc (pj_lle_e (pj_lle_e (pj_lle_e (pj_lle_u rfl pj_lle_nil)))) h
theorem pj_C29_80 {L d : Nat} {Q : Option pj_V → pj_M → Prop} {M : pj_M} {x2 x3 : Int} (r0 : -2147483648 ≤ x2 ∧ x2 < 2147483648) (r1 : -2147483648 ≤ x3 ∧ x3 < 2147483648) (h1 : x2 ≤ x3 → pj_G L d 29 89 [pj_vU, pj_vU, pj_vU, pj_vI x3] [] M Q) (h2 : x3 < x2 → pj_G L d 29 85 [pj_vU, pj_vU, pj_vI x2, pj_vU] [] M Q) : pj_G L d 29 80 [pj_vU, pj_vU, pj_vI x2, pj_vI x3] [] M Q := by
  refine pj_G_s pj_np29 2 (show pj_gs 2 L 29 80 [pj_vU, pj_vU, pj_vI x2, pj_vI x3] [] M = some ([], 82, [pj_vU, pj_vU, pj_vI x2, pj_vI x3], [pj_vI x3, pj_vI x2], M) from rfl) trivial ?_
  exact pj_G_if (t := 89) rfl rfl (fun z => pj_G_loc (pj_lle_e (pj_lle_e (pj_lle_u rfl (pj_lle_e pj_lle_nil)))) (h1 (pj_ct_le (pj_nrm_id r0.1 r0.2) (pj_nrm_id r1.1 r1.2) z))) (fun z => pj_G_loc (pj_lle_e (pj_lle_e (pj_lle_e (pj_lle_u rfl pj_lle_nil)))) (h2 (pj_cf_le (pj_nrm_id r0.1 r0.2) (pj_nrm_id r1.1 r1.2) z)))
theorem pj_C29_85 {L d : Nat} {Q : Option pj_V → pj_M → Prop} {M : pj_M} {x2 : Int}  (h : pj_G L d 29 90 [pj_vU, pj_vU, pj_vU, pj_vU] [pj_vI x2] M Q) : pj_G L d 29 85 [pj_vU, pj_vU, pj_vI x2, pj_vU] [] M Q := by
  refine pj_G_s pj_np29 2 (show pj_gs 2 L 29 85 [pj_vU, pj_vU, pj_vI x2, pj_vU] [] M = some ([], 90, [pj_vU, pj_vU, pj_vI x2, pj_vU], [pj_vI x2], M) from rfl) trivial ?_
  exact pj_G_loc (pj_lle_e (pj_lle_e (pj_lle_u rfl (pj_lle_e pj_lle_nil)))) h
theorem pj_C29_90 {L d : Nat} {Q : Option pj_V → pj_M → Prop} {M : pj_M} {s0 : Int}  (h : Q (some (pj_vI s0)) M) : pj_G L d 29 90 [pj_vU, pj_vU, pj_vU, pj_vU] [pj_vI s0] M Q := by
  exact pj_G_r rfl rfl rfl h
theorem pj_C29_89 {L d : Nat} {Q : Option pj_V → pj_M → Prop} {M : pj_M} {x3 : Int}  (h : pj_G L d 29 90 [pj_vU, pj_vU, pj_vU, pj_vU] [pj_vI x3] M Q) : pj_G L d 29 89 [pj_vU, pj_vU, pj_vU, pj_vI x3] [] M Q := by
  refine pj_G_s pj_np29 1 (show pj_gs 1 L 29 89 [pj_vU, pj_vU, pj_vU, pj_vI x3] [] M = some ([], 90, [pj_vU, pj_vU, pj_vU, pj_vI x3], [pj_vI x3], M) from rfl) trivial ?_
  exact pj_G_loc (pj_lle_e (pj_lle_e (pj_lle_e (pj_lle_u rfl pj_lle_nil)))) h
theorem pj_C29_76 {L d : Nat} {Q : Option pj_V → pj_M → Prop} {M : pj_M} {x2 x3 : Int}  (h : Q (some (pj_vI (x2 * x3))) M) : pj_G L d 29 76 [pj_vU, pj_vU, pj_vI x2, pj_vI x3] [] M Q := by
  refine pj_G_s pj_np29 3 (show pj_gs 3 L 29 76 [pj_vU, pj_vU, pj_vI x2, pj_vI x3] [] M = some ([], 79, [pj_vU, pj_vU, pj_vI x2, pj_vI x3], [pj_vI (x2 * x3)], M) from rfl) trivial ?_
  exact pj_G_r rfl rfl rfl h
theorem pj_C29_72 {L d : Nat} {Q : Option pj_V → pj_M → Prop} {M : pj_M} {x2 x3 : Int}  (h : Q (some (pj_vI (x2 + x3))) M) : pj_G L d 29 72 [pj_vU, pj_vU, pj_vI x2, pj_vI x3] [] M Q := by
  refine pj_G_s pj_np29 3 (show pj_gs 3 L 29 72 [pj_vU, pj_vU, pj_vI x2, pj_vI x3] [] M = some ([], 75, [pj_vU, pj_vU, pj_vI x2, pj_vI x3], [pj_vI (x2 + x3)], M) from rfl) trivial ?_
  exact pj_G_r rfl rfl rfl h
theorem pj_C30_0 {L d : Nat} {Q : Option pj_V → pj_M → Prop} {M : pj_M} {x1 : Int}  (h : pj_G L d 30 5 [pj_vR 7, pj_vI x1, pj_vL 1, pj_vU, pj_vI 0] [] M Q) : pj_G L d 30 0 [pj_vR 7, pj_vI x1, pj_vU, pj_vU, pj_vU] [] M Q := by
  refine pj_G_s pj_np30 4 (show pj_gs 4 L 30 0 [pj_vR 7, pj_vI x1, pj_vU, pj_vU, pj_vU] [] M = some ([], 5, [pj_vR 7, pj_vI x1, pj_vL 1, pj_vU, pj_vI 0], [], M) from rfl) trivial ?_
  exact h
theorem pj_C30_5 {L d : Nat} {Q : Option pj_V → pj_M → Prop} {M : pj_M} {x1 x2 x4 : Int} (r0 : -2147483648 ≤ x4 ∧ x4 < 2147483648) (r1 : -2147483648 ≤ M 7 0 ∧ M 7 0 < 2147483648) (h1 : M 7 0 ≤ x4 → pj_G L d 30 65 [pj_vU, pj_vU, pj_vL x2, pj_vU, pj_vU] [] M Q) (h2 : x4 < M 7 0 → pj_G L d 30 14 [pj_vR 7, pj_vI x1, pj_vL x2, pj_vU, pj_vI x4] [] M Q) : pj_G L d 30 5 [pj_vR 7, pj_vI x1, pj_vL x2, pj_vU, pj_vI x4] [] M Q := by
  refine pj_G_s pj_np30 3 (show pj_gs 3 L 30 5 [pj_vR 7, pj_vI x1, pj_vL x2, pj_vU, pj_vI x4] [] M = some ([], 11, [pj_vR 7, pj_vI x1, pj_vL x2, pj_vU, pj_vI x4], [pj_vI (M 7 0), pj_vI x4], M) from rfl) trivial ?_
  exact pj_G_if (t := 65) rfl rfl (fun z => pj_G_loc (pj_lle_u rfl (pj_lle_u rfl (pj_lle_e (pj_lle_e (pj_lle_u rfl pj_lle_nil))))) (h1 (pj_ct_ge (pj_nrm_id r0.1 r0.2) (pj_nrm_id r1.1 r1.2) z))) (fun z => h2 (pj_cf_ge (pj_nrm_id r0.1 r0.2) (pj_nrm_id r1.1 r1.2) z))
theorem pj_C30_14 {L d : Nat} {Q : Option pj_V → pj_M → Prop} {M : pj_M} {x1 x2 x4 : Int} (j0 : Nat) (ej0 : x4 = (j0 : Int)) (bj0 : j0 < 7) (r0 : -2147483648 ≤ M 8 j0 ∧ M 8 j0 < 2147483648) (h1 : M 8 j0 = (4 : Int) → pj_G L d 30 59 [pj_vR 7, pj_vI x1, pj_vL x2, pj_vU, pj_vI x4] [] M Q) (h2 : M 8 j0 ≠ (4 : Int) → pj_G L d 30 25 [pj_vR 7, pj_vI x1, pj_vL x2, pj_vU, pj_vI x4] [] M Q) : pj_G L d 30 14 [pj_vR 7, pj_vI x1, pj_vL x2, pj_vU, pj_vI x4] [] M Q := by
  have nj0 : pj_nrm x4 = (j0 : Int) := pj_nk ej0 (by omega)
  refine pj_G_s pj_np30 5 (show pj_gs 5 L 30 14 [pj_vR 7, pj_vI x1, pj_vL x2, pj_vU, pj_vI x4] [] M = some ([0 ≤ pj_nrm x4 ∧ pj_nrm x4 < (7 : Int)], 22, [pj_vR 7, pj_vI x1, pj_vL x2, pj_vU, pj_vI x4], [pj_vI 4, pj_vI (M 8 (pj_nrm x4).toNat)], M) from rfl) ⟨by omega, trivial⟩ ?_
  simp only [nj0, Int.toNat_natCast]
  exact pj_G_if (t := 59) rfl rfl (fun z => h1 (pj_ct_eq (pj_nrm_id r0.1 r0.2) (pj_nrm_id (by omega) (by omega)) z)) (fun z => h2 (pj_cf_eq (pj_nrm_id r0.1 r0.2) (pj_nrm_id (by omega) (by omega)) z))
theorem pj_C30_25 {L d : Nat} {Q : Option pj_V → pj_M → Prop} {M : pj_M} {x1 x2 x4 : Int} (j0 : Nat) (ej0 : x4 = (j0 : Int)) (bj0 : j0 < 32) (h1 : pj_bt x1 j0 = false → pj_G L d 30 46 [pj_vR 7, pj_vI x1, pj_vL x2, pj_vU, pj_vI x4] [pj_vL x2] M Q) (h2 : pj_bt x1 j0 = true → pj_G L d 30 35 [pj_vR 7, pj_vI x1, pj_vL x2, pj_vU, pj_vI x4] [pj_vL x2] M Q) : pj_G L d 30 25 [pj_vR 7, pj_vI x1, pj_vL x2, pj_vU, pj_vI x4] [] M Q := by
  have nj0 : pj_nrm x4 = (j0 : Int) := pj_nk ej0 (by omega)
  refine pj_G_s pj_np30 6 (show pj_gs 6 L 30 25 [pj_vR 7, pj_vI x1, pj_vL x2, pj_vU, pj_vI x4] [] M = some ([], 32, [pj_vR 7, pj_vI x1, pj_vL x2, pj_vU, pj_vI x4], [pj_vI (pj_and (pj_shr x1 x4) 1), pj_vL x2], M) from rfl) trivial ?_
  exact pj_G_if0 (t := 46) rfl rfl (fun z => h1 (pj_ieq0 (pj_ct_eq (pj_tst ej0 (by omega)) rfl z))) (fun z => h2 (pj_ine0 (pj_cf_eq (pj_tst ej0 (by omega)) rfl z)))
theorem pj_C30_35 {L d : Nat} {Q : Option pj_V → pj_M → Prop} {M : pj_M} {x1 x2 x4 s0 : Int} (j0 : Nat) (ej0 : x4 = (j0 : Int)) (bj0 : j0 < 7) (r0 : -2147483648 ≤ M 14 j0 ∧ M 14 j0 < 2147483648) (h : pj_G L d 30 57 [pj_vR 7, pj_vI x1, pj_vL x2, pj_vU, pj_vI x4] [pj_vL (M 14 j0), pj_vL s0] M Q) : pj_G L d 30 35 [pj_vR 7, pj_vI x1, pj_vL x2, pj_vU, pj_vI x4] [pj_vL s0] M Q := by
  have nj0 : pj_nrm x4 = (j0 : Int) := pj_nk ej0 (by omega)
  have q1 : pj_nrm (M 14 j0) = M 14 j0 := (pj_nrm_id r0.1 r0.2)
  refine pj_G_s pj_np30 6 (show pj_gs 6 L 30 35 [pj_vR 7, pj_vI x1, pj_vL x2, pj_vU, pj_vI x4] [pj_vL s0] M = some ([0 ≤ pj_nrm x4 ∧ pj_nrm x4 < (7 : Int)], 57, [pj_vR 7, pj_vI x1, pj_vL x2, pj_vU, pj_vI x4], [pj_vL (pj_nrm (M 14 (pj_nrm x4).toNat)), pj_vL s0], M) from rfl) ⟨by omega, trivial⟩ ?_
  simp only [nj0, q1, Int.toNat_natCast]
  exact h
theorem pj_C30_57 {L d : Nat} {Q : Option pj_V → pj_M → Prop} {M : pj_M} {x1 x2 x4 s0 s1 : Int}  (h : pj_G L d 30 59 [pj_vR 7, pj_vI x1, pj_vL (s0 * s1), pj_vU, pj_vI x4] [] M Q) : pj_G L d 30 57 [pj_vR 7, pj_vI x1, pj_vL x2, pj_vU, pj_vI x4] [pj_vL s1, pj_vL s0] M Q := by
  refine pj_G_s pj_np30 2 (show pj_gs 2 L 30 57 [pj_vR 7, pj_vI x1, pj_vL x2, pj_vU, pj_vI x4] [pj_vL s1, pj_vL s0] M = some ([], 59, [pj_vR 7, pj_vI x1, pj_vL (s0 * s1), pj_vU, pj_vI x4], [], M) from rfl) trivial ?_
  exact h
theorem pj_C30_59 {L d : Nat} {Q : Option pj_V → pj_M → Prop} {M : pj_M} {x1 x2 x4 : Int}  (h : pj_G L d 30 5 [pj_vR 7, pj_vI x1, pj_vL x2, pj_vU, pj_vI (x4 + 1)] [] M Q) : pj_G L d 30 59 [pj_vR 7, pj_vI x1, pj_vL x2, pj_vU, pj_vI x4] [] M Q := by
  refine pj_G_s pj_np30 2 (show pj_gs 2 L 30 59 [pj_vR 7, pj_vI x1, pj_vL x2, pj_vU, pj_vI x4] [] M = some ([], 5, [pj_vR 7, pj_vI x1, pj_vL x2, pj_vU, pj_vI (x4 + 1)], [], M) from rfl) trivial ?_
  exact h
theorem pj_C30_46 {L d : Nat} {Q : Option pj_V → pj_M → Prop} {M : pj_M} {x1 x2 x4 s0 : Int} (j0 : Nat) (ej0 : x4 = (j0 : Int)) (bj0 : j0 < 7) (r0 : -2147483648 ≤ 10 - (M 14 j0) ∧ 10 - (M 14 j0) < 2147483648) (h : pj_G L d 30 57 [pj_vR 7, pj_vI x1, pj_vL x2, pj_vU, pj_vI x4] [pj_vL (10 - (M 14 j0)), pj_vL s0] M Q) : pj_G L d 30 46 [pj_vR 7, pj_vI x1, pj_vL x2, pj_vU, pj_vI x4] [pj_vL s0] M Q := by
  have nj0 : pj_nrm x4 = (j0 : Int) := pj_nk ej0 (by omega)
  have q1 : pj_nrm (10 - (M 14 j0)) = 10 - (M 14 j0) := (pj_nrm_id r0.1 r0.2)
  refine pj_G_s pj_np30 7 (show pj_gs 7 L 30 46 [pj_vR 7, pj_vI x1, pj_vL x2, pj_vU, pj_vI x4] [pj_vL s0] M = some ([0 ≤ pj_nrm x4 ∧ pj_nrm x4 < (7 : Int)], 57, [pj_vR 7, pj_vI x1, pj_vL x2, pj_vU, pj_vI x4], [pj_vL (pj_nrm (10 - (M 14 (pj_nrm x4).toNat))), pj_vL s0], M) from rfl) ⟨by omega, trivial⟩ ?_
  simp only [nj0, q1, Int.toNat_natCast]
  exact h
theorem pj_C30_65 {L d : Nat} {Q : Option pj_V → pj_M → Prop} {M : pj_M} {x2 : Int}  (h : Q (some (pj_vL x2)) M) : pj_G L d 30 65 [pj_vU, pj_vU, pj_vL x2, pj_vU, pj_vU] [] M Q := by
  refine pj_G_s pj_np30 1 (show pj_gs 1 L 30 65 [pj_vU, pj_vU, pj_vL x2, pj_vU, pj_vU] [] M = some ([], 66, [pj_vU, pj_vU, pj_vL x2, pj_vU, pj_vU], [pj_vL x2], M) from rfl) trivial ?_
  exact pj_G_r rfl rfl rfl h
