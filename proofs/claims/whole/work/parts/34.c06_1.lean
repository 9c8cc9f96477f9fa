theorem pj_C54_94 {L d : Nat} {Q : Option pj_V → pj_M → Prop} {M : pj_M} {x1 : Int} (j0 : Nat) (ej0 : x1 = (j0 : Int)) (bj0 : j0 < 7) (h : Q (some (pj_vI (M 11 j0))) M) : pj_G L d 54 94 [pj_vR 1, pj_vI x1, pj_vU] [] M Q := by
  have nj0 : pj_nrm x1 = (j0 : Int) := pj_nk ej0 (by omega)
  refine pj_G_s pj_np54 5 (show pj_gs 5 L 54 94 [pj_vR 1, pj_vI x1, pj_vU] [] M = some ([0 ≤ pj_nrm x1 ∧ pj_nrm x1 < (7 : Int)], 103, [pj_vR 1, pj_vI x1, pj_vU], [pj_vI (M 11 (pj_nrm x1).toNat)], M) from rfl) ⟨by omega, trivial⟩ ?_
  simp only [nj0, Int.toNat_natCast]
  exact pj_G_r rfl rfl rfl h
theorem pj_C54_84 {L d : Nat} {Q : Option pj_V → pj_M → Prop} {M : pj_M} {x1 : Int} (j0 : Nat) (ej0 : x1 = (j0 : Int)) (bj0 : j0 < 7) (h : Q (some (pj_vI (M 10 j0))) M) : pj_G L d 54 84 [pj_vR 1, pj_vI x1, pj_vU] [] M Q := by
  have nj0 : pj_nrm x1 = (j0 : Int) := pj_nk ej0 (by omega)
  refine pj_G_s pj_np54 5 (show pj_gs 5 L 54 84 [pj_vR 1, pj_vI x1, pj_vU] [] M = some ([0 ≤ pj_nrm x1 ∧ pj_nrm x1 < (7 : Int)], 93, [pj_vR 1, pj_vI x1, pj_vU], [pj_vI (M 10 (pj_nrm x1).toNat)], M) from rfl) ⟨by omega, trivial⟩ ?_
  simp only [nj0, Int.toNat_natCast]
  exact pj_G_r rfl rfl rfl h
theorem pj_C54_74 {L d : Nat} {Q : Option pj_V → pj_M → Prop} {M : pj_M} {x1 : Int} (j0 : Nat) (ej0 : x1 = (j0 : Int)) (bj0 : j0 < 7) (h : Q (some (pj_vI (M 9 j0))) M) : pj_G L d 54 74 [pj_vR 1, pj_vI x1, pj_vU] [] M Q := by
  have nj0 : pj_nrm x1 = (j0 : Int) := pj_nk ej0 (by omega)
  refine pj_G_s pj_np54 5 (show pj_gs 5 L 54 74 [pj_vR 1, pj_vI x1, pj_vU] [] M = some ([0 ≤ pj_nrm x1 ∧ pj_nrm x1 < (7 : Int)], 83, [pj_vR 1, pj_vI x1, pj_vU], [pj_vI (M 9 (pj_nrm x1).toNat)], M) from rfl) ⟨by omega, trivial⟩ ?_
  simp only [nj0, Int.toNat_natCast]
  exact pj_G_r rfl rfl rfl h
theorem pj_C54_64 {L d : Nat} {Q : Option pj_V → pj_M → Prop} {M : pj_M} {x1 : Int} (j0 : Nat) (ej0 : x1 = (j0 : Int)) (bj0 : j0 < 7) (h : Q (some (pj_vI (M 8 j0))) M) : pj_G L d 54 64 [pj_vR 1, pj_vI x1, pj_vU] [] M Q := by
  have nj0 : pj_nrm x1 = (j0 : Int) := pj_nk ej0 (by omega)
  refine pj_G_s pj_np54 5 (show pj_gs 5 L 54 64 [pj_vR 1, pj_vI x1, pj_vU] [] M = some ([0 ≤ pj_nrm x1 ∧ pj_nrm x1 < (7 : Int)], 73, [pj_vR 1, pj_vI x1, pj_vU], [pj_vI (M 8 (pj_nrm x1).toNat)], M) from rfl) ⟨by omega, trivial⟩ ?_
  simp only [nj0, Int.toNat_natCast]
  exact pj_G_r rfl rfl rfl h
theorem pj_C55_0 {L d : Nat} {Q : Option pj_V → pj_M → Prop} {M : pj_M} {x1 x2 : Int} (r0 : -2147483648 ≤ x1 ∧ x1 < 2147483648) (h1 : x1 = (4 : Int) → pj_G L d 55 10 [pj_vR 1, pj_vI x1, pj_vI x2] [] M Q) (h2 : x1 ≠ (4 : Int) → pj_G L d 55 5 [pj_vR 1, pj_vI x1, pj_vI x2] [] M Q) : pj_G L d 55 0 [pj_vR 1, pj_vI x1, pj_vI x2] [] M Q := by
  refine pj_G_s pj_np55 2 (show pj_gs 2 L 55 0 [pj_vR 1, pj_vI x1, pj_vI x2] [] M = some ([], 2, [pj_vR 1, pj_vI x1, pj_vI x2], [pj_vI 4, pj_vI x1], M) from rfl) trivial ?_
  exact pj_G_if (t := 10) rfl rfl (fun z => h1 (pj_ct_eq (pj_nrm_id r0.1 r0.2) (pj_nrm_id (by omega) (by omega)) z)) (fun z => h2 (pj_cf_eq (pj_nrm_id r0.1 r0.2) (pj_nrm_id (by omega) (by omega)) z))
theorem pj_C55_5 {L d : Nat} {Q : Option pj_V → pj_M → Prop} {M : pj_M} {x1 x2 : Int} (r0 : -2147483648 ≤ x1 ∧ x1 < 2147483648) (h1 : x1 ≠ (5 : Int) → pj_G L d 55 25 [pj_vR 1, pj_vI x1, pj_vI x2] [] M Q) (h2 : x1 = (5 : Int) → pj_G L d 55 10 [pj_vR 1, pj_vI x1, pj_vI x2] [] M Q) : pj_G L d 55 5 [pj_vR 1, pj_vI x1, pj_vI x2] [] M Q := by
  refine pj_G_s pj_np55 2 (show pj_gs 2 L 55 5 [pj_vR 1, pj_vI x1, pj_vI x2] [] M = some ([], 7, [pj_vR 1, pj_vI x1, pj_vI x2], [pj_vI 5, pj_vI x1], M) from rfl) trivial ?_
  exact pj_G_if (t := 25) rfl rfl (fun z => h1 (pj_ct_ne (pj_nrm_id r0.1 r0.2) (pj_nrm_id (by omega) (by omega)) z)) (fun z => h2 (pj_cf_ne (pj_nrm_id r0.1 r0.2) (pj_nrm_id (by omega) (by omega)) z))
theorem pj_C55_10 {L d : Nat} {Q : Option pj_V → pj_M → Prop} {M : pj_M} {x1 x2 : Int}  (h : pj_G L d 78 0 [pj_vR 1, pj_vI x2] [] M (fun r M1 => pj_G L (d + 1) 55 15 [pj_vR 1, pj_vI x1, pj_vI x2] (r.toList ++ []) M1 Q)) : pj_G L (d + 1) 55 10 [pj_vR 1, pj_vI x1, pj_vI x2] [] M Q := by
  refine pj_G_s (d := d + 1) pj_np55 2 (show pj_gs 2 L 55 10 [pj_vR 1, pj_vI x1, pj_vI x2] [] M = some ([], 12, [pj_vR 1, pj_vI x1, pj_vI x2], [pj_vI x2, pj_vR 1], M) from rfl) trivial ?_
  exact pj_G_k (j := 78) (vs := [pj_vR 1, pj_vI x2]) (st := []) rfl rfl rfl rfl rfl (Nat.le_of_ble_eq_true rfl) pj_nc78 h
theorem pj_C55_15 {L d : Nat} {Q : Option pj_V → pj_M → Prop} {M : pj_M} {x1 x2 s0 : Int} (r0 : -2147483648 ≤ s0 ∧ s0 < 2147483648) (h1 : s0 ≠ 0 → pj_G L d 55 25 [pj_vR 1, pj_vI x1, pj_vI x2] [] M Q) (h2 : s0 = 0 → pj_G L d 55 18 [pj_vR 1, pj_vU, pj_vU] [] M Q) : pj_G L d 55 15 [pj_vR 1, pj_vI x1, pj_vI x2] [pj_vI s0] M Q := by
  exact pj_G_if0 (t := 25) rfl rfl (fun z => h1 (pj_ct_ne (pj_nrm_id r0.1 r0.2) rfl z)) (fun z => pj_G_loc (pj_lle_e (pj_lle_u rfl (pj_lle_u rfl pj_lle_nil))) (h2 (pj_cf_ne (pj_nrm_id r0.1 r0.2) rfl z)))
theorem pj_C55_18 {L d : Nat} {Q : Option pj_V → pj_M → Prop} {M : pj_M}  (h : pj_G L d 77 0 [pj_vR 1, pj_vI ((-3))] [] M (fun r M1 => pj_G L (d + 1) 55 24 [pj_vU, pj_vU, pj_vU] (r.toList ++ []) M1 Q)) : pj_G L (d + 1) 55 18 [pj_vR 1, pj_vU, pj_vU] [] M Q := by
  refine pj_G_s (d := d + 1) pj_np55 2 (show pj_gs 2 L 55 18 [pj_vR 1, pj_vU, pj_vU] [] M = some ([], 21, [pj_vR 1, pj_vU, pj_vU], [pj_vI ((-3)), pj_vR 1], M) from rfl) trivial ?_
  exact pj_G_k (j := 77) (vs := [pj_vR 1, pj_vI ((-3))]) (st := []) rfl rfl rfl rfl rfl (Nat.le_of_ble_eq_true rfl) pj_nc77 (pj_G.mono h (fun _ _ hh => pj_G_loc (pj_lle_u rfl (pj_lle_e (pj_lle_e pj_lle_nil))) hh))
theorem pj_C55_24 {L d : Nat} {Q : Option pj_V → pj_M → Prop} {M : pj_M} {s0 : Int}  (h : Q (some (pj_vI s0)) M) : pj_G L d 55 24 [pj_vU, pj_vU, pj_vU] [pj_vI s0] M Q := by
  exact pj_G_r rfl rfl rfl h
theorem pj_C55_25 {L d : Nat} {Q : Option pj_V → pj_M → Prop} {M : pj_M} {x1 x2 : Int} (r0 : -2147483648 ≤ x1 ∧ x1 < 2147483648) (k0 : x1 = 0 → pj_G L d 55 64 [pj_vR 1, pj_vU, pj_vU] [] M Q) (k1 : x1 = 1 → pj_G L d 55 72 [pj_vR 1, pj_vU, pj_vU] [] M Q) (k2 : x1 = 2 → pj_G L d 55 80 [pj_vR 1, pj_vU, pj_vU] [] M Q) (k3 : x1 = 3 → pj_G L d 55 88 [pj_vR 1, pj_vU, pj_vU] [] M Q) (k4 : x1 = 4 → pj_G L d 55 96 [pj_vR 1, pj_vU, pj_vI x2] [] M Q) (k5 : x1 = 5 → pj_G L d 55 106 [pj_vR 1, pj_vU, pj_vI x2] [] M Q) (kd : (x1 < 0 ∨ 5 < x1) → pj_G L d 55 116 [pj_vR 1, pj_vU, pj_vU] [] M Q) : pj_G L d 55 25 [pj_vR 1, pj_vI x1, pj_vI x2] [] M Q := by
  refine pj_G_s pj_np55 1 (show pj_gs 1 L 55 25 [pj_vR 1, pj_vI x1, pj_vI x2] [] M = some ([], 26, [pj_vR 1, pj_vI x1, pj_vI x2], [pj_vI x1], M) from rfl) trivial ?_
  have hX : pj_nrm x1 = x1 := (pj_nrm_id r0.1 r0.2)
  by_cases z : x1 < 0 ∨ 5 < x1
  · refine pj_G_n (pc' := 116) (loc' := [pj_vR 1, pj_vI x1, pj_vI x2]) (stk' := []) (M' := M) pj_np55 rfl ?_ (pj_G_loc (pj_lle_e (pj_lle_u rfl (pj_lle_u rfl pj_lle_nil))) (kd z))
    show (if pj_nrm x1 < 0 ∨ 5 < pj_nrm x1 then _ else _) = _
    rw [hX, if_pos z]
    rfl
  · obtain w | w | w | w | w | w : x1 = 0 ∨ x1 = 1 ∨ x1 = 2 ∨ x1 = 3 ∨ x1 = 4 ∨ x1 = 5 := by omega
    · refine pj_G_n (pc' := 64) (loc' := [pj_vR 1, pj_vI x1, pj_vI x2]) (stk' := []) (M' := M) pj_np55 rfl ?_ (pj_G_loc (pj_lle_e (pj_lle_u rfl (pj_lle_u rfl pj_lle_nil))) (k0 w))
      show (if pj_nrm x1 < 0 ∨ 5 < pj_nrm x1 then _ else _) = _
      rw [hX, if_neg z, w]
      rfl
    · refine pj_G_n (pc' := 72) (loc' := [pj_vR 1, pj_vI x1, pj_vI x2]) (stk' := []) (M' := M) pj_np55 rfl ?_ (pj_G_loc (pj_lle_e (pj_lle_u rfl (pj_lle_u rfl pj_lle_nil))) (k1 w))
      show (if pj_nrm x1 < 0 ∨ 5 < pj_nrm x1 then _ else _) = _
      rw [hX, if_neg z, w]
      rfl
    · refine pj_G_n (pc' := 80) (loc' := [pj_vR 1, pj_vI x1, pj_vI x2]) (stk' := []) (M' := M) pj_np55 rfl ?_ (pj_G_loc (pj_lle_e (pj_lle_u rfl (pj_lle_u rfl pj_lle_nil))) (k2 w))
      show (if pj_nrm x1 < 0 ∨ 5 < pj_nrm x1 then _ else _) = _
      rw [hX, if_neg z, w]
      rfl
    · refine pj_G_n (pc' := 88) (loc' := [pj_vR 1, pj_vI x1, pj_vI x2]) (stk' := []) (M' := M) pj_np55 rfl ?_ (pj_G_loc (pj_lle_e (pj_lle_u rfl (pj_lle_u rfl pj_lle_nil))) (k3 w))
      show (if pj_nrm x1 < 0 ∨ 5 < pj_nrm x1 then _ else _) = _
      rw [hX, if_neg z, w]
      rfl
    · refine pj_G_n (pc' := 96) (loc' := [pj_vR 1, pj_vI x1, pj_vI x2]) (stk' := []) (M' := M) pj_np55 rfl ?_ (pj_G_loc (pj_lle_e (pj_lle_u rfl (pj_lle_e pj_lle_nil))) (k4 w))
      show (if pj_nrm x1 < 0 ∨ 5 < pj_nrm x1 then _ else _) = _
      rw [hX, if_neg z, w]
      rfl
    · refine pj_G_n (pc' := 106) (loc' := [pj_vR 1, pj_vI x1, pj_vI x2]) (stk' := []) (M' := M) pj_np55 rfl ?_ (pj_G_loc (pj_lle_e (pj_lle_u rfl (pj_lle_e pj_lle_nil))) (k5 w))
      show (if pj_nrm x1 < 0 ∨ 5 < pj_nrm x1 then _ else _) = _
      rw [hX, if_neg z, w]
      rfl
theorem pj_C55_116 {L d : Nat} {Q : Option pj_V → pj_M → Prop} {M : pj_M}  (h : pj_G L d 77 0 [pj_vR 1, pj_vI ((-7))] [] M (fun r M1 => pj_G L (d + 1) 55 122 [pj_vU, pj_vU, pj_vU] (r.toList ++ []) M1 Q)) : pj_G L (d + 1) 55 116 [pj_vR 1, pj_vU, pj_vU] [] M Q := by
  refine pj_G_s (d := d + 1) pj_np55 2 (show pj_gs 2 L 55 116 [pj_vR 1, pj_vU, pj_vU] [] M = some ([], 119, [pj_vR 1, pj_vU, pj_vU], [pj_vI ((-7)), pj_vR 1], M) from rfl) trivial ?_
  exact pj_G_k (j := 77) (vs := [pj_vR 1, pj_vI ((-7))]) (st := []) rfl rfl rfl rfl rfl (Nat.le_of_ble_eq_true rfl) pj_nc77 (pj_G.mono h (fun _ _ hh => pj_G_loc (pj_lle_u rfl (pj_lle_e (pj_lle_e pj_lle_nil))) hh))
theorem pj_C55_122 {L d : Nat} {Q : Option pj_V → pj_M → Prop} {M : pj_M} {s0 : Int}  (h : Q (some (pj_vI s0)) M) : pj_G L d 55 122 [pj_vU, pj_vU, pj_vU] [pj_vI s0] M Q := by
  exact pj_G_r rfl rfl rfl h
theorem pj_C55_106 {L d : Nat} {Q : Option pj_V → pj_M → Prop} {M : pj_M} {x2 : Int} (j0 : Nat) (ej0 : x2 = (j0 : Int)) (bj0 : j0 < 14) (h : Q (some (pj_vI (M 3 j0))) M) : pj_G L d 55 106 [pj_vR 1, pj_vU, pj_vI x2] [] M Q := by
  have nj0 : pj_nrm x2 = (j0 : Int) := pj_nk ej0 (by omega)
  refine pj_G_s pj_np55 5 (show pj_gs 5 L 55 106 [pj_vR 1, pj_vU, pj_vI x2] [] M = some ([0 ≤ pj_nrm x2 ∧ pj_nrm x2 < (14 : Int)], 115, [pj_vR 1, pj_vU, pj_vI x2], [pj_vI (M 3 (pj_nrm x2).toNat)], M) from rfl) ⟨by omega, trivial⟩ ?_
  simp only [nj0, Int.toNat_natCast]
  exact pj_G_r rfl rfl rfl h
theorem pj_C55_96 {L d : Nat} {Q : Option pj_V → pj_M → Prop} {M : pj_M} {x2 : Int} (j0 : Nat) (ej0 : x2 = (j0 : Int)) (bj0 : j0 < 14) (h : Q (some (pj_vI (M 4 j0))) M) : pj_G L d 55 96 [pj_vR 1, pj_vU, pj_vI x2] [] M Q := by
  have nj0 : pj_nrm x2 = (j0 : Int) := pj_nk ej0 (by omega)
  refine pj_G_s pj_np55 5 (show pj_gs 5 L 55 96 [pj_vR 1, pj_vU, pj_vI x2] [] M = some ([0 ≤ pj_nrm x2 ∧ pj_nrm x2 < (14 : Int)], 105, [pj_vR 1, pj_vU, pj_vI x2], [pj_vI (M 4 (pj_nrm x2).toNat)], M) from rfl) ⟨by omega, trivial⟩ ?_
  simp only [nj0, Int.toNat_natCast]
  exact pj_G_r rfl rfl rfl h
theorem pj_C55_88 {L d : Nat} {Q : Option pj_V → pj_M → Prop} {M : pj_M}  (h : Q (some (pj_vI (M 19 0))) M) : pj_G L d 55 88 [pj_vR 1, pj_vU, pj_vU] [] M Q := by
  refine pj_G_s pj_np55 3 (show pj_gs 3 L 55 88 [pj_vR 1, pj_vU, pj_vU] [] M = some ([], 95, [pj_vR 1, pj_vU, pj_vU], [pj_vI (M 19 0)], M) from rfl) trivial ?_
  exact pj_G_r rfl rfl rfl h
theorem pj_C55_80 {L d : Nat} {Q : Option pj_V → pj_M → Prop} {M : pj_M}  (h : Q (some (pj_vI (M 2 1))) M) : pj_G L d 55 80 [pj_vR 1, pj_vU, pj_vU] [] M Q := by
  refine pj_G_s pj_np55 3 (show pj_gs 3 L 55 80 [pj_vR 1, pj_vU, pj_vU] [] M = some ([], 87, [pj_vR 1, pj_vU, pj_vU], [pj_vI (M 2 1)], M) from rfl) trivial ?_
  exact pj_G_r rfl rfl rfl h
theorem pj_C55_72 {L d : Nat} {Q : Option pj_V → pj_M → Prop} {M : pj_M}  (h : Q (some (pj_vI (M 7 0))) M) : pj_G L d 55 72 [pj_vR 1, pj_vU, pj_vU] [] M Q := by
  refine pj_G_s pj_np55 3 (show pj_gs 3 L 55 72 [pj_vR 1, pj_vU, pj_vU] [] M = some ([], 79, [pj_vR 1, pj_vU, pj_vU], [pj_vI (M 7 0)], M) from rfl) trivial ?_
  exact pj_G_r rfl rfl rfl h
theorem pj_C55_64 {L d : Nat} {Q : Option pj_V → pj_M → Prop} {M : pj_M}  (h : Q (some (pj_vI (M 2 0))) M) : pj_G L d 55 64 [pj_vR 1, pj_vU, pj_vU] [] M Q := by
  refine pj_G_s pj_np55 3 (show pj_gs 3 L 55 64 [pj_vR 1, pj_vU, pj_vU] [] M = some ([], 71, [pj_vR 1, pj_vU, pj_vU], [pj_vI (M 2 0)], M) from rfl) trivial ?_
  exact pj_G_r rfl rfl rfl h
theorem pj_C56_0 {L d : Nat} {Q : Option pj_V → pj_M → Prop} {M : pj_M} {x1 x2 x3 : Int}  (h : pj_G L d 80 0 [pj_vR 1, pj_vI x1] [] M (fun r M1 => pj_G L (d + 1) 56 5 [pj_vR 1, pj_vI x1, pj_vI x2, pj_vI x3, pj_vU] (r.toList ++ []) M1 Q)) : pj_G L (d + 1) 56 0 [pj_vR 1, pj_vI x1, pj_vI x2, pj_vI x3, pj_vU] [] M Q := by
  refine pj_G_s (d := d + 1) pj_np56 2 (show pj_gs 2 L 56 0 [pj_vR 1, pj_vI x1, pj_vI x2, pj_vI x3, pj_vU] [] M = some ([], 2, [pj_vR 1, pj_vI x1, pj_vI x2, pj_vI x3, pj_vU], [pj_vI x1, pj_vR 1], M) from rfl) trivial ?_
  exact pj_G_k (j := 80) (vs := [pj_vR 1, pj_vI x1]) (st := []) rfl rfl rfl rfl rfl (Nat.le_of_ble_eq_true rfl) pj_nc80 h
theorem pj_C56_5 {L d : Nat} {Q : Option pj_V → pj_M → Prop} {M : pj_M} {x1 x2 x3 s0 : Int} (r0 : -2147483648 ≤ s0 ∧ s0 < 2147483648) (h1 : s0 = 0 → pj_G L d 56 16 [pj_vR 1, pj_vU, pj_vU, pj_vU, pj_vU] [] M Q) (h2 : s0 ≠ 0 → pj_G L d 56 8 [pj_vR 1, pj_vI x1, pj_vI x2, pj_vI x3, pj_vU] [] M Q) : pj_G L d 56 5 [pj_vR 1, pj_vI x1, pj_vI x2, pj_vI x3, pj_vU] [pj_vI s0] M Q := by
  exact pj_G_if0 (t := 16) rfl rfl (fun z => pj_G_loc (pj_lle_e (pj_lle_u rfl (pj_lle_u rfl (pj_lle_u rfl (pj_lle_e pj_lle_nil))))) (h1 (pj_ct_eq (pj_nrm_id r0.1 r0.2) rfl z))) (fun z => h2 (pj_cf_eq (pj_nrm_id r0.1 r0.2) rfl z))
theorem pj_C56_8 {L d : Nat} {Q : Option pj_V → pj_M → Prop} {M : pj_M} {x1 x2 x3 : Int}  (h : pj_G L d 78 0 [pj_vR 1, pj_vI x2] [] M (fun r M1 => pj_G L (d + 1) 56 13 [pj_vR 1, pj_vI x1, pj_vI x2, pj_vI x3, pj_vU] (r.toList ++ []) M1 Q)) : pj_G L (d + 1) 56 8 [pj_vR 1, pj_vI x1, pj_vI x2, pj_vI x3, pj_vU] [] M Q := by
  refine pj_G_s (d := d + 1) pj_np56 2 (show pj_gs 2 L 56 8 [pj_vR 1, pj_vI x1, pj_vI x2, pj_vI x3, pj_vU] [] M = some ([], 10, [pj_vR 1, pj_vI x1, pj_vI x2, pj_vI x3, pj_vU], [pj_vI x2, pj_vR 1], M) from rfl) trivial ?_
  exact pj_G_k (j := 78) (vs := [pj_vR 1, pj_vI x2]) (st := []) rfl rfl rfl rfl rfl (Nat.le_of_ble_eq_true rfl) pj_nc78 h
theorem pj_C56_13 {L d : Nat} {Q : Option pj_V → pj_M → Prop} {M : pj_M} {x1 x2 x3 s0 : Int} (r0 : -2147483648 ≤ s0 ∧ s0 < 2147483648) (h1 : s0 ≠ 0 → pj_G L d 56 23 [pj_vR 1, pj_vI x1, pj_vI x2, pj_vI x3, pj_vU] [] M Q) (h2 : s0 = 0 → pj_G L d 56 16 [pj_vR 1, pj_vU, pj_vU, pj_vU, pj_vU] [] M Q) : pj_G L d 56 13 [pj_vR 1, pj_vI x1, pj_vI x2, pj_vI x3, pj_vU] [pj_vI s0] M Q := by
  exact pj_G_if0 (t := 23) rfl rfl (fun z => h1 (pj_ct_ne (pj_nrm_id r0.1 r0.2) rfl z)) (fun z => pj_G_loc (pj_lle_e (pj_lle_u rfl (pj_lle_u rfl (pj_lle_u rfl (pj_lle_e pj_lle_nil))))) (h2 (pj_cf_ne (pj_nrm_id r0.1 r0.2) rfl z)))
theorem pj_C56_16 {L d : Nat} {Q : Option pj_V → pj_M → Prop} {M : pj_M}  (h : pj_G L d 77 0 [pj_vR 1, pj_vI ((-3))] [] M (fun r M1 => pj_G L (d + 1) 56 22 [pj_vU, pj_vU, pj_vU, pj_vU, pj_vU] (r.toList ++ []) M1 Q)) : pj_G L (d + 1) 56 16 [pj_vR 1, pj_vU, pj_vU, pj_vU, pj_vU] [] M Q := by
  refine pj_G_s (d := d + 1) pj_np56 2 (show pj_gs 2 L 56 16 [pj_vR 1, pj_vU, pj_vU, pj_vU, pj_vU] [] M = some ([], 19, [pj_vR 1, pj_vU, pj_vU, pj_vU, pj_vU], [pj_vI ((-3)), pj_vR 1], M) from rfl) trivial ?_
  exact pj_G_k (j := 77) (vs := [pj_vR 1, pj_vI ((-3))]) (st := []) rfl rfl rfl rfl rfl (Nat.le_of_ble_eq_true rfl) pj_nc77 (pj_G.mono h (fun _ _ hh => pj_G_loc (pj_lle_u rfl (pj_lle_e (pj_lle_e (pj_lle_e (pj_lle_e pj_lle_nil))))) hh))
theorem pj_C56_22 {L d : Nat} {Q : Option pj_V → pj_M → Prop} {M : pj_M} {s0 : Int}  (h : Q (some (pj_vI s0)) M) : pj_G L d 56 22 [pj_vU, pj_vU, pj_vU, pj_vU, pj_vU] [pj_vI s0] M Q := by
  exact pj_G_r rfl rfl rfl h
theorem pj_C56_23 {L d : Nat} {Q : Option pj_V → pj_M → Prop} {M : pj_M} {x1 x2 x3 : Int} (r0 : -2147483648 ≤ x3 ∧ x3 < 2147483648) (h1 : x3 < 0 → pj_G L d 56 62 [pj_vR 1, pj_vU, pj_vU, pj_vU, pj_vU] [] M Q) (h2 : 0 ≤ x3 → pj_G L d 56 35 [pj_vR 1, pj_vU, pj_vI x2, pj_vI x3, pj_vI ((x1 * 14) + x2)] [] M Q) : pj_G L d 56 23 [pj_vR 1, pj_vI x1, pj_vI x2, pj_vI x3, pj_vU] [] M Q := by
  refine pj_G_s pj_np56 7 (show pj_gs 7 L 56 23 [pj_vR 1, pj_vI x1, pj_vI x2, pj_vI x3, pj_vU] [] M = some ([], 32, [pj_vR 1, pj_vI x1, pj_vI x2, pj_vI x3, pj_vI ((x1 * 14) + x2)], [pj_vI x3], M) from rfl) trivial ?_
  exact pj_G_if0 (t := 62) rfl rfl (fun z => pj_G_loc (pj_lle_e (pj_lle_u rfl (pj_lle_u rfl (pj_lle_u rfl (pj_lle_u rfl pj_lle_nil))))) (h1 (pj_ct_lt (pj_nrm_id r0.1 r0.2) rfl z))) (fun z => pj_G_loc (pj_lle_e (pj_lle_u rfl (pj_lle_e (pj_lle_e (pj_lle_e pj_lle_nil))))) (h2 (pj_cf_lt (pj_nrm_id r0.1 r0.2) rfl z)))
theorem pj_C56_35 {L d : Nat} {Q : Option pj_V → pj_M → Prop} {M : pj_M} {x2 x3 x4 : Int} (j0 : Nat) (ej0 : x2 = (j0 : Int)) (bj0 : j0 < 14) (r0 : -2147483648 ≤ x3 ∧ x3 < 2147483648) (r1 : -2147483648 ≤ M 3 j0 ∧ M 3 j0 < 2147483648) (h1 : M 3 j0 ≤ x3 → pj_G L d 56 62 [pj_vR 1, pj_vU, pj_vU, pj_vU, pj_vU] [] M Q) (h2 : x3 < M 3 j0 → pj_G L d 56 48 [pj_vR 1, pj_vU, pj_vU, pj_vI x3, pj_vI x4] [] M Q) : pj_G L d 56 35 [pj_vR 1, pj_vU, pj_vI x2, pj_vI x3, pj_vI x4] [] M Q := by
  have nj0 : pj_nrm x2 = (j0 : Int) := pj_nk ej0 (by omega)
  refine pj_G_s pj_np56 6 (show pj_gs 6 L 56 35 [pj_vR 1, pj_vU, pj_vI x2, pj_vI x3, pj_vI x4] [] M = some ([0 ≤ pj_nrm x2 ∧ pj_nrm x2 < (14 : Int)], 45, [pj_vR 1, pj_vU, pj_vI x2, pj_vI x3, pj_vI x4], [pj_vI (M 3 (pj_nrm x2).toNat), pj_vI x3], M) from rfl) ⟨by omega, trivial⟩ ?_
  simp only [nj0, Int.toNat_natCast]
  exact pj_G_if (t := 62) rfl rfl (fun z => pj_G_loc (pj_lle_e (pj_lle_e (pj_lle_u rfl (pj_lle_u rfl (pj_lle_u rfl pj_lle_nil))))) (h1 (pj_ct_ge (pj_nrm_id r0.1 r0.2) (pj_nrm_id r1.1 r1.2) z))) (fun z => pj_G_loc (pj_lle_e (pj_lle_e (pj_lle_u rfl (pj_lle_e (pj_lle_e pj_lle_nil))))) (h2 (pj_cf_ge (pj_nrm_id r0.1 r0.2) (pj_nrm_id r1.1 r1.2) z)))
theorem pj_C56_48 {L d : Nat} {Q : Option pj_V → pj_M → Prop} {M : pj_M} {x3 x4 : Int} (j0 : Nat) (ej0 : x4 = (j0 : Int)) (bj0 : j0 < 42) (r0 : -2147483648 ≤ M 21 j0 ∧ M 21 j0 < 2147483648) (h1 : M 21 j0 = (-1 : Int) → pj_G L d 56 69 [pj_vR 1, pj_vU, pj_vU, pj_vI x3, pj_vI x4] [] M Q) (h2 : M 21 j0 ≠ (-1 : Int) → pj_G L d 56 62 [pj_vR 1, pj_vU, pj_vU, pj_vU, pj_vU] [] M Q) : pj_G L d 56 48 [pj_vR 1, pj_vU, pj_vU, pj_vI x3, pj_vI x4] [] M Q := by
  have nj0 : pj_nrm x4 = (j0 : Int) := pj_nk ej0 (by omega)
  refine pj_G_s pj_np56 6 (show pj_gs 6 L 56 48 [pj_vR 1, pj_vU, pj_vU, pj_vI x3, pj_vI x4] [] M = some ([0 ≤ pj_nrm x4 ∧ pj_nrm x4 < (42 : Int)], 59, [pj_vR 1, pj_vU, pj_vU, pj_vI x3, pj_vI x4], [pj_vI ((-1)), pj_vI (M 21 (pj_nrm x4).toNat)], M) from rfl) ⟨by omega, trivial⟩ ?_
  simp only [nj0, Int.toNat_natCast]
  exact pj_G_if (t := 69) rfl rfl (fun z => h1 (pj_ct_eq (pj_nrm_id r0.1 r0.2) (pj_nrm_id (by omega) (by omega)) z)) (fun z => pj_G_loc (pj_lle_e (pj_lle_e (pj_lle_e (pj_lle_u rfl (pj_lle_u rfl pj_lle_nil))))) (h2 (pj_cf_eq (pj_nrm_id r0.1 r0.2) (pj_nrm_id (by omega) (by omega)) z)))
theorem pj_C56_62 {L d : Nat} {Q : Option pj_V → pj_M → Prop} {M : pj_M}  (h : pj_G L d 77 0 [pj_vR 1, pj_vI ((-7))] [] M (fun r M1 => pj_G L (d + 1) 56 68 [pj_vU, pj_vU, pj_vU, pj_vU, pj_vU] (r.toList ++ []) M1 Q)) : pj_G L (d + 1) 56 62 [pj_vR 1, pj_vU, pj_vU, pj_vU, pj_vU] [] M Q := by
  refine pj_G_s (d := d + 1) pj_np56 2 (show pj_gs 2 L 56 62 [pj_vR 1, pj_vU, pj_vU, pj_vU, pj_vU] [] M = some ([], 65, [pj_vR 1, pj_vU, pj_vU, pj_vU, pj_vU], [pj_vI ((-7)), pj_vR 1], M) from rfl) trivial ?_
  exact pj_G_k (j := 77) (vs := [pj_vR 1, pj_vI ((-7))]) (st := []) rfl rfl rfl rfl rfl (Nat.le_of_ble_eq_true rfl) pj_nc77 (pj_G.mono h (fun _ _ hh => pj_G_loc (pj_lle_u rfl (pj_lle_e (pj_lle_e (pj_lle_e (pj_lle_e pj_lle_nil))))) hh))
theorem pj_C56_68 {L d : Nat} {Q : Option pj_V → pj_M → Prop} {M : pj_M} {s0 : Int}  (h : Q (some (pj_vI s0)) M) : pj_G L d 56 68 [pj_vU, pj_vU, pj_vU, pj_vU, pj_vU] [pj_vI s0] M Q := by
  exact pj_G_r rfl rfl rfl h
theorem pj_C56_69 {L d : Nat} {Q : Option pj_V → pj_M → Prop} {M : pj_M} {x3 x4 : Int} (r0 : -2147483648 ≤ M 19 0 ∧ M 19 0 < 2147483648) (h1 : M 19 0 < (16 : Int) → pj_G L d 56 88 [pj_vR 1, pj_vU, pj_vU, pj_vI x3, pj_vI x4] [] M Q) (h2 : (16 : Int) ≤ M 19 0 → pj_G L d 56 81 [pj_vR 1, pj_vU, pj_vU, pj_vU, pj_vU] [] M Q) : pj_G L d 56 69 [pj_vR 1, pj_vU, pj_vU, pj_vI x3, pj_vI x4] [] M Q := by
  refine pj_G_s pj_np56 4 (show pj_gs 4 L 56 69 [pj_vR 1, pj_vU, pj_vU, pj_vI x3, pj_vI x4] [] M = some ([], 78, [pj_vR 1, pj_vU, pj_vU, pj_vI x3, pj_vI x4], [pj_vI 16, pj_vI (M 19 0)], M) from rfl) trivial ?_
  exact pj_G_if (t := 88) rfl rfl (fun z => h1 (pj_ct_lt (pj_nrm_id r0.1 r0.2) (pj_nrm_id (by omega) (by omega)) z)) (fun z => pj_G_loc (pj_lle_e (pj_lle_e (pj_lle_e (pj_lle_u rfl (pj_lle_u rfl pj_lle_nil))))) (h2 (pj_cf_lt (pj_nrm_id r0.1 r0.2) (pj_nrm_id (by omega) (by omega)) z)))
theorem pj_C56_81 {L d : Nat} {Q : Option pj_V → pj_M → Prop} {M : pj_M}  (h : pj_G L d 77 0 [pj_vR 1, pj_vI ((-8))] [] M (fun r M1 => pj_G L (d + 1) 56 87 [pj_vU, pj_vU, pj_vU, pj_vU, pj_vU] (r.toList ++ []) M1 Q)) : pj_G L (d + 1) 56 81 [pj_vR 1, pj_vU, pj_vU, pj_vU, pj_vU] [] M Q := by
  refine pj_G_s (d := d + 1) pj_np56 2 (show pj_gs 2 L 56 81 [pj_vR 1, pj_vU, pj_vU, pj_vU, pj_vU] [] M = some ([], 84, [pj_vR 1, pj_vU, pj_vU, pj_vU, pj_vU], [pj_vI ((-8)), pj_vR 1], M) from rfl) trivial ?_
  exact pj_G_k (j := 77) (vs := [pj_vR 1, pj_vI ((-8))]) (st := []) rfl rfl rfl rfl rfl (Nat.le_of_ble_eq_true rfl) pj_nc77 (pj_G.mono h (fun _ _ hh => pj_G_loc (pj_lle_u rfl (pj_lle_e (pj_lle_e (pj_lle_e (pj_lle_e pj_lle_nil))))) hh))
theorem pj_C56_87 {L d : Nat} {Q : Option pj_V → pj_M → Prop} {M : pj_M} {s0 : Int}  (h : Q (some (pj_vI s0)) M) : pj_G L d 56 87 [pj_vU, pj_vU, pj_vU, pj_vU, pj_vU] [pj_vI s0] M Q := by
  exact pj_G_r rfl rfl rfl h
theorem pj_C56_88 {L d : Nat} {Q : Option pj_V → pj_M → Prop} {M : pj_M} {x3 x4 : Int}  (h : pj_G L d 13 0 [pj_vR 19, pj_vI x4, pj_vI x3] [] M (fun r M1 => pj_G L (d + 1) 56 98 [pj_vR 1, pj_vU, pj_vU, pj_vU, pj_vU] (r.toList ++ []) M1 Q)) : pj_G L (d + 1) 56 88 [pj_vR 1, pj_vU, pj_vU, pj_vI x3, pj_vI x4] [] M Q := by
  refine pj_G_s (d := d + 1) pj_np56 4 (show pj_gs 4 L 56 88 [pj_vR 1, pj_vU, pj_vU, pj_vI x3, pj_vI x4] [] M = some ([], 95, [pj_vR 1, pj_vU, pj_vU, pj_vI x3, pj_vI x4], [pj_vI x3, pj_vI x4, pj_vR 19], M) from rfl) trivial ?_
  exact pj_G_k (j := 13) (vs := [pj_vR 19, pj_vI x4, pj_vI x3]) (st := []) rfl rfl rfl rfl rfl (Nat.le_of_ble_eq_true rfl) pj_nc13 (pj_G.mono h (fun _ _ hh => pj_G_loc (pj_lle_e (pj_lle_e (pj_lle_e (pj_lle_u rfl (pj_lle_u rfl pj_lle_nil))))) hh))
theorem pj_C56_98 {L d : Nat} {Q : Option pj_V → pj_M → Prop} {M : pj_M}  (h : pj_G L d 1 0 [pj_vR 22] [] M (fun r M1 => pj_G L (d + 1) 56 105 [pj_vR 1, pj_vU, pj_vU, pj_vU, pj_vU] (r.toList ++ []) M1 Q)) : pj_G L (d + 1) 56 98 [pj_vR 1, pj_vU, pj_vU, pj_vU, pj_vU] [] M Q := by
  refine pj_G_s (d := d + 1) pj_np56 2 (show pj_gs 2 L 56 98 [pj_vR 1, pj_vU, pj_vU, pj_vU, pj_vU] [] M = some ([], 102, [pj_vR 1, pj_vU, pj_vU, pj_vU, pj_vU], [pj_vR 22], M) from rfl) trivial ?_
  exact pj_G_k (j := 1) (vs := [pj_vR 22]) (st := []) rfl rfl rfl rfl rfl (Nat.le_of_ble_eq_true rfl) pj_nc1 h
theorem pj_C56_105 {L d : Nat} {Q : Option pj_V → pj_M → Prop} {M : pj_M}  (h : Q (some (pj_vI (M 19 0))) M) : pj_G L d 56 105 [pj_vR 1, pj_vU, pj_vU, pj_vU, pj_vU] [] M Q := by
  refine pj_G_s pj_np56 3 (show pj_gs 3 L 56 105 [pj_vR 1, pj_vU, pj_vU, pj_vU, pj_vU] [] M = some ([], 112, [pj_vR 1, pj_vU, pj_vU, pj_vU, pj_vU], [pj_vI (M 19 0)], M) from rfl) trivial ?_
  exact pj_G_r rfl rfl rfl h
theorem pj_C57_0 {L d : Nat} {Q : Option pj_V → pj_M → Prop} {M : pj_M} (r0 : -2147483648 ≤ M 19 0 ∧ M 19 0 < 2147483648) (h1 : (1 : Int) ≤ M 19 0 → pj_G L d 57 18 [pj_vR 1] [] M Q) (h2 : M 19 0 < (1 : Int) → pj_G L d 57 11 [pj_vR 1] [] M Q) : pj_G L d 57 0 [pj_vR 1] [] M Q := by
  refine pj_G_s pj_np57 4 (show pj_gs 4 L 57 0 [pj_vR 1] [] M = some ([], 8, [pj_vR 1], [pj_vI 1, pj_vI (M 19 0)], M) from rfl) trivial ?_
  exact pj_G_if (t := 18) rfl rfl (fun z => h1 (pj_ct_ge (pj_nrm_id r0.1 r0.2) (pj_nrm_id (by omega) (by omega)) z)) (fun z => h2 (pj_cf_ge (pj_nrm_id r0.1 r0.2) (pj_nrm_id (by omega) (by omega)) z))
theorem pj_C57_11 {L d : Nat} {Q : Option pj_V → pj_M → Prop} {M : pj_M}  (h : pj_G L d 77 0 [pj_vR 1, pj_vI ((-2))] [] M (fun r M1 => pj_G L (d + 1) 57 17 [pj_vU] (r.toList ++ []) M1 Q)) : pj_G L (d + 1) 57 11 [pj_vR 1] [] M Q := by
  refine pj_G_s (d := d + 1) pj_np57 2 (show pj_gs 2 L 57 11 [pj_vR 1] [] M = some ([], 14, [pj_vR 1], [pj_vI ((-2)), pj_vR 1], M) from rfl) trivial ?_
  exact pj_G_k (j := 77) (vs := [pj_vR 1, pj_vI ((-2))]) (st := []) rfl rfl rfl rfl rfl (Nat.le_of_ble_eq_true rfl) pj_nc77 (pj_G.mono h (fun _ _ hh => pj_G_loc (pj_lle_u rfl pj_lle_nil) hh))
theorem pj_C57_17 {L d : Nat} {Q : Option pj_V → pj_M → Prop} {M : pj_M} {s0 : Int}  (h : Q (some (pj_vI s0)) M) : pj_G L d 57 17 [pj_vU] [pj_vI s0] M Q := by
  exact pj_G_r rfl rfl rfl h
theorem pj_C57_18 {L d : Nat} {Q : Option pj_V → pj_M → Prop} {M : pj_M}  (h : pj_G L d 14 0 [pj_vR 19] [] M (fun r M1 => pj_G L (d + 1) 57 25 [pj_vR 1] (r.toList ++ []) M1 Q)) : pj_G L (d + 1) 57 18 [pj_vR 1] [] M Q := by
  refine pj_G_s (d := d + 1) pj_np57 2 (show pj_gs 2 L 57 18 [pj_vR 1] [] M = some ([], 22, [pj_vR 1], [pj_vR 19], M) from rfl) trivial ?_
  exact pj_G_k (j := 14) (vs := [pj_vR 19]) (st := []) rfl rfl rfl rfl rfl (Nat.le_of_ble_eq_true rfl) pj_nc14 h
theorem pj_C57_25 {L d : Nat} {Q : Option pj_V → pj_M → Prop} {M : pj_M}  (h : pj_G L d 1 0 [pj_vR 22] [] M (fun r M1 => pj_G L (d + 1) 57 32 [pj_vR 1] (r.toList ++ []) M1 Q)) : pj_G L (d + 1) 57 25 [pj_vR 1] [] M Q := by
  refine pj_G_s (d := d + 1) pj_np57 2 (show pj_gs 2 L 57 25 [pj_vR 1] [] M = some ([], 29, [pj_vR 1], [pj_vR 22], M) from rfl) trivial ?_
  exact pj_G_k (j := 1) (vs := [pj_vR 22]) (st := []) rfl rfl rfl rfl rfl (Nat.le_of_ble_eq_true rfl) pj_nc1 h
theorem pj_C57_32 {L d : Nat} {Q : Option pj_V → pj_M → Prop} {M : pj_M}  (h : Q (some (pj_vI (M 19 0))) M) : pj_G L d 57 32 [pj_vR 1] [] M Q := by
  refine pj_G_s pj_np57 3 (show pj_gs 3 L 57 32 [pj_vR 1] [] M = some ([], 39, [pj_vR 1], [pj_vI (M 19 0)], M) from rfl) trivial ?_
  exact pj_G_r rfl rfl rfl h
theorem pj_C58_0 {L d : Nat} {Q : Option pj_V → pj_M → Prop} {M : pj_M} {x1 x2 : Int}  (h : pj_G L d 80 0 [pj_vR 1, pj_vI x1] [] M (fun r M1 => pj_G L (d + 1) 58 5 [pj_vR 1, pj_vI x1, pj_vI x2] (r.toList ++ []) M1 Q)) : pj_G L (d + 1) 58 0 [pj_vR 1, pj_vI x1, pj_vI x2] [] M Q := by
  refine pj_G_s (d := d + 1) pj_np58 2 (show pj_gs 2 L 58 0 [pj_vR 1, pj_vI x1, pj_vI x2] [] M = some ([], 2, [pj_vR 1, pj_vI x1, pj_vI x2], [pj_vI x1, pj_vR 1], M) from rfl) trivial ?_
  exact pj_G_k (j := 80) (vs := [pj_vR 1, pj_vI x1]) (st := []) rfl rfl rfl rfl rfl (Nat.le_of_ble_eq_true rfl) pj_nc80 h
theorem pj_C58_5 {L d : Nat} {Q : Option pj_V → pj_M → Prop} {M : pj_M} {x1 x2 s0 : Int} (r0 : -2147483648 ≤ s0 ∧ s0 < 2147483648) (h1 : s0 = 0 → pj_G L d 58 16 [pj_vR 1, pj_vU, pj_vU] [] M Q) (h2 : s0 ≠ 0 → pj_G L d 58 8 [pj_vR 1, pj_vI x1, pj_vI x2] [] M Q) : pj_G L d 58 5 [pj_vR 1, pj_vI x1, pj_vI x2] [pj_vI s0] M Q := by
  exact pj_G_if0 (t := 16) rfl rfl (fun z => pj_G_loc (pj_lle_e (pj_lle_u rfl (pj_lle_u rfl pj_lle_nil))) (h1 (pj_ct_eq (pj_nrm_id r0.1 r0.2) rfl z))) (fun z => h2 (pj_cf_eq (pj_nrm_id r0.1 r0.2) rfl z))
theorem pj_C58_8 {L d : Nat} {Q : Option pj_V → pj_M → Prop} {M : pj_M} {x1 x2 : Int}  (h : pj_G L d 78 0 [pj_vR 1, pj_vI x2] [] M (fun r M1 => pj_G L (d + 1) 58 13 [pj_vR 1, pj_vI x1, pj_vI x2] (r.toList ++ []) M1 Q)) : pj_G L (d + 1) 58 8 [pj_vR 1, pj_vI x1, pj_vI x2] [] M Q := by
  refine pj_G_s (d := d + 1) pj_np58 2 (show pj_gs 2 L 58 8 [pj_vR 1, pj_vI x1, pj_vI x2] [] M = some ([], 10, [pj_vR 1, pj_vI x1, pj_vI x2], [pj_vI x2, pj_vR 1], M) from rfl) trivial ?_
  exact pj_G_k (j := 78) (vs := [pj_vR 1, pj_vI x2]) (st := []) rfl rfl rfl rfl rfl (Nat.le_of_ble_eq_true rfl) pj_nc78 h
theorem pj_C58_13 {L d : Nat} {Q : Option pj_V → pj_M → Prop} {M : pj_M} {x1 x2 s0 : Int} (r0 : -2147483648 ≤ s0 ∧ s0 < 2147483648) (h1 : s0 ≠ 0 → pj_G L d 58 23 [pj_vR 1, pj_vI x1, pj_vI x2] [] M Q) (h2 : s0 = 0 → pj_G L d 58 16 [pj_vR 1, pj_vU, pj_vU] [] M Q) : pj_G L d 58 13 [pj_vR 1, pj_vI x1, pj_vI x2] [pj_vI s0] M Q := by
  exact pj_G_if0 (t := 23) rfl rfl (fun z => h1 (pj_ct_ne (pj_nrm_id r0.1 r0.2) rfl z)) (fun z => pj_G_loc (pj_lle_e (pj_lle_u rfl (pj_lle_u rfl pj_lle_nil))) (h2 (pj_cf_ne (pj_nrm_id r0.1 r0.2) rfl z)))
theorem pj_C58_16 {L d : Nat} {Q : Option pj_V → pj_M → Prop} {M : pj_M}  (h : pj_G L d 77 0 [pj_vR 1, pj_vI ((-3))] [] M (fun r M1 => pj_G L (d + 1) 58 22 [pj_vU, pj_vU, pj_vU] (r.toList ++ []) M1 Q)) : pj_G L (d + 1) 58 16 [pj_vR 1, pj_vU, pj_vU] [] M Q := by
  refine pj_G_s (d := d + 1) pj_np58 2 (show pj_gs 2 L 58 16 [pj_vR 1, pj_vU, pj_vU] [] M = some ([], 19, [pj_vR 1, pj_vU, pj_vU], [pj_vI ((-3)), pj_vR 1], M) from rfl) trivial ?_
  exact pj_G_k (j := 77) (vs := [pj_vR 1, pj_vI ((-3))]) (st := []) rfl rfl rfl rfl rfl (Nat.le_of_ble_eq_true rfl) pj_nc77 (pj_G.mono h (fun _ _ hh => pj_G_loc (pj_lle_u rfl (pj_lle_e (pj_lle_e pj_lle_nil))) hh))
theorem pj_C58_22 {L d : Nat} {Q : Option pj_V → pj_M → Prop} {M : pj_M} {s0 : Int}  (h : Q (some (pj_vI s0)) M) : pj_G L d 58 22 [pj_vU, pj_vU, pj_vU] [pj_vI s0] M Q := by
  exact pj_G_r rfl rfl rfl h
theorem pj_C58_23 {L d : Nat} {Q : Option pj_V → pj_M → Prop} {M : pj_M} {x1 x2 : Int}  (h : pj_G L d 3 0 [pj_vR 22, pj_vI x1] [] M (fun r M1 => pj_G L (d + 1) 58 31 [pj_vU, pj_vI x1, pj_vI x2] (r.toList ++ []) M1 Q)) : pj_G L (d + 1) 58 23 [pj_vR 1, pj_vI x1, pj_vI x2] [] M Q := by
  refine pj_G_s (d := d + 1) pj_np58 3 (show pj_gs 3 L 58 23 [pj_vR 1, pj_vI x1, pj_vI x2] [] M = some ([], 28, [pj_vR 1, pj_vI x1, pj_vI x2], [pj_vI x1, pj_vR 22], M) from rfl) trivial ?_
  exact pj_G_k (j := 3) (vs := [pj_vR 22, pj_vI x1]) (st := []) rfl rfl rfl rfl rfl (Nat.le_of_ble_eq_true rfl) pj_nc3 (pj_G.mono h (fun _ _ hh => pj_G_loc (pj_lle_u rfl (pj_lle_e (pj_lle_e pj_lle_nil))) hh))
theorem pj_C58_31 {L d : Nat} {Q : Option pj_V → pj_M → Prop} {M : pj_M} {x1 x2 : Int} (j0 : Nat) (ej0 : (x1 * 14) + x2 = (j0 : Int)) (bj0 : j0 < 42) (h : Q (some (pj_vI (M 33 j0))) M) : pj_G L d 58 31 [pj_vU, pj_vI x1, pj_vI x2] [pj_vR 33] M Q := by
  have nj0 : pj_nrm ((x1 * 14) + x2) = (j0 : Int) := pj_nk ej0 (by omega)
  refine pj_G_s pj_np58 6 (show pj_gs 6 L 58 31 [pj_vU, pj_vI x1, pj_vI x2] [pj_vR 33] M = some ([0 ≤ pj_nrm ((x1 * 14) + x2) ∧ pj_nrm ((x1 * 14) + x2) < (42 : Int)], 38, [pj_vU, pj_vI x1, pj_vI x2], [pj_vI (M 33 (pj_nrm ((x1 * 14) + x2)).toNat)], M) from rfl) ⟨by omega, trivial⟩ ?_
  simp only [nj0, Int.toNat_natCast]
  exact pj_G_r rfl rfl rfl h
theorem pj_C59_0 {L d : Nat} {Q : Option pj_V → pj_M → Prop} {M : pj_M}  (h : pj_G L d 6 0 [pj_vR 22, pj_vU, pj_vU, pj_vU, pj_vU, pj_vU] [] M (fun r M1 => pj_G L (d + 1) 59 7 [pj_vU] (r.toList ++ []) M1 Q)) : pj_G L (d + 1) 59 0 [pj_vR 1] [] M Q := by
  refine pj_G_s (d := d + 1) pj_np59 2 (show pj_gs 2 L 59 0 [pj_vR 1] [] M = some ([], 4, [pj_vR 1], [pj_vR 22], M) from rfl) trivial ?_
  exact pj_G_k (j := 6) (vs := [pj_vR 22]) (st := []) rfl rfl rfl rfl rfl (Nat.le_of_ble_eq_true rfl) pj_nc6 (pj_G.mono h (fun _ _ hh => pj_G_loc (pj_lle_u rfl pj_lle_nil) hh))
theorem pj_C59_7 {L d : Nat} {Q : Option pj_V → pj_M → Prop} {M : pj_M} {s0 : Int}  (h : Q (some (pj_vI s0)) M) : pj_G L d 59 7 [pj_vU] [pj_vI s0] M Q := by
  exact pj_G_r rfl rfl rfl h
theorem pj_C60_0 {L d : Nat} {Q : Option pj_V → pj_M → Prop} {M : pj_M} {x1 : Int} (r0 : -2147483648 ≤ x1 ∧ x1 < 2147483648) (h1 : x1 < 0 → pj_G L d 60 15 [pj_vR 1, pj_vU] [] M Q) (h2 : 0 ≤ x1 → pj_G L d 60 4 [pj_vR 1, pj_vI x1] [] M Q) : pj_G L d 60 0 [pj_vR 1, pj_vI x1] [] M Q := by
  refine pj_G_s pj_np60 1 (show pj_gs 1 L 60 0 [pj_vR 1, pj_vI x1] [] M = some ([], 1, [pj_vR 1, pj_vI x1], [pj_vI x1], M) from rfl) trivial ?_
  exact pj_G_if0 (t := 15) rfl rfl (fun z => pj_G_loc (pj_lle_e (pj_lle_u rfl pj_lle_nil)) (h1 (pj_ct_lt (pj_nrm_id r0.1 r0.2) rfl z))) (fun z => h2 (pj_cf_lt (pj_nrm_id r0.1 r0.2) rfl z))
theorem pj_C60_4 {L d : Nat} {Q : Option pj_V → pj_M → Prop} {M : pj_M} {x1 : Int}  (h : pj_G L d 6 0 [pj_vR 22, pj_vU, pj_vU, pj_vU, pj_vU, pj_vU] [] M (fun r M1 => pj_G L (d + 1) 60 12 [pj_vR 1, pj_vI x1] (r.toList ++ [pj_vI x1]) M1 Q)) : pj_G L (d + 1) 60 4 [pj_vR 1, pj_vI x1] [] M Q := by
  refine pj_G_s (d := d + 1) pj_np60 3 (show pj_gs 3 L 60 4 [pj_vR 1, pj_vI x1] [] M = some ([], 9, [pj_vR 1, pj_vI x1], [pj_vR 22, pj_vI x1], M) from rfl) trivial ?_
  exact pj_G_k (j := 6) (vs := [pj_vR 22]) (st := [pj_vI x1]) rfl rfl rfl rfl rfl (Nat.le_of_ble_eq_true rfl) pj_nc6 h
theorem pj_C60_12 {L d : Nat} {Q : Option pj_V → pj_M → Prop} {M : pj_M} {x1 s0 s1 : Int} (r0 : -2147483648 ≤ s0 ∧ s0 < 2147483648) (r1 : -2147483648 ≤ s1 ∧ s1 < 2147483648) (h1 : s0 < s1 → pj_G L d 60 22 [pj_vR 1, pj_vI x1] [] M Q) (h2 : s1 ≤ s0 → pj_G L d 60 15 [pj_vR 1, pj_vU] [] M Q) : pj_G L d 60 12 [pj_vR 1, pj_vI x1] [pj_vI s1, pj_vI s0] M Q := by
  exact pj_G_if (t := 22) rfl rfl (fun z => h1 (pj_ct_lt (pj_nrm_id r0.1 r0.2) (pj_nrm_id r1.1 r1.2) z)) (fun z => pj_G_loc (pj_lle_e (pj_lle_u rfl pj_lle_nil)) (h2 (pj_cf_lt (pj_nrm_id r0.1 r0.2) (pj_nrm_id r1.1 r1.2) z)))
theorem pj_C60_15 {L d : Nat} {Q : Option pj_V → pj_M → Prop} {M : pj_M}  (h : pj_G L d 77 0 [pj_vR 1, pj_vI ((-3))] [] M (fun r M1 => pj_G L (d + 1) 60 21 [pj_vU, pj_vU] (r.toList ++ []) M1 Q)) : pj_G L (d + 1) 60 15 [pj_vR 1, pj_vU] [] M Q := by
  refine pj_G_s (d := d + 1) pj_np60 2 (show pj_gs 2 L 60 15 [pj_vR 1, pj_vU] [] M = some ([], 18, [pj_vR 1, pj_vU], [pj_vI ((-3)), pj_vR 1], M) from rfl) trivial ?_
  exact pj_G_k (j := 77) (vs := [pj_vR 1, pj_vI ((-3))]) (st := []) rfl rfl rfl rfl rfl (Nat.le_of_ble_eq_true rfl) pj_nc77 (pj_G.mono h (fun _ _ hh => pj_G_loc (pj_lle_u rfl (pj_lle_e pj_lle_nil)) hh))
theorem pj_C60_21 {L d : Nat} {Q : Option pj_V → pj_M → Prop} {M : pj_M} {s0 : Int}  (h : Q (some (pj_vI s0)) M) : pj_G L d 60 21 [pj_vU, pj_vU] [pj_vI s0] M Q := by
  exact pj_G_r rfl rfl rfl h
theorem pj_C60_22 {L d : Nat} {Q : Option pj_V → pj_M → Prop} {M : pj_M} {x1 : Int} (j0 : Nat) (ej0 : x1 = (j0 : Int)) (bj0 : j0 < 35) (h : Q (some (pj_vI (M 23 j0))) M) : pj_G L d 60 22 [pj_vR 1, pj_vI x1] [] M Q := by
  have nj0 : pj_nrm x1 = (j0 : Int) := pj_nk ej0 (by omega)
  refine pj_G_s pj_np60 5 (show pj_gs 5 L 60 22 [pj_vR 1, pj_vI x1] [] M = some ([0 ≤ pj_nrm x1 ∧ pj_nrm x1 < (35 : Int)], 31, [pj_vR 1, pj_vI x1], [pj_vI (M 23 (pj_nrm x1).toNat)], M) from rfl) ⟨by omega, trivial⟩ ?_
  simp only [nj0, Int.toNat_natCast]
  exact pj_G_r rfl rfl rfl h
theorem pj_C61_0 {L d : Nat} {Q : Option pj_V → pj_M → Prop} {M : pj_M} {x1 : Int}  (h : pj_G L d 81 0 [pj_vR 1, pj_vI x1] [] M (fun r M1 => pj_G L (d + 1) 61 5 [pj_vR 1, pj_vI x1] (r.toList ++ []) M1 Q)) : pj_G L (d + 1) 61 0 [pj_vR 1, pj_vI x1] [] M Q := by
  refine pj_G_s (d := d + 1) pj_np61 2 (show pj_gs 2 L 61 0 [pj_vR 1, pj_vI x1] [] M = some ([], 2, [pj_vR 1, pj_vI x1], [pj_vI x1, pj_vR 1], M) from rfl) trivial ?_
  exact pj_G_k (j := 81) (vs := [pj_vR 1, pj_vI x1]) (st := []) rfl rfl rfl rfl rfl (Nat.le_of_ble_eq_true rfl) pj_nc81 h
theorem pj_C61_5 {L d : Nat} {Q : Option pj_V → pj_M → Prop} {M : pj_M} {x1 s0 : Int} (r0 : -2147483648 ≤ s0 ∧ s0 < 2147483648) (h1 : s0 ≠ 0 → pj_G L d 61 15 [pj_vR 1, pj_vI x1] [] M Q) (h2 : s0 = 0 → pj_G L d 61 8 [pj_vR 1, pj_vU] [] M Q) : pj_G L d 61 5 [pj_vR 1, pj_vI x1] [pj_vI s0] M Q := by
  exact pj_G_if0 (t := 15) rfl rfl (fun z => h1 (pj_ct_ne (pj_nrm_id r0.1 r0.2) rfl z)) (fun z => pj_G_loc (pj_lle_e (pj_lle_u rfl pj_lle_nil)) (h2 (pj_cf_ne (pj_nrm_id r0.1 r0.2) rfl z)))
theorem pj_C61_8 {L d : Nat} {Q : Option pj_V → pj_M → Prop} {M : pj_M}  (h : pj_G L d 77 0 [pj_vR 1, pj_vI ((-3))] [] M (fun r M1 => pj_G L (d + 1) 61 14 [pj_vU, pj_vU] (r.toList ++ []) M1 Q)) : pj_G L (d + 1) 61 8 [pj_vR 1, pj_vU] [] M Q := by
  refine pj_G_s (d := d + 1) pj_np61 2 (show pj_gs 2 L 61 8 [pj_vR 1, pj_vU] [] M = some ([], 11, [pj_vR 1, pj_vU], [pj_vI ((-3)), pj_vR 1], M) from rfl) trivial ?_
  exact pj_G_k (j := 77) (vs := [pj_vR 1, pj_vI ((-3))]) (st := []) rfl rfl rfl rfl rfl (Nat.le_of_ble_eq_true rfl) pj_nc77 (pj_G.mono h (fun _ _ hh => pj_G_loc (pj_lle_u rfl (pj_lle_e pj_lle_nil)) hh))
theorem pj_C61_14 {L d : Nat} {Q : Option pj_V → pj_M → Prop} {M : pj_M} {s0 : Int}  (h : Q (some (pj_vI s0)) M) : pj_G L d 61 14 [pj_vU, pj_vU] [pj_vI s0] M Q := by
  exact pj_G_r rfl rfl rfl h
theorem pj_C61_15 {L d : Nat} {Q : Option pj_V → pj_M → Prop} {M : pj_M} {x1 : Int}  (h1 : pj_and x1 (pj_or (M 7 13) (M 7 14)) = 0 → pj_G L d 61 42 [pj_vR 1, pj_vI x1] [] M Q) (h2 : pj_and x1 (pj_or (M 7 13) (M 7 14)) ≠ 0 → pj_G L d 61 35 [pj_vR 1, pj_vU] [] M Q) : pj_G L d 61 15 [pj_vR 1, pj_vI x1] [] M Q := by
  refine pj_G_s pj_np61 9 (show pj_gs 9 L 61 15 [pj_vR 1, pj_vI x1] [] M = some ([], 32, [pj_vR 1, pj_vI x1], [pj_vI (pj_and x1 (pj_or (M 7 13) (M 7 14)))], M) from rfl) trivial ?_
  exact pj_G_if0 (t := 42) rfl rfl (fun z => h1 (pj_ct_eq (pj_nrm_op _) rfl z)) (fun z => pj_G_loc (pj_lle_e (pj_lle_u rfl pj_lle_nil)) (h2 (pj_cf_eq (pj_nrm_op _) rfl z)))
theorem pj_C61_35 {L d : Nat} {Q : Option pj_V → pj_M → Prop} {M : pj_M}  (h : pj_G L d 77 0 [pj_vR 1, pj_vI ((-7))] [] M (fun r M1 => pj_G L (d + 1) 61 41 [pj_vU, pj_vU] (r.toList ++ []) M1 Q)) : pj_G L (d + 1) 61 35 [pj_vR 1, pj_vU] [] M Q := by
  refine pj_G_s (d := d + 1) pj_np61 2 (show pj_gs 2 L 61 35 [pj_vR 1, pj_vU] [] M = some ([], 38, [pj_vR 1, pj_vU], [pj_vI ((-7)), pj_vR 1], M) from rfl) trivial ?_
  exact pj_G_k (j := 77) (vs := [pj_vR 1, pj_vI ((-7))]) (st := []) rfl rfl rfl rfl rfl (Nat.le_of_ble_eq_true rfl) pj_nc77 (pj_G.mono h (fun _ _ hh => pj_G_loc (pj_lle_u rfl (pj_lle_e pj_lle_nil)) hh))
theorem pj_C61_41 {L d : Nat} {Q : Option pj_V → pj_M → Prop} {M : pj_M} {s0 : Int}  (h : Q (some (pj_vI s0)) M) : pj_G L d 61 41 [pj_vU, pj_vU] [pj_vI s0] M Q := by
  exact pj_G_r rfl rfl rfl h
theorem pj_C61_42 {L d : Nat} {Q : Option pj_V → pj_M → Prop} {M : pj_M} {x1 : Int}  (h : pj_G L d 4 0 [pj_vR 22, pj_vI x1] [] M (fun r M1 => pj_G L (d + 1) 61 50 [pj_vU, pj_vU] (r.toList ++ []) M1 Q)) : pj_G L (d + 1) 61 42 [pj_vR 1, pj_vI x1] [] M Q := by
  refine pj_G_s (d := d + 1) pj_np61 3 (show pj_gs 3 L 61 42 [pj_vR 1, pj_vI x1] [] M = some ([], 47, [pj_vR 1, pj_vI x1], [pj_vI x1, pj_vR 22], M) from rfl) trivial ?_
  exact pj_G_k (j := 4) (vs := [pj_vR 22, pj_vI x1]) (st := []) rfl rfl rfl rfl rfl (Nat.le_of_ble_eq_true rfl) pj_nc4 (pj_G.mono h (fun _ _ hh => pj_G_loc (pj_lle_u rfl (pj_lle_u rfl pj_lle_nil)) hh))
theorem pj_C61_50 {L d : Nat} {Q : Option pj_V → pj_M → Prop} {M : pj_M} {s0 : Int} (r0 : -2147483648 ≤ s0 ∧ s0 < 2147483648) (h1 : s0 = 0 → pj_G L d 61 57 [pj_vU, pj_vU] [] M Q) (h2 : s0 ≠ 0 → pj_G L d 61 53 [pj_vU, pj_vU] [] M Q) : pj_G L d 61 50 [pj_vU, pj_vU] [pj_vI s0] M Q := by
  exact pj_G_if0 (t := 57) rfl rfl (fun z => h1 (pj_ct_eq (pj_nrm_id r0.1 r0.2) rfl z)) (fun z => h2 (pj_cf_eq (pj_nrm_id r0.1 r0.2) rfl z))
theorem pj_C61_53 {L d : Nat} {Q : Option pj_V → pj_M → Prop} {M : pj_M}  (h : pj_G L d 61 58 [pj_vU, pj_vU] [pj_vI 1] M Q) : pj_G L d 61 53 [pj_vU, pj_vU] [] M Q := by
  refine pj_G_s pj_np61 2 (show pj_gs 2 L 61 53 [pj_vU, pj_vU] [] M = some ([], 58, [pj_vU, pj_vU], [pj_vI 1], M) from rfl) trivial ?_
  exact h
theorem pj_C61_58 {L d : Nat} {Q : Option pj_V → pj_M → Prop} {M : pj_M} {s0 : Int}  (h : Q (some (pj_vI s0)) M) : pj_G L d 61 58 [pj_vU, pj_vU] [pj_vI s0] M Q := by
  exact pj_G_r rfl rfl rfl h
theorem pj_C61_57 {L d : Nat} {Q : Option pj_V → pj_M → Prop} {M : pj_M}  (h : pj_G L d 61 58 [pj_vU, pj_vU] [pj_vI 0] M Q) : pj_G L d 61 57 [pj_vU, pj_vU] [] M Q := by
  refine pj_G_s pj_np61 1 (show pj_gs 1 L 61 57 [pj_vU, pj_vU] [] M = some ([], 58, [pj_vU, pj_vU], [pj_vI 0], M) from rfl) trivial ?_
  exact h
theorem pj_C62_0 {L d : Nat} {Q : Option pj_V → pj_M → Prop} {M : pj_M} {x1 : Int}  (h : pj_G L d 81 0 [pj_vR 1, pj_vI x1] [] M (fun r M1 => pj_G L (d + 1) 62 5 [pj_vR 1, pj_vI x1] (r.toList ++ []) M1 Q)) : pj_G L (d + 1) 62 0 [pj_vR 1, pj_vI x1] [] M Q := by
  refine pj_G_s (d := d + 1) pj_np62 2 (show pj_gs 2 L 62 0 [pj_vR 1, pj_vI x1] [] M = some ([], 2, [pj_vR 1, pj_vI x1], [pj_vI x1, pj_vR 1], M) from rfl) trivial ?_
  exact pj_G_k (j := 81) (vs := [pj_vR 1, pj_vI x1]) (st := []) rfl rfl rfl rfl rfl (Nat.le_of_ble_eq_true rfl) pj_nc81 h
theorem pj_C62_5 {L d : Nat} {Q : Option pj_V → pj_M → Prop} {M : pj_M} {x1 s0 : Int} (r0 : -2147483648 ≤ s0 ∧ s0 < 2147483648) (h1 : s0 ≠ 0 → pj_G L d 62 17 [pj_vR 1, pj_vI x1] [] M Q) (h2 : s0 = 0 → pj_G L d 62 8 [pj_vR 1, pj_vU] [] M Q) : pj_G L d 62 5 [pj_vR 1, pj_vI x1] [pj_vI s0] M Q := by
  exact pj_G_if0 (t := 17) rfl rfl (fun z => h1 (pj_ct_ne (pj_nrm_id r0.1 r0.2) rfl z)) (fun z => pj_G_loc (pj_lle_e (pj_lle_u rfl pj_lle_nil)) (h2 (pj_cf_ne (pj_nrm_id r0.1 r0.2) rfl z)))
theorem pj_C62_8 {L d : Nat} {Q : Option pj_V → pj_M → Prop} {M : pj_M}  (h : pj_G L d 77 0 [pj_vR 1, pj_vI ((-3))] [] M (fun r M1 => pj_G L (d + 1) 62 14 [pj_vU, pj_vU] (r.toList ++ []) M1 Q)) : pj_G L (d + 1) 62 8 [pj_vR 1, pj_vU] [] M Q := by
  refine pj_G_s (d := d + 1) pj_np62 2 (show pj_gs 2 L 62 8 [pj_vR 1, pj_vU] [] M = some ([], 11, [pj_vR 1, pj_vU], [pj_vI ((-3)), pj_vR 1], M) from rfl) trivial ?_
  exact pj_G_k (j := 77) (vs := [pj_vR 1, pj_vI ((-3))]) (st := []) rfl rfl rfl rfl rfl (Nat.le_of_ble_eq_true rfl) pj_nc77 (pj_G.mono h (fun _ _ hh => pj_G_loc (pj_lle_u rfl (pj_lle_e pj_lle_nil)) hh))
theorem pj_C62_14 {L d : Nat} {Q : Option pj_V → pj_M → Prop} {M : pj_M} {s0 : Int}  (h : Q (some (pj_vL 0)) M) : pj_G L d 62 14 [pj_vU, pj_vU] [pj_vI s0] M Q := by
  refine pj_G_s pj_np62 2 (show pj_gs 2 L 62 14 [pj_vU, pj_vU] [pj_vI s0] M = some ([], 16, [pj_vU, pj_vU], [pj_vL 0], M) from rfl) trivial ?_
  exact pj_G_r rfl rfl rfl h
theorem pj_C62_17 {L d : Nat} {Q : Option pj_V → pj_M → Prop} {M : pj_M} {x1 : Int}  (h1 : pj_and x1 (M 7 13) = 0 → pj_G L d 62 38 [pj_vR 1, pj_vI x1] [] M Q) (h2 : pj_and x1 (M 7 13) ≠ 0 → pj_G L d 62 29 [pj_vR 1, pj_vU] [] M Q) : pj_G L d 62 17 [pj_vR 1, pj_vI x1] [] M Q := by
  refine pj_G_s pj_np62 5 (show pj_gs 5 L 62 17 [pj_vR 1, pj_vI x1] [] M = some ([], 26, [pj_vR 1, pj_vI x1], [pj_vI (pj_and x1 (M 7 13))], M) from rfl) trivial ?_
  exact pj_G_if0 (t := 38) rfl rfl (fun z => h1 (pj_ct_eq (pj_nrm_op _) rfl z)) (fun z => pj_G_loc (pj_lle_e (pj_lle_u rfl pj_lle_nil)) (h2 (pj_cf_eq (pj_nrm_op _) rfl z)))
theorem pj_C62_29 {L d : Nat} {Q : Option pj_V → pj_M → Prop} {M : pj_M}  (h : pj_G L d 77 0 [pj_vR 1, pj_vI ((-7))] [] M (fun r M1 => pj_G L (d + 1) 62 35 [pj_vU, pj_vU] (r.toList ++ []) M1 Q)) : pj_G L (d + 1) 62 29 [pj_vR 1, pj_vU] [] M Q := by
  refine pj_G_s (d := d + 1) pj_np62 2 (show pj_gs 2 L 62 29 [pj_vR 1, pj_vU] [] M = some ([], 32, [pj_vR 1, pj_vU], [pj_vI ((-7)), pj_vR 1], M) from rfl) trivial ?_
  exact pj_G_k (j := 77) (vs := [pj_vR 1, pj_vI ((-7))]) (st := []) rfl rfl rfl rfl rfl (Nat.le_of_ble_eq_true rfl) pj_nc77 (pj_G.mono h (fun _ _ hh => pj_G_loc (pj_lle_u rfl (pj_lle_e pj_lle_nil)) hh))
theorem pj_C62_35 {L d : Nat} {Q : Option pj_V → pj_M → Prop} {M : pj_M} {s0 : Int}  (h : Q (some (pj_vL 0)) M) : pj_G L d 62 35 [pj_vU, pj_vU] [pj_vI s0] M Q := by
  refine pj_G_s pj_np62 2 (show pj_gs 2 L 62 35 [pj_vU, pj_vU] [pj_vI s0] M = some ([], 37, [pj_vU, pj_vU], [pj_vL 0], M) from rfl) trivial ?_
  exact pj_G_r rfl rfl rfl h
theorem pj_C62_38 {L d : Nat} {Q : Option pj_V → pj_M → Prop} {M : pj_M} {x1 : Int}  (h : pj_G L d 30 0 [pj_vR 7, pj_vI x1, pj_vU, pj_vU, pj_vU] [] M (fun r M1 => pj_G L (d + 1) 62 46 [pj_vU, pj_vU] (r.toList ++ []) M1 Q)) : pj_G L (d + 1) 62 38 [pj_vR 1, pj_vI x1] [] M Q := by
  refine pj_G_s (d := d + 1) pj_np62 3 (show pj_gs 3 L 62 38 [pj_vR 1, pj_vI x1] [] M = some ([], 43, [pj_vR 1, pj_vI x1], [pj_vI x1, pj_vR 7], M) from rfl) trivial ?_
  exact pj_G_k (j := 30) (vs := [pj_vR 7, pj_vI x1]) (st := []) rfl rfl rfl rfl rfl (Nat.le_of_ble_eq_true rfl) pj_nc30 (pj_G.mono h (fun _ _ hh => pj_G_loc (pj_lle_u rfl (pj_lle_u rfl pj_lle_nil)) hh))
theorem pj_C62_46 {L d : Nat} {Q : Option pj_V → pj_M → Prop} {M : pj_M} {s0 : Int}  (h : Q (some (pj_vL s0)) M) : pj_G L d 62 46 [pj_vU, pj_vU] [pj_vL s0] M Q := by
  exact pj_G_r rfl rfl rfl h
theorem pj_C63_0 {L d : Nat} {Q : Option pj_V → pj_M → Prop} {M : pj_M}  (h : pj_G L d 6 0 [pj_vR 22, pj_vU, pj_vU, pj_vU, pj_vU, pj_vU] [] M (fun r M1 => pj_G L (d + 1) 63 7 [pj_vR 1, pj_vU, pj_vU, pj_vU, pj_vU, pj_vU, pj_vU, pj_vU] (r.toList ++ []) M1 Q)) : pj_G L (d + 1) 63 0 [pj_vR 1, pj_vU, pj_vU, pj_vU, pj_vU, pj_vU, pj_vU, pj_vU] [] M Q := by
  refine pj_G_s (d := d + 1) pj_np63 2 (show pj_gs 2 L 63 0 [pj_vR 1, pj_vU, pj_vU, pj_vU, pj_vU, pj_vU, pj_vU, pj_vU] [] M = some ([], 4, [pj_vR 1, pj_vU, pj_vU, pj_vU, pj_vU, pj_vU, pj_vU, pj_vU], [pj_vR 22], M) from rfl) trivial ?_
  exact pj_G_k (j := 6) (vs := [pj_vR 22]) (st := []) rfl rfl rfl rfl rfl (Nat.le_of_ble_eq_true rfl) pj_nc6 h
theorem pj_C63_7 {L d : Nat} {Q : Option pj_V → pj_M → Prop} {M : pj_M} {s0 : Int} (r0 : -2147483648 ≤ s0 ∧ s0 < 2147483648) (h1 : (1 : Int) ≤ s0 → pj_G L d 63 20 [pj_vR 1, pj_vI s0, pj_vU, pj_vU, pj_vU, pj_vU, pj_vU, pj_vU] [] M Q) (h2 : s0 < (1 : Int) → pj_G L d 63 13 [pj_vR 1, pj_vU, pj_vU, pj_vU, pj_vU, pj_vU, pj_vU, pj_vU] [] M Q) : pj_G L d 63 7 [pj_vR 1, pj_vU, pj_vU, pj_vU, pj_vU, pj_vU, pj_vU, pj_vU] [pj_vI s0] M Q := by
  refine pj_G_s pj_np63 3 (show pj_gs 3 L 63 7 [pj_vR 1, pj_vU, pj_vU, pj_vU, pj_vU, pj_vU, pj_vU, pj_vU] [pj_vI s0] M = some ([], 10, [pj_vR 1, pj_vI s0, pj_vU, pj_vU, pj_vU, pj_vU, pj_vU, pj_vU], [pj_vI 1, pj_vI s0], M) from rfl) trivial ?_
  exact pj_G_if (t := 20) rfl rfl (fun z => h1 (pj_ct_ge (pj_nrm_id r0.1 r0.2) (pj_nrm_id (by omega) (by omega)) z)) (fun z => pj_G_loc (pj_lle_e (pj_lle_u rfl (pj_lle_e (pj_lle_e (pj_lle_e (pj_lle_e (pj_lle_e (pj_lle_e pj_lle_nil)))))))) (h2 (pj_cf_ge (pj_nrm_id r0.1 r0.2) (pj_nrm_id (by omega) (by omega)) z)))
theorem pj_C63_13 {L d : Nat} {Q : Option pj_V → pj_M → Prop} {M : pj_M}  (h : pj_G L d 77 0 [pj_vR 1, pj_vI ((-2))] [] M (fun r M1 => pj_G L (d + 1) 63 19 [pj_vU, pj_vU, pj_vU, pj_vU, pj_vU, pj_vU, pj_vU, pj_vU] (r.toList ++ []) M1 Q)) : pj_G L (d + 1) 63 13 [pj_vR 1, pj_vU, pj_vU, pj_vU, pj_vU, pj_vU, pj_vU, pj_vU] [] M Q := by
  refine pj_G_s (d := d + 1) pj_np63 2 (show pj_gs 2 L 63 13 [pj_vR 1, pj_vU, pj_vU, pj_vU, pj_vU, pj_vU, pj_vU, pj_vU] [] M = some ([], 16, [pj_vR 1, pj_vU, pj_vU, pj_vU, pj_vU, pj_vU, pj_vU, pj_vU], [pj_vI ((-2)), pj_vR 1], M) from rfl) trivial ?_
  exact pj_G_k (j := 77) (vs := [pj_vR 1, pj_vI ((-2))]) (st := []) rfl rfl rfl rfl rfl (Nat.le_of_ble_eq_true rfl) pj_nc77 (pj_G.mono h (fun _ _ hh => pj_G_loc (pj_lle_u rfl (pj_lle_e (pj_lle_e (pj_lle_e (pj_lle_e (pj_lle_e (pj_lle_e (pj_lle_e pj_lle_nil)))))))) hh))
theorem pj_C63_19 {L d : Nat} {Q : Option pj_V → pj_M → Prop} {M : pj_M} {s0 : Int}  (h : Q (some (pj_vI s0)) M) : pj_G L d 63 19 [pj_vU, pj_vU, pj_vU, pj_vU, pj_vU, pj_vU, pj_vU, pj_vU] [pj_vI s0] M Q := by
  exact pj_G_r rfl rfl rfl h
theorem pj_C63_20 {L d : Nat} {Q : Option pj_V → pj_M → Prop} {M : pj_M} {x1 : Int}  (h : pj_G L d 63 27 [pj_vR 1, pj_vI x1, pj_vI 0, pj_vL 0, pj_vU, pj_vI 0, pj_vU, pj_vU] [] M Q) : pj_G L d 63 20 [pj_vR 1, pj_vI x1, pj_vU, pj_vU, pj_vU, pj_vU, pj_vU, pj_vU] [] M Q := by
  refine pj_G_s pj_np63 6 (show pj_gs 6 L 63 20 [pj_vR 1, pj_vI x1, pj_vU, pj_vU, pj_vU, pj_vU, pj_vU, pj_vU] [] M = some ([], 27, [pj_vR 1, pj_vI x1, pj_vI 0, pj_vL 0, pj_vU, pj_vI 0, pj_vU, pj_vU], [], M) from rfl) trivial ?_
  exact h
theorem pj_C63_27 {L d : Nat} {Q : Option pj_V → pj_M → Prop} {M : pj_M} {x1 x2 x3 x5 : Int} (r0 : -2147483648 ≤ x5 ∧ x5 < 2147483648) (r1 : -2147483648 ≤ x1 ∧ x1 < 2147483648) (h1 : x1 ≤ x5 → pj_G L d 63 71 [pj_vU, pj_vU, pj_vI x2, pj_vL x3, pj_vU, pj_vU, pj_vU, pj_vU] [] M Q) (h2 : x5 < x1 → pj_G L d 63 33 [pj_vR 1, pj_vI x1, pj_vI x2, pj_vL x3, pj_vU, pj_vI x5, pj_vU, pj_vU] [] M Q) : pj_G L d 63 27 [pj_vR 1, pj_vI x1, pj_vI x2, pj_vL x3, pj_vU, pj_vI x5, pj_vU, pj_vU] [] M Q := by
  refine pj_G_s pj_np63 2 (show pj_gs 2 L 63 27 [pj_vR 1, pj_vI x1, pj_vI x2, pj_vL x3, pj_vU, pj_vI x5, pj_vU, pj_vU] [] M = some ([], 30, [pj_vR 1, pj_vI x1, pj_vI x2, pj_vL x3, pj_vU, pj_vI x5, pj_vU, pj_vU], [pj_vI x1, pj_vI x5], M) from rfl) trivial ?_
  exact pj_G_if (t := 71) rfl rfl (fun z => pj_G_loc (pj_lle_u rfl (pj_lle_u rfl (pj_lle_e (pj_lle_e (pj_lle_e (pj_lle_u rfl (pj_lle_e (pj_lle_e pj_lle_nil)))))))) (h1 (pj_ct_ge (pj_nrm_id r0.1 r0.2) (pj_nrm_id r1.1 r1.2) z))) (fun z => h2 (pj_cf_ge (pj_nrm_id r0.1 r0.2) (pj_nrm_id r1.1 r1.2) z))
theorem pj_C63_33 {L d : Nat} {Q : Option pj_V → pj_M → Prop} {M : pj_M} {x1 x2 x3 x5 : Int} (j0 : Nat) (ej0 : x5 = (j0 : Int)) (bj0 : j0 < 35) (h : pj_G L d 30 0 [pj_vR 7, pj_vI (M 23 j0), pj_vU, pj_vU, pj_vU] [] M (fun r M1 => pj_G L (d + 1) 63 50 [pj_vR 1, pj_vI x1, pj_vI x2, pj_vL x3, pj_vU, pj_vI x5, pj_vU, pj_vU] (r.toList ++ []) M1 Q)) : pj_G L (d + 1) 63 33 [pj_vR 1, pj_vI x1, pj_vI x2, pj_vL x3, pj_vU, pj_vI x5, pj_vU, pj_vU] [] M Q := by
  have nj0 : pj_nrm x5 = (j0 : Int) := pj_nk ej0 (by omega)
  refine pj_G_s (d := d + 1) pj_np63 7 (show pj_gs 7 L 63 33 [pj_vR 1, pj_vI x1, pj_vI x2, pj_vL x3, pj_vU, pj_vI x5, pj_vU, pj_vU] [] M = some ([0 ≤ pj_nrm x5 ∧ pj_nrm x5 < (35 : Int)], 47, [pj_vR 1, pj_vI x1, pj_vI x2, pj_vL x3, pj_vU, pj_vI x5, pj_vU, pj_vU], [pj_vI (M 23 (pj_nrm x5).toNat), pj_vR 7], M) from rfl) ⟨by omega, trivial⟩ ?_
  simp only [nj0, Int.toNat_natCast]
  exact pj_G_k (j := 30) (vs := [pj_vR 7, pj_vI (M 23 j0)]) (st := []) rfl rfl rfl rfl rfl (Nat.le_of_ble_eq_true rfl) pj_nc30 h
theorem pj_C63_50 {L d : Nat} {Q : Option pj_V → pj_M → Prop} {M : pj_M} {x1 x2 x3 x5 s0 : Int}  (h1 : pj_lcmp s0 x3 ≤ 0 → pj_G L d 63 65 [pj_vR 1, pj_vI x1, pj_vI x2, pj_vL x3, pj_vU, pj_vI x5, pj_vL s0, pj_vU] [] M Q) (h2 : 0 < pj_lcmp s0 x3 → pj_G L d 63 59 [pj_vR 1, pj_vI x1, pj_vU, pj_vL x3, pj_vU, pj_vI x5, pj_vL s0, pj_vU] [] M Q) : pj_G L d 63 50 [pj_vR 1, pj_vI x1, pj_vI x2, pj_vL x3, pj_vU, pj_vI x5, pj_vU, pj_vU] [pj_vL s0] M Q := by
  refine pj_G_s pj_np63 4 (show pj_gs 4 L 63 50 [pj_vR 1, pj_vI x1, pj_vI x2, pj_vL x3, pj_vU, pj_vI x5, pj_vU, pj_vU] [pj_vL s0] M = some ([], 56, [pj_vR 1, pj_vI x1, pj_vI x2, pj_vL x3, pj_vU, pj_vI x5, pj_vL s0, pj_vU], [pj_vI (pj_lcmp s0 x3)], M) from rfl) trivial ?_
  exact pj_G_if0 (t := 65) rfl rfl (fun z => h1 (pj_ct_le (pj_nrm_op _) rfl z)) (fun z => pj_G_loc (pj_lle_e (pj_lle_e (pj_lle_u rfl (pj_lle_e (pj_lle_e (pj_lle_e (pj_lle_e (pj_lle_e pj_lle_nil)))))))) (h2 (pj_cf_le (pj_nrm_op _) rfl z)))
theorem pj_C63_59 {L d : Nat} {Q : Option pj_V → pj_M → Prop} {M : pj_M} {x1 x3 x5 x6 : Int}  (h : pj_G L d 63 65 [pj_vR 1, pj_vI x1, pj_vI x5, pj_vL x6, pj_vU, pj_vI x5, pj_vL x6, pj_vU] [] M Q) : pj_G L d 63 59 [pj_vR 1, pj_vI x1, pj_vU, pj_vL x3, pj_vU, pj_vI x5, pj_vL x6, pj_vU] [] M Q := by
  refine pj_G_s pj_np63 4 (show pj_gs 4 L 63 59 [pj_vR 1, pj_vI x1, pj_vU, pj_vL x3, pj_vU, pj_vI x5, pj_vL x6, pj_vU] [] M = some ([], 65, [pj_vR 1, pj_vI x1, pj_vI x5, pj_vL x6, pj_vU, pj_vI x5, pj_vL x6, pj_vU], [], M) from rfl) trivial ?_
  exact h
theorem pj_C63_65 {L d : Nat} {Q : Option pj_V → pj_M → Prop} {M : pj_M} {x1 x2 x3 x5 x6 : Int}  (h : pj_G L d 63 27 [pj_vR 1, pj_vI x1, pj_vI x2, pj_vL x3, pj_vU, pj_vI (x5 + 1), pj_vL x6, pj_vU] [] M Q) : pj_G L d 63 65 [pj_vR 1, pj_vI x1, pj_vI x2, pj_vL x3, pj_vU, pj_vI x5, pj_vL x6, pj_vU] [] M Q := by
  refine pj_G_s pj_np63 2 (show pj_gs 2 L 63 65 [pj_vR 1, pj_vI x1, pj_vI x2, pj_vL x3, pj_vU, pj_vI x5, pj_vL x6, pj_vU] [] M = some ([], 27, [pj_vR 1, pj_vI x1, pj_vI x2, pj_vL x3, pj_vU, pj_vI (x5 + 1), pj_vL x6, pj_vU], [], M) from rfl) trivial ?_
  exact h
theorem pj_C63_27v1 {L d : Nat} {Q : Option pj_V → pj_M → Prop} {M : pj_M} {x1 x2 x3 x5 x6 : Int} (r0 : -2147483648 ≤ x5 ∧ x5 < 2147483648) (r1 : -2147483648 ≤ x1 ∧ x1 < 2147483648) (h1 : x1 ≤ x5 → pj_G L d 63 71 [pj_vU, pj_vU, pj_vI x2, pj_vL x3, pj_vU, pj_vU, pj_vL x6, pj_vU] [] M Q) (h2 : x5 < x1 → pj_G L d 63 33 [pj_vR 1, pj_vI x1, pj_vI x2, pj_vL x3, pj_vU, pj_vI x5, pj_vL x6, pj_vU] [] M Q) : pj_G L d 63 27 [pj_vR 1, pj_vI x1, pj_vI x2, pj_vL x3, pj_vU, pj_vI x5, pj_vL x6, pj_vU] [] M Q := by
  refine pj_G_s pj_np63 2 (show pj_gs 2 L 63 27 [pj_vR 1, pj_vI x1, pj_vI x2, pj_vL x3, pj_vU, pj_vI x5, pj_vL x6, pj_vU] [] M = some ([], 30, [pj_vR 1, pj_vI x1, pj_vI x2, pj_vL x3, pj_vU, pj_vI x5, pj_vL x6, pj_vU], [pj_vI x1, pj_vI x5], M) from rfl) trivial ?_
  exact pj_G_if (t := 71) rfl rfl (fun z => pj_G_loc (pj_lle_u rfl (pj_lle_u rfl (pj_lle_e (pj_lle_e (pj_lle_e (pj_lle_u rfl (pj_lle_e (pj_lle_e pj_lle_nil)))))))) (h1 (pj_ct_ge (pj_nrm_id r0.1 r0.2) (pj_nrm_id r1.1 r1.2) z))) (fun z => h2 (pj_cf_ge (pj_nrm_id r0.1 r0.2) (pj_nrm_id r1.1 r1.2) z))
theorem pj_C63_33v1 {L d : Nat} {Q : Option pj_V → pj_M → Prop} {M : pj_M} {x1 x2 x3 x5 x6 : Int} (j0 : Nat) (ej0 : x5 = (j0 : Int)) (bj0 : j0 < 35) (h : pj_G L d 30 0 [pj_vR 7, pj_vI (M 23 j0), pj_vU, pj_vU, pj_vU] [] M (fun r M1 => pj_G L (d + 1) 63 50 [pj_vR 1, pj_vI x1, pj_vI x2, pj_vL x3, pj_vU, pj_vI x5, pj_vL x6, pj_vU] (r.toList ++ []) M1 Q)) : pj_G L (d + 1) 63 33 [pj_vR 1, pj_vI x1, pj_vI x2, pj_vL x3, pj_vU, pj_vI x5, pj_vL x6, pj_vU] [] M Q := by
  have nj0 : pj_nrm x5 = (j0 : Int) := pj_nk ej0 (by omega)
  refine pj_G_s (d := d + 1) pj_np63 7 (show pj_gs 7 L 63 33 [pj_vR 1, pj_vI x1, pj_vI x2, pj_vL x3, pj_vU, pj_vI x5, pj_vL x6, pj_vU] [] M = some ([0 ≤ pj_nrm x5 ∧ pj_nrm x5 < (35 : Int)], 47, [pj_vR 1, pj_vI x1, pj_vI x2, pj_vL x3, pj_vU, pj_vI x5, pj_vL x6, pj_vU], [pj_vI (M 23 (pj_nrm x5).toNat), pj_vR 7], M) from rfl) ⟨by omega, trivial⟩ ?_
  simp only [nj0, Int.toNat_natCast]
  exact pj_G_k (j := 30) (vs := [pj_vR 7, pj_vI (M 23 j0)]) (st := []) rfl rfl rfl rfl rfl (Nat.le_of_ble_eq_true rfl) pj_nc30 h
theorem pj_C63_50v1 {L d : Nat} {Q : Option pj_V → pj_M → Prop} {M : pj_M} {x1 x2 x3 x5 x6 s0 : Int}  (h1 : pj_lcmp s0 x3 ≤ 0 → pj_G L d 63 65 [pj_vR 1, pj_vI x1, pj_vI x2, pj_vL x3, pj_vU, pj_vI x5, pj_vL s0, pj_vU] [] M Q) (h2 : 0 < pj_lcmp s0 x3 → pj_G L d 63 59 [pj_vR 1, pj_vI x1, pj_vU, pj_vL x3, pj_vU, pj_vI x5, pj_vL s0, pj_vU] [] M Q) : pj_G L d 63 50 [pj_vR 1, pj_vI x1, pj_vI x2, pj_vL x3, pj_vU, pj_vI x5, pj_vL x6, pj_vU] [pj_vL s0] M Q := by
  refine pj_G_s pj_np63 4 (show pj_gs 4 L 63 50 [pj_vR 1, pj_vI x1, pj_vI x2, pj_vL x3, pj_vU, pj_vI x5, pj_vL x6, pj_vU] [pj_vL s0] M = some ([], 56, [pj_vR 1, pj_vI x1, pj_vI x2, pj_vL x3, pj_vU, pj_vI x5, pj_vL s0, pj_vU], [pj_vI (pj_lcmp s0 x3)], M) from rfl) trivial ?_
  exact pj_G_if0 (t := 65) rfl rfl (fun z => h1 (pj_ct_le (pj_nrm_op _) rfl z)) (fun z => pj_G_loc (pj_lle_e (pj_lle_e (pj_lle_u rfl (pj_lle_e (pj_lle_e (pj_lle_e (pj_lle_e (pj_lle_e pj_lle_nil)))))))) (h2 (pj_cf_le (pj_nrm_op _) rfl z)))
theorem pj_C63_71v1 {L d : Nat} {Q : Option pj_V → pj_M → Prop} {M : pj_M} {x2 x3 x6 : Int}  (h : Q (some (pj_vI x2)) M) : pj_G L d 63 71 [pj_vU, pj_vU, pj_vI x2, pj_vL x3, pj_vU, pj_vU, pj_vL x6, pj_vU] [] M Q := by
  refine pj_G_s pj_np63 1 (show pj_gs 1 L 63 71 [pj_vU, pj_vU, pj_vI x2, pj_vL x3, pj_vU, pj_vU, pj_vL x6, pj_vU] [] M = some ([], 72, [pj_vU, pj_vU, pj_vI x2, pj_vL x3, pj_vU, pj_vU, pj_vL x6, pj_vU], [pj_vI x2], M) from rfl) trivial ?_
  exact pj_G_r rfl rfl rfl h
theorem pj_C63_71 {L d : Nat} {Q : Option pj_V → pj_M → Prop} {M : pj_M} {x2 x3 : Int}  (h : Q (some (pj_vI x2)) M) : pj_G L d 63 71 [pj_vU, pj_vU, pj_vI x2, pj_vL x3, pj_vU, pj_vU, pj_vU, pj_vU] [] M Q := by
  refine pj_G_s pj_np63 1 (show pj_gs 1 L 63 71 [pj_vU, pj_vU, pj_vI x2, pj_vL x3, pj_vU, pj_vU, pj_vU, pj_vU] [] M = some ([], 72, [pj_vU, pj_vU, pj_vI x2, pj_vL x3, pj_vU, pj_vU, pj_vU, pj_vU], [pj_vI x2], M) from rfl) trivial ?_
  exact pj_G_r rfl rfl rfl h
theorem pj_C64_0 {L d : Nat} {Q : Option pj_V → pj_M → Prop} {M : pj_M} {x1 x2 : Int}  (h : pj_G L d 79 0 [pj_vR 1, pj_vI x1] [] M (fun r M1 => pj_G L (d + 1) 64 5 [pj_vR 1, pj_vI x1, pj_vI x2, pj_vU, pj_vU, pj_vU, pj_vU, pj_vU, pj_vU, pj_vU, pj_vU] (r.toList ++ []) M1 Q)) : pj_G L (d + 1) 64 0 [pj_vR 1, pj_vI x1, pj_vI x2, pj_vU, pj_vU, pj_vU, pj_vU, pj_vU, pj_vU, pj_vU, pj_vU] [] M Q := by
  refine pj_G_s (d := d + 1) pj_np64 2 (show pj_gs 2 L 64 0 [pj_vR 1, pj_vI x1, pj_vI x2, pj_vU, pj_vU, pj_vU, pj_vU, pj_vU, pj_vU, pj_vU, pj_vU] [] M = some ([], 2, [pj_vR 1, pj_vI x1, pj_vI x2, pj_vU, pj_vU, pj_vU, pj_vU, pj_vU, pj_vU, pj_vU, pj_vU], [pj_vI x1, pj_vR 1], M) from rfl) trivial ?_
  exact pj_G_k (j := 79) (vs := [pj_vR 1, pj_vI x1]) (st := []) rfl rfl rfl rfl rfl (Nat.le_of_ble_eq_true rfl) pj_nc79 h
theorem pj_C64_5 {L d : Nat} {Q : Option pj_V → pj_M → Prop} {M : pj_M} {x1 x2 s0 : Int} (r0 : -2147483648 ≤ s0 ∧ s0 < 2147483648) (h1 : s0 ≠ 0 → pj_G L d 64 17 [pj_vR 1, pj_vI x1, pj_vI x2, pj_vU, pj_vU, pj_vU, pj_vU, pj_vU, pj_vU, pj_vU, pj_vU] [] M Q) (h2 : s0 = 0 → pj_G L d 64 8 [pj_vR 1, pj_vU, pj_vU, pj_vU, pj_vU, pj_vU, pj_vU, pj_vU, pj_vU, pj_vU, pj_vU] [] M Q) : pj_G L d 64 5 [pj_vR 1, pj_vI x1, pj_vI x2, pj_vU, pj_vU, pj_vU, pj_vU, pj_vU, pj_vU, pj_vU, pj_vU] [pj_vI s0] M Q := by
  exact pj_G_if0 (t := 17) rfl rfl (fun z => h1 (pj_ct_ne (pj_nrm_id r0.1 r0.2) rfl z)) (fun z => pj_G_loc (pj_lle_e (pj_lle_u rfl (pj_lle_u rfl (pj_lle_e (pj_lle_e (pj_lle_e (pj_lle_e (pj_lle_e (pj_lle_e (pj_lle_e (pj_lle_e pj_lle_nil))))))))))) (h2 (pj_cf_ne (pj_nrm_id r0.1 r0.2) rfl z)))
theorem pj_C64_8 {L d : Nat} {Q : Option pj_V → pj_M → Prop} {M : pj_M}  (h : pj_G L d 77 0 [pj_vR 1, pj_vI ((-3))] [] M (fun r M1 => pj_G L (d + 1) 64 14 [pj_vU, pj_vU, pj_vU, pj_vU, pj_vU, pj_vU, pj_vU, pj_vU, pj_vU, pj_vU, pj_vU] (r.toList ++ []) M1 Q)) : pj_G L (d + 1) 64 8 [pj_vR 1, pj_vU, pj_vU, pj_vU, pj_vU, pj_vU, pj_vU, pj_vU, pj_vU, pj_vU, pj_vU] [] M Q := by
  refine pj_G_s (d := d + 1) pj_np64 2 (show pj_gs 2 L 64 8 [pj_vR 1, pj_vU, pj_vU, pj_vU, pj_vU, pj_vU, pj_vU, pj_vU, pj_vU, pj_vU, pj_vU] [] M = some ([], 11, [pj_vR 1, pj_vU, pj_vU, pj_vU, pj_vU, pj_vU, pj_vU, pj_vU, pj_vU, pj_vU, pj_vU], [pj_vI ((-3)), pj_vR 1], M) from rfl) trivial ?_
  exact pj_G_k (j := 77) (vs := [pj_vR 1, pj_vI ((-3))]) (st := []) rfl rfl rfl rfl rfl (Nat.le_of_ble_eq_true rfl) pj_nc77 (pj_G.mono h (fun _ _ hh => pj_G_loc (pj_lle_u rfl (pj_lle_e (pj_lle_e (pj_lle_e (pj_lle_e (pj_lle_e (pj_lle_e (pj_lle_e (pj_lle_e (pj_lle_e (pj_lle_e pj_lle_nil))))))))))) hh))
theorem pj_C64_14 {L d : Nat} {Q : Option pj_V → pj_M → Prop} {M : pj_M} {s0 : Int}  (h : Q (some (pj_vL 0)) M) : pj_G L d 64 14 [pj_vU, pj_vU, pj_vU, pj_vU, pj_vU, pj_vU, pj_vU, pj_vU, pj_vU, pj_vU, pj_vU] [pj_vI s0] M Q := by
  refine pj_G_s pj_np64 2 (show pj_gs 2 L 64 14 [pj_vU, pj_vU, pj_vU, pj_vU, pj_vU, pj_vU, pj_vU, pj_vU, pj_vU, pj_vU, pj_vU] [pj_vI s0] M = some ([], 16, [pj_vU, pj_vU, pj_vU, pj_vU, pj_vU, pj_vU, pj_vU, pj_vU, pj_vU, pj_vU, pj_vU], [pj_vL 0], M) from rfl) trivial ?_
  exact pj_G_r rfl rfl rfl h
theorem pj_C64_17 {L d : Nat} {Q : Option pj_V → pj_M → Prop} {M : pj_M} {x1 x2 : Int}  (h : pj_G L d 6 0 [pj_vR 22, pj_vU, pj_vU, pj_vU, pj_vU, pj_vU] [] M (fun r M1 => pj_G L (d + 1) 64 24 [pj_vR 1, pj_vI x1, pj_vI x2, pj_vU, pj_vU, pj_vU, pj_vU, pj_vU, pj_vU, pj_vU, pj_vU] (r.toList ++ []) M1 Q)) : pj_G L (d + 1) 64 17 [pj_vR 1, pj_vI x1, pj_vI x2, pj_vU, pj_vU, pj_vU, pj_vU, pj_vU, pj_vU, pj_vU, pj_vU] [] M Q := by
  refine pj_G_s (d := d + 1) pj_np64 2 (show pj_gs 2 L 64 17 [pj_vR 1, pj_vI x1, pj_vI x2, pj_vU, pj_vU, pj_vU, pj_vU, pj_vU, pj_vU, pj_vU, pj_vU] [] M = some ([], 21, [pj_vR 1, pj_vI x1, pj_vI x2, pj_vU, pj_vU, pj_vU, pj_vU, pj_vU, pj_vU, pj_vU, pj_vU], [pj_vR 22], M) from rfl) trivial ?_
  exact pj_G_k (j := 6) (vs := [pj_vR 22]) (st := []) rfl rfl rfl rfl rfl (Nat.le_of_ble_eq_true rfl) pj_nc6 h
theorem pj_C64_24 {L d : Nat} {Q : Option pj_V → pj_M → Prop} {M : pj_M} {x1 x2 s0 : Int} (r0 : -2147483648 ≤ s0 ∧ s0 < 2147483648) (h1 : (1 : Int) ≤ s0 → pj_G L d 64 39 [pj_vR 1, pj_vI x1, pj_vI x2, pj_vI s0, pj_vU, pj_vU, pj_vU, pj_vU, pj_vU, pj_vU, pj_vU] [] M Q) (h2 : s0 < (1 : Int) → pj_G L d 64 30 [pj_vR 1, pj_vU, pj_vU, pj_vU, pj_vU, pj_vU, pj_vU, pj_vU, pj_vU, pj_vU, pj_vU] [] M Q) : pj_G L d 64 24 [pj_vR 1, pj_vI x1, pj_vI x2, pj_vU, pj_vU, pj_vU, pj_vU, pj_vU, pj_vU, pj_vU, pj_vU] [pj_vI s0] M Q := by
  refine pj_G_s pj_np64 3 (show pj_gs 3 L 64 24 [pj_vR 1, pj_vI x1, pj_vI x2, pj_vU, pj_vU, pj_vU, pj_vU, pj_vU, pj_vU, pj_vU, pj_vU] [pj_vI s0] M = some ([], 27, [pj_vR 1, pj_vI x1, pj_vI x2, pj_vI s0, pj_vU, pj_vU, pj_vU, pj_vU, pj_vU, pj_vU, pj_vU], [pj_vI 1, pj_vI s0], M) from rfl) trivial ?_
  exact pj_G_if (t := 39) rfl rfl (fun z => h1 (pj_ct_ge (pj_nrm_id r0.1 r0.2) (pj_nrm_id (by omega) (by omega)) z)) (fun z => pj_G_loc (pj_lle_e (pj_lle_u rfl (pj_lle_u rfl (pj_lle_u rfl (pj_lle_e (pj_lle_e (pj_lle_e (pj_lle_e (pj_lle_e (pj_lle_e (pj_lle_e pj_lle_nil))))))))))) (h2 (pj_cf_ge (pj_nrm_id r0.1 r0.2) (pj_nrm_id (by omega) (by omega)) z)))
theorem pj_C64_30 {L d : Nat} {Q : Option pj_V → pj_M → Prop} {M : pj_M}  (h : pj_G L d 77 0 [pj_vR 1, pj_vI ((-2))] [] M (fun r M1 => pj_G L (d + 1) 64 36 [pj_vU, pj_vU, pj_vU, pj_vU, pj_vU, pj_vU, pj_vU, pj_vU, pj_vU, pj_vU, pj_vU] (r.toList ++ []) M1 Q)) : pj_G L (d + 1) 64 30 [pj_vR 1, pj_vU, pj_vU, pj_vU, pj_vU, pj_vU, pj_vU, pj_vU, pj_vU, pj_vU, pj_vU] [] M Q := by
  refine pj_G_s (d := d + 1) pj_np64 2 (show pj_gs 2 L 64 30 [pj_vR 1, pj_vU, pj_vU, pj_vU, pj_vU, pj_vU, pj_vU, pj_vU, pj_vU, pj_vU, pj_vU] [] M = some ([], 33, [pj_vR 1, pj_vU, pj_vU, pj_vU, pj_vU, pj_vU, pj_vU, pj_vU, pj_vU, pj_vU, pj_vU], [pj_vI ((-2)), pj_vR 1], M) from rfl) trivial ?_
  exact pj_G_k (j := 77) (vs := [pj_vR 1, pj_vI ((-2))]) (st := []) rfl rfl rfl rfl rfl (Nat.le_of_ble_eq_true rfl) pj_nc77 (pj_G.mono h (fun _ _ hh => pj_G_loc (pj_lle_u rfl (pj_lle_e (pj_lle_e (pj_lle_e (pj_lle_e (pj_lle_e (pj_lle_e (pj_lle_e (pj_lle_e (pj_lle_e (pj_lle_e pj_lle_nil))))))))))) hh))
theorem pj_C64_36 {L d : Nat} {Q : Option pj_V → pj_M → Prop} {M : pj_M} {s0 : Int}  (h : Q (some (pj_vL 0)) M) : pj_G L d 64 36 [pj_vU, pj_vU, pj_vU, pj_vU, pj_vU, pj_vU, pj_vU, pj_vU, pj_vU, pj_vU, pj_vU] [pj_vI s0] M Q := by
  refine pj_G_s pj_np64 2 (show pj_gs 2 L 64 36 [pj_vU, pj_vU, pj_vU, pj_vU, pj_vU, pj_vU, pj_vU, pj_vU, pj_vU, pj_vU, pj_vU] [pj_vI s0] M = some ([], 38, [pj_vU, pj_vU, pj_vU, pj_vU, pj_vU, pj_vU, pj_vU, pj_vU, pj_vU, pj_vU, pj_vU], [pj_vL 0], M) from rfl) trivial ?_
  exact pj_G_r rfl rfl rfl h
theorem pj_C64_39 {L d : Nat} {Q : Option pj_V → pj_M → Prop} {M : pj_M} {x1 x2 x3 : Int}  (h : pj_G L d 64 48 [pj_vR 1, pj_vI x1, pj_vI x2, pj_vI x3, pj_vL 0, pj_vU, pj_vL 0, pj_vU, pj_vI 0, pj_vU, pj_vU] [] M Q) : pj_G L d 64 39 [pj_vR 1, pj_vI x1, pj_vI x2, pj_vI x3, pj_vU, pj_vU, pj_vU, pj_vU, pj_vU, pj_vU, pj_vU] [] M Q := by
  refine pj_G_s pj_np64 6 (show pj_gs 6 L 64 39 [pj_vR 1, pj_vI x1, pj_vI x2, pj_vI x3, pj_vU, pj_vU, pj_vU, pj_vU, pj_vU, pj_vU, pj_vU] [] M = some ([], 48, [pj_vR 1, pj_vI x1, pj_vI x2, pj_vI x3, pj_vL 0, pj_vU, pj_vL 0, pj_vU, pj_vI 0, pj_vU, pj_vU], [], M) from rfl) trivial ?_
  exact h
theorem pj_C64_48 {L d : Nat} {Q : Option pj_V → pj_M → Prop} {M : pj_M} {x1 x2 x3 x4 x6 x8 : Int} (r0 : -2147483648 ≤ x8 ∧ x8 < 2147483648) (r1 : -2147483648 ≤ x3 ∧ x3 < 2147483648) (h1 : x3 ≤ x8 → pj_G L d 64 110 [pj_vU, pj_vU, pj_vI x2, pj_vU, pj_vL x4, pj_vU, pj_vL x6, pj_vU, pj_vU, pj_vU, pj_vU] [] M Q) (h2 : x8 < x3 → pj_G L d 64 54 [pj_vR 1, pj_vI x1, pj_vI x2, pj_vI x3, pj_vL x4, pj_vU, pj_vL x6, pj_vU, pj_vI x8, pj_vU, pj_vU] [] M Q) : pj_G L d 64 48 [pj_vR 1, pj_vI x1, pj_vI x2, pj_vI x3, pj_vL x4, pj_vU, pj_vL x6, pj_vU, pj_vI x8, pj_vU, pj_vU] [] M Q := by
  refine pj_G_s pj_np64 2 (show pj_gs 2 L 64 48 [pj_vR 1, pj_vI x1, pj_vI x2, pj_vI x3, pj_vL x4, pj_vU, pj_vL x6, pj_vU, pj_vI x8, pj_vU, pj_vU] [] M = some ([], 51, [pj_vR 1, pj_vI x1, pj_vI x2, pj_vI x3, pj_vL x4, pj_vU, pj_vL x6, pj_vU, pj_vI x8, pj_vU, pj_vU], [pj_vI x3, pj_vI x8], M) from rfl) trivial ?_
  exact pj_G_if (t := 110) rfl rfl (fun z => pj_G_loc (pj_lle_u rfl (pj_lle_u rfl (pj_lle_e (pj_lle_u rfl (pj_lle_e (pj_lle_e (pj_lle_e (pj_lle_e (pj_lle_u rfl (pj_lle_e (pj_lle_e pj_lle_nil))))))))))) (h1 (pj_ct_ge (pj_nrm_id r0.1 r0.2) (pj_nrm_id r1.1 r1.2) z))) (fun z => h2 (pj_cf_ge (pj_nrm_id r0.1 r0.2) (pj_nrm_id r1.1 r1.2) z))
theorem pj_C64_54 {L d : Nat} {Q : Option pj_V → pj_M → Prop} {M : pj_M} {x1 x2 x3 x4 x6 x8 : Int} (j0 : Nat) (ej0 : x8 = (j0 : Int)) (bj0 : j0 < 35) (h : pj_G L d 30 0 [pj_vR 7, pj_vI (M 23 j0), pj_vU, pj_vU, pj_vU] [] M (fun r M1 => pj_G L (d + 1) 64 71 [pj_vR 1, pj_vI x1, pj_vI x2, pj_vI x3, pj_vL x4, pj_vU, pj_vL x6, pj_vU, pj_vI x8, pj_vU, pj_vU] (r.toList ++ []) M1 Q)) : pj_G L (d + 1) 64 54 [pj_vR 1, pj_vI x1, pj_vI x2, pj_vI x3, pj_vL x4, pj_vU, pj_vL x6, pj_vU, pj_vI x8, pj_vU, pj_vU] [] M Q := by
  have nj0 : pj_nrm x8 = (j0 : Int) := pj_nk ej0 (by omega)
  refine pj_G_s (d := d + 1) pj_np64 7 (show pj_gs 7 L 64 54 [pj_vR 1, pj_vI x1, pj_vI x2, pj_vI x3, pj_vL x4, pj_vU, pj_vL x6, pj_vU, pj_vI x8, pj_vU, pj_vU] [] M = some ([0 ≤ pj_nrm x8 ∧ pj_nrm x8 < (35 : Int)], 68, [pj_vR 1, pj_vI x1, pj_vI x2, pj_vI x3, pj_vL x4, pj_vU, pj_vL x6, pj_vU, pj_vI x8, pj_vU, pj_vU], [pj_vI (M 23 (pj_nrm x8).toNat), pj_vR 7], M) from rfl) ⟨by omega, trivial⟩ ?_
  simp only [nj0, Int.toNat_natCast]
  exact pj_G_k (j := 30) (vs := [pj_vR 7, pj_vI (M 23 j0)]) (st := []) rfl rfl rfl rfl rfl (Nat.le_of_ble_eq_true rfl) pj_nc30 h
theorem pj_C64_71 {L d : Nat} {Q : Option pj_V → pj_M → Prop} {M : pj_M} {x1 x2 x3 x4 x6 x8 s0 : Int} (j0 j1 : Nat) (ej0 : x8 = (j0 : Int)) (bj0 : j0 < 35) (ej1 : x1 = (j1 : Int)) (bj1 : j1 < 32) (h1 : pj_bt (M 23 j0) j1 = false → pj_G L d 64 104 [pj_vR 1, pj_vI x1, pj_vI x2, pj_vI x3, pj_vL x4, pj_vU, pj_vL (x6 + s0), pj_vU, pj_vI x8, pj_vL s0, pj_vU] [] M Q) (h2 : pj_bt (M 23 j0) j1 = true → pj_G L d 64 97 [pj_vR 1, pj_vI x1, pj_vI x2, pj_vI x3, pj_vL x4, pj_vU, pj_vL (x6 + s0), pj_vU, pj_vI x8, pj_vL s0, pj_vU] [] M Q) : pj_G L d 64 71 [pj_vR 1, pj_vI x1, pj_vI x2, pj_vI x3, pj_vL x4, pj_vU, pj_vL x6, pj_vU, pj_vI x8, pj_vU, pj_vU] [pj_vL s0] M Q := by
  have nj0 : pj_nrm x8 = (j0 : Int) := pj_nk ej0 (by omega)
  have nj1 : pj_nrm x1 = (j1 : Int) := pj_nk ej1 (by omega)
  refine pj_G_s pj_np64 14 (show pj_gs 14 L 64 71 [pj_vR 1, pj_vI x1, pj_vI x2, pj_vI x3, pj_vL x4, pj_vU, pj_vL x6, pj_vU, pj_vI x8, pj_vU, pj_vU] [pj_vL s0] M = some ([0 ≤ pj_nrm x8 ∧ pj_nrm x8 < (35 : Int)], 94, [pj_vR 1, pj_vI x1, pj_vI x2, pj_vI x3, pj_vL x4, pj_vU, pj_vL (x6 + s0), pj_vU, pj_vI x8, pj_vL s0, pj_vU], [pj_vI (pj_and (pj_shr (M 23 (pj_nrm x8).toNat) x1) 1)], M) from rfl) ⟨by omega, trivial⟩ ?_
  simp only [nj0, nj1, Int.toNat_natCast]
  exact pj_G_if0 (t := 104) rfl rfl (fun z => h1 (pj_ieq0 (pj_ct_eq (pj_tst ej1 (by omega)) rfl z))) (fun z => h2 (pj_ine0 (pj_cf_eq (pj_tst ej1 (by omega)) rfl z)))
theorem pj_C64_97 {L d : Nat} {Q : Option pj_V → pj_M → Prop} {M : pj_M} {x1 x2 x3 x4 x6 x8 x9 : Int}  (h : pj_G L d 64 104 [pj_vR 1, pj_vI x1, pj_vI x2, pj_vI x3, pj_vL (x4 + x9), pj_vU, pj_vL x6, pj_vU, pj_vI x8, pj_vL x9, pj_vU] [] M Q) : pj_G L d 64 97 [pj_vR 1, pj_vI x1, pj_vI x2, pj_vI x3, pj_vL x4, pj_vU, pj_vL x6, pj_vU, pj_vI x8, pj_vL x9, pj_vU] [] M Q := by
  refine pj_G_s pj_np64 4 (show pj_gs 4 L 64 97 [pj_vR 1, pj_vI x1, pj_vI x2, pj_vI x3, pj_vL x4, pj_vU, pj_vL x6, pj_vU, pj_vI x8, pj_vL x9, pj_vU] [] M = some ([], 104, [pj_vR 1, pj_vI x1, pj_vI x2, pj_vI x3, pj_vL (x4 + x9), pj_vU, pj_vL x6, pj_vU, pj_vI x8, pj_vL x9, pj_vU], [], M) from rfl) trivial ?_
  exact h
theorem pj_C64_104 {L d : Nat} {Q : Option pj_V → pj_M → Prop} {M : pj_M} {x1 x2 x3 x4 x6 x8 x9 : Int}  (h : pj_G L d 64 48 [pj_vR 1, pj_vI x1, pj_vI x2, pj_vI x3, pj_vL x4, pj_vU, pj_vL x6, pj_vU, pj_vI (x8 + 1), pj_vL x9, pj_vU] [] M Q) : pj_G L d 64 104 [pj_vR 1, pj_vI x1, pj_vI x2, pj_vI x3, pj_vL x4, pj_vU, pj_vL x6, pj_vU, pj_vI x8, pj_vL x9, pj_vU] [] M Q := by
  refine pj_G_s pj_np64 2 (show pj_gs 2 L 64 104 [pj_vR 1, pj_vI x1, pj_vI x2, pj_vI x3, pj_vL x4, pj_vU, pj_vL x6, pj_vU, pj_vI x8, pj_vL x9, pj_vU] [] M = some ([], 48, [pj_vR 1, pj_vI x1, pj_vI x2, pj_vI x3, pj_vL x4, pj_vU, pj_vL x6, pj_vU, pj_vI (x8 + 1), pj_vL x9, pj_vU], [], M) from rfl) trivial ?_
  exact h
theorem pj_C64_48v1 {L d : Nat} {Q : Option pj_V → pj_M → Prop} {M : pj_M} {x1 x2 x3 x4 x6 x8 x9 : Int} (r0 : -2147483648 ≤ x8 ∧ x8 < 2147483648) (r1 : -2147483648 ≤ x3 ∧ x3 < 2147483648) (h1 : x3 ≤ x8 → pj_G L d 64 110 [pj_vU, pj_vU, pj_vI x2, pj_vU, pj_vL x4, pj_vU, pj_vL x6, pj_vU, pj_vU, pj_vL x9, pj_vU] [] M Q) (h2 : x8 < x3 → pj_G L d 64 54 [pj_vR 1, pj_vI x1, pj_vI x2, pj_vI x3, pj_vL x4, pj_vU, pj_vL x6, pj_vU, pj_vI x8, pj_vL x9, pj_vU] [] M Q) : pj_G L d 64 48 [pj_vR 1, pj_vI x1, pj_vI x2, pj_vI x3, pj_vL x4, pj_vU, pj_vL x6, pj_vU, pj_vI x8, pj_vL x9, pj_vU] [] M Q := by
  refine pj_G_s pj_np64 2 (show pj_gs 2 L 64 48 [pj_vR 1, pj_vI x1, pj_vI x2, pj_vI x3, pj_vL x4, pj_vU, pj_vL x6, pj_vU, pj_vI x8, pj_vL x9, pj_vU] [] M = some ([], 51, [pj_vR 1, pj_vI x1, pj_vI x2, pj_vI x3, pj_vL x4, pj_vU, pj_vL x6, pj_vU, pj_vI x8, pj_vL x9, pj_vU], [pj_vI x3, pj_vI x8], M) from rfl) trivial ?_
  exact pj_G_if (t := 110) rfl rfl (fun z => pj_G_loc (pj_lle_u rfl (pj_lle_u rfl (pj_lle_e (pj_lle_u rfl (pj_lle_e (pj_lle_e (pj_lle_e (pj_lle_e (pj_lle_u rfl (pj_lle_e (pj_lle_e pj_lle_nil))))))))))) (h1 (pj_ct_ge (pj_nrm_id r0.1 r0.2) (pj_nrm_id r1.1 r1.2) z))) (fun z => h2 (pj_cf_ge (pj_nrm_id r0.1 r0.2) (pj_nrm_id r1.1 r1.2) z))
theorem pj_C64_54v1 {L d : Nat} {Q : Option pj_V → pj_M → Prop} {M : pj_M} {x1 x2 x3 x4 x6 x8 x9 : Int} (j0 : Nat) (ej0 : x8 = (j0 : Int)) (bj0 : j0 < 35) (h : pj_G L d 30 0 [pj_vR 7, pj_vI (M 23 j0), pj_vU, pj_vU, pj_vU] [] M (fun r M1 => pj_G L (d + 1) 64 71 [pj_vR 1, pj_vI x1, pj_vI x2, pj_vI x3, pj_vL x4, pj_vU, pj_vL x6, pj_vU, pj_vI x8, pj_vL x9, pj_vU] (r.toList ++ []) M1 Q)) : pj_G L (d + 1) 64 54 [pj_vR 1, pj_vI x1, pj_vI x2, pj_vI x3, pj_vL x4, pj_vU, pj_vL x6, pj_vU, pj_vI x8, pj_vL x9, pj_vU] [] M Q := by
  have nj0 : pj_nrm x8 = (j0 : Int) := pj_nk ej0 (by omega)
  refine pj_G_s (d := d + 1) pj_np64 7 (show pj_gs 7 L 64 54 [pj_vR 1, pj_vI x1, pj_vI x2, pj_vI x3, pj_vL x4, pj_vU, pj_vL x6, pj_vU, pj_vI x8, pj_vL x9, pj_vU] [] M = some ([0 ≤ pj_nrm x8 ∧ pj_nrm x8 < (35 : Int)], 68, [pj_vR 1, pj_vI x1, pj_vI x2, pj_vI x3, pj_vL x4, pj_vU, pj_vL x6, pj_vU, pj_vI x8, pj_vL x9, pj_vU], [pj_vI (M 23 (pj_nrm x8).toNat), pj_vR 7], M) from rfl) ⟨by omega, trivial⟩ ?_
  simp only [nj0, Int.toNat_natCast]
  exact pj_G_k (j := 30) (vs := [pj_vR 7, pj_vI (M 23 j0)]) (st := []) rfl rfl rfl rfl rfl (Nat.le_of_ble_eq_true rfl) pj_nc30 h
theorem pj_C64_71v1 {L d : Nat} {Q : Option pj_V → pj_M → Prop} {M : pj_M} {x1 x2 x3 x4 x6 x8 x9 s0 : Int} (j0 j1 : Nat) (ej0 : x8 = (j0 : Int)) (bj0 : j0 < 35) (ej1 : x1 = (j1 : Int)) (bj1 : j1 < 32) (h1 : pj_bt (M 23 j0) j1 = false → pj_G L d 64 104 [pj_vR 1, pj_vI x1, pj_vI x2, pj_vI x3, pj_vL x4, pj_vU, pj_vL (x6 + s0), pj_vU, pj_vI x8, pj_vL s0, pj_vU] [] M Q) (h2 : pj_bt (M 23 j0) j1 = true → pj_G L d 64 97 [pj_vR 1, pj_vI x1, pj_vI x2, pj_vI x3, pj_vL x4, pj_vU, pj_vL (x6 + s0), pj_vU, pj_vI x8, pj_vL s0, pj_vU] [] M Q) : pj_G L d 64 71 [pj_vR 1, pj_vI x1, pj_vI x2, pj_vI x3, pj_vL x4, pj_vU, pj_vL x6, pj_vU, pj_vI x8, pj_vL x9, pj_vU] [pj_vL s0] M Q := by
  have nj0 : pj_nrm x8 = (j0 : Int) := pj_nk ej0 (by omega)
  have nj1 : pj_nrm x1 = (j1 : Int) := pj_nk ej1 (by omega)
  refine pj_G_s pj_np64 14 (show pj_gs 14 L 64 71 [pj_vR 1, pj_vI x1, pj_vI x2, pj_vI x3, pj_vL x4, pj_vU, pj_vL x6, pj_vU, pj_vI x8, pj_vL x9, pj_vU] [pj_vL s0] M = some ([0 ≤ pj_nrm x8 ∧ pj_nrm x8 < (35 : Int)], 94, [pj_vR 1, pj_vI x1, pj_vI x2, pj_vI x3, pj_vL x4, pj_vU, pj_vL (x6 + s0), pj_vU, pj_vI x8, pj_vL s0, pj_vU], [pj_vI (pj_and (pj_shr (M 23 (pj_nrm x8).toNat) x1) 1)], M) from rfl) ⟨by omega, trivial⟩ ?_
  simp only [nj0, nj1, Int.toNat_natCast]
  exact pj_G_if0 (t := 104) rfl rfl (fun z => h1 (pj_ieq0 (pj_ct_eq (pj_tst ej1 (by omega)) rfl z))) (fun z => h2 (pj_ine0 (pj_cf_eq (pj_tst ej1 (by omega)) rfl z)))
theorem pj_C64_110v1 {L d : Nat} {Q : Option pj_V → pj_M → Prop} {M : pj_M} {x2 x4 x6 x9 : Int}  (h : pj_G L d 83 0 [pj_vL x6, pj_vU, pj_vL x4, pj_vU, pj_vU, pj_vU, pj_vU, pj_vU, pj_vU, pj_vU, pj_vU] [] M (fun r M1 => pj_G L (d + 1) 64 117 [pj_vU, pj_vU, pj_vI x2, pj_vU, pj_vL x4, pj_vU, pj_vL x6, pj_vU, pj_vU, pj_vL x9, pj_vU] (r.toList ++ []) M1 Q)) : pj_G L (d + 1) 64 110 [pj_vU, pj_vU, pj_vI x2, pj_vU, pj_vL x4, pj_vU, pj_vL x6, pj_vU, pj_vU, pj_vL x9, pj_vU] [] M Q := by
  refine pj_G_s (d := d + 1) pj_np64 2 (show pj_gs 2 L 64 110 [pj_vU, pj_vU, pj_vI x2, pj_vU, pj_vL x4, pj_vU, pj_vL x6, pj_vU, pj_vU, pj_vL x9, pj_vU] [] M = some ([], 114, [pj_vU, pj_vU, pj_vI x2, pj_vU, pj_vL x4, pj_vU, pj_vL x6, pj_vU, pj_vU, pj_vL x9, pj_vU], [pj_vL x4, pj_vL x6], M) from rfl) trivial ?_
  exact pj_G_k (j := 83) (vs := [pj_vL x6, pj_vL x4]) (st := []) rfl rfl rfl rfl rfl (Nat.le_of_ble_eq_true rfl) pj_nc83 h
theorem pj_C64_117 {L d : Nat} {Q : Option pj_V → pj_M → Prop} {M : pj_M} {x2 x4 x6 x9 s0 : Int}  (h1 : 0 ≤ pj_lcmp s0 1 → pj_G L d 64 128 [pj_vU, pj_vU, pj_vI x2, pj_vU, pj_vL x4, pj_vU, pj_vL x6, pj_vU, pj_vL s0, pj_vU, pj_vU] [] M Q) (h2 : pj_lcmp s0 1 < 0 → pj_G L d 64 126 [pj_vU, pj_vU, pj_vU, pj_vU, pj_vL x4, pj_vU, pj_vL x6, pj_vU, pj_vL s0, pj_vU, pj_vU] [] M Q) : pj_G L d 64 117 [pj_vU, pj_vU, pj_vI x2, pj_vU, pj_vL x4, pj_vU, pj_vL x6, pj_vU, pj_vU, pj_vL x9, pj_vU] [pj_vL s0] M Q := by
  refine pj_G_s pj_np64 4 (show pj_gs 4 L 64 117 [pj_vU, pj_vU, pj_vI x2, pj_vU, pj_vL x4, pj_vU, pj_vL x6, pj_vU, pj_vU, pj_vL x9, pj_vU] [pj_vL s0] M = some ([], 123, [pj_vU, pj_vU, pj_vI x2, pj_vU, pj_vL x4, pj_vU, pj_vL x6, pj_vU, pj_vL s0, pj_vU, pj_vU], [pj_vI (pj_lcmp s0 1)], M) from rfl) trivial ?_
  exact pj_G_if0 (t := 128) rfl rfl (fun z => h1 (pj_ct_ge (pj_nrm_op _) rfl z)) (fun z => pj_G_loc (pj_lle_e (pj_lle_e (pj_lle_u rfl (pj_lle_e (pj_lle_e (pj_lle_e (pj_lle_e (pj_lle_e (pj_lle_e (pj_lle_e (pj_lle_e pj_lle_nil))))))))))) (h2 (pj_cf_ge (pj_nrm_op _) rfl z)))
theorem pj_C64_126 {L d : Nat} {Q : Option pj_V → pj_M → Prop} {M : pj_M} {x4 x6 x8 : Int}  (h : Q (some (pj_vL 0)) M) : pj_G L d 64 126 [pj_vU, pj_vU, pj_vU, pj_vU, pj_vL x4, pj_vU, pj_vL x6, pj_vU, pj_vL x8, pj_vU, pj_vU] [] M Q := by
  refine pj_G_s pj_np64 1 (show pj_gs 1 L 64 126 [pj_vU, pj_vU, pj_vU, pj_vU, pj_vL x4, pj_vU, pj_vL x6, pj_vU, pj_vL x8, pj_vU, pj_vU] [] M = some ([], 127, [pj_vU, pj_vU, pj_vU, pj_vU, pj_vL x4, pj_vU, pj_vL x6, pj_vU, pj_vL x8, pj_vU, pj_vU], [pj_vL 0], M) from rfl) trivial ?_
  exact pj_G_r rfl rfl rfl h
theorem pj_C64_128 {L d : Nat} {Q : Option pj_V → pj_M → Prop} {M : pj_M} {x2 x4 x6 x8 : Int} (r0 : -2147483648 ≤ x2 ∧ x2 < 2147483648) (h1 : x2 = 0 → pj_G L d 64 137 [pj_vU, pj_vU, pj_vU, pj_vU, pj_vL x4, pj_vU, pj_vL x6, pj_vU, pj_vL x8, pj_vU, pj_vU] [] M Q) (h2 : x2 ≠ 0 → pj_G L d 64 132 [pj_vU, pj_vU, pj_vU, pj_vU, pj_vL x4, pj_vU, pj_vL x6, pj_vU, pj_vL x8, pj_vU, pj_vU] [] M Q) : pj_G L d 64 128 [pj_vU, pj_vU, pj_vI x2, pj_vU, pj_vL x4, pj_vU, pj_vL x6, pj_vU, pj_vL x8, pj_vU, pj_vU] [] M Q := by
  refine pj_G_s pj_np64 1 (show pj_gs 1 L 64 128 [pj_vU, pj_vU, pj_vI x2, pj_vU, pj_vL x4, pj_vU, pj_vL x6, pj_vU, pj_vL x8, pj_vU, pj_vU] [] M = some ([], 129, [pj_vU, pj_vU, pj_vI x2, pj_vU, pj_vL x4, pj_vU, pj_vL x6, pj_vU, pj_vL x8, pj_vU, pj_vU], [pj_vI x2], M) from rfl) trivial ?_
  exact pj_G_if0 (t := 137) rfl rfl (fun z => pj_G_loc (pj_lle_e (pj_lle_e (pj_lle_u rfl (pj_lle_e (pj_lle_e (pj_lle_e (pj_lle_e (pj_lle_e (pj_lle_e (pj_lle_e (pj_lle_e pj_lle_nil))))))))))) (h1 (pj_ct_eq (pj_nrm_id r0.1 r0.2) rfl z))) (fun z => pj_G_loc (pj_lle_e (pj_lle_e (pj_lle_u rfl (pj_lle_e (pj_lle_e (pj_lle_e (pj_lle_e (pj_lle_e (pj_lle_e (pj_lle_e (pj_lle_e pj_lle_nil))))))))))) (h2 (pj_cf_eq (pj_nrm_id r0.1 r0.2) rfl z)))
theorem pj_C64_132 {L d : Nat} {Q : Option pj_V → pj_M → Prop} {M : pj_M} {x4 x6 x8 : Int}  (h : pj_G L d 64 139 [pj_vU, pj_vU, pj_vU, pj_vU, pj_vL x4, pj_vU, pj_vL x6, pj_vU, pj_vL x8, pj_vU, pj_vU] [pj_vL x6] M Q) : pj_G L d 64 132 [pj_vU, pj_vU, pj_vU, pj_vU, pj_vL x4, pj_vU, pj_vL x6, pj_vU, pj_vL x8, pj_vU, pj_vU] [] M Q := by
  refine pj_G_s pj_np64 2 (show pj_gs 2 L 64 132 [pj_vU, pj_vU, pj_vU, pj_vU, pj_vL x4, pj_vU, pj_vL x6, pj_vU, pj_vL x8, pj_vU, pj_vU] [] M = some ([], 139, [pj_vU, pj_vU, pj_vU, pj_vU, pj_vL x4, pj_vU, pj_vL x6, pj_vU, pj_vL x8, pj_vU, pj_vU], [pj_vL x6], M) from rfl) trivial ?_
  exact h
theorem pj_C64_139 {L d : Nat} {Q : Option pj_V → pj_M → Prop} {M : pj_M} {x4 x6 x8 s0 : Int} (z1 : pj_nrl x8 ≠ 0) (h : Q (some (pj_vL (pj_ldiv s0 x8))) M) : pj_G L d 64 139 [pj_vU, pj_vU, pj_vU, pj_vU, pj_vL x4, pj_vU, pj_vL x6, pj_vU, pj_vL x8, pj_vU, pj_vU] [pj_vL s0] M Q := by
  refine pj_G_s pj_np64 2 (show pj_gs 2 L 64 139 [pj_vU, pj_vU, pj_vU, pj_vU, pj_vL x4, pj_vU, pj_vL x6, pj_vU, pj_vL x8, pj_vU, pj_vU] [pj_vL s0] M = some ([pj_nrl x8 ≠ 0], 142, [pj_vU, pj_vU, pj_vU, pj_vU, pj_vL x4, pj_vU, pj_vL x6, pj_vU, pj_vL x8, pj_vU, pj_vU], [pj_vL (pj_ldiv s0 x8)], M) from rfl) ⟨by omega, trivial⟩ ?_
  exact pj_G_r rfl rfl rfl h
theorem pj_C64_137 {L d : Nat} {Q : Option pj_V → pj_M → Prop} {M : pj_M} {x4 x6 x8 : Int}  (h : pj_G L d 64 139 [pj_vU, pj_vU, pj_vU, pj_vU, pj_vL x4, pj_vU, pj_vL x6, pj_vU, pj_vL x8, pj_vU, pj_vU] [pj_vL x4] M Q) : pj_G L d 64 137 [pj_vU, pj_vU, pj_vU, pj_vU, pj_vL x4, pj_vU, pj_vL x6, pj_vU, pj_vL x8, pj_vU, pj_vU] [] M Q := by
  refine pj_G_s pj_np64 1 (show pj_gs 1 L 64 137 [pj_vU, pj_vU, pj_vU, pj_vU, pj_vL x4, pj_vU, pj_vL x6, pj_vU, pj_vL x8, pj_vU, pj_vU] [] M = some ([], 139, [pj_vU, pj_vU, pj_vU, pj_vU, pj_vL x4, pj_vU, pj_vL x6, pj_vU, pj_vL x8, pj_vU, pj_vU], [pj_vL x4], M) from rfl) trivial ?_
  exact h
theorem pj_C64_110 {L d : Nat} {Q : Option pj_V → pj_M → Prop} {M : pj_M} {x2 x4 x6 : Int}  (h : pj_G L d 83 0 [pj_vL x6, pj_vU, pj_vL x4, pj_vU, pj_vU, pj_vU, pj_vU, pj_vU, pj_vU, pj_vU, pj_vU] [] M (fun r M1 => pj_G L (d + 1) 64 117 [pj_vU, pj_vU, pj_vI x2, pj_vU, pj_vL x4, pj_vU, pj_vL x6, pj_vU, pj_vU, pj_vU, pj_vU] (r.toList ++ []) M1 Q)) : pj_G L (d + 1) 64 110 [pj_vU, pj_vU, pj_vI x2, pj_vU, pj_vL x4, pj_vU, pj_vL x6, pj_vU, pj_vU, pj_vU, pj_vU] [] M Q := by
  refine pj_G_s (d := d + 1) pj_np64 2 (show pj_gs 2 L 64 110 [pj_vU, pj_vU, pj_vI x2, pj_vU, pj_vL x4, pj_vU, pj_vL x6, pj_vU, pj_vU, pj_vU, pj_vU] [] M = some ([], 114, [pj_vU, pj_vU, pj_vI x2, pj_vU, pj_vL x4, pj_vU, pj_vL x6, pj_vU, pj_vU, pj_vU, pj_vU], [pj_vL x4, pj_vL x6], M) from rfl) trivial ?_
  exact pj_G_k (j := 83) (vs := [pj_vL x6, pj_vL x4]) (st := []) rfl rfl rfl rfl rfl (Nat.le_of_ble_eq_true rfl) pj_nc83 h
theorem pj_C64_117v1 {L d : Nat} {Q : Option pj_V → pj_M → Prop} {M : pj_M} {x2 x4 x6 s0 : Int}  (h1 : 0 ≤ pj_lcmp s0 1 → pj_G L d 64 128 [pj_vU, pj_vU, pj_vI x2, pj_vU, pj_vL x4, pj_vU, pj_vL x6, pj_vU, pj_vL s0, pj_vU, pj_vU] [] M Q) (h2 : pj_lcmp s0 1 < 0 → pj_G L d 64 126 [pj_vU, pj_vU, pj_vU, pj_vU, pj_vL x4, pj_vU, pj_vL x6, pj_vU, pj_vL s0, pj_vU, pj_vU] [] M Q) : pj_G L d 64 117 [pj_vU, pj_vU, pj_vI x2, pj_vU, pj_vL x4, pj_vU, pj_vL x6, pj_vU, pj_vU, pj_vU, pj_vU] [pj_vL s0] M Q := by
  refine pj_G_s pj_np64 4 (show pj_gs 4 L 64 117 [pj_vU, pj_vU, pj_vI x2, pj_vU, pj_vL x4, pj_vU, pj_vL x6, pj_vU, pj_vU, pj_vU, pj_vU] [pj_vL s0] M = some ([], 123, [pj_vU, pj_vU, pj_vI x2, pj_vU, pj_vL x4, pj_vU, pj_vL x6, pj_vU, pj_vL s0, pj_vU, pj_vU], [pj_vI (pj_lcmp s0 1)], M) from rfl) trivial ?_
  exact pj_G_if0 (t := 128) rfl rfl (fun z => h1 (pj_ct_ge (pj_nrm_op _) rfl z)) (fun z => pj_G_loc (pj_lle_e (pj_lle_e (pj_lle_u rfl (pj_lle_e (pj_lle_e (pj_lle_e (pj_lle_e (pj_lle_e (pj_lle_e (pj_lle_e (pj_lle_e pj_lle_nil))))))))))) (h2 (pj_cf_ge (pj_nrm_op _) rfl z)))
theorem pj_C65_0 {L d : Nat} {Q : Option pj_V → pj_M → Prop} {M : pj_M}  (h : pj_G L d 7 0 [pj_vR 22, pj_vU, pj_vU, pj_vU, pj_vU, pj_vU] [] M (fun r M1 => pj_G L (d + 1) 65 7 [pj_vU] (r.toList ++ []) M1 Q)) : pj_G L (d + 1) 65 0 [pj_vR 1] [] M Q := by
  refine pj_G_s (d := d + 1) pj_np65 2 (show pj_gs 2 L 65 0 [pj_vR 1] [] M = some ([], 4, [pj_vR 1], [pj_vR 22], M) from rfl) trivial ?_
  exact pj_G_k (j := 7) (vs := [pj_vR 22]) (st := []) rfl rfl rfl rfl rfl (Nat.le_of_ble_eq_true rfl) pj_nc7 (pj_G.mono h (fun _ _ hh => pj_G_loc (pj_lle_u rfl pj_lle_nil) hh))
theorem pj_C65_7 {L d : Nat} {Q : Option pj_V → pj_M → Prop} {M : pj_M} {s0 : Int}  (h : Q (some (pj_vI s0)) M) : pj_G L d 65 7 [pj_vU] [pj_vI s0] M Q := by
  exact pj_G_r rfl rfl rfl h
theorem pj_C66_0 {L d : Nat} {Q : Option pj_V → pj_M → Prop} {M : pj_M} {x1 : Int} (r0 : -2147483648 ≤ x1 ∧ x1 < 2147483648) (h1 : x1 < 0 → pj_G L d 66 15 [pj_vR 1, pj_vU] [] M Q) (h2 : 0 ≤ x1 → pj_G L d 66 4 [pj_vR 1, pj_vI x1] [] M Q) : pj_G L d 66 0 [pj_vR 1, pj_vI x1] [] M Q := by
  refine pj_G_s pj_np66 1 (show pj_gs 1 L 66 0 [pj_vR 1, pj_vI x1] [] M = some ([], 1, [pj_vR 1, pj_vI x1], [pj_vI x1], M) from rfl) trivial ?_
  exact pj_G_if0 (t := 15) rfl rfl (fun z => pj_G_loc (pj_lle_e (pj_lle_u rfl pj_lle_nil)) (h1 (pj_ct_lt (pj_nrm_id r0.1 r0.2) rfl z))) (fun z => h2 (pj_cf_lt (pj_nrm_id r0.1 r0.2) rfl z))
theorem pj_C66_4 {L d : Nat} {Q : Option pj_V → pj_M → Prop} {M : pj_M} {x1 : Int}  (h : pj_G L d 7 0 [pj_vR 22, pj_vU, pj_vU, pj_vU, pj_vU, pj_vU] [] M (fun r M1 => pj_G L (d + 1) 66 12 [pj_vR 1, pj_vI x1] (r.toList ++ [pj_vI x1]) M1 Q)) : pj_G L (d + 1) 66 4 [pj_vR 1, pj_vI x1] [] M Q := by
  refine pj_G_s (d := d + 1) pj_np66 3 (show pj_gs 3 L 66 4 [pj_vR 1, pj_vI x1] [] M = some ([], 9, [pj_vR 1, pj_vI x1], [pj_vR 22, pj_vI x1], M) from rfl) trivial ?_
  exact pj_G_k (j := 7) (vs := [pj_vR 22]) (st := [pj_vI x1]) rfl rfl rfl rfl rfl (Nat.le_of_ble_eq_true rfl) pj_nc7 h
theorem pj_C66_12 {L d : Nat} {Q : Option pj_V → pj_M → Prop} {M : pj_M} {x1 s0 s1 : Int} (r0 : -2147483648 ≤ s0 ∧ s0 < 2147483648) (r1 : -2147483648 ≤ s1 ∧ s1 < 2147483648) (h1 : s0 < s1 → pj_G L d 66 22 [pj_vR 1, pj_vI x1] [] M Q) (h2 : s1 ≤ s0 → pj_G L d 66 15 [pj_vR 1, pj_vU] [] M Q) : pj_G L d 66 12 [pj_vR 1, pj_vI x1] [pj_vI s1, pj_vI s0] M Q := by
  exact pj_G_if (t := 22) rfl rfl (fun z => h1 (pj_ct_lt (pj_nrm_id r0.1 r0.2) (pj_nrm_id r1.1 r1.2) z)) (fun z => pj_G_loc (pj_lle_e (pj_lle_u rfl pj_lle_nil)) (h2 (pj_cf_lt (pj_nrm_id r0.1 r0.2) (pj_nrm_id r1.1 r1.2) z)))
theorem pj_C66_15 {L d : Nat} {Q : Option pj_V → pj_M → Prop} {M : pj_M}  (h : pj_G L d 77 0 [pj_vR 1, pj_vI ((-3))] [] M (fun r M1 => pj_G L (d + 1) 66 21 [pj_vU, pj_vU] (r.toList ++ []) M1 Q)) : pj_G L (d + 1) 66 15 [pj_vR 1, pj_vU] [] M Q := by
  refine pj_G_s (d := d + 1) pj_np66 2 (show pj_gs 2 L 66 15 [pj_vR 1, pj_vU] [] M = some ([], 18, [pj_vR 1, pj_vU], [pj_vI ((-3)), pj_vR 1], M) from rfl) trivial ?_
  exact pj_G_k (j := 77) (vs := [pj_vR 1, pj_vI ((-3))]) (st := []) rfl rfl rfl rfl rfl (Nat.le_of_ble_eq_true rfl) pj_nc77 (pj_G.mono h (fun _ _ hh => pj_G_loc (pj_lle_u rfl (pj_lle_e pj_lle_nil)) hh))
theorem pj_C66_21 {L d : Nat} {Q : Option pj_V → pj_M → Prop} {M : pj_M} {s0 : Int}  (h : Q (some (pj_vI s0)) M) : pj_G L d 66 21 [pj_vU, pj_vU] [pj_vI s0] M Q := by
  exact pj_G_r rfl rfl rfl h
theorem pj_C66_22 {L d : Nat} {Q : Option pj_V → pj_M → Prop} {M : pj_M} {x1 : Int} (j0 : Nat) (ej0 : x1 = (j0 : Int)) (bj0 : j0 < 35) (h : Q (some (pj_vI (M 24 j0))) M) : pj_G L d 66 22 [pj_vR 1, pj_vI x1] [] M Q := by
  have nj0 : pj_nrm x1 = (j0 : Int) := pj_nk ej0 (by omega)
  refine pj_G_s pj_np66 5 (show pj_gs 5 L 66 22 [pj_vR 1, pj_vI x1] [] M = some ([0 ≤ pj_nrm x1 ∧ pj_nrm x1 < (35 : Int)], 31, [pj_vR 1, pj_vI x1], [pj_vI (M 24 (pj_nrm x1).toNat)], M) from rfl) ⟨by omega, trivial⟩ ?_
  simp only [nj0, Int.toNat_natCast]
  exact pj_G_r rfl rfl rfl h
theorem pj_C67_0 {L d : Nat} {Q : Option pj_V → pj_M → Prop} {M : pj_M} {x1 : Int}  (h : pj_G L d 81 0 [pj_vR 1, pj_vI x1] [] M (fun r M1 => pj_G L (d + 1) 67 5 [pj_vR 1, pj_vI x1, pj_vU] (r.toList ++ []) M1 Q)) : pj_G L (d + 1) 67 0 [pj_vR 1, pj_vI x1, pj_vU] [] M Q := by
  refine pj_G_s (d := d + 1) pj_np67 2 (show pj_gs 2 L 67 0 [pj_vR 1, pj_vI x1, pj_vU] [] M = some ([], 2, [pj_vR 1, pj_vI x1, pj_vU], [pj_vI x1, pj_vR 1], M) from rfl) trivial ?_
  exact pj_G_k (j := 81) (vs := [pj_vR 1, pj_vI x1]) (st := []) rfl rfl rfl rfl rfl (Nat.le_of_ble_eq_true rfl) pj_nc81 h
theorem pj_C67_5 {L d : Nat} {Q : Option pj_V → pj_M → Prop} {M : pj_M} {x1 s0 : Int} (r0 : -2147483648 ≤ s0 ∧ s0 < 2147483648) (h1 : s0 ≠ 0 → pj_G L d 67 15 [pj_vR 1, pj_vI x1, pj_vU] [] M Q) (h2 : s0 = 0 → pj_G L d 67 8 [pj_vR 1, pj_vU, pj_vU] [] M Q) : pj_G L d 67 5 [pj_vR 1, pj_vI x1, pj_vU] [pj_vI s0] M Q := by
  exact pj_G_if0 (t := 15) rfl rfl (fun z => h1 (pj_ct_ne (pj_nrm_id r0.1 r0.2) rfl z)) (fun z => pj_G_loc (pj_lle_e (pj_lle_u rfl (pj_lle_e pj_lle_nil))) (h2 (pj_cf_ne (pj_nrm_id r0.1 r0.2) rfl z)))
theorem pj_C67_8 {L d : Nat} {Q : Option pj_V → pj_M → Prop} {M : pj_M}  (h : pj_G L d 77 0 [pj_vR 1, pj_vI ((-3))] [] M (fun r M1 => pj_G L (d + 1) 67 14 [pj_vU, pj_vU, pj_vU] (r.toList ++ []) M1 Q)) : pj_G L (d + 1) 67 8 [pj_vR 1, pj_vU, pj_vU] [] M Q := by
  refine pj_G_s (d := d + 1) pj_np67 2 (show pj_gs 2 L 67 8 [pj_vR 1, pj_vU, pj_vU] [] M = some ([], 11, [pj_vR 1, pj_vU, pj_vU], [pj_vI ((-3)), pj_vR 1], M) from rfl) trivial ?_
  exact pj_G_k (j := 77) (vs := [pj_vR 1, pj_vI ((-3))]) (st := []) rfl rfl rfl rfl rfl (Nat.le_of_ble_eq_true rfl) pj_nc77 (pj_G.mono h (fun _ _ hh => pj_G_loc (pj_lle_u rfl (pj_lle_e (pj_lle_e pj_lle_nil))) hh))
theorem pj_C67_14 {L d : Nat} {Q : Option pj_V → pj_M → Prop} {M : pj_M} {s0 : Int}  (h : Q (some (pj_vI s0)) M) : pj_G L d 67 14 [pj_vU, pj_vU, pj_vU] [pj_vI s0] M Q := by
  exact pj_G_r rfl rfl rfl h
theorem pj_C67_15 {L d : Nat} {Q : Option pj_V → pj_M → Prop} {M : pj_M} {x1 : Int}  (h1 : pj_and x1 (M 7 13) = 0 → pj_G L d 67 34 [pj_vR 1, pj_vI x1, pj_vU] [] M Q) (h2 : pj_and x1 (M 7 13) ≠ 0 → pj_G L d 67 27 [pj_vR 1, pj_vU, pj_vU] [] M Q) : pj_G L d 67 15 [pj_vR 1, pj_vI x1, pj_vU] [] M Q := by
  refine pj_G_s pj_np67 5 (show pj_gs 5 L 67 15 [pj_vR 1, pj_vI x1, pj_vU] [] M = some ([], 24, [pj_vR 1, pj_vI x1, pj_vU], [pj_vI (pj_and x1 (M 7 13))], M) from rfl) trivial ?_
  exact pj_G_if0 (t := 34) rfl rfl (fun z => h1 (pj_ct_eq (pj_nrm_op _) rfl z)) (fun z => pj_G_loc (pj_lle_e (pj_lle_u rfl (pj_lle_e pj_lle_nil))) (h2 (pj_cf_eq (pj_nrm_op _) rfl z)))
theorem pj_C67_27 {L d : Nat} {Q : Option pj_V → pj_M → Prop} {M : pj_M}  (h : pj_G L d 77 0 [pj_vR 1, pj_vI ((-7))] [] M (fun r M1 => pj_G L (d + 1) 67 33 [pj_vU, pj_vU, pj_vU] (r.toList ++ []) M1 Q)) : pj_G L (d + 1) 67 27 [pj_vR 1, pj_vU, pj_vU] [] M Q := by
  refine pj_G_s (d := d + 1) pj_np67 2 (show pj_gs 2 L 67 27 [pj_vR 1, pj_vU, pj_vU] [] M = some ([], 30, [pj_vR 1, pj_vU, pj_vU], [pj_vI ((-7)), pj_vR 1], M) from rfl) trivial ?_
  exact pj_G_k (j := 77) (vs := [pj_vR 1, pj_vI ((-7))]) (st := []) rfl rfl rfl rfl rfl (Nat.le_of_ble_eq_true rfl) pj_nc77 (pj_G.mono h (fun _ _ hh => pj_G_loc (pj_lle_u rfl (pj_lle_e (pj_lle_e pj_lle_nil))) hh))
theorem pj_C67_33 {L d : Nat} {Q : Option pj_V → pj_M → Prop} {M : pj_M} {s0 : Int}  (h : Q (some (pj_vI s0)) M) : pj_G L d 67 33 [pj_vU, pj_vU, pj_vU] [pj_vI s0] M Q := by
  exact pj_G_r rfl rfl rfl h
theorem pj_C67_34 {L d : Nat} {Q : Option pj_V → pj_M → Prop} {M : pj_M} {x1 : Int}  (h : pj_G L d 5 0 [pj_vR 22, pj_vI x1] [] M (fun r M1 => pj_G L (d + 1) 67 42 [pj_vR 1, pj_vI x1, pj_vU] (r.toList ++ []) M1 Q)) : pj_G L (d + 1) 67 34 [pj_vR 1, pj_vI x1, pj_vU] [] M Q := by
  refine pj_G_s (d := d + 1) pj_np67 3 (show pj_gs 3 L 67 34 [pj_vR 1, pj_vI x1, pj_vU] [] M = some ([], 39, [pj_vR 1, pj_vI x1, pj_vU], [pj_vI x1, pj_vR 22], M) from rfl) trivial ?_
  exact pj_G_k (j := 5) (vs := [pj_vR 22, pj_vI x1]) (st := []) rfl rfl rfl rfl rfl (Nat.le_of_ble_eq_true rfl) pj_nc5 h
theorem pj_C67_42 {L d : Nat} {Q : Option pj_V → pj_M → Prop} {M : pj_M} {x1 s0 : Int} (r0 : -2147483648 ≤ s0 ∧ s0 < 2147483648) (h1 : s0 = 0 → pj_G L d 67 47 [pj_vR 1, pj_vI x1, pj_vU] [] M Q) (h2 : s0 ≠ 0 → pj_G L d 67 45 [pj_vU, pj_vU, pj_vU] [] M Q) : pj_G L d 67 42 [pj_vR 1, pj_vI x1, pj_vU] [pj_vI s0] M Q := by
  exact pj_G_if0 (t := 47) rfl rfl (fun z => h1 (pj_ct_eq (pj_nrm_id r0.1 r0.2) rfl z)) (fun z => pj_G_loc (pj_lle_u rfl (pj_lle_u rfl (pj_lle_e pj_lle_nil))) (h2 (pj_cf_eq (pj_nrm_id r0.1 r0.2) rfl z)))
theorem pj_C67_45 {L d : Nat} {Q : Option pj_V → pj_M → Prop} {M : pj_M}  (h : Q (some (pj_vI 0)) M) : pj_G L d 67 45 [pj_vU, pj_vU, pj_vU] [] M Q := by
  refine pj_G_s pj_np67 1 (show pj_gs 1 L 67 45 [pj_vU, pj_vU, pj_vU] [] M = some ([], 46, [pj_vU, pj_vU, pj_vU], [pj_vI 0], M) from rfl) trivial ?_
  exact pj_G_r rfl rfl rfl h
theorem pj_C67_47 {L d : Nat} {Q : Option pj_V → pj_M → Prop} {M : pj_M} {x1 : Int}  (h : pj_G L d 67 49 [pj_vR 1, pj_vI x1, pj_vI 0] [] M Q) : pj_G L d 67 47 [pj_vR 1, pj_vI x1, pj_vU] [] M Q := by
  refine pj_G_s pj_np67 2 (show pj_gs 2 L 67 47 [pj_vR 1, pj_vI x1, pj_vU] [] M = some ([], 49, [pj_vR 1, pj_vI x1, pj_vI 0], [], M) from rfl) trivial ?_
  exact h
theorem pj_C67_49 {L d : Nat} {Q : Option pj_V → pj_M → Prop} {M : pj_M} {x1 x2 : Int} (r0 : -2147483648 ≤ x2 ∧ x2 < 2147483648) (r1 : -2147483648 ≤ M 7 0 ∧ M 7 0 < 2147483648) (h1 : M 7 0 ≤ x2 → pj_G L d 67 93 [pj_vU, pj_vU, pj_vU] [] M Q) (h2 : x2 < M 7 0 → pj_G L d 67 60 [pj_vR 1, pj_vI x1, pj_vI x2] [] M Q) : pj_G L d 67 49 [pj_vR 1, pj_vI x1, pj_vI x2] [] M Q := by
  refine pj_G_s pj_np67 4 (show pj_gs 4 L 67 49 [pj_vR 1, pj_vI x1, pj_vI x2] [] M = some ([], 57, [pj_vR 1, pj_vI x1, pj_vI x2], [pj_vI (M 7 0), pj_vI x2], M) from rfl) trivial ?_
  exact pj_G_if (t := 93) rfl rfl (fun z => pj_G_loc (pj_lle_u rfl (pj_lle_u rfl (pj_lle_u rfl pj_lle_nil))) (h1 (pj_ct_ge (pj_nrm_id r0.1 r0.2) (pj_nrm_id r1.1 r1.2) z))) (fun z => h2 (pj_cf_ge (pj_nrm_id r0.1 r0.2) (pj_nrm_id r1.1 r1.2) z))
theorem pj_C67_60 {L d : Nat} {Q : Option pj_V → pj_M → Prop} {M : pj_M} {x1 x2 : Int} (j0 : Nat) (ej0 : x2 = (j0 : Int)) (bj0 : j0 < 32) (h1 : pj_bt x1 j0 = false → pj_G L d 67 87 [pj_vR 1, pj_vI x1, pj_vI x2] [] M Q) (h2 : pj_bt x1 j0 = true → pj_G L d 67 68 [pj_vR 1, pj_vI x1, pj_vI x2] [] M Q) : pj_G L d 67 60 [pj_vR 1, pj_vI x1, pj_vI x2] [] M Q := by
  have nj0 : pj_nrm x2 = (j0 : Int) := pj_nk ej0 (by omega)
  refine pj_G_s pj_np67 5 (show pj_gs 5 L 67 60 [pj_vR 1, pj_vI x1, pj_vI x2] [] M = some ([], 65, [pj_vR 1, pj_vI x1, pj_vI x2], [pj_vI (pj_and (pj_shr x1 x2) 1)], M) from rfl) trivial ?_
  exact pj_G_if0 (t := 87) rfl rfl (fun z => h1 (pj_ieq0 (pj_ct_eq (pj_tst ej0 (by omega)) rfl z))) (fun z => h2 (pj_ine0 (pj_cf_eq (pj_tst ej0 (by omega)) rfl z)))
theorem pj_C67_68 {L d : Nat} {Q : Option pj_V → pj_M → Prop} {M : pj_M} {x1 x2 : Int}  (h : pj_G L d 5 0 [pj_vR 22, pj_vI (pj_and x1 (pj_xor (pj_shl 1 x2) ((-1))))] [] M (fun r M1 => pj_G L (d + 1) 67 82 [pj_vR 1, pj_vI x1, pj_vI x2] (r.toList ++ []) M1 Q)) : pj_G L (d + 1) 67 68 [pj_vR 1, pj_vI x1, pj_vI x2] [] M Q := by
  refine pj_G_s (d := d + 1) pj_np67 9 (show pj_gs 9 L 67 68 [pj_vR 1, pj_vI x1, pj_vI x2] [] M = some ([], 79, [pj_vR 1, pj_vI x1, pj_vI x2], [pj_vI (pj_and x1 (pj_xor (pj_shl 1 x2) ((-1)))), pj_vR 22], M) from rfl) trivial ?_
  exact pj_G_k (j := 5) (vs := [pj_vR 22, pj_vI (pj_and x1 (pj_xor (pj_shl 1 x2) ((-1))))]) (st := []) rfl rfl rfl rfl rfl (Nat.le_of_ble_eq_true rfl) pj_nc5 h
theorem pj_C67_82 {L d : Nat} {Q : Option pj_V → pj_M → Prop} {M : pj_M} {x1 x2 s0 : Int} (r0 : -2147483648 ≤ s0 ∧ s0 < 2147483648) (h1 : s0 ≠ 0 → pj_G L d 67 87 [pj_vR 1, pj_vI x1, pj_vI x2] [] M Q) (h2 : s0 = 0 → pj_G L d 67 85 [pj_vU, pj_vU, pj_vU] [] M Q) : pj_G L d 67 82 [pj_vR 1, pj_vI x1, pj_vI x2] [pj_vI s0] M Q := by
  exact pj_G_if0 (t := 87) rfl rfl (fun z => h1 (pj_ct_ne (pj_nrm_id r0.1 r0.2) rfl z)) (fun z => pj_G_loc (pj_lle_u rfl (pj_lle_u rfl (pj_lle_u rfl pj_lle_nil))) (h2 (pj_cf_ne (pj_nrm_id r0.1 r0.2) rfl z)))
theorem pj_C67_85 {L d : Nat} {Q : Option pj_V → pj_M → Prop} {M : pj_M}  (h : Q (some (pj_vI 1)) M) : pj_G L d 67 85 [pj_vU, pj_vU, pj_vU] [] M Q := by
  refine pj_G_s pj_np67 1 (show pj_gs 1 L 67 85 [pj_vU, pj_vU, pj_vU] [] M = some ([], 86, [pj_vU, pj_vU, pj_vU], [pj_vI 1], M) from rfl) trivial ?_
  exact pj_G_r rfl rfl rfl h
theorem pj_C67_87 {L d : Nat} {Q : Option pj_V → pj_M → Prop} {M : pj_M} {x1 x2 : Int}  (h : pj_G L d 67 49 [pj_vR 1, pj_vI x1, pj_vI (x2 + 1)] [] M Q) : pj_G L d 67 87 [pj_vR 1, pj_vI x1, pj_vI x2] [] M Q := by
  refine pj_G_s pj_np67 2 (show pj_gs 2 L 67 87 [pj_vR 1, pj_vI x1, pj_vI x2] [] M = some ([], 49, [pj_vR 1, pj_vI x1, pj_vI (x2 + 1)], [], M) from rfl) trivial ?_
  exact h
theorem pj_C67_93 {L d : Nat} {Q : Option pj_V → pj_M → Prop} {M : pj_M}  (h : Q (some (pj_vI 2)) M) : pj_G L d 67 93 [pj_vU, pj_vU, pj_vU] [] M Q := by
  refine pj_G_s pj_np67 1 (show pj_gs 1 L 67 93 [pj_vU, pj_vU, pj_vU] [] M = some ([], 94, [pj_vU, pj_vU, pj_vU], [pj_vI 2], M) from rfl) trivial ?_
  exact pj_G_r rfl rfl rfl h
theorem pj_C68_0 {L d : Nat} {Q : Option pj_V → pj_M → Prop} {M : pj_M} {x1 x2 x3 : Int}  (h : pj_G L d 80 0 [pj_vR 1, pj_vI x1] [] M (fun r M1 => pj_G L (d + 1) 68 5 [pj_vR 1, pj_vI x1, pj_vI x2, pj_vI x3] (r.toList ++ []) M1 Q)) : pj_G L (d + 1) 68 0 [pj_vR 1, pj_vI x1, pj_vI x2, pj_vI x3] [] M Q := by
  refine pj_G_s (d := d + 1) pj_np68 2 (show pj_gs 2 L 68 0 [pj_vR 1, pj_vI x1, pj_vI x2, pj_vI x3] [] M = some ([], 2, [pj_vR 1, pj_vI x1, pj_vI x2, pj_vI x3], [pj_vI x1, pj_vR 1], M) from rfl) trivial ?_
  exact pj_G_k (j := 80) (vs := [pj_vR 1, pj_vI x1]) (st := []) rfl rfl rfl rfl rfl (Nat.le_of_ble_eq_true rfl) pj_nc80 h
theorem pj_C68_5 {L d : Nat} {Q : Option pj_V → pj_M → Prop} {M : pj_M} {x1 x2 x3 s0 : Int} (r0 : -2147483648 ≤ s0 ∧ s0 < 2147483648) (h1 : s0 = 0 → pj_G L d 68 31 [pj_vR 1, pj_vU, pj_vU, pj_vU] [] M Q) (h2 : s0 ≠ 0 → pj_G L d 68 8 [pj_vR 1, pj_vI x1, pj_vI x2, pj_vI x3] [] M Q) : pj_G L d 68 5 [pj_vR 1, pj_vI x1, pj_vI x2, pj_vI x3] [pj_vI s0] M Q := by
  exact pj_G_if0 (t := 31) rfl rfl (fun z => pj_G_loc (pj_lle_e (pj_lle_u rfl (pj_lle_u rfl (pj_lle_u rfl pj_lle_nil)))) (h1 (pj_ct_eq (pj_nrm_id r0.1 r0.2) rfl z))) (fun z => h2 (pj_cf_eq (pj_nrm_id r0.1 r0.2) rfl z))
theorem pj_C68_8 {L d : Nat} {Q : Option pj_V → pj_M → Prop} {M : pj_M} {x1 x2 x3 : Int}  (h : pj_G L d 78 0 [pj_vR 1, pj_vI x2] [] M (fun r M1 => pj_G L (d + 1) 68 13 [pj_vR 1, pj_vI x1, pj_vI x2, pj_vI x3] (r.toList ++ []) M1 Q)) : pj_G L (d + 1) 68 8 [pj_vR 1, pj_vI x1, pj_vI x2, pj_vI x3] [] M Q := by
  refine pj_G_s (d := d + 1) pj_np68 2 (show pj_gs 2 L 68 8 [pj_vR 1, pj_vI x1, pj_vI x2, pj_vI x3] [] M = some ([], 10, [pj_vR 1, pj_vI x1, pj_vI x2, pj_vI x3], [pj_vI x2, pj_vR 1], M) from rfl) trivial ?_
  exact pj_G_k (j := 78) (vs := [pj_vR 1, pj_vI x2]) (st := []) rfl rfl rfl rfl rfl (Nat.le_of_ble_eq_true rfl) pj_nc78 h
theorem pj_C68_13 {L d : Nat} {Q : Option pj_V → pj_M → Prop} {M : pj_M} {x1 x2 x3 s0 : Int} (r0 : -2147483648 ≤ s0 ∧ s0 < 2147483648) (h1 : s0 = 0 → pj_G L d 68 31 [pj_vR 1, pj_vU, pj_vU, pj_vU] [] M Q) (h2 : s0 ≠ 0 → pj_G L d 68 16 [pj_vR 1, pj_vI x1, pj_vI x2, pj_vI x3] [] M Q) : pj_G L d 68 13 [pj_vR 1, pj_vI x1, pj_vI x2, pj_vI x3] [pj_vI s0] M Q := by
  exact pj_G_if0 (t := 31) rfl rfl (fun z => pj_G_loc (pj_lle_e (pj_lle_u rfl (pj_lle_u rfl (pj_lle_u rfl pj_lle_nil)))) (h1 (pj_ct_eq (pj_nrm_id r0.1 r0.2) rfl z))) (fun z => h2 (pj_cf_eq (pj_nrm_id r0.1 r0.2) rfl z))
theorem pj_C68_16 {L d : Nat} {Q : Option pj_V → pj_M → Prop} {M : pj_M} {x1 x2 x3 : Int} (r0 : -2147483648 ≤ x3 ∧ x3 < 2147483648) (h1 : x3 < 0 → pj_G L d 68 31 [pj_vR 1, pj_vU, pj_vU, pj_vU] [] M Q) (h2 : 0 ≤ x3 → pj_G L d 68 20 [pj_vR 1, pj_vI x1, pj_vI x2, pj_vI x3] [] M Q) : pj_G L d 68 16 [pj_vR 1, pj_vI x1, pj_vI x2, pj_vI x3] [] M Q := by
  refine pj_G_s pj_np68 1 (show pj_gs 1 L 68 16 [pj_vR 1, pj_vI x1, pj_vI x2, pj_vI x3] [] M = some ([], 17, [pj_vR 1, pj_vI x1, pj_vI x2, pj_vI x3], [pj_vI x3], M) from rfl) trivial ?_
  exact pj_G_if0 (t := 31) rfl rfl (fun z => pj_G_loc (pj_lle_e (pj_lle_u rfl (pj_lle_u rfl (pj_lle_u rfl pj_lle_nil)))) (h1 (pj_ct_lt (pj_nrm_id r0.1 r0.2) rfl z))) (fun z => h2 (pj_cf_lt (pj_nrm_id r0.1 r0.2) rfl z))
theorem pj_C68_20 {L d : Nat} {Q : Option pj_V → pj_M → Prop} {M : pj_M} {x1 x2 x3 : Int}  (h : pj_G L d 6 0 [pj_vR 22, pj_vU, pj_vU, pj_vU, pj_vU, pj_vU] [] M (fun r M1 => pj_G L (d + 1) 68 28 [pj_vR 1, pj_vI x1, pj_vI x2, pj_vI x3] (r.toList ++ [pj_vI x3]) M1 Q)) : pj_G L (d + 1) 68 20 [pj_vR 1, pj_vI x1, pj_vI x2, pj_vI x3] [] M Q := by
  refine pj_G_s (d := d + 1) pj_np68 3 (show pj_gs 3 L 68 20 [pj_vR 1, pj_vI x1, pj_vI x2, pj_vI x3] [] M = some ([], 25, [pj_vR 1, pj_vI x1, pj_vI x2, pj_vI x3], [pj_vR 22, pj_vI x3], M) from rfl) trivial ?_
  exact pj_G_k (j := 6) (vs := [pj_vR 22]) (st := [pj_vI x3]) rfl rfl rfl rfl rfl (Nat.le_of_ble_eq_true rfl) pj_nc6 h
theorem pj_C68_28 {L d : Nat} {Q : Option pj_V → pj_M → Prop} {M : pj_M} {x1 x2 x3 s0 s1 : Int} (r0 : -2147483648 ≤ s0 ∧ s0 < 2147483648) (r1 : -2147483648 ≤ s1 ∧ s1 < 2147483648) (h1 : s0 < s1 → pj_G L d 68 38 [pj_vR 1, pj_vI x1, pj_vI x2, pj_vI x3] [] M Q) (h2 : s1 ≤ s0 → pj_G L d 68 31 [pj_vR 1, pj_vU, pj_vU, pj_vU] [] M Q) : pj_G L d 68 28 [pj_vR 1, pj_vI x1, pj_vI x2, pj_vI x3] [pj_vI s1, pj_vI s0] M Q := by
  exact pj_G_if (t := 38) rfl rfl (fun z => h1 (pj_ct_lt (pj_nrm_id r0.1 r0.2) (pj_nrm_id r1.1 r1.2) z)) (fun z => pj_G_loc (pj_lle_e (pj_lle_u rfl (pj_lle_u rfl (pj_lle_u rfl pj_lle_nil)))) (h2 (pj_cf_lt (pj_nrm_id r0.1 r0.2) (pj_nrm_id r1.1 r1.2) z)))
theorem pj_C68_31 {L d : Nat} {Q : Option pj_V → pj_M → Prop} {M : pj_M}  (h : pj_G L d 77 0 [pj_vR 1, pj_vI ((-3))] [] M (fun r M1 => pj_G L (d + 1) 68 37 [pj_vU, pj_vU, pj_vU, pj_vU] (r.toList ++ []) M1 Q)) : pj_G L (d + 1) 68 31 [pj_vR 1, pj_vU, pj_vU, pj_vU] [] M Q := by
  refine pj_G_s (d := d + 1) pj_np68 2 (show pj_gs 2 L 68 31 [pj_vR 1, pj_vU, pj_vU, pj_vU] [] M = some ([], 34, [pj_vR 1, pj_vU, pj_vU, pj_vU], [pj_vI ((-3)), pj_vR 1], M) from rfl) trivial ?_
  exact pj_G_k (j := 77) (vs := [pj_vR 1, pj_vI ((-3))]) (st := []) rfl rfl rfl rfl rfl (Nat.le_of_ble_eq_true rfl) pj_nc77 (pj_G.mono h (fun _ _ hh => pj_G_loc (pj_lle_u rfl (pj_lle_e (pj_lle_e (pj_lle_e pj_lle_nil)))) hh))
theorem pj_C68_37 {L d : Nat} {Q : Option pj_V → pj_M → Prop} {M : pj_M} {s0 : Int}  (h : Q (some (pj_vI s0)) M) : pj_G L d 68 37 [pj_vU, pj_vU, pj_vU, pj_vU] [pj_vI s0] M Q := by
  exact pj_G_r rfl rfl rfl h
theorem pj_C68_38 {L d : Nat} {Q : Option pj_V → pj_M → Prop} {M : pj_M} {x1 x2 x3 : Int}  (h : pj_G L d 9 0 [pj_vR 22, pj_vI x3, pj_vI (x3 + 1), pj_vU] [] M (fun r M1 => pj_G L (d + 1) 68 49 [pj_vR 1, pj_vI x1, pj_vI x2, pj_vI x3] (r.toList ++ []) M1 Q)) : pj_G L (d + 1) 68 38 [pj_vR 1, pj_vI x1, pj_vI x2, pj_vI x3] [] M Q := by
  refine pj_G_s (d := d + 1) pj_np68 6 (show pj_gs 6 L 68 38 [pj_vR 1, pj_vI x1, pj_vI x2, pj_vI x3] [] M = some ([], 46, [pj_vR 1, pj_vI x1, pj_vI x2, pj_vI x3], [pj_vI (x3 + 1), pj_vI x3, pj_vR 22], M) from rfl) trivial ?_
  exact pj_G_k (j := 9) (vs := [pj_vR 22, pj_vI x3, pj_vI (x3 + 1)]) (st := []) rfl rfl rfl rfl rfl (Nat.le_of_ble_eq_true rfl) pj_nc9 h
theorem pj_C68_49 {L d : Nat} {Q : Option pj_V → pj_M → Prop} {M : pj_M} {x1 x2 x3 : Int} (j0 : Nat) (ej0 : ((x3 * 42) + (x1 * 14)) + x2 = (j0 : Int)) (bj0 : j0 < 1470) (h : Q (some (pj_vI (M 25 j0))) M) : pj_G L d 68 49 [pj_vR 1, pj_vI x1, pj_vI x2, pj_vI x3] [] M Q := by
  have nj0 : pj_nrm (((x3 * 42) + (x1 * 14)) + x2) = (j0 : Int) := pj_nk ej0 (by omega)
  refine pj_G_s pj_np68 13 (show pj_gs 13 L 68 49 [pj_vR 1, pj_vI x1, pj_vI x2, pj_vI x3] [] M = some ([0 ≤ pj_nrm (((x3 * 42) + (x1 * 14)) + x2) ∧ pj_nrm (((x3 * 42) + (x1 * 14)) + x2) < (1470 : Int)], 68, [pj_vR 1, pj_vI x1, pj_vI x2, pj_vI x3], [pj_vI (M 25 (pj_nrm (((x3 * 42) + (x1 * 14)) + x2)).toNat)], M) from rfl) ⟨by omega, trivial⟩ ?_
  simp only [nj0, Int.toNat_natCast]
  exact pj_G_r rfl rfl rfl h
theorem pj_C69_0 {L d : Nat} {Q : Option pj_V → pj_M → Prop} {M : pj_M} {x1 x2 : Int}  (h : pj_G L d 80 0 [pj_vR 1, pj_vI x1] [] M (fun r M1 => pj_G L (d + 1) 69 5 [pj_vR 1, pj_vI x1, pj_vI x2] (r.toList ++ []) M1 Q)) : pj_G L (d + 1) 69 0 [pj_vR 1, pj_vI x1, pj_vI x2] [] M Q := by
  refine pj_G_s (d := d + 1) pj_np69 2 (show pj_gs 2 L 69 0 [pj_vR 1, pj_vI x1, pj_vI x2] [] M = some ([], 2, [pj_vR 1, pj_vI x1, pj_vI x2], [pj_vI x1, pj_vR 1], M) from rfl) trivial ?_
  exact pj_G_k (j := 80) (vs := [pj_vR 1, pj_vI x1]) (st := []) rfl rfl rfl rfl rfl (Nat.le_of_ble_eq_true rfl) pj_nc80 h
theorem pj_C69_5 {L d : Nat} {Q : Option pj_V → pj_M → Prop} {M : pj_M} {x1 x2 s0 : Int} (r0 : -2147483648 ≤ s0 ∧ s0 < 2147483648) (h1 : s0 = 0 → pj_G L d 69 16 [pj_vR 1, pj_vU, pj_vU] [] M Q) (h2 : s0 ≠ 0 → pj_G L d 69 8 [pj_vR 1, pj_vI x1, pj_vI x2] [] M Q) : pj_G L d 69 5 [pj_vR 1, pj_vI x1, pj_vI x2] [pj_vI s0] M Q := by
  exact pj_G_if0 (t := 16) rfl rfl (fun z => pj_G_loc (pj_lle_e (pj_lle_u rfl (pj_lle_u rfl pj_lle_nil))) (h1 (pj_ct_eq (pj_nrm_id r0.1 r0.2) rfl z))) (fun z => h2 (pj_cf_eq (pj_nrm_id r0.1 r0.2) rfl z))
theorem pj_C69_8 {L d : Nat} {Q : Option pj_V → pj_M → Prop} {M : pj_M} {x1 x2 : Int}  (h : pj_G L d 78 0 [pj_vR 1, pj_vI x2] [] M (fun r M1 => pj_G L (d + 1) 69 13 [pj_vR 1, pj_vI x1, pj_vI x2] (r.toList ++ []) M1 Q)) : pj_G L (d + 1) 69 8 [pj_vR 1, pj_vI x1, pj_vI x2] [] M Q := by
  refine pj_G_s (d := d + 1) pj_np69 2 (show pj_gs 2 L 69 8 [pj_vR 1, pj_vI x1, pj_vI x2] [] M = some ([], 10, [pj_vR 1, pj_vI x1, pj_vI x2], [pj_vI x2, pj_vR 1], M) from rfl) trivial ?_
  exact pj_G_k (j := 78) (vs := [pj_vR 1, pj_vI x2]) (st := []) rfl rfl rfl rfl rfl (Nat.le_of_ble_eq_true rfl) pj_nc78 h
