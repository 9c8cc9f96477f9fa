theorem pj_C98_25 {L d : Nat} {Q : Option pj_V → pj_M → Prop} {M : pj_M}  (h : pj_G L d 86 0 [pj_vR 38, pj_vI ((-5))] [] M (fun r M1 => pj_G L (d + 1) 98 31 [pj_vU, pj_vU, pj_vU, pj_vU] (r.toList ++ []) M1 Q)) : pj_G L (d + 1) 98 25 [pj_vR 38, pj_vU, pj_vU, pj_vU] [] M Q := by
  refine pj_G_s (d := d + 1) pj_np98 2 (show pj_gs 2 L 98 25 [pj_vR 38, pj_vU, pj_vU, pj_vU] [] M = some ([], 28, [pj_vR 38, pj_vU, pj_vU, pj_vU], [pj_vI ((-5)), pj_vR 38], M) from rfl) trivial ?_
  exact pj_G_k (j := 86) (vs := [pj_vR 38, pj_vI ((-5))]) (st := []) rfl rfl rfl rfl rfl (Nat.le_of_ble_eq_true rfl) pj_nc86 (pj_G.mono h (fun _ _ hh => pj_G_loc (pj_lle_u rfl (pj_lle_e (pj_lle_e (pj_lle_e pj_lle_nil)))) hh))
theorem pj_C98_31 {L d : Nat} {Q : Option pj_V → pj_M → Prop} {M : pj_M} {s0 : Int}  (h : Q (some (pj_vI s0)) M) : pj_G L d 98 31 [pj_vU, pj_vU, pj_vU, pj_vU] [pj_vI s0] M Q := by
  exact pj_G_r rfl rfl rfl h
theorem pj_C98_32 {L d : Nat} {Q : Option pj_V → pj_M → Prop} {M : pj_M} {x1 x2 : Int} (j0 : Nat) (ej0 : x1 = (j0 : Int)) (bj0 : j0 < 7) (r0 : -2147483648 ≤ M 52 j0 ∧ M 52 j0 < 2147483648) (h1 : M 52 j0 = 0 → pj_G L d 98 45 [pj_vR 38, pj_vI x1, pj_vI x2, pj_vU] [] M Q) (h2 : M 52 j0 ≠ 0 → pj_G L d 98 41 [pj_vR 38, pj_vI x1, pj_vI x2, pj_vU] [] M Q) : pj_G L d 98 32 [pj_vR 38, pj_vI x1, pj_vI x2, pj_vU] [] M Q := by
  have nj0 : pj_nrm x1 = (j0 : Int) := pj_nk ej0 (by omega)
  refine pj_G_s pj_np98 4 (show pj_gs 4 L 98 32 [pj_vR 38, pj_vI x1, pj_vI x2, pj_vU] [] M = some ([0 ≤ pj_nrm x1 ∧ pj_nrm x1 < (7 : Int)], 38, [pj_vR 38, pj_vI x1, pj_vI x2, pj_vU], [pj_vI (M 52 (pj_nrm x1).toNat)], M) from rfl) ⟨by omega, trivial⟩ ?_
  simp only [nj0, Int.toNat_natCast]
  exact pj_G_if0 (t := 45) rfl rfl (fun z => h1 (pj_ct_eq (pj_nrm_id r0.1 r0.2) rfl z)) (fun z => h2 (pj_cf_eq (pj_nrm_id r0.1 r0.2) rfl z))
theorem pj_C98_41 {L d : Nat} {Q : Option pj_V → pj_M → Prop} {M : pj_M} {x1 x2 : Int}  (h : pj_G L d 98 46 [pj_vR 38, pj_vI x1, pj_vI x2, pj_vU] [pj_vI 1] M Q) : pj_G L d 98 41 [pj_vR 38, pj_vI x1, pj_vI x2, pj_vU] [] M Q := by
  refine pj_G_s pj_np98 2 (show pj_gs 2 L 98 41 [pj_vR 38, pj_vI x1, pj_vI x2, pj_vU] [] M = some ([], 46, [pj_vR 38, pj_vI x1, pj_vI x2, pj_vU], [pj_vI 1], M) from rfl) trivial ?_
  exact h
theorem pj_C98_46 {L d : Nat} {Q : Option pj_V → pj_M → Prop} {M : pj_M} {x1 x2 s0 : Int} (j0 : Nat) (w1 : x2 = 0 ∨ x2 = 1) (ej0 : x1 = (j0 : Int)) (bj0 : j0 < 7) (h : Q (some (pj_vI s0)) (pj_up (pj_up M 52 j0 x2) 38 35 0)) : pj_G L d 98 46 [pj_vR 38, pj_vI x1, pj_vI x2, pj_vU] [pj_vI s0] M Q := by
  have nj0 : pj_nrm x1 = (j0 : Int) := pj_nk ej0 (by omega)
  refine pj_G_s pj_np98 10 (show pj_gs 10 L 98 46 [pj_vR 38, pj_vI x1, pj_vI x2, pj_vU] [pj_vI s0] M = some ([x2 = 0 ∨ x2 = 1, 0 ≤ pj_nrm x1 ∧ pj_nrm x1 < (7 : Int), (0 : Int) = 0 ∨ (0 : Int) = 1], 60, [pj_vR 38, pj_vI x1, pj_vI x2, pj_vI s0], [pj_vI s0], pj_up (pj_up M 52 (pj_nrm x1).toNat x2) 38 35 0) from rfl) ⟨by omega, by omega, by decide, trivial⟩ ?_
  simp only [nj0, Int.toNat_natCast]
  exact pj_G_r rfl rfl rfl h
theorem pj_C98_45 {L d : Nat} {Q : Option pj_V → pj_M → Prop} {M : pj_M} {x1 x2 : Int}  (h : pj_G L d 98 46 [pj_vR 38, pj_vI x1, pj_vI x2, pj_vU] [pj_vI 0] M Q) : pj_G L d 98 45 [pj_vR 38, pj_vI x1, pj_vI x2, pj_vU] [] M Q := by
  refine pj_G_s pj_np98 1 (show pj_gs 1 L 98 45 [pj_vR 38, pj_vI x1, pj_vI x2, pj_vU] [] M = some ([], 46, [pj_vR 38, pj_vI x1, pj_vI x2, pj_vU], [pj_vI 0], M) from rfl) trivial ?_
  exact h
theorem pj_C99_0 {L d : Nat} {Q : Option pj_V → pj_M → Prop} {M : pj_M} {x1 x2 : Int}  (h : pj_G L d 88 0 [pj_vR 38, pj_vI x1] [] M (fun r M1 => pj_G L (d + 1) 99 5 [pj_vR 38, pj_vI x1, pj_vI x2] (r.toList ++ []) M1 Q)) : pj_G L (d + 1) 99 0 [pj_vR 38, pj_vI x1, pj_vI x2] [] M Q := by
  refine pj_G_s (d := d + 1) pj_np99 2 (show pj_gs 2 L 99 0 [pj_vR 38, pj_vI x1, pj_vI x2] [] M = some ([], 2, [pj_vR 38, pj_vI x1, pj_vI x2], [pj_vI x1, pj_vR 38], M) from rfl) trivial ?_
  exact pj_G_k (j := 88) (vs := [pj_vR 38, pj_vI x1]) (st := []) rfl rfl rfl rfl rfl (Nat.le_of_ble_eq_true rfl) pj_nc88 h
theorem pj_C99_5 {L d : Nat} {Q : Option pj_V → pj_M → Prop} {M : pj_M} {x1 x2 s0 : Int} (r0 : -2147483648 ≤ s0 ∧ s0 < 2147483648) (h1 : s0 ≠ 0 → pj_G L d 99 15 [pj_vR 38, pj_vI x1, pj_vI x2] [] M Q) (h2 : s0 = 0 → pj_G L d 99 8 [pj_vR 38, pj_vU, pj_vU] [] M Q) : pj_G L d 99 5 [pj_vR 38, pj_vI x1, pj_vI x2] [pj_vI s0] M Q := by
  exact pj_G_if0 (t := 15) rfl rfl (fun z => h1 (pj_ct_ne (pj_nrm_id r0.1 r0.2) rfl z)) (fun z => pj_G_loc (pj_lle_e (pj_lle_u rfl (pj_lle_u rfl pj_lle_nil))) (h2 (pj_cf_ne (pj_nrm_id r0.1 r0.2) rfl z)))
theorem pj_C99_8 {L d : Nat} {Q : Option pj_V → pj_M → Prop} {M : pj_M}  (h : pj_G L d 86 0 [pj_vR 38, pj_vI ((-3))] [] M (fun r M1 => pj_G L (d + 1) 99 14 [pj_vU, pj_vU, pj_vU] (r.toList ++ []) M1 Q)) : pj_G L (d + 1) 99 8 [pj_vR 38, pj_vU, pj_vU] [] M Q := by
  refine pj_G_s (d := d + 1) pj_np99 2 (show pj_gs 2 L 99 8 [pj_vR 38, pj_vU, pj_vU] [] M = some ([], 11, [pj_vR 38, pj_vU, pj_vU], [pj_vI ((-3)), pj_vR 38], M) from rfl) trivial ?_
  exact pj_G_k (j := 86) (vs := [pj_vR 38, pj_vI ((-3))]) (st := []) rfl rfl rfl rfl rfl (Nat.le_of_ble_eq_true rfl) pj_nc86 (pj_G.mono h (fun _ _ hh => pj_G_loc (pj_lle_u rfl (pj_lle_e (pj_lle_e pj_lle_nil))) hh))
theorem pj_C99_14 {L d : Nat} {Q : Option pj_V → pj_M → Prop} {M : pj_M} {s0 : Int}  (h : Q (some (pj_vI s0)) M) : pj_G L d 99 14 [pj_vU, pj_vU, pj_vU] [pj_vI s0] M Q := by
  exact pj_G_r rfl rfl rfl h
theorem pj_C99_15 {L d : Nat} {Q : Option pj_V → pj_M → Prop} {M : pj_M} {x1 x2 : Int} (r0 : -2147483648 ≤ x2 ∧ x2 < 2147483648) (k0 : x2 = 0 → pj_G L d 99 64 [pj_vR 38, pj_vI x1, pj_vU] [] M Q) (k1 : x2 = 1 → pj_G L d 99 71 [pj_vR 38, pj_vI x1, pj_vU] [] M Q) (k2 : x2 = 2 → pj_G L d 99 78 [pj_vR 38, pj_vI x1, pj_vU] [] M Q) (k3 : x2 = 3 → pj_G L d 99 85 [pj_vR 38, pj_vI x1, pj_vU] [] M Q) (k4 : x2 = 4 → pj_G L d 99 92 [pj_vR 38, pj_vI x1, pj_vU] [] M Q) (k5 : x2 = 5 → pj_G L d 99 99 [pj_vR 38, pj_vI x1, pj_vU] [] M Q) (k6 : x2 = 6 → pj_G L d 99 106 [pj_vR 38, pj_vI x1, pj_vU] [] M Q) (k7 : x2 = 7 → pj_G L d 99 113 [pj_vR 38, pj_vI x1, pj_vU] [] M Q) (kd : (x2 < 0 ∨ 7 < x2) → pj_G L d 99 128 [pj_vR 38, pj_vU, pj_vU] [] M Q) : pj_G L d 99 15 [pj_vR 38, pj_vI x1, pj_vI x2] [] M Q := by
  refine pj_G_s pj_np99 1 (show pj_gs 1 L 99 15 [pj_vR 38, pj_vI x1, pj_vI x2] [] M = some ([], 16, [pj_vR 38, pj_vI x1, pj_vI x2], [pj_vI x2], M) from rfl) trivial ?_
  have hX : pj_nrm x2 = x2 := (pj_nrm_id r0.1 r0.2)
  by_cases z : x2 < 0 ∨ 7 < x2
  · refine pj_G_n (pc' := 128) (loc' := [pj_vR 38, pj_vI x1, pj_vI x2]) (stk' := []) (M' := M) pj_np99 rfl ?_ (pj_G_loc (pj_lle_e (pj_lle_u rfl (pj_lle_u rfl pj_lle_nil))) (kd z))
    show (if pj_nrm x2 < 0 ∨ 7 < pj_nrm x2 then _ else _) = _
    rw [hX, if_pos z]
    rfl
  · obtain w | w | w | w | w | w | w | w : x2 = 0 ∨ x2 = 1 ∨ x2 = 2 ∨ x2 = 3 ∨ x2 = 4 ∨ x2 = 5 ∨ x2 = 6 ∨ x2 = 7 := by omega
    · refine pj_G_n (pc' := 64) (loc' := [pj_vR 38, pj_vI x1, pj_vI x2]) (stk' := []) (M' := M) pj_np99 rfl ?_ (pj_G_loc (pj_lle_e (pj_lle_e (pj_lle_u rfl pj_lle_nil))) (k0 w))
      show (if pj_nrm x2 < 0 ∨ 7 < pj_nrm x2 then _ else _) = _
      rw [hX, if_neg z, w]
      rfl
    · refine pj_G_n (pc' := 71) (loc' := [pj_vR 38, pj_vI x1, pj_vI x2]) (stk' := []) (M' := M) pj_np99 rfl ?_ (pj_G_loc (pj_lle_e (pj_lle_e (pj_lle_u rfl pj_lle_nil))) (k1 w))
      show (if pj_nrm x2 < 0 ∨ 7 < pj_nrm x2 then _ else _) = _
      rw [hX, if_neg z, w]
      rfl
    · refine pj_G_n (pc' := 78) (loc' := [pj_vR 38, pj_vI x1, pj_vI x2]) (stk' := []) (M' := M) pj_np99 rfl ?_ (pj_G_loc (pj_lle_e (pj_lle_e (pj_lle_u rfl pj_lle_nil))) (k2 w))
      show (if pj_nrm x2 < 0 ∨ 7 < pj_nrm x2 then _ else _) = _
      rw [hX, if_neg z, w]
      rfl
    · refine pj_G_n (pc' := 85) (loc' := [pj_vR 38, pj_vI x1, pj_vI x2]) (stk' := []) (M' := M) pj_np99 rfl ?_ (pj_G_loc (pj_lle_e (pj_lle_e (pj_lle_u rfl pj_lle_nil))) (k3 w))
      show (if pj_nrm x2 < 0 ∨ 7 < pj_nrm x2 then _ else _) = _
      rw [hX, if_neg z, w]
      rfl
    · refine pj_G_n (pc' := 92) (loc' := [pj_vR 38, pj_vI x1, pj_vI x2]) (stk' := []) (M' := M) pj_np99 rfl ?_ (pj_G_loc (pj_lle_e (pj_lle_e (pj_lle_u rfl pj_lle_nil))) (k4 w))
      show (if pj_nrm x2 < 0 ∨ 7 < pj_nrm x2 then _ else _) = _
      rw [hX, if_neg z, w]
      rfl
    · refine pj_G_n (pc' := 99) (loc' := [pj_vR 38, pj_vI x1, pj_vI x2]) (stk' := []) (M' := M) pj_np99 rfl ?_ (pj_G_loc (pj_lle_e (pj_lle_e (pj_lle_u rfl pj_lle_nil))) (k5 w))
      show (if pj_nrm x2 < 0 ∨ 7 < pj_nrm x2 then _ else _) = _
      rw [hX, if_neg z, w]
      rfl
    · refine pj_G_n (pc' := 106) (loc' := [pj_vR 38, pj_vI x1, pj_vI x2]) (stk' := []) (M' := M) pj_np99 rfl ?_ (pj_G_loc (pj_lle_e (pj_lle_e (pj_lle_u rfl pj_lle_nil))) (k6 w))
      show (if pj_nrm x2 < 0 ∨ 7 < pj_nrm x2 then _ else _) = _
      rw [hX, if_neg z, w]
      rfl
    · refine pj_G_n (pc' := 113) (loc' := [pj_vR 38, pj_vI x1, pj_vI x2]) (stk' := []) (M' := M) pj_np99 rfl ?_ (pj_G_loc (pj_lle_e (pj_lle_e (pj_lle_u rfl pj_lle_nil))) (k7 w))
      show (if pj_nrm x2 < 0 ∨ 7 < pj_nrm x2 then _ else _) = _
      rw [hX, if_neg z, w]
      rfl
theorem pj_C99_128 {L d : Nat} {Q : Option pj_V → pj_M → Prop} {M : pj_M}  (h : pj_G L d 86 0 [pj_vR 38, pj_vI ((-7))] [] M (fun r M1 => pj_G L (d + 1) 99 134 [pj_vU, pj_vU, pj_vU] (r.toList ++ []) M1 Q)) : pj_G L (d + 1) 99 128 [pj_vR 38, pj_vU, pj_vU] [] M Q := by
  refine pj_G_s (d := d + 1) pj_np99 2 (show pj_gs 2 L 99 128 [pj_vR 38, pj_vU, pj_vU] [] M = some ([], 131, [pj_vR 38, pj_vU, pj_vU], [pj_vI ((-7)), pj_vR 38], M) from rfl) trivial ?_
  exact pj_G_k (j := 86) (vs := [pj_vR 38, pj_vI ((-7))]) (st := []) rfl rfl rfl rfl rfl (Nat.le_of_ble_eq_true rfl) pj_nc86 (pj_G.mono h (fun _ _ hh => pj_G_loc (pj_lle_u rfl (pj_lle_e (pj_lle_e pj_lle_nil))) hh))
theorem pj_C99_134 {L d : Nat} {Q : Option pj_V → pj_M → Prop} {M : pj_M} {s0 : Int}  (h : Q (some (pj_vI s0)) M) : pj_G L d 99 134 [pj_vU, pj_vU, pj_vU] [pj_vI s0] M Q := by
  exact pj_G_r rfl rfl rfl h
theorem pj_C99_113 {L d : Nat} {Q : Option pj_V → pj_M → Prop} {M : pj_M} {x1 : Int} (j0 : Nat) (ej0 : x1 = (j0 : Int)) (bj0 : j0 < 7) (r0 : -2147483648 ≤ M 52 j0 ∧ M 52 j0 < 2147483648) (h1 : M 52 j0 = 0 → pj_G L d 99 126 [pj_vU, pj_vU, pj_vU] [] M Q) (h2 : M 52 j0 ≠ 0 → pj_G L d 99 122 [pj_vU, pj_vU, pj_vU] [] M Q) : pj_G L d 99 113 [pj_vR 38, pj_vI x1, pj_vU] [] M Q := by
  have nj0 : pj_nrm x1 = (j0 : Int) := pj_nk ej0 (by omega)
  refine pj_G_s pj_np99 4 (show pj_gs 4 L 99 113 [pj_vR 38, pj_vI x1, pj_vU] [] M = some ([0 ≤ pj_nrm x1 ∧ pj_nrm x1 < (7 : Int)], 119, [pj_vR 38, pj_vI x1, pj_vU], [pj_vI (M 52 (pj_nrm x1).toNat)], M) from rfl) ⟨by omega, trivial⟩ ?_
  simp only [nj0, Int.toNat_natCast]
  exact pj_G_if0 (t := 126) rfl rfl (fun z => pj_G_loc (pj_lle_u rfl (pj_lle_u rfl (pj_lle_e pj_lle_nil))) (h1 (pj_ct_eq (pj_nrm_id r0.1 r0.2) rfl z))) (fun z => pj_G_loc (pj_lle_u rfl (pj_lle_u rfl (pj_lle_e pj_lle_nil))) (h2 (pj_cf_eq (pj_nrm_id r0.1 r0.2) rfl z)))
theorem pj_C99_122 {L d : Nat} {Q : Option pj_V → pj_M → Prop} {M : pj_M}  (h : pj_G L d 99 127 [pj_vU, pj_vU, pj_vU] [pj_vI 1] M Q) : pj_G L d 99 122 [pj_vU, pj_vU, pj_vU] [] M Q := by
  refine pj_G_s pj_np99 2 (show pj_gs 2 L 99 122 [pj_vU, pj_vU, pj_vU] [] M = some ([], 127, [pj_vU, pj_vU, pj_vU], [pj_vI 1], M) from rfl) trivial ?_
  exact h
theorem pj_C99_127 {L d : Nat} {Q : Option pj_V → pj_M → Prop} {M : pj_M} {s0 : Int}  (h : Q (some (pj_vI s0)) M) : pj_G L d 99 127 [pj_vU, pj_vU, pj_vU] [pj_vI s0] M Q := by
  exact pj_G_r rfl rfl rfl h
theorem pj_C99_126 {L d : Nat} {Q : Option pj_V → pj_M → Prop} {M : pj_M}  (h : pj_G L d 99 127 [pj_vU, pj_vU, pj_vU] [pj_vI 0] M Q) : pj_G L d 99 126 [pj_vU, pj_vU, pj_vU] [] M Q := by
  refine pj_G_s pj_np99 1 (show pj_gs 1 L 99 126 [pj_vU, pj_vU, pj_vU] [] M = some ([], 127, [pj_vU, pj_vU, pj_vU], [pj_vI 0], M) from rfl) trivial ?_
  exact h
theorem pj_C99_106 {L d : Nat} {Q : Option pj_V → pj_M → Prop} {M : pj_M} {x1 : Int} (j0 : Nat) (ej0 : x1 = (j0 : Int)) (bj0 : j0 < 7) (h : Q (some (pj_vI (M 50 j0))) M) : pj_G L d 99 106 [pj_vR 38, pj_vI x1, pj_vU] [] M Q := by
  have nj0 : pj_nrm x1 = (j0 : Int) := pj_nk ej0 (by omega)
  refine pj_G_s pj_np99 4 (show pj_gs 4 L 99 106 [pj_vR 38, pj_vI x1, pj_vU] [] M = some ([0 ≤ pj_nrm x1 ∧ pj_nrm x1 < (7 : Int)], 112, [pj_vR 38, pj_vI x1, pj_vU], [pj_vI (M 50 (pj_nrm x1).toNat)], M) from rfl) ⟨by omega, trivial⟩ ?_
  simp only [nj0, Int.toNat_natCast]
  exact pj_G_r rfl rfl rfl h
theorem pj_C99_99 {L d : Nat} {Q : Option pj_V → pj_M → Prop} {M : pj_M} {x1 : Int} (j0 : Nat) (ej0 : x1 = (j0 : Int)) (bj0 : j0 < 7) (h : Q (some (pj_vI (M 49 j0))) M) : pj_G L d 99 99 [pj_vR 38, pj_vI x1, pj_vU] [] M Q := by
  have nj0 : pj_nrm x1 = (j0 : Int) := pj_nk ej0 (by omega)
  refine pj_G_s pj_np99 4 (show pj_gs 4 L 99 99 [pj_vR 38, pj_vI x1, pj_vU] [] M = some ([0 ≤ pj_nrm x1 ∧ pj_nrm x1 < (7 : Int)], 105, [pj_vR 38, pj_vI x1, pj_vU], [pj_vI (M 49 (pj_nrm x1).toNat)], M) from rfl) ⟨by omega, trivial⟩ ?_
  simp only [nj0, Int.toNat_natCast]
  exact pj_G_r rfl rfl rfl h
theorem pj_C99_92 {L d : Nat} {Q : Option pj_V → pj_M → Prop} {M : pj_M} {x1 : Int} (j0 : Nat) (ej0 : x1 = (j0 : Int)) (bj0 : j0 < 7) (h : Q (some (pj_vI (M 47 j0))) M) : pj_G L d 99 92 [pj_vR 38, pj_vI x1, pj_vU] [] M Q := by
  have nj0 : pj_nrm x1 = (j0 : Int) := pj_nk ej0 (by omega)
  refine pj_G_s pj_np99 4 (show pj_gs 4 L 99 92 [pj_vR 38, pj_vI x1, pj_vU] [] M = some ([0 ≤ pj_nrm x1 ∧ pj_nrm x1 < (7 : Int)], 98, [pj_vR 38, pj_vI x1, pj_vU], [pj_vI (M 47 (pj_nrm x1).toNat)], M) from rfl) ⟨by omega, trivial⟩ ?_
  simp only [nj0, Int.toNat_natCast]
  exact pj_G_r rfl rfl rfl h
theorem pj_C99_85 {L d : Nat} {Q : Option pj_V → pj_M → Prop} {M : pj_M} {x1 : Int} (j0 : Nat) (ej0 : x1 = (j0 : Int)) (bj0 : j0 < 7) (h : Q (some (pj_vI (M 46 j0))) M) : pj_G L d 99 85 [pj_vR 38, pj_vI x1, pj_vU] [] M Q := by
  have nj0 : pj_nrm x1 = (j0 : Int) := pj_nk ej0 (by omega)
  refine pj_G_s pj_np99 4 (show pj_gs 4 L 99 85 [pj_vR 38, pj_vI x1, pj_vU] [] M = some ([0 ≤ pj_nrm x1 ∧ pj_nrm x1 < (7 : Int)], 91, [pj_vR 38, pj_vI x1, pj_vU], [pj_vI (M 46 (pj_nrm x1).toNat)], M) from rfl) ⟨by omega, trivial⟩ ?_
  simp only [nj0, Int.toNat_natCast]
  exact pj_G_r rfl rfl rfl h
theorem pj_C99_78 {L d : Nat} {Q : Option pj_V → pj_M → Prop} {M : pj_M} {x1 : Int} (j0 : Nat) (ej0 : x1 = (j0 : Int)) (bj0 : j0 < 7) (h : Q (some (pj_vI (M 45 j0))) M) : pj_G L d 99 78 [pj_vR 38, pj_vI x1, pj_vU] [] M Q := by
  have nj0 : pj_nrm x1 = (j0 : Int) := pj_nk ej0 (by omega)
  refine pj_G_s pj_np99 4 (show pj_gs 4 L 99 78 [pj_vR 38, pj_vI x1, pj_vU] [] M = some ([0 ≤ pj_nrm x1 ∧ pj_nrm x1 < (7 : Int)], 84, [pj_vR 38, pj_vI x1, pj_vU], [pj_vI (M 45 (pj_nrm x1).toNat)], M) from rfl) ⟨by omega, trivial⟩ ?_
  simp only [nj0, Int.toNat_natCast]
  exact pj_G_r rfl rfl rfl h
theorem pj_C99_71 {L d : Nat} {Q : Option pj_V → pj_M → Prop} {M : pj_M} {x1 : Int} (j0 : Nat) (ej0 : x1 = (j0 : Int)) (bj0 : j0 < 7) (h : Q (some (pj_vI (M 44 j0))) M) : pj_G L d 99 71 [pj_vR 38, pj_vI x1, pj_vU] [] M Q := by
  have nj0 : pj_nrm x1 = (j0 : Int) := pj_nk ej0 (by omega)
  refine pj_G_s pj_np99 4 (show pj_gs 4 L 99 71 [pj_vR 38, pj_vI x1, pj_vU] [] M = some ([0 ≤ pj_nrm x1 ∧ pj_nrm x1 < (7 : Int)], 77, [pj_vR 38, pj_vI x1, pj_vU], [pj_vI (M 44 (pj_nrm x1).toNat)], M) from rfl) ⟨by omega, trivial⟩ ?_
  simp only [nj0, Int.toNat_natCast]
  exact pj_G_r rfl rfl rfl h
theorem pj_C99_64 {L d : Nat} {Q : Option pj_V → pj_M → Prop} {M : pj_M} {x1 : Int} (j0 : Nat) (ej0 : x1 = (j0 : Int)) (bj0 : j0 < 7) (h : Q (some (pj_vI (M 43 j0))) M) : pj_G L d 99 64 [pj_vR 38, pj_vI x1, pj_vU] [] M Q := by
  have nj0 : pj_nrm x1 = (j0 : Int) := pj_nk ej0 (by omega)
  refine pj_G_s pj_np99 4 (show pj_gs 4 L 99 64 [pj_vR 38, pj_vI x1, pj_vU] [] M = some ([0 ≤ pj_nrm x1 ∧ pj_nrm x1 < (7 : Int)], 70, [pj_vR 38, pj_vI x1, pj_vU], [pj_vI (M 43 (pj_nrm x1).toNat)], M) from rfl) ⟨by omega, trivial⟩ ?_
  simp only [nj0, Int.toNat_natCast]
  exact pj_G_r rfl rfl rfl h
theorem pj_C100_0 {L d : Nat} {Q : Option pj_V → pj_M → Prop} {M : pj_M} {x1 x2 : Int} (r0 : -2147483648 ≤ x1 ∧ x1 < 2147483648) (h1 : x1 = (4 : Int) → pj_G L d 100 10 [pj_vR 38, pj_vI x1, pj_vI x2] [] M Q) (h2 : x1 ≠ (4 : Int) → pj_G L d 100 5 [pj_vR 38, pj_vI x1, pj_vI x2] [] M Q) : pj_G L d 100 0 [pj_vR 38, pj_vI x1, pj_vI x2] [] M Q := by
  refine pj_G_s pj_np100 2 (show pj_gs 2 L 100 0 [pj_vR 38, pj_vI x1, pj_vI x2] [] M = some ([], 2, [pj_vR 38, pj_vI x1, pj_vI x2], [pj_vI 4, pj_vI x1], M) from rfl) trivial ?_
  exact pj_G_if (t := 10) rfl rfl (fun z => h1 (pj_ct_eq (pj_nrm_id r0.1 r0.2) (pj_nrm_id (by omega) (by omega)) z)) (fun z => h2 (pj_cf_eq (pj_nrm_id r0.1 r0.2) (pj_nrm_id (by omega) (by omega)) z))
theorem pj_C100_5 {L d : Nat} {Q : Option pj_V → pj_M → Prop} {M : pj_M} {x1 x2 : Int} (r0 : -2147483648 ≤ x1 ∧ x1 < 2147483648) (h1 : x1 ≠ (5 : Int) → pj_G L d 100 25 [pj_vR 38, pj_vI x1, pj_vI x2] [] M Q) (h2 : x1 = (5 : Int) → pj_G L d 100 10 [pj_vR 38, pj_vI x1, pj_vI x2] [] M Q) : pj_G L d 100 5 [pj_vR 38, pj_vI x1, pj_vI x2] [] M Q := by
  refine pj_G_s pj_np100 2 (show pj_gs 2 L 100 5 [pj_vR 38, pj_vI x1, pj_vI x2] [] M = some ([], 7, [pj_vR 38, pj_vI x1, pj_vI x2], [pj_vI 5, pj_vI x1], M) from rfl) trivial ?_
  exact pj_G_if (t := 25) rfl rfl (fun z => h1 (pj_ct_ne (pj_nrm_id r0.1 r0.2) (pj_nrm_id (by omega) (by omega)) z)) (fun z => h2 (pj_cf_ne (pj_nrm_id r0.1 r0.2) (pj_nrm_id (by omega) (by omega)) z))
theorem pj_C100_10 {L d : Nat} {Q : Option pj_V → pj_M → Prop} {M : pj_M} {x1 x2 : Int}  (h : pj_G L d 87 0 [pj_vR 38, pj_vI x2] [] M (fun r M1 => pj_G L (d + 1) 100 15 [pj_vR 38, pj_vI x1, pj_vI x2] (r.toList ++ []) M1 Q)) : pj_G L (d + 1) 100 10 [pj_vR 38, pj_vI x1, pj_vI x2] [] M Q := by
  refine pj_G_s (d := d + 1) pj_np100 2 (show pj_gs 2 L 100 10 [pj_vR 38, pj_vI x1, pj_vI x2] [] M = some ([], 12, [pj_vR 38, pj_vI x1, pj_vI x2], [pj_vI x2, pj_vR 38], M) from rfl) trivial ?_
  exact pj_G_k (j := 87) (vs := [pj_vR 38, pj_vI x2]) (st := []) rfl rfl rfl rfl rfl (Nat.le_of_ble_eq_true rfl) pj_nc87 h
theorem pj_C100_15 {L d : Nat} {Q : Option pj_V → pj_M → Prop} {M : pj_M} {x1 x2 s0 : Int} (r0 : -2147483648 ≤ s0 ∧ s0 < 2147483648) (h1 : s0 ≠ 0 → pj_G L d 100 25 [pj_vR 38, pj_vI x1, pj_vI x2] [] M Q) (h2 : s0 = 0 → pj_G L d 100 18 [pj_vR 38, pj_vU, pj_vU] [] M Q) : pj_G L d 100 15 [pj_vR 38, pj_vI x1, pj_vI x2] [pj_vI s0] M Q := by
  exact pj_G_if0 (t := 25) rfl rfl (fun z => h1 (pj_ct_ne (pj_nrm_id r0.1 r0.2) rfl z)) (fun z => pj_G_loc (pj_lle_e (pj_lle_u rfl (pj_lle_u rfl pj_lle_nil))) (h2 (pj_cf_ne (pj_nrm_id r0.1 r0.2) rfl z)))
theorem pj_C100_18 {L d : Nat} {Q : Option pj_V → pj_M → Prop} {M : pj_M}  (h : pj_G L d 86 0 [pj_vR 38, pj_vI ((-3))] [] M (fun r M1 => pj_G L (d + 1) 100 24 [pj_vU, pj_vU, pj_vU] (r.toList ++ []) M1 Q)) : pj_G L (d + 1) 100 18 [pj_vR 38, pj_vU, pj_vU] [] M Q := by
  refine pj_G_s (d := d + 1) pj_np100 2 (show pj_gs 2 L 100 18 [pj_vR 38, pj_vU, pj_vU] [] M = some ([], 21, [pj_vR 38, pj_vU, pj_vU], [pj_vI ((-3)), pj_vR 38], M) from rfl) trivial ?_
  exact pj_G_k (j := 86) (vs := [pj_vR 38, pj_vI ((-3))]) (st := []) rfl rfl rfl rfl rfl (Nat.le_of_ble_eq_true rfl) pj_nc86 (pj_G.mono h (fun _ _ hh => pj_G_loc (pj_lle_u rfl (pj_lle_e (pj_lle_e pj_lle_nil))) hh))
theorem pj_C100_24 {L d : Nat} {Q : Option pj_V → pj_M → Prop} {M : pj_M} {s0 : Int}  (h : Q (some (pj_vI s0)) M) : pj_G L d 100 24 [pj_vU, pj_vU, pj_vU] [pj_vI s0] M Q := by
  exact pj_G_r rfl rfl rfl h
theorem pj_C100_25 {L d : Nat} {Q : Option pj_V → pj_M → Prop} {M : pj_M} {x1 x2 : Int} (r0 : -2147483648 ≤ x1 ∧ x1 < 2147483648) (k0 : x1 = 0 → pj_G L d 100 64 [pj_vR 38, pj_vU, pj_vU] [] M Q) (k1 : x1 = 1 → pj_G L d 100 69 [pj_vR 38, pj_vU, pj_vU] [] M Q) (k2 : x1 = 2 → pj_G L d 100 74 [pj_vR 38, pj_vU, pj_vU] [] M Q) (k3 : x1 = 3 → pj_G L d 100 79 [pj_vR 38, pj_vU, pj_vU] [] M Q) (k4 : x1 = 4 → pj_G L d 100 84 [pj_vR 38, pj_vU, pj_vI x2] [] M Q) (k5 : x1 = 5 → pj_G L d 100 91 [pj_vR 38, pj_vU, pj_vI x2] [] M Q) (kd : (x1 < 0 ∨ 5 < x1) → pj_G L d 100 98 [pj_vR 38, pj_vU, pj_vU] [] M Q) : pj_G L d 100 25 [pj_vR 38, pj_vI x1, pj_vI x2] [] M Q := by
  refine pj_G_s pj_np100 1 (show pj_gs 1 L 100 25 [pj_vR 38, pj_vI x1, pj_vI x2] [] M = some ([], 26, [pj_vR 38, pj_vI x1, pj_vI x2], [pj_vI x1], M) from rfl) trivial ?_
  have hX : pj_nrm x1 = x1 := (pj_nrm_id r0.1 r0.2)
  by_cases z : x1 < 0 ∨ 5 < x1
  · refine pj_G_n (pc' := 98) (loc' := [pj_vR 38, pj_vI x1, pj_vI x2]) (stk' := []) (M' := M) pj_np100 rfl ?_ (pj_G_loc (pj_lle_e (pj_lle_u rfl (pj_lle_u rfl pj_lle_nil))) (kd z))
    show (if pj_nrm x1 < 0 ∨ 5 < pj_nrm x1 then _ else _) = _
    rw [hX, if_pos z]
    rfl
  · obtain w | w | w | w | w | w : x1 = 0 ∨ x1 = 1 ∨ x1 = 2 ∨ x1 = 3 ∨ x1 = 4 ∨ x1 = 5 := by omega
    · refine pj_G_n (pc' := 64) (loc' := [pj_vR 38, pj_vI x1, pj_vI x2]) (stk' := []) (M' := M) pj_np100 rfl ?_ (pj_G_loc (pj_lle_e (pj_lle_u rfl (pj_lle_u rfl pj_lle_nil))) (k0 w))
      show (if pj_nrm x1 < 0 ∨ 5 < pj_nrm x1 then _ else _) = _
      rw [hX, if_neg z, w]
      rfl
    · refine pj_G_n (pc' := 69) (loc' := [pj_vR 38, pj_vI x1, pj_vI x2]) (stk' := []) (M' := M) pj_np100 rfl ?_ (pj_G_loc (pj_lle_e (pj_lle_u rfl (pj_lle_u rfl pj_lle_nil))) (k1 w))
      show (if pj_nrm x1 < 0 ∨ 5 < pj_nrm x1 then _ else _) = _
      rw [hX, if_neg z, w]
      rfl
    · refine pj_G_n (pc' := 74) (loc' := [pj_vR 38, pj_vI x1, pj_vI x2]) (stk' := []) (M' := M) pj_np100 rfl ?_ (pj_G_loc (pj_lle_e (pj_lle_u rfl (pj_lle_u rfl pj_lle_nil))) (k2 w))
      show (if pj_nrm x1 < 0 ∨ 5 < pj_nrm x1 then _ else _) = _
      rw [hX, if_neg z, w]
      rfl
    · refine pj_G_n (pc' := 79) (loc' := [pj_vR 38, pj_vI x1, pj_vI x2]) (stk' := []) (M' := M) pj_np100 rfl ?_ (pj_G_loc (pj_lle_e (pj_lle_u rfl (pj_lle_u rfl pj_lle_nil))) (k3 w))
      show (if pj_nrm x1 < 0 ∨ 5 < pj_nrm x1 then _ else _) = _
      rw [hX, if_neg z, w]
      rfl
    · refine pj_G_n (pc' := 84) (loc' := [pj_vR 38, pj_vI x1, pj_vI x2]) (stk' := []) (M' := M) pj_np100 rfl ?_ (pj_G_loc (pj_lle_e (pj_lle_u rfl (pj_lle_e pj_lle_nil))) (k4 w))
      show (if pj_nrm x1 < 0 ∨ 5 < pj_nrm x1 then _ else _) = _
      rw [hX, if_neg z, w]
      rfl
    · refine pj_G_n (pc' := 91) (loc' := [pj_vR 38, pj_vI x1, pj_vI x2]) (stk' := []) (M' := M) pj_np100 rfl ?_ (pj_G_loc (pj_lle_e (pj_lle_u rfl (pj_lle_e pj_lle_nil))) (k5 w))
      show (if pj_nrm x1 < 0 ∨ 5 < pj_nrm x1 then _ else _) = _
      rw [hX, if_neg z, w]
      rfl
theorem pj_C100_98 {L d : Nat} {Q : Option pj_V → pj_M → Prop} {M : pj_M}  (h : pj_G L d 86 0 [pj_vR 38, pj_vI ((-7))] [] M (fun r M1 => pj_G L (d + 1) 100 104 [pj_vU, pj_vU, pj_vU] (r.toList ++ []) M1 Q)) : pj_G L (d + 1) 100 98 [pj_vR 38, pj_vU, pj_vU] [] M Q := by
  refine pj_G_s (d := d + 1) pj_np100 2 (show pj_gs 2 L 100 98 [pj_vR 38, pj_vU, pj_vU] [] M = some ([], 101, [pj_vR 38, pj_vU, pj_vU], [pj_vI ((-7)), pj_vR 38], M) from rfl) trivial ?_
  exact pj_G_k (j := 86) (vs := [pj_vR 38, pj_vI ((-7))]) (st := []) rfl rfl rfl rfl rfl (Nat.le_of_ble_eq_true rfl) pj_nc86 (pj_G.mono h (fun _ _ hh => pj_G_loc (pj_lle_u rfl (pj_lle_e (pj_lle_e pj_lle_nil))) hh))
theorem pj_C100_104 {L d : Nat} {Q : Option pj_V → pj_M → Prop} {M : pj_M} {s0 : Int}  (h : Q (some (pj_vI s0)) M) : pj_G L d 100 104 [pj_vU, pj_vU, pj_vU] [pj_vI s0] M Q := by
  exact pj_G_r rfl rfl rfl h
theorem pj_C100_91 {L d : Nat} {Q : Option pj_V → pj_M → Prop} {M : pj_M} {x2 : Int} (j0 : Nat) (ej0 : x2 = (j0 : Int)) (bj0 : j0 < 14) (h : Q (some (pj_vI (M 39 j0))) M) : pj_G L d 100 91 [pj_vR 38, pj_vU, pj_vI x2] [] M Q := by
  have nj0 : pj_nrm x2 = (j0 : Int) := pj_nk ej0 (by omega)
  refine pj_G_s pj_np100 4 (show pj_gs 4 L 100 91 [pj_vR 38, pj_vU, pj_vI x2] [] M = some ([0 ≤ pj_nrm x2 ∧ pj_nrm x2 < (14 : Int)], 97, [pj_vR 38, pj_vU, pj_vI x2], [pj_vI (M 39 (pj_nrm x2).toNat)], M) from rfl) ⟨by omega, trivial⟩ ?_
  simp only [nj0, Int.toNat_natCast]
  exact pj_G_r rfl rfl rfl h
theorem pj_C100_84 {L d : Nat} {Q : Option pj_V → pj_M → Prop} {M : pj_M} {x2 : Int} (j0 : Nat) (ej0 : x2 = (j0 : Int)) (bj0 : j0 < 14) (h : Q (some (pj_vI (M 40 j0))) M) : pj_G L d 100 84 [pj_vR 38, pj_vU, pj_vI x2] [] M Q := by
  have nj0 : pj_nrm x2 = (j0 : Int) := pj_nk ej0 (by omega)
  refine pj_G_s pj_np100 4 (show pj_gs 4 L 100 84 [pj_vR 38, pj_vU, pj_vI x2] [] M = some ([0 ≤ pj_nrm x2 ∧ pj_nrm x2 < (14 : Int)], 90, [pj_vR 38, pj_vU, pj_vI x2], [pj_vI (M 40 (pj_nrm x2).toNat)], M) from rfl) ⟨by omega, trivial⟩ ?_
  simp only [nj0, Int.toNat_natCast]
  exact pj_G_r rfl rfl rfl h
theorem pj_C100_79 {L d : Nat} {Q : Option pj_V → pj_M → Prop} {M : pj_M}  (h : Q (some (pj_vI (M 38 21))) M) : pj_G L d 100 79 [pj_vR 38, pj_vU, pj_vU] [] M Q := by
  refine pj_G_s pj_np100 2 (show pj_gs 2 L 100 79 [pj_vR 38, pj_vU, pj_vU] [] M = some ([], 83, [pj_vR 38, pj_vU, pj_vU], [pj_vI (M 38 21)], M) from rfl) trivial ?_
  exact pj_G_r rfl rfl rfl h
theorem pj_C100_74 {L d : Nat} {Q : Option pj_V → pj_M → Prop} {M : pj_M}  (h : Q (some (pj_vI (M 38 20))) M) : pj_G L d 100 74 [pj_vR 38, pj_vU, pj_vU] [] M Q := by
  refine pj_G_s pj_np100 2 (show pj_gs 2 L 100 74 [pj_vR 38, pj_vU, pj_vU] [] M = some ([], 78, [pj_vR 38, pj_vU, pj_vU], [pj_vI (M 38 20)], M) from rfl) trivial ?_
  exact pj_G_r rfl rfl rfl h
theorem pj_C100_69 {L d : Nat} {Q : Option pj_V → pj_M → Prop} {M : pj_M}  (h : Q (some (pj_vI (M 38 18))) M) : pj_G L d 100 69 [pj_vR 38, pj_vU, pj_vU] [] M Q := by
  refine pj_G_s pj_np100 2 (show pj_gs 2 L 100 69 [pj_vR 38, pj_vU, pj_vU] [] M = some ([], 73, [pj_vR 38, pj_vU, pj_vU], [pj_vI (M 38 18)], M) from rfl) trivial ?_
  exact pj_G_r rfl rfl rfl h
theorem pj_C100_64 {L d : Nat} {Q : Option pj_V → pj_M → Prop} {M : pj_M}  (h : Q (some (pj_vI (M 38 17))) M) : pj_G L d 100 64 [pj_vR 38, pj_vU, pj_vU] [] M Q := by
  refine pj_G_s pj_np100 2 (show pj_gs 2 L 100 64 [pj_vR 38, pj_vU, pj_vU] [] M = some ([], 68, [pj_vR 38, pj_vU, pj_vU], [pj_vI (M 38 17)], M) from rfl) trivial ?_
  exact pj_G_r rfl rfl rfl h
theorem pj_C101_0 {L d : Nat} {Q : Option pj_V → pj_M → Prop} {M : pj_M} {x1 x2 : Int}  (h : pj_G L d 101 5 [pj_vR 38, pj_vI x1, pj_vI x2, pj_vI 0, pj_vI 0] [] M Q) : pj_G L d 101 0 [pj_vR 38, pj_vI x1, pj_vI x2, pj_vU, pj_vU] [] M Q := by
  refine pj_G_s pj_np101 4 (show pj_gs 4 L 101 0 [pj_vR 38, pj_vI x1, pj_vI x2, pj_vU, pj_vU] [] M = some ([], 5, [pj_vR 38, pj_vI x1, pj_vI x2, pj_vI 0, pj_vI 0], [], M) from rfl) trivial ?_
  exact h
theorem pj_C101_5 {L d : Nat} {Q : Option pj_V → pj_M → Prop} {M : pj_M} {x1 x2 x3 x4 : Int} (r0 : -2147483648 ≤ x4 ∧ x4 < 2147483648) (r1 : -2147483648 ≤ M 38 21 ∧ M 38 21 < 2147483648) (h1 : M 38 21 ≤ x4 → pj_G L d 101 52 [pj_vU, pj_vU, pj_vU, pj_vI x3, pj_vU] [] M Q) (h2 : x4 < M 38 21 → pj_G L d 101 14 [pj_vR 38, pj_vI x1, pj_vI x2, pj_vI x3, pj_vI x4] [] M Q) : pj_G L d 101 5 [pj_vR 38, pj_vI x1, pj_vI x2, pj_vI x3, pj_vI x4] [] M Q := by
  refine pj_G_s pj_np101 3 (show pj_gs 3 L 101 5 [pj_vR 38, pj_vI x1, pj_vI x2, pj_vI x3, pj_vI x4] [] M = some ([], 11, [pj_vR 38, pj_vI x1, pj_vI x2, pj_vI x3, pj_vI x4], [pj_vI (M 38 21), pj_vI x4], M) from rfl) trivial ?_
  exact pj_G_if (t := 52) rfl rfl (fun z => pj_G_loc (pj_lle_u rfl (pj_lle_u rfl (pj_lle_u rfl (pj_lle_e (pj_lle_u rfl pj_lle_nil))))) (h1 (pj_ct_ge (pj_nrm_id r0.1 r0.2) (pj_nrm_id r1.1 r1.2) z))) (fun z => h2 (pj_cf_ge (pj_nrm_id r0.1 r0.2) (pj_nrm_id r1.1 r1.2) z))
theorem pj_C101_14 {L d : Nat} {Q : Option pj_V → pj_M → Prop} {M : pj_M} {x1 x2 x3 x4 : Int} (r0 : -2147483648 ≤ x3 ∧ x3 < 2147483648) (h1 : x3 ≠ 0 → pj_G L d 101 40 [pj_vR 38, pj_vI x1, pj_vI x2, pj_vU, pj_vI x4] [] M Q) (h2 : x3 = 0 → pj_G L d 101 18 [pj_vR 38, pj_vI x1, pj_vI x2, pj_vU, pj_vI x4] [] M Q) : pj_G L d 101 14 [pj_vR 38, pj_vI x1, pj_vI x2, pj_vI x3, pj_vI x4] [] M Q := by
  refine pj_G_s pj_np101 1 (show pj_gs 1 L 101 14 [pj_vR 38, pj_vI x1, pj_vI x2, pj_vI x3, pj_vI x4] [] M = some ([], 15, [pj_vR 38, pj_vI x1, pj_vI x2, pj_vI x3, pj_vI x4], [pj_vI x3], M) from rfl) trivial ?_
  exact pj_G_if0 (t := 40) rfl rfl (fun z => pj_G_loc (pj_lle_e (pj_lle_e (pj_lle_e (pj_lle_u rfl (pj_lle_e pj_lle_nil))))) (h1 (pj_ct_ne (pj_nrm_id r0.1 r0.2) rfl z))) (fun z => pj_G_loc (pj_lle_e (pj_lle_e (pj_lle_e (pj_lle_u rfl (pj_lle_e pj_lle_nil))))) (h2 (pj_cf_ne (pj_nrm_id r0.1 r0.2) rfl z)))
theorem pj_C101_18 {L d : Nat} {Q : Option pj_V → pj_M → Prop} {M : pj_M} {x1 x2 x4 : Int} (j0 : Nat) (ej0 : x4 = (j0 : Int)) (bj0 : j0 < 16) (r0 : -2147483648 ≤ M 53 j0 ∧ M 53 j0 < 2147483648) (r1 : -2147483648 ≤ x1 ∧ x1 < 2147483648) (h1 : M 53 j0 ≠ x1 → pj_G L d 101 44 [pj_vR 38, pj_vI x1, pj_vI x2, pj_vU, pj_vI x4] [] M Q) (h2 : M 53 j0 = x1 → pj_G L d 101 29 [pj_vR 38, pj_vI x1, pj_vI x2, pj_vU, pj_vI x4] [] M Q) : pj_G L d 101 18 [pj_vR 38, pj_vI x1, pj_vI x2, pj_vU, pj_vI x4] [] M Q := by
  have nj0 : pj_nrm x4 = (j0 : Int) := pj_nk ej0 (by omega)
  refine pj_G_s pj_np101 5 (show pj_gs 5 L 101 18 [pj_vR 38, pj_vI x1, pj_vI x2, pj_vU, pj_vI x4] [] M = some ([0 ≤ pj_nrm x4 ∧ pj_nrm x4 < (16 : Int)], 26, [pj_vR 38, pj_vI x1, pj_vI x2, pj_vU, pj_vI x4], [pj_vI x1, pj_vI (M 53 (pj_nrm x4).toNat)], M) from rfl) ⟨by omega, trivial⟩ ?_
  simp only [nj0, Int.toNat_natCast]
  exact pj_G_if (t := 44) rfl rfl (fun z => h1 (pj_ct_ne (pj_nrm_id r0.1 r0.2) (pj_nrm_id r1.1 r1.2) z)) (fun z => h2 (pj_cf_ne (pj_nrm_id r0.1 r0.2) (pj_nrm_id r1.1 r1.2) z))
theorem pj_C101_29 {L d : Nat} {Q : Option pj_V → pj_M → Prop} {M : pj_M} {x1 x2 x4 : Int} (j0 : Nat) (ej0 : x4 = (j0 : Int)) (bj0 : j0 < 16) (r0 : -2147483648 ≤ M 54 j0 ∧ M 54 j0 < 2147483648) (r1 : -2147483648 ≤ x2 ∧ x2 < 2147483648) (h1 : M 54 j0 ≠ x2 → pj_G L d 101 44 [pj_vR 38, pj_vI x1, pj_vI x2, pj_vU, pj_vI x4] [] M Q) (h2 : M 54 j0 = x2 → pj_G L d 101 40 [pj_vR 38, pj_vI x1, pj_vI x2, pj_vU, pj_vI x4] [] M Q) : pj_G L d 101 29 [pj_vR 38, pj_vI x1, pj_vI x2, pj_vU, pj_vI x4] [] M Q := by
  have nj0 : pj_nrm x4 = (j0 : Int) := pj_nk ej0 (by omega)
  refine pj_G_s pj_np101 5 (show pj_gs 5 L 101 29 [pj_vR 38, pj_vI x1, pj_vI x2, pj_vU, pj_vI x4] [] M = some ([0 ≤ pj_nrm x4 ∧ pj_nrm x4 < (16 : Int)], 37, [pj_vR 38, pj_vI x1, pj_vI x2, pj_vU, pj_vI x4], [pj_vI x2, pj_vI (M 54 (pj_nrm x4).toNat)], M) from rfl) ⟨by omega, trivial⟩ ?_
  simp only [nj0, Int.toNat_natCast]
  exact pj_G_if (t := 44) rfl rfl (fun z => h1 (pj_ct_ne (pj_nrm_id r0.1 r0.2) (pj_nrm_id r1.1 r1.2) z)) (fun z => h2 (pj_cf_ne (pj_nrm_id r0.1 r0.2) (pj_nrm_id r1.1 r1.2) z))
theorem pj_C101_40 {L d : Nat} {Q : Option pj_V → pj_M → Prop} {M : pj_M} {x1 x2 x4 : Int}  (h : pj_G L d 101 45 [pj_vR 38, pj_vI x1, pj_vI x2, pj_vU, pj_vI x4] [pj_vI 1] M Q) : pj_G L d 101 40 [pj_vR 38, pj_vI x1, pj_vI x2, pj_vU, pj_vI x4] [] M Q := by
  refine pj_G_s pj_np101 2 (show pj_gs 2 L 101 40 [pj_vR 38, pj_vI x1, pj_vI x2, pj_vU, pj_vI x4] [] M = some ([], 45, [pj_vR 38, pj_vI x1, pj_vI x2, pj_vU, pj_vI x4], [pj_vI 1], M) from rfl) trivial ?_
  exact h
theorem pj_C101_45 {L d : Nat} {Q : Option pj_V → pj_M → Prop} {M : pj_M} {x1 x2 x4 s0 : Int}  (h : pj_G L d 101 5 [pj_vR 38, pj_vI x1, pj_vI x2, pj_vI s0, pj_vI (x4 + 1)] [] M Q) : pj_G L d 101 45 [pj_vR 38, pj_vI x1, pj_vI x2, pj_vU, pj_vI x4] [pj_vI s0] M Q := by
  refine pj_G_s pj_np101 3 (show pj_gs 3 L 101 45 [pj_vR 38, pj_vI x1, pj_vI x2, pj_vU, pj_vI x4] [pj_vI s0] M = some ([], 5, [pj_vR 38, pj_vI x1, pj_vI x2, pj_vI s0, pj_vI (x4 + 1)], [], M) from rfl) trivial ?_
  exact h
theorem pj_C101_44 {L d : Nat} {Q : Option pj_V → pj_M → Prop} {M : pj_M} {x1 x2 x4 : Int}  (h : pj_G L d 101 45 [pj_vR 38, pj_vI x1, pj_vI x2, pj_vU, pj_vI x4] [pj_vI 0] M Q) : pj_G L d 101 44 [pj_vR 38, pj_vI x1, pj_vI x2, pj_vU, pj_vI x4] [] M Q := by
  refine pj_G_s pj_np101 1 (show pj_gs 1 L 101 44 [pj_vR 38, pj_vI x1, pj_vI x2, pj_vU, pj_vI x4] [] M = some ([], 45, [pj_vR 38, pj_vI x1, pj_vI x2, pj_vU, pj_vI x4], [pj_vI 0], M) from rfl) trivial ?_
  exact h
theorem pj_C101_52 {L d : Nat} {Q : Option pj_V → pj_M → Prop} {M : pj_M} {x3 : Int}  (cb : x3 = 0 ∨ x3 = 1) (h : Q (some (pj_vI x3)) M) : pj_G L d 101 52 [pj_vU, pj_vU, pj_vU, pj_vI x3, pj_vU] [] M Q := by
  refine pj_G_s pj_np101 1 (show pj_gs 1 L 101 52 [pj_vU, pj_vU, pj_vU, pj_vI x3, pj_vU] [] M = some ([], 53, [pj_vU, pj_vU, pj_vU, pj_vI x3, pj_vU], [pj_vI x3], M) from rfl) trivial ?_
  exact pj_G_r rfl rfl (if_pos (Or.inr cb)) h
theorem pj_C102_0 {L d : Nat} {Q : Option pj_V → pj_M → Prop} {M : pj_M} {x1 x2 x3 : Int}  (h : pj_G L d 89 0 [pj_vR 38, pj_vI x1] [] M (fun r M1 => pj_G L (d + 1) 102 5 [pj_vR 38, pj_vI x1, pj_vI x2, pj_vI x3] (r.toList ++ []) M1 Q)) : pj_G L (d + 1) 102 0 [pj_vR 38, pj_vI x1, pj_vI x2, pj_vI x3] [] M Q := by
  refine pj_G_s (d := d + 1) pj_np102 2 (show pj_gs 2 L 102 0 [pj_vR 38, pj_vI x1, pj_vI x2, pj_vI x3] [] M = some ([], 2, [pj_vR 38, pj_vI x1, pj_vI x2, pj_vI x3], [pj_vI x1, pj_vR 38], M) from rfl) trivial ?_
  exact pj_G_k (j := 89) (vs := [pj_vR 38, pj_vI x1]) (st := []) rfl rfl rfl rfl rfl (Nat.le_of_ble_eq_true rfl) pj_nc89 h
theorem pj_C102_5 {L d : Nat} {Q : Option pj_V → pj_M → Prop} {M : pj_M} {x1 x2 x3 s0 : Int} (r0 : -2147483648 ≤ s0 ∧ s0 < 2147483648) (h1 : s0 = 0 → pj_G L d 102 16 [pj_vR 38, pj_vU, pj_vU, pj_vU] [] M Q) (h2 : s0 ≠ 0 → pj_G L d 102 8 [pj_vR 38, pj_vI x1, pj_vI x2, pj_vI x3] [] M Q) : pj_G L d 102 5 [pj_vR 38, pj_vI x1, pj_vI x2, pj_vI x3] [pj_vI s0] M Q := by
  exact pj_G_if0 (t := 16) rfl rfl (fun z => pj_G_loc (pj_lle_e (pj_lle_u rfl (pj_lle_u rfl (pj_lle_u rfl pj_lle_nil)))) (h1 (pj_ct_eq (pj_nrm_id r0.1 r0.2) rfl z))) (fun z => h2 (pj_cf_eq (pj_nrm_id r0.1 r0.2) rfl z))
theorem pj_C102_8 {L d : Nat} {Q : Option pj_V → pj_M → Prop} {M : pj_M} {x1 x2 x3 : Int}  (h : pj_G L d 87 0 [pj_vR 38, pj_vI x2] [] M (fun r M1 => pj_G L (d + 1) 102 13 [pj_vR 38, pj_vI x1, pj_vI x2, pj_vI x3] (r.toList ++ []) M1 Q)) : pj_G L (d + 1) 102 8 [pj_vR 38, pj_vI x1, pj_vI x2, pj_vI x3] [] M Q := by
  refine pj_G_s (d := d + 1) pj_np102 2 (show pj_gs 2 L 102 8 [pj_vR 38, pj_vI x1, pj_vI x2, pj_vI x3] [] M = some ([], 10, [pj_vR 38, pj_vI x1, pj_vI x2, pj_vI x3], [pj_vI x2, pj_vR 38], M) from rfl) trivial ?_
  exact pj_G_k (j := 87) (vs := [pj_vR 38, pj_vI x2]) (st := []) rfl rfl rfl rfl rfl (Nat.le_of_ble_eq_true rfl) pj_nc87 h
theorem pj_C102_13 {L d : Nat} {Q : Option pj_V → pj_M → Prop} {M : pj_M} {x1 x2 x3 s0 : Int} (r0 : -2147483648 ≤ s0 ∧ s0 < 2147483648) (h1 : s0 ≠ 0 → pj_G L d 102 23 [pj_vR 38, pj_vI x1, pj_vI x2, pj_vI x3] [] M Q) (h2 : s0 = 0 → pj_G L d 102 16 [pj_vR 38, pj_vU, pj_vU, pj_vU] [] M Q) : pj_G L d 102 13 [pj_vR 38, pj_vI x1, pj_vI x2, pj_vI x3] [pj_vI s0] M Q := by
  exact pj_G_if0 (t := 23) rfl rfl (fun z => h1 (pj_ct_ne (pj_nrm_id r0.1 r0.2) rfl z)) (fun z => pj_G_loc (pj_lle_e (pj_lle_u rfl (pj_lle_u rfl (pj_lle_u rfl pj_lle_nil)))) (h2 (pj_cf_ne (pj_nrm_id r0.1 r0.2) rfl z)))
theorem pj_C102_16 {L d : Nat} {Q : Option pj_V → pj_M → Prop} {M : pj_M}  (h : pj_G L d 86 0 [pj_vR 38, pj_vI ((-3))] [] M (fun r M1 => pj_G L (d + 1) 102 22 [pj_vU, pj_vU, pj_vU, pj_vU] (r.toList ++ []) M1 Q)) : pj_G L (d + 1) 102 16 [pj_vR 38, pj_vU, pj_vU, pj_vU] [] M Q := by
  refine pj_G_s (d := d + 1) pj_np102 2 (show pj_gs 2 L 102 16 [pj_vR 38, pj_vU, pj_vU, pj_vU] [] M = some ([], 19, [pj_vR 38, pj_vU, pj_vU, pj_vU], [pj_vI ((-3)), pj_vR 38], M) from rfl) trivial ?_
  exact pj_G_k (j := 86) (vs := [pj_vR 38, pj_vI ((-3))]) (st := []) rfl rfl rfl rfl rfl (Nat.le_of_ble_eq_true rfl) pj_nc86 (pj_G.mono h (fun _ _ hh => pj_G_loc (pj_lle_u rfl (pj_lle_e (pj_lle_e (pj_lle_e pj_lle_nil)))) hh))
theorem pj_C102_22 {L d : Nat} {Q : Option pj_V → pj_M → Prop} {M : pj_M} {s0 : Int}  (h : Q (some (pj_vI s0)) M) : pj_G L d 102 22 [pj_vU, pj_vU, pj_vU, pj_vU] [pj_vI s0] M Q := by
  exact pj_G_r rfl rfl rfl h
theorem pj_C102_23 {L d : Nat} {Q : Option pj_V → pj_M → Prop} {M : pj_M} {x1 x2 x3 : Int} (j0 : Nat) (r0 : -2147483648 ≤ x3 ∧ x3 < 2147483648) (ej0 : x2 = (j0 : Int)) (bj0 : j0 < 14) (r1 : -2147483648 ≤ (M 39 j0) - 1 ∧ (M 39 j0) - 1 < 2147483648) (h : pj_G L d 85 0 [pj_vL x3, pj_vU, pj_vL 0, pj_vU, pj_vL ((M 39 j0) - 1), pj_vU] [] M (fun r M1 => pj_G L (d + 1) 102 38 [pj_vR 38, pj_vI x1, pj_vI x2, pj_vI x3] (r.toList ++ []) M1 Q)) : pj_G L (d + 1) 102 23 [pj_vR 38, pj_vI x1, pj_vI x2, pj_vI x3] [] M Q := by
  have q0 : pj_nrm x3 = x3 := (pj_nrm_id r0.1 r0.2)
  have nj0 : pj_nrm x2 = (j0 : Int) := pj_nk ej0 (by omega)
  have q2 : pj_nrm ((M 39 j0) - 1) = (M 39 j0) - 1 := (pj_nrm_id r1.1 r1.2)
  refine pj_G_s (d := d + 1) pj_np102 10 (show pj_gs 10 L 102 23 [pj_vR 38, pj_vI x1, pj_vI x2, pj_vI x3] [] M = some ([0 ≤ pj_nrm x2 ∧ pj_nrm x2 < (14 : Int)], 35, [pj_vR 38, pj_vI x1, pj_vI x2, pj_vI x3], [pj_vL (pj_nrm ((M 39 (pj_nrm x2).toNat) - 1)), pj_vL 0, pj_vL (pj_nrm x3)], M) from rfl) ⟨by omega, trivial⟩ ?_
  simp only [q0, nj0, q2, Int.toNat_natCast]
  exact pj_G_k (j := 85) (vs := [pj_vL x3, pj_vL 0, pj_vL ((M 39 j0) - 1)]) (st := []) rfl rfl rfl rfl rfl (Nat.le_of_ble_eq_true rfl) pj_nc85 h
theorem pj_C102_38 {L d : Nat} {Q : Option pj_V → pj_M → Prop} {M : pj_M} {x1 x2 x3 s0 : Int} (r0 : -2147483648 ≤ s0 ∧ s0 < 2147483648) (h1 : s0 = 0 → pj_G L d 102 50 [pj_vR 38, pj_vU, pj_vU, pj_vU] [] M Q) (h2 : s0 ≠ 0 → pj_G L d 102 41 [pj_vR 38, pj_vI x1, pj_vI x2, pj_vI x3] [] M Q) : pj_G L d 102 38 [pj_vR 38, pj_vI x1, pj_vI x2, pj_vI x3] [pj_vI s0] M Q := by
  exact pj_G_if0 (t := 50) rfl rfl (fun z => pj_G_loc (pj_lle_e (pj_lle_u rfl (pj_lle_u rfl (pj_lle_u rfl pj_lle_nil)))) (h1 (pj_ct_eq (pj_nrm_id r0.1 r0.2) rfl z))) (fun z => h2 (pj_cf_eq (pj_nrm_id r0.1 r0.2) rfl z))
theorem pj_C102_41 {L d : Nat} {Q : Option pj_V → pj_M → Prop} {M : pj_M} {x1 x2 x3 : Int}  (h : pj_G L d 101 0 [pj_vR 38, pj_vI x1, pj_vI x2, pj_vU, pj_vU] [] M (fun r M1 => pj_G L (d + 1) 102 47 [pj_vR 38, pj_vI x1, pj_vI x2, pj_vI x3] (r.toList ++ []) M1 Q)) : pj_G L (d + 1) 102 41 [pj_vR 38, pj_vI x1, pj_vI x2, pj_vI x3] [] M Q := by
  refine pj_G_s (d := d + 1) pj_np102 3 (show pj_gs 3 L 102 41 [pj_vR 38, pj_vI x1, pj_vI x2, pj_vI x3] [] M = some ([], 44, [pj_vR 38, pj_vI x1, pj_vI x2, pj_vI x3], [pj_vI x2, pj_vI x1, pj_vR 38], M) from rfl) trivial ?_
  exact pj_G_k (j := 101) (vs := [pj_vR 38, pj_vI x1, pj_vI x2]) (st := []) rfl rfl rfl rfl rfl (Nat.le_of_ble_eq_true rfl) pj_nc101 h
theorem pj_C102_47 {L d : Nat} {Q : Option pj_V → pj_M → Prop} {M : pj_M} {x1 x2 x3 s0 : Int} (r0 : -2147483648 ≤ s0 ∧ s0 < 2147483648) (h1 : s0 = 0 → pj_G L d 102 57 [pj_vR 38, pj_vI x1, pj_vI x2, pj_vI x3] [] M Q) (h2 : s0 ≠ 0 → pj_G L d 102 50 [pj_vR 38, pj_vU, pj_vU, pj_vU] [] M Q) : pj_G L d 102 47 [pj_vR 38, pj_vI x1, pj_vI x2, pj_vI x3] [pj_vI s0] M Q := by
  exact pj_G_if0 (t := 57) rfl rfl (fun z => h1 (pj_ct_eq (pj_nrm_id r0.1 r0.2) rfl z)) (fun z => pj_G_loc (pj_lle_e (pj_lle_u rfl (pj_lle_u rfl (pj_lle_u rfl pj_lle_nil)))) (h2 (pj_cf_eq (pj_nrm_id r0.1 r0.2) rfl z)))
theorem pj_C102_50 {L d : Nat} {Q : Option pj_V → pj_M → Prop} {M : pj_M}  (h : pj_G L d 86 0 [pj_vR 38, pj_vI ((-7))] [] M (fun r M1 => pj_G L (d + 1) 102 56 [pj_vU, pj_vU, pj_vU, pj_vU] (r.toList ++ []) M1 Q)) : pj_G L (d + 1) 102 50 [pj_vR 38, pj_vU, pj_vU, pj_vU] [] M Q := by
  refine pj_G_s (d := d + 1) pj_np102 2 (show pj_gs 2 L 102 50 [pj_vR 38, pj_vU, pj_vU, pj_vU] [] M = some ([], 53, [pj_vR 38, pj_vU, pj_vU, pj_vU], [pj_vI ((-7)), pj_vR 38], M) from rfl) trivial ?_
  exact pj_G_k (j := 86) (vs := [pj_vR 38, pj_vI ((-7))]) (st := []) rfl rfl rfl rfl rfl (Nat.le_of_ble_eq_true rfl) pj_nc86 (pj_G.mono h (fun _ _ hh => pj_G_loc (pj_lle_u rfl (pj_lle_e (pj_lle_e (pj_lle_e pj_lle_nil)))) hh))
theorem pj_C102_56 {L d : Nat} {Q : Option pj_V → pj_M → Prop} {M : pj_M} {s0 : Int}  (h : Q (some (pj_vI s0)) M) : pj_G L d 102 56 [pj_vU, pj_vU, pj_vU, pj_vU] [pj_vI s0] M Q := by
  exact pj_G_r rfl rfl rfl h
theorem pj_C102_57 {L d : Nat} {Q : Option pj_V → pj_M → Prop} {M : pj_M} {x1 x2 x3 : Int} (r0 : -2147483648 ≤ M 38 21 ∧ M 38 21 < 2147483648) (h1 : M 38 21 ≠ (16 : Int) → pj_G L d 102 73 [pj_vR 38, pj_vI x1, pj_vI x2, pj_vI x3] [] M Q) (h2 : M 38 21 = (16 : Int) → pj_G L d 102 66 [pj_vR 38, pj_vU, pj_vU, pj_vU] [] M Q) : pj_G L d 102 57 [pj_vR 38, pj_vI x1, pj_vI x2, pj_vI x3] [] M Q := by
  refine pj_G_s pj_np102 3 (show pj_gs 3 L 102 57 [pj_vR 38, pj_vI x1, pj_vI x2, pj_vI x3] [] M = some ([], 63, [pj_vR 38, pj_vI x1, pj_vI x2, pj_vI x3], [pj_vI 16, pj_vI (M 38 21)], M) from rfl) trivial ?_
  exact pj_G_if (t := 73) rfl rfl (fun z => h1 (pj_ct_ne (pj_nrm_id r0.1 r0.2) (pj_nrm_id (by omega) (by omega)) z)) (fun z => pj_G_loc (pj_lle_e (pj_lle_u rfl (pj_lle_u rfl (pj_lle_u rfl pj_lle_nil)))) (h2 (pj_cf_ne (pj_nrm_id r0.1 r0.2) (pj_nrm_id (by omega) (by omega)) z)))
theorem pj_C102_66 {L d : Nat} {Q : Option pj_V → pj_M → Prop} {M : pj_M}  (h : pj_G L d 86 0 [pj_vR 38, pj_vI ((-8))] [] M (fun r M1 => pj_G L (d + 1) 102 72 [pj_vU, pj_vU, pj_vU, pj_vU] (r.toList ++ []) M1 Q)) : pj_G L (d + 1) 102 66 [pj_vR 38, pj_vU, pj_vU, pj_vU] [] M Q := by
  refine pj_G_s (d := d + 1) pj_np102 2 (show pj_gs 2 L 102 66 [pj_vR 38, pj_vU, pj_vU, pj_vU] [] M = some ([], 69, [pj_vR 38, pj_vU, pj_vU, pj_vU], [pj_vI ((-8)), pj_vR 38], M) from rfl) trivial ?_
  exact pj_G_k (j := 86) (vs := [pj_vR 38, pj_vI ((-8))]) (st := []) rfl rfl rfl rfl rfl (Nat.le_of_ble_eq_true rfl) pj_nc86 (pj_G.mono h (fun _ _ hh => pj_G_loc (pj_lle_u rfl (pj_lle_e (pj_lle_e (pj_lle_e pj_lle_nil)))) hh))
theorem pj_C102_72 {L d : Nat} {Q : Option pj_V → pj_M → Prop} {M : pj_M} {s0 : Int}  (h : Q (some (pj_vI s0)) M) : pj_G L d 102 72 [pj_vU, pj_vU, pj_vU, pj_vU] [pj_vI s0] M Q := by
  exact pj_G_r rfl rfl rfl h
theorem pj_C102_73 {L d : Nat} {Q : Option pj_V → pj_M → Prop} {M : pj_M} {x1 x2 x3 : Int} (j0 : Nat) (ej0 : M 38 21 = (j0 : Int)) (bj0 : j0 < 16) (h : Q (some (pj_vI ((M 38 21) + 1))) (pj_up (pj_up (pj_up (pj_up (pj_up M 53 j0 x1) 54 j0 x2) 55 j0 x3) 38 21 ((M 38 21) + 1)) 38 35 0)) : pj_G L d 102 73 [pj_vR 38, pj_vI x1, pj_vI x2, pj_vI x3] [] M Q := by
  have nj0 : pj_nrm (M 38 21) = (j0 : Int) := pj_nk ej0 (by omega)
  refine pj_G_s pj_np102 29 (show pj_gs 29 L 102 73 [pj_vR 38, pj_vI x1, pj_vI x2, pj_vI x3] [] M = some ([0 ≤ pj_nrm (M 38 21) ∧ pj_nrm (M 38 21) < (16 : Int), 0 ≤ pj_nrm (M 38 21) ∧ pj_nrm (M 38 21) < (16 : Int), 0 ≤ pj_nrm (M 38 21) ∧ pj_nrm (M 38 21) < (16 : Int), (0 : Int) = 0 ∨ (0 : Int) = 1], 122, [pj_vR 38, pj_vI x1, pj_vI x2, pj_vI x3], [pj_vI ((M 38 21) + 1)], pj_up (pj_up (pj_up (pj_up (pj_up M 53 (pj_nrm (M 38 21)).toNat x1) 54 (pj_nrm (M 38 21)).toNat x2) 55 (pj_nrm (M 38 21)).toNat x3) 38 21 ((M 38 21) + 1)) 38 35 0) from rfl) ⟨by omega, by omega, by omega, by decide, trivial⟩ ?_
  simp only [nj0, Int.toNat_natCast]
  exact pj_G_r rfl rfl rfl h
theorem pj_C103_0 {L d : Nat} {Q : Option pj_V → pj_M → Prop} {M : pj_M} (r0 : -2147483648 ≤ M 38 21 ∧ M 38 21 < 2147483648) (h1 : M 38 21 ≠ 0 → pj_G L d 103 14 [pj_vR 38] [] M Q) (h2 : M 38 21 = 0 → pj_G L d 103 7 [pj_vR 38] [] M Q) : pj_G L d 103 0 [pj_vR 38] [] M Q := by
  refine pj_G_s pj_np103 2 (show pj_gs 2 L 103 0 [pj_vR 38] [] M = some ([], 4, [pj_vR 38], [pj_vI (M 38 21)], M) from rfl) trivial ?_
  exact pj_G_if0 (t := 14) rfl rfl (fun z => h1 (pj_ct_ne (pj_nrm_id r0.1 r0.2) rfl z)) (fun z => h2 (pj_cf_ne (pj_nrm_id r0.1 r0.2) rfl z))
theorem pj_C103_7 {L d : Nat} {Q : Option pj_V → pj_M → Prop} {M : pj_M}  (h : pj_G L d 86 0 [pj_vR 38, pj_vI ((-2))] [] M (fun r M1 => pj_G L (d + 1) 103 13 [pj_vU] (r.toList ++ []) M1 Q)) : pj_G L (d + 1) 103 7 [pj_vR 38] [] M Q := by
  refine pj_G_s (d := d + 1) pj_np103 2 (show pj_gs 2 L 103 7 [pj_vR 38] [] M = some ([], 10, [pj_vR 38], [pj_vI ((-2)), pj_vR 38], M) from rfl) trivial ?_
  exact pj_G_k (j := 86) (vs := [pj_vR 38, pj_vI ((-2))]) (st := []) rfl rfl rfl rfl rfl (Nat.le_of_ble_eq_true rfl) pj_nc86 (pj_G.mono h (fun _ _ hh => pj_G_loc (pj_lle_u rfl pj_lle_nil) hh))
theorem pj_C103_13 {L d : Nat} {Q : Option pj_V → pj_M → Prop} {M : pj_M} {s0 : Int}  (h : Q (some (pj_vI s0)) M) : pj_G L d 103 13 [pj_vU] [pj_vI s0] M Q := by
  exact pj_G_r rfl rfl rfl h
theorem pj_C103_14 {L d : Nat} {Q : Option pj_V → pj_M → Prop} {M : pj_M}  (h : Q (some (pj_vI ((M 38 21) - 1))) (pj_up (pj_up M 38 21 ((M 38 21) - 1)) 38 35 0)) : pj_G L d 103 14 [pj_vR 38] [] M Q := by
  refine pj_G_s pj_np103 11 (show pj_gs 11 L 103 14 [pj_vR 38] [] M = some ([(0 : Int) = 0 ∨ (0 : Int) = 1], 33, [pj_vR 38], [pj_vI ((M 38 21) - 1)], pj_up (pj_up M 38 21 ((M 38 21) - 1)) 38 35 0) from rfl) ⟨by decide, trivial⟩ ?_
  exact pj_G_r rfl rfl rfl h
theorem pj_C104_0 {L d : Nat} {Q : Option pj_V → pj_M → Prop} {M : pj_M} {x1 x2 x3 : Int} (j0 : Nat) (ej0 : x1 = (j0 : Int)) (bj0 : j0 < 7) (r0 : -2147483648 ≤ M 44 j0 ∧ M 44 j0 < 2147483648) (k0 : M 44 j0 = 0 → pj_G L d 104 44 [pj_vR 38, pj_vI x1, pj_vI x2, pj_vI x3, pj_vU] [] M Q) (k1 : M 44 j0 = 1 → pj_G L d 104 52 [pj_vR 38, pj_vI x1, pj_vI x2, pj_vI x3, pj_vU] [] M Q) (k2 : M 44 j0 = 2 → pj_G L d 104 60 [pj_vR 38, pj_vI x1, pj_vI x2, pj_vI x3, pj_vU] [] M Q) (k3 : M 44 j0 = 3 → pj_G L d 104 75 [pj_vR 38, pj_vI x1, pj_vI x2, pj_vI x3, pj_vU] [] M Q) (k4 : M 44 j0 = 4 → pj_G L d 104 90 [pj_vR 38, pj_vI x1, pj_vI x2, pj_vI x3, pj_vU] [] M Q) (kd : (M 44 j0 < 0 ∨ 4 < M 44 j0) → pj_G L d 104 105 [pj_vR 38, pj_vI x1, pj_vI x2, pj_vI x3, pj_vU] [] M Q) : pj_G L d 104 0 [pj_vR 38, pj_vI x1, pj_vI x2, pj_vI x3, pj_vU] [] M Q := by
  have nj0 : pj_nrm x1 = (j0 : Int) := pj_nk ej0 (by omega)
  refine pj_G_s pj_np104 6 (show pj_gs 6 L 104 0 [pj_vR 38, pj_vI x1, pj_vI x2, pj_vI x3, pj_vU] [] M = some ([0 ≤ pj_nrm x1 ∧ pj_nrm x1 < (7 : Int)], 9, [pj_vR 38, pj_vI x1, pj_vI x2, pj_vI x3, pj_vI 0], [pj_vI (M 44 (pj_nrm x1).toNat)], M) from rfl) ⟨by omega, trivial⟩ ?_
  simp only [nj0, Int.toNat_natCast]
  have hX : pj_nrm (M 44 j0) = M 44 j0 := (pj_nrm_id r0.1 r0.2)
  by_cases z : M 44 j0 < 0 ∨ 4 < M 44 j0
  · refine pj_G_n (pc' := 105) (loc' := [pj_vR 38, pj_vI x1, pj_vI x2, pj_vI x3, pj_vI 0]) (stk' := []) (M' := M) pj_np104 rfl ?_ (pj_G_loc (pj_lle_e (pj_lle_e (pj_lle_e (pj_lle_e (pj_lle_u rfl pj_lle_nil))))) (kd z))
    show (if pj_nrm (M 44 j0) < 0 ∨ 4 < pj_nrm (M 44 j0) then _ else _) = _
    rw [hX, if_pos z]
    rfl
  · obtain w | w | w | w | w : M 44 j0 = 0 ∨ M 44 j0 = 1 ∨ M 44 j0 = 2 ∨ M 44 j0 = 3 ∨ M 44 j0 = 4 := by omega
    · refine pj_G_n (pc' := 44) (loc' := [pj_vR 38, pj_vI x1, pj_vI x2, pj_vI x3, pj_vI 0]) (stk' := []) (M' := M) pj_np104 rfl ?_ (pj_G_loc (pj_lle_e (pj_lle_e (pj_lle_e (pj_lle_e (pj_lle_u rfl pj_lle_nil))))) (k0 w))
      show (if pj_nrm (M 44 j0) < 0 ∨ 4 < pj_nrm (M 44 j0) then _ else _) = _
      rw [hX, if_neg z, w]
      rfl
    · refine pj_G_n (pc' := 52) (loc' := [pj_vR 38, pj_vI x1, pj_vI x2, pj_vI x3, pj_vI 0]) (stk' := []) (M' := M) pj_np104 rfl ?_ (pj_G_loc (pj_lle_e (pj_lle_e (pj_lle_e (pj_lle_e (pj_lle_u rfl pj_lle_nil))))) (k1 w))
      show (if pj_nrm (M 44 j0) < 0 ∨ 4 < pj_nrm (M 44 j0) then _ else _) = _
      rw [hX, if_neg z, w]
      rfl
    · refine pj_G_n (pc' := 60) (loc' := [pj_vR 38, pj_vI x1, pj_vI x2, pj_vI x3, pj_vI 0]) (stk' := []) (M' := M) pj_np104 rfl ?_ (pj_G_loc (pj_lle_e (pj_lle_e (pj_lle_e (pj_lle_e (pj_lle_u rfl pj_lle_nil))))) (k2 w))
      show (if pj_nrm (M 44 j0) < 0 ∨ 4 < pj_nrm (M 44 j0) then _ else _) = _
      rw [hX, if_neg z, w]
      rfl
    · refine pj_G_n (pc' := 75) (loc' := [pj_vR 38, pj_vI x1, pj_vI x2, pj_vI x3, pj_vI 0]) (stk' := []) (M' := M) pj_np104 rfl ?_ (pj_G_loc (pj_lle_e (pj_lle_e (pj_lle_e (pj_lle_e (pj_lle_u rfl pj_lle_nil))))) (k3 w))
      show (if pj_nrm (M 44 j0) < 0 ∨ 4 < pj_nrm (M 44 j0) then _ else _) = _
      rw [hX, if_neg z, w]
      rfl
    · refine pj_G_n (pc' := 90) (loc' := [pj_vR 38, pj_vI x1, pj_vI x2, pj_vI x3, pj_vI 0]) (stk' := []) (M' := M) pj_np104 rfl ?_ (pj_G_loc (pj_lle_e (pj_lle_e (pj_lle_e (pj_lle_e (pj_lle_u rfl pj_lle_nil))))) (k4 w))
      show (if pj_nrm (M 44 j0) < 0 ∨ 4 < pj_nrm (M 44 j0) then _ else _) = _
      rw [hX, if_neg z, w]
      rfl
theorem pj_C104_105 {L d : Nat} {Q : Option pj_V → pj_M → Prop} {M : pj_M} {x1 x2 x3 : Int} (j0 : Nat) (ej0 : ((9 * x1) + (3 * x2)) + x3 = (j0 : Int)) (bj0 : j0 < 63) (h : pj_G L d 104 122 [pj_vR 38, pj_vI x1, pj_vU, pj_vU, pj_vI (M 48 j0)] [] M Q) : pj_G L d 104 105 [pj_vR 38, pj_vI x1, pj_vI x2, pj_vI x3, pj_vU] [] M Q := by
  have nj0 : pj_nrm (((9 * x1) + (3 * x2)) + x3) = (j0 : Int) := pj_nk ej0 (by omega)
  refine pj_G_s pj_np104 13 (show pj_gs 13 L 104 105 [pj_vR 38, pj_vI x1, pj_vI x2, pj_vI x3, pj_vU] [] M = some ([0 ≤ pj_nrm (((9 * x1) + (3 * x2)) + x3) ∧ pj_nrm (((9 * x1) + (3 * x2)) + x3) < (63 : Int)], 122, [pj_vR 38, pj_vI x1, pj_vI x2, pj_vI x3, pj_vI (M 48 (pj_nrm (((9 * x1) + (3 * x2)) + x3)).toNat)], [], M) from rfl) ⟨by omega, trivial⟩ ?_
  simp only [nj0, Int.toNat_natCast]
  exact pj_G_loc (pj_lle_e (pj_lle_e (pj_lle_u rfl (pj_lle_u rfl (pj_lle_e pj_lle_nil))))) h
theorem pj_C104_122 {L d : Nat} {Q : Option pj_V → pj_M → Prop} {M : pj_M} {x1 x4 : Int} (j0 j1 : Nat) (ej0 : x1 = (j0 : Int)) (bj0 : j0 < 7) (ej1 : M 45 j0 = (j1 : Int)) (bj1 : j1 < 14) (z2 : pj_nrm (M 39 j1) ≠ 0) (h : Q (some (pj_vI (pj_rem x4 (M 39 j1)))) M) : pj_G L d 104 122 [pj_vR 38, pj_vI x1, pj_vU, pj_vU, pj_vI x4] [] M Q := by
  have nj0 : pj_nrm x1 = (j0 : Int) := pj_nk ej0 (by omega)
  have nj1 : pj_nrm (M 45 j0) = (j1 : Int) := pj_nk ej1 (by omega)
  refine pj_G_s pj_np104 9 (show pj_gs 9 L 104 122 [pj_vR 38, pj_vI x1, pj_vU, pj_vU, pj_vI x4] [] M = some ([0 ≤ pj_nrm x1 ∧ pj_nrm x1 < (7 : Int), 0 ≤ pj_nrm (M 45 (pj_nrm x1).toNat) ∧ pj_nrm (M 45 (pj_nrm x1).toNat) < (14 : Int), pj_nrm (M 39 (pj_nrm (M 45 (pj_nrm x1).toNat)).toNat) ≠ 0], 136, [pj_vR 38, pj_vI x1, pj_vU, pj_vU, pj_vI x4], [pj_vI (pj_rem x4 (M 39 (pj_nrm (M 45 (pj_nrm x1).toNat)).toNat))], M) from rfl) ⟨by omega, by simp only [nj0, nj1, Int.toNat_natCast]; omega, by simp only [nj0, nj1, Int.toNat_natCast]; omega, trivial⟩ ?_
  simp only [nj0, nj1, Int.toNat_natCast]
  exact pj_G_r rfl rfl rfl h
theorem pj_C104_90 {L d : Nat} {Q : Option pj_V → pj_M → Prop} {M : pj_M} {x1 x2 x3 : Int} (r0 : -2147483648 ≤ x2 ∧ x2 < 2147483648) (r1 : -2147483648 ≤ x3 ∧ x3 < 2147483648) (h1 : x2 ≠ x3 → pj_G L d 104 99 [pj_vR 38, pj_vI x1, pj_vU, pj_vU, pj_vU] [] M Q) (h2 : x2 = x3 → pj_G L d 104 95 [pj_vR 38, pj_vI x1, pj_vU, pj_vU, pj_vU] [] M Q) : pj_G L d 104 90 [pj_vR 38, pj_vI x1, pj_vI x2, pj_vI x3, pj_vU] [] M Q := by
  refine pj_G_s pj_np104 2 (show pj_gs 2 L 104 90 [pj_vR 38, pj_vI x1, pj_vI x2, pj_vI x3, pj_vU] [] M = some ([], 92, [pj_vR 38, pj_vI x1, pj_vI x2, pj_vI x3, pj_vU], [pj_vI x3, pj_vI x2], M) from rfl) trivial ?_
  exact pj_G_if (t := 99) rfl rfl (fun z => pj_G_loc (pj_lle_e (pj_lle_e (pj_lle_u rfl (pj_lle_u rfl (pj_lle_e pj_lle_nil))))) (h1 (pj_ct_ne (pj_nrm_id r0.1 r0.2) (pj_nrm_id r1.1 r1.2) z))) (fun z => pj_G_loc (pj_lle_e (pj_lle_e (pj_lle_u rfl (pj_lle_u rfl (pj_lle_e pj_lle_nil))))) (h2 (pj_cf_ne (pj_nrm_id r0.1 r0.2) (pj_nrm_id r1.1 r1.2) z)))
theorem pj_C104_95 {L d : Nat} {Q : Option pj_V → pj_M → Prop} {M : pj_M} {x1 : Int}  (h : pj_G L d 104 100 [pj_vR 38, pj_vI x1, pj_vU, pj_vU, pj_vU] [pj_vI 1] M Q) : pj_G L d 104 95 [pj_vR 38, pj_vI x1, pj_vU, pj_vU, pj_vU] [] M Q := by
  refine pj_G_s pj_np104 2 (show pj_gs 2 L 104 95 [pj_vR 38, pj_vI x1, pj_vU, pj_vU, pj_vU] [] M = some ([], 100, [pj_vR 38, pj_vI x1, pj_vU, pj_vU, pj_vU], [pj_vI 1], M) from rfl) trivial ?_
  exact h
theorem pj_C104_100 {L d : Nat} {Q : Option pj_V → pj_M → Prop} {M : pj_M} {x1 s0 : Int}  (h : pj_G L d 104 122 [pj_vR 38, pj_vI x1, pj_vU, pj_vU, pj_vI s0] [] M Q) : pj_G L d 104 100 [pj_vR 38, pj_vI x1, pj_vU, pj_vU, pj_vU] [pj_vI s0] M Q := by
  refine pj_G_s pj_np104 2 (show pj_gs 2 L 104 100 [pj_vR 38, pj_vI x1, pj_vU, pj_vU, pj_vU] [pj_vI s0] M = some ([], 122, [pj_vR 38, pj_vI x1, pj_vU, pj_vU, pj_vI s0], [], M) from rfl) trivial ?_
  exact h
theorem pj_C104_99 {L d : Nat} {Q : Option pj_V → pj_M → Prop} {M : pj_M} {x1 : Int}  (h : pj_G L d 104 100 [pj_vR 38, pj_vI x1, pj_vU, pj_vU, pj_vU] [pj_vI 0] M Q) : pj_G L d 104 99 [pj_vR 38, pj_vI x1, pj_vU, pj_vU, pj_vU] [] M Q := by
  refine pj_G_s pj_np104 1 (show pj_gs 1 L 104 99 [pj_vR 38, pj_vI x1, pj_vU, pj_vU, pj_vU] [] M = some ([], 100, [pj_vR 38, pj_vI x1, pj_vU, pj_vU, pj_vU], [pj_vI 0], M) from rfl) trivial ?_
  exact h
theorem pj_C104_75 {L d : Nat} {Q : Option pj_V → pj_M → Prop} {M : pj_M} {x1 x2 x3 : Int} (r0 : -2147483648 ≤ x2 ∧ x2 < 2147483648) (r1 : -2147483648 ≤ x3 ∧ x3 < 2147483648) (h1 : x3 ≤ x2 → pj_G L d 104 84 [pj_vR 38, pj_vI x1, pj_vU, pj_vI x3, pj_vU] [] M Q) (h2 : x2 < x3 → pj_G L d 104 80 [pj_vR 38, pj_vI x1, pj_vI x2, pj_vU, pj_vU] [] M Q) : pj_G L d 104 75 [pj_vR 38, pj_vI x1, pj_vI x2, pj_vI x3, pj_vU] [] M Q := by
  refine pj_G_s pj_np104 2 (show pj_gs 2 L 104 75 [pj_vR 38, pj_vI x1, pj_vI x2, pj_vI x3, pj_vU] [] M = some ([], 77, [pj_vR 38, pj_vI x1, pj_vI x2, pj_vI x3, pj_vU], [pj_vI x3, pj_vI x2], M) from rfl) trivial ?_
  exact pj_G_if (t := 84) rfl rfl (fun z => pj_G_loc (pj_lle_e (pj_lle_e (pj_lle_u rfl (pj_lle_e (pj_lle_e pj_lle_nil))))) (h1 (pj_ct_ge (pj_nrm_id r0.1 r0.2) (pj_nrm_id r1.1 r1.2) z))) (fun z => pj_G_loc (pj_lle_e (pj_lle_e (pj_lle_e (pj_lle_u rfl (pj_lle_e pj_lle_nil))))) (h2 (pj_cf_ge (pj_nrm_id r0.1 r0.2) (pj_nrm_id r1.1 r1.2) z)))
theorem pj_C104_80 {L d : Nat} {Q : Option pj_V → pj_M → Prop} {M : pj_M} {x1 x2 : Int}  (h : pj_G L d 104 85 [pj_vR 38, pj_vI x1, pj_vU, pj_vU, pj_vU] [pj_vI x2] M Q) : pj_G L d 104 80 [pj_vR 38, pj_vI x1, pj_vI x2, pj_vU, pj_vU] [] M Q := by
  refine pj_G_s pj_np104 2 (show pj_gs 2 L 104 80 [pj_vR 38, pj_vI x1, pj_vI x2, pj_vU, pj_vU] [] M = some ([], 85, [pj_vR 38, pj_vI x1, pj_vI x2, pj_vU, pj_vU], [pj_vI x2], M) from rfl) trivial ?_
  exact pj_G_loc (pj_lle_e (pj_lle_e (pj_lle_u rfl (pj_lle_e (pj_lle_e pj_lle_nil))))) h
theorem pj_C104_85 {L d : Nat} {Q : Option pj_V → pj_M → Prop} {M : pj_M} {x1 s0 : Int}  (h : pj_G L d 104 122 [pj_vR 38, pj_vI x1, pj_vU, pj_vU, pj_vI s0] [] M Q) : pj_G L d 104 85 [pj_vR 38, pj_vI x1, pj_vU, pj_vU, pj_vU] [pj_vI s0] M Q := by
  refine pj_G_s pj_np104 2 (show pj_gs 2 L 104 85 [pj_vR 38, pj_vI x1, pj_vU, pj_vU, pj_vU] [pj_vI s0] M = some ([], 122, [pj_vR 38, pj_vI x1, pj_vU, pj_vU, pj_vI s0], [], M) from rfl) trivial ?_
  exact h
theorem pj_C104_84 {L d : Nat} {Q : Option pj_V → pj_M → Prop} {M : pj_M} {x1 x3 : Int}  (h : pj_G L d 104 85 [pj_vR 38, pj_vI x1, pj_vU, pj_vU, pj_vU] [pj_vI x3] M Q) : pj_G L d 104 84 [pj_vR 38, pj_vI x1, pj_vU, pj_vI x3, pj_vU] [] M Q := by
  refine pj_G_s pj_np104 1 (show pj_gs 1 L 104 84 [pj_vR 38, pj_vI x1, pj_vU, pj_vI x3, pj_vU] [] M = some ([], 85, [pj_vR 38, pj_vI x1, pj_vU, pj_vI x3, pj_vU], [pj_vI x3], M) from rfl) trivial ?_
  exact pj_G_loc (pj_lle_e (pj_lle_e (pj_lle_e (pj_lle_u rfl (pj_lle_e pj_lle_nil))))) h
theorem pj_C104_60 {L d : Nat} {Q : Option pj_V → pj_M → Prop} {M : pj_M} {x1 x2 x3 : Int} (r0 : -2147483648 ≤ x2 ∧ x2 < 2147483648) (r1 : -2147483648 ≤ x3 ∧ x3 < 2147483648) (h1 : x2 ≤ x3 → pj_G L d 104 69 [pj_vR 38, pj_vI x1, pj_vU, pj_vI x3, pj_vU] [] M Q) (h2 : x3 < x2 → pj_G L d 104 65 [pj_vR 38, pj_vI x1, pj_vI x2, pj_vU, pj_vU] [] M Q) : pj_G L d 104 60 [pj_vR 38, pj_vI x1, pj_vI x2, pj_vI x3, pj_vU] [] M Q := by
  refine pj_G_s pj_np104 2 (show pj_gs 2 L 104 60 [pj_vR 38, pj_vI x1, pj_vI x2, pj_vI x3, pj_vU] [] M = some ([], 62, [pj_vR 38, pj_vI x1, pj_vI x2, pj_vI x3, pj_vU], [pj_vI x3, pj_vI x2], M) from rfl) trivial ?_
  exact pj_G_if (t := 69) rfl rfl (fun z => pj_G_loc (pj_lle_e (pj_lle_e (pj_lle_u rfl (pj_lle_e (pj_lle_e pj_lle_nil))))) (h1 (pj_ct_le (pj_nrm_id r0.1 r0.2) (pj_nrm_id r1.1 r1.2) z))) (fun z => pj_G_loc (pj_lle_e (pj_lle_e (pj_lle_e (pj_lle_u rfl (pj_lle_e pj_lle_nil))))) (h2 (pj_cf_le (pj_nrm_id r0.1 r0.2) (pj_nrm_id r1.1 r1.2) z)))
theorem pj_C104_65 {L d : Nat} {Q : Option pj_V → pj_M → Prop} {M : pj_M} {x1 x2 : Int}  (h : pj_G L d 104 70 [pj_vR 38, pj_vI x1, pj_vU, pj_vU, pj_vU] [pj_vI x2] M Q) : pj_G L d 104 65 [pj_vR 38, pj_vI x1, pj_vI x2, pj_vU, pj_vU] [] M Q := by
  refine pj_G_s pj_np104 2 (show pj_gs 2 L 104 65 [pj_vR 38, pj_vI x1, pj_vI x2, pj_vU, pj_vU] [] M = some ([], 70, [pj_vR 38, pj_vI x1, pj_vI x2, pj_vU, pj_vU], [pj_vI x2], M) from rfl) trivial ?_
  exact pj_G_loc (pj_lle_e (pj_lle_e (pj_lle_u rfl (pj_lle_e (pj_lle_e pj_lle_nil))))) h
theorem pj_C104_70 {L d : Nat} {Q : Option pj_V → pj_M → Prop} {M : pj_M} {x1 s0 : Int}  (h : pj_G L d 104 122 [pj_vR 38, pj_vI x1, pj_vU, pj_vU, pj_vI s0] [] M Q) : pj_G L d 104 70 [pj_vR 38, pj_vI x1, pj_vU, pj_vU, pj_vU] [pj_vI s0] M Q := by
  refine pj_G_s pj_np104 2 (show pj_gs 2 L 104 70 [pj_vR 38, pj_vI x1, pj_vU, pj_vU, pj_vU] [pj_vI s0] M = some ([], 122, [pj_vR 38, pj_vI x1, pj_vU, pj_vU, pj_vI s0], [], M) from rfl) trivial ?_
  exact h
theorem pj_C104_69 {L d : Nat} {Q : Option pj_V → pj_M → Prop} {M : pj_M} {x1 x3 : Int}  (h : pj_G L d 104 70 [pj_vR 38, pj_vI x1, pj_vU, pj_vU, pj_vU] [pj_vI x3] M Q) : pj_G L d 104 69 [pj_vR 38, pj_vI x1, pj_vU, pj_vI x3, pj_vU] [] M Q := by
  refine pj_G_s pj_np104 1 (show pj_gs 1 L 104 69 [pj_vR 38, pj_vI x1, pj_vU, pj_vI x3, pj_vU] [] M = some ([], 70, [pj_vR 38, pj_vI x1, pj_vU, pj_vI x3, pj_vU], [pj_vI x3], M) from rfl) trivial ?_
  exact pj_G_loc (pj_lle_e (pj_lle_e (pj_lle_e (pj_lle_u rfl (pj_lle_e pj_lle_nil))))) h
theorem pj_C104_52 {L d : Nat} {Q : Option pj_V → pj_M → Prop} {M : pj_M} {x1 x2 x3 : Int}  (h : pj_G L d 104 122 [pj_vR 38, pj_vI x1, pj_vU, pj_vU, pj_vI (x2 * x3)] [] M Q) : pj_G L d 104 52 [pj_vR 38, pj_vI x1, pj_vI x2, pj_vI x3, pj_vU] [] M Q := by
  refine pj_G_s pj_np104 5 (show pj_gs 5 L 104 52 [pj_vR 38, pj_vI x1, pj_vI x2, pj_vI x3, pj_vU] [] M = some ([], 122, [pj_vR 38, pj_vI x1, pj_vI x2, pj_vI x3, pj_vI (x2 * x3)], [], M) from rfl) trivial ?_
  exact pj_G_loc (pj_lle_e (pj_lle_e (pj_lle_u rfl (pj_lle_u rfl (pj_lle_e pj_lle_nil))))) h
theorem pj_C104_44 {L d : Nat} {Q : Option pj_V → pj_M → Prop} {M : pj_M} {x1 x2 x3 : Int}  (h : pj_G L d 104 122 [pj_vR 38, pj_vI x1, pj_vU, pj_vU, pj_vI (x2 + x3)] [] M Q) : pj_G L d 104 44 [pj_vR 38, pj_vI x1, pj_vI x2, pj_vI x3, pj_vU] [] M Q := by
  refine pj_G_s pj_np104 5 (show pj_gs 5 L 104 44 [pj_vR 38, pj_vI x1, pj_vI x2, pj_vI x3, pj_vU] [] M = some ([], 122, [pj_vR 38, pj_vI x1, pj_vI x2, pj_vI x3, pj_vI (x2 + x3)], [], M) from rfl) trivial ?_
  exact pj_G_loc (pj_lle_e (pj_lle_e (pj_lle_u rfl (pj_lle_u rfl (pj_lle_e pj_lle_nil))))) h
theorem pj_C105_0 {L d : Nat} {Q : Option pj_V → pj_M → Prop} {M : pj_M} {x1 x2 : Int} (j0 j1 : Nat) (ej0 : x1 = (j0 : Int)) (bj0 : j0 < 7) (ej1 : M 45 j0 = (j1 : Int)) (bj1 : j1 < 14) (r0 : -2147483648 ≤ M 43 j0 ∧ M 43 j0 < 2147483648) (h1 : M 43 j0 ≠ (3 : Int) → pj_G L d 105 34 [pj_vR 38, pj_vI x1, pj_vI x2, pj_vI (M 39 j1), pj_vU] [] M Q) (h2 : M 43 j0 = (3 : Int) → pj_G L d 105 22 [pj_vR 38, pj_vI x1, pj_vU, pj_vI (M 39 j1), pj_vU] [] M Q) : pj_G L d 105 0 [pj_vR 38, pj_vI x1, pj_vI x2, pj_vU, pj_vU] [] M Q := by
  have nj0 : pj_nrm x1 = (j0 : Int) := pj_nk ej0 (by omega)
  have nj1 : pj_nrm (M 45 j0) = (j1 : Int) := pj_nk ej1 (by omega)
  refine pj_G_s pj_np105 13 (show pj_gs 13 L 105 0 [pj_vR 38, pj_vI x1, pj_vI x2, pj_vU, pj_vU] [] M = some ([0 ≤ pj_nrm x1 ∧ pj_nrm x1 < (7 : Int), 0 ≤ pj_nrm (M 45 (pj_nrm x1).toNat) ∧ pj_nrm (M 45 (pj_nrm x1).toNat) < (14 : Int), 0 ≤ pj_nrm x1 ∧ pj_nrm x1 < (7 : Int)], 19, [pj_vR 38, pj_vI x1, pj_vI x2, pj_vI (M 39 (pj_nrm (M 45 (pj_nrm x1).toNat)).toNat), pj_vU], [pj_vI 3, pj_vI (M 43 (pj_nrm x1).toNat)], M) from rfl) ⟨by omega, by simp only [nj0, nj1, Int.toNat_natCast]; omega, by omega, trivial⟩ ?_
  simp only [nj0, nj1, Int.toNat_natCast]
  exact pj_G_if (t := 34) rfl rfl (fun z => h1 (pj_ct_ne (pj_nrm_id r0.1 r0.2) (pj_nrm_id (by omega) (by omega)) z)) (fun z => pj_G_loc (pj_lle_e (pj_lle_e (pj_lle_u rfl (pj_lle_e (pj_lle_e pj_lle_nil))))) (h2 (pj_cf_ne (pj_nrm_id r0.1 r0.2) (pj_nrm_id (by omega) (by omega)) z)))
theorem pj_C105_22 {L d : Nat} {Q : Option pj_V → pj_M → Prop} {M : pj_M} {x1 x3 : Int} (j0 : Nat) (ej0 : 9 * x1 = (j0 : Int)) (bj0 : j0 < 63) (z1 : pj_nrm x3 ≠ 0) (h : Q (some (pj_vI (pj_rem (M 48 j0) x3))) M) : pj_G L d 105 22 [pj_vR 38, pj_vI x1, pj_vU, pj_vI x3, pj_vU] [] M Q := by
  have nj0 : pj_nrm (9 * x1) = (j0 : Int) := pj_nk ej0 (by omega)
  refine pj_G_s pj_np105 8 (show pj_gs 8 L 105 22 [pj_vR 38, pj_vI x1, pj_vU, pj_vI x3, pj_vU] [] M = some ([0 ≤ pj_nrm (9 * x1) ∧ pj_nrm (9 * x1) < (63 : Int), pj_nrm x3 ≠ 0], 33, [pj_vR 38, pj_vI x1, pj_vU, pj_vI x3, pj_vU], [pj_vI (pj_rem (M 48 (pj_nrm (9 * x1)).toNat) x3)], M) from rfl) ⟨by omega, by omega, trivial⟩ ?_
  simp only [nj0, Int.toNat_natCast]
  exact pj_G_r rfl rfl rfl h
theorem pj_C105_34 {L d : Nat} {Q : Option pj_V → pj_M → Prop} {M : pj_M} {x1 x2 x3 : Int} (j0 : Nat) (ej0 : x1 = (j0 : Int)) (bj0 : j0 < 7) (r0 : -2147483648 ≤ M 43 j0 ∧ M 43 j0 < 2147483648) (h1 : M 43 j0 ≠ (4 : Int) → pj_G L d 105 58 [pj_vR 38, pj_vI x1, pj_vI x2, pj_vU, pj_vU] [] M Q) (h2 : M 43 j0 = (4 : Int) → pj_G L d 105 44 [pj_vR 38, pj_vI x1, pj_vU, pj_vI x3, pj_vU] [] M Q) : pj_G L d 105 34 [pj_vR 38, pj_vI x1, pj_vI x2, pj_vI x3, pj_vU] [] M Q := by
  have nj0 : pj_nrm x1 = (j0 : Int) := pj_nk ej0 (by omega)
  refine pj_G_s pj_np105 5 (show pj_gs 5 L 105 34 [pj_vR 38, pj_vI x1, pj_vI x2, pj_vI x3, pj_vU] [] M = some ([0 ≤ pj_nrm x1 ∧ pj_nrm x1 < (7 : Int)], 41, [pj_vR 38, pj_vI x1, pj_vI x2, pj_vI x3, pj_vU], [pj_vI 4, pj_vI (M 43 (pj_nrm x1).toNat)], M) from rfl) ⟨by omega, trivial⟩ ?_
  simp only [nj0, Int.toNat_natCast]
  exact pj_G_if (t := 58) rfl rfl (fun z => pj_G_loc (pj_lle_e (pj_lle_e (pj_lle_e (pj_lle_u rfl (pj_lle_e pj_lle_nil))))) (h1 (pj_ct_ne (pj_nrm_id r0.1 r0.2) (pj_nrm_id (by omega) (by omega)) z))) (fun z => pj_G_loc (pj_lle_e (pj_lle_e (pj_lle_u rfl (pj_lle_e (pj_lle_e pj_lle_nil))))) (h2 (pj_cf_ne (pj_nrm_id r0.1 r0.2) (pj_nrm_id (by omega) (by omega)) z)))
theorem pj_C105_44 {L d : Nat} {Q : Option pj_V → pj_M → Prop} {M : pj_M} {x1 x3 : Int} (j0 j1 : Nat) (ej0 : x1 = (j0 : Int)) (bj0 : j0 < 7) (ej1 : M 46 j0 = (j1 : Int)) (bj1 : j1 < 14) (z2 : pj_nrm x3 ≠ 0) (h : Q (some (pj_vI (pj_rem (M 59 j1) x3))) M) : pj_G L d 105 44 [pj_vR 38, pj_vI x1, pj_vU, pj_vI x3, pj_vU] [] M Q := by
  have nj0 : pj_nrm x1 = (j0 : Int) := pj_nk ej0 (by omega)
  have nj1 : pj_nrm (M 46 j0) = (j1 : Int) := pj_nk ej1 (by omega)
  refine pj_G_s pj_np105 9 (show pj_gs 9 L 105 44 [pj_vR 38, pj_vI x1, pj_vU, pj_vI x3, pj_vU] [] M = some ([0 ≤ pj_nrm x1 ∧ pj_nrm x1 < (7 : Int), 0 ≤ pj_nrm (M 46 (pj_nrm x1).toNat) ∧ pj_nrm (M 46 (pj_nrm x1).toNat) < (14 : Int), pj_nrm x3 ≠ 0], 57, [pj_vR 38, pj_vI x1, pj_vU, pj_vI x3, pj_vU], [pj_vI (pj_rem (M 59 (pj_nrm (M 46 (pj_nrm x1).toNat)).toNat) x3)], M) from rfl) ⟨by omega, by simp only [nj0, nj1, Int.toNat_natCast]; omega, by omega, trivial⟩ ?_
  simp only [nj0, nj1, Int.toNat_natCast]
  exact pj_G_r rfl rfl rfl h
theorem pj_C105_58 {L d : Nat} {Q : Option pj_V → pj_M → Prop} {M : pj_M} {x1 x2 : Int} (j0 : Nat) (ej0 : x1 = (j0 : Int)) (bj0 : j0 < 7) (r0 : -2147483648 ≤ M 43 j0 ∧ M 43 j0 < 2147483648) (h1 : M 43 j0 = (2 : Int) → pj_G L d 105 96 [pj_vR 38, pj_vI x1, pj_vI x2, pj_vU, pj_vU] [] M Q) (h2 : M 43 j0 ≠ (2 : Int) → pj_G L d 105 68 [pj_vR 38, pj_vI x1, pj_vU, pj_vU, pj_vU] [] M Q) : pj_G L d 105 58 [pj_vR 38, pj_vI x1, pj_vI x2, pj_vU, pj_vU] [] M Q := by
  have nj0 : pj_nrm x1 = (j0 : Int) := pj_nk ej0 (by omega)
  refine pj_G_s pj_np105 5 (show pj_gs 5 L 105 58 [pj_vR 38, pj_vI x1, pj_vI x2, pj_vU, pj_vU] [] M = some ([0 ≤ pj_nrm x1 ∧ pj_nrm x1 < (7 : Int)], 65, [pj_vR 38, pj_vI x1, pj_vI x2, pj_vU, pj_vU], [pj_vI 2, pj_vI (M 43 (pj_nrm x1).toNat)], M) from rfl) ⟨by omega, trivial⟩ ?_
  simp only [nj0, Int.toNat_natCast]
  exact pj_G_if (t := 96) rfl rfl (fun z => h1 (pj_ct_eq (pj_nrm_id r0.1 r0.2) (pj_nrm_id (by omega) (by omega)) z)) (fun z => pj_G_loc (pj_lle_e (pj_lle_e (pj_lle_u rfl (pj_lle_e (pj_lle_e pj_lle_nil))))) (h2 (pj_cf_eq (pj_nrm_id r0.1 r0.2) (pj_nrm_id (by omega) (by omega)) z)))
theorem pj_C105_68 {L d : Nat} {Q : Option pj_V → pj_M → Prop} {M : pj_M} {x1 : Int} (j0 j1 j2 : Nat) (ej0 : x1 = (j0 : Int)) (bj0 : j0 < 7) (ej1 : M 46 j0 = (j1 : Int)) (bj1 : j1 < 14) (ej2 : M 47 j0 = (j2 : Int)) (bj2 : j2 < 14) (h : pj_G L d 104 0 [pj_vR 38, pj_vI x1, pj_vI (M 59 j1), pj_vI (M 59 j2), pj_vU] [] M (fun r M1 => pj_G L (d + 1) 105 95 [pj_vU, pj_vU, pj_vU, pj_vU, pj_vU] (r.toList ++ []) M1 Q)) : pj_G L (d + 1) 105 68 [pj_vR 38, pj_vI x1, pj_vU, pj_vU, pj_vU] [] M Q := by
  have nj0 : pj_nrm x1 = (j0 : Int) := pj_nk ej0 (by omega)
  have nj1 : pj_nrm (M 46 j0) = (j1 : Int) := pj_nk ej1 (by omega)
  have nj2 : pj_nrm (M 47 j0) = (j2 : Int) := pj_nk ej2 (by omega)
  refine pj_G_s (d := d + 1) pj_np105 16 (show pj_gs 16 L 105 68 [pj_vR 38, pj_vI x1, pj_vU, pj_vU, pj_vU] [] M = some ([0 ≤ pj_nrm x1 ∧ pj_nrm x1 < (7 : Int), 0 ≤ pj_nrm (M 46 (pj_nrm x1).toNat) ∧ pj_nrm (M 46 (pj_nrm x1).toNat) < (14 : Int), 0 ≤ pj_nrm x1 ∧ pj_nrm x1 < (7 : Int), 0 ≤ pj_nrm (M 47 (pj_nrm x1).toNat) ∧ pj_nrm (M 47 (pj_nrm x1).toNat) < (14 : Int)], 92, [pj_vR 38, pj_vI x1, pj_vU, pj_vU, pj_vU], [pj_vI (M 59 (pj_nrm (M 47 (pj_nrm x1).toNat)).toNat), pj_vI (M 59 (pj_nrm (M 46 (pj_nrm x1).toNat)).toNat), pj_vI x1, pj_vR 38], M) from rfl) ⟨by omega, by simp only [nj0, nj1, nj2, Int.toNat_natCast]; omega, by omega, by simp only [nj0, nj1, nj2, Int.toNat_natCast]; omega, trivial⟩ ?_
  simp only [nj0, nj1, nj2, Int.toNat_natCast]
  exact pj_G_k (j := 104) (vs := [pj_vR 38, pj_vI x1, pj_vI (M 59 j1), pj_vI (M 59 j2)]) (st := []) rfl rfl rfl rfl rfl (Nat.le_of_ble_eq_true rfl) pj_nc104 (pj_G.mono h (fun _ _ hh => pj_G_loc (pj_lle_u rfl (pj_lle_u rfl (pj_lle_e (pj_lle_e (pj_lle_e pj_lle_nil))))) hh))
theorem pj_C105_95 {L d : Nat} {Q : Option pj_V → pj_M → Prop} {M : pj_M} {s0 : Int}  (h : Q (some (pj_vI s0)) M) : pj_G L d 105 95 [pj_vU, pj_vU, pj_vU, pj_vU, pj_vU] [pj_vI s0] M Q := by
  exact pj_G_r rfl rfl rfl h
theorem pj_C105_96 {L d : Nat} {Q : Option pj_V → pj_M → Prop} {M : pj_M} {x1 x2 : Int} (r0 : -2147483648 ≤ x1 ∧ x1 < 2147483648) (r1 : -2147483648 ≤ M 51 0 ∧ M 51 0 < 2147483648) (h1 : x1 ≠ M 51 0 → pj_G L d 105 110 [pj_vR 38, pj_vI x1, pj_vI x2, pj_vU, pj_vU] [] M Q) (h2 : x1 = M 51 0 → pj_G L d 105 106 [pj_vR 38, pj_vI x1, pj_vI x2, pj_vU, pj_vU] [] M Q) : pj_G L d 105 96 [pj_vR 38, pj_vI x1, pj_vI x2, pj_vU, pj_vU] [] M Q := by
  refine pj_G_s pj_np105 5 (show pj_gs 5 L 105 96 [pj_vR 38, pj_vI x1, pj_vI x2, pj_vU, pj_vU] [] M = some ([0 ≤ (0 : Int) ∧ (0 : Int) < (2 : Int)], 103, [pj_vR 38, pj_vI x1, pj_vI x2, pj_vU, pj_vU], [pj_vI (M 51 0), pj_vI x1], M) from rfl) ⟨by decide, trivial⟩ ?_
  exact pj_G_if (t := 110) rfl rfl (fun z => h1 (pj_ct_ne (pj_nrm_id r0.1 r0.2) (pj_nrm_id r1.1 r1.2) z)) (fun z => h2 (pj_cf_ne (pj_nrm_id r0.1 r0.2) (pj_nrm_id r1.1 r1.2) z))
theorem pj_C105_106 {L d : Nat} {Q : Option pj_V → pj_M → Prop} {M : pj_M} {x1 x2 : Int}  (h : pj_G L d 105 111 [pj_vR 38, pj_vI x1, pj_vI x2, pj_vU, pj_vU] [pj_vI 0] M Q) : pj_G L d 105 106 [pj_vR 38, pj_vI x1, pj_vI x2, pj_vU, pj_vU] [] M Q := by
  refine pj_G_s pj_np105 2 (show pj_gs 2 L 105 106 [pj_vR 38, pj_vI x1, pj_vI x2, pj_vU, pj_vU] [] M = some ([], 111, [pj_vR 38, pj_vI x1, pj_vI x2, pj_vU, pj_vU], [pj_vI 0], M) from rfl) trivial ?_
  exact h
theorem pj_C105_111 {L d : Nat} {Q : Option pj_V → pj_M → Prop} {M : pj_M} {x1 x2 s0 : Int} (r0 : -2147483648 ≤ x2 ∧ x2 < 2147483648) (h1 : x2 ≠ 0 → pj_G L d 105 121 [pj_vR 38, pj_vI x1, pj_vU, pj_vU, pj_vI s0] [] M Q) (h2 : x2 = 0 → pj_G L d 105 117 [pj_vU, pj_vU, pj_vU, pj_vU, pj_vU] [] M Q) : pj_G L d 105 111 [pj_vR 38, pj_vI x1, pj_vI x2, pj_vU, pj_vU] [pj_vI s0] M Q := by
  refine pj_G_s pj_np105 2 (show pj_gs 2 L 105 111 [pj_vR 38, pj_vI x1, pj_vI x2, pj_vU, pj_vU] [pj_vI s0] M = some ([], 114, [pj_vR 38, pj_vI x1, pj_vI x2, pj_vU, pj_vI s0], [pj_vI x2], M) from rfl) trivial ?_
  exact pj_G_if0 (t := 121) rfl rfl (fun z => pj_G_loc (pj_lle_e (pj_lle_e (pj_lle_u rfl (pj_lle_e (pj_lle_e pj_lle_nil))))) (h1 (pj_ct_ne (pj_nrm_id r0.1 r0.2) rfl z))) (fun z => pj_G_loc (pj_lle_u rfl (pj_lle_u rfl (pj_lle_u rfl (pj_lle_e (pj_lle_u rfl pj_lle_nil))))) (h2 (pj_cf_ne (pj_nrm_id r0.1 r0.2) rfl z)))
theorem pj_C105_117 {L d : Nat} {Q : Option pj_V → pj_M → Prop} {M : pj_M}  (h : pj_G L d 105 146 [pj_vU, pj_vU, pj_vU, pj_vU, pj_vU] [pj_vI 0] M Q) : pj_G L d 105 117 [pj_vU, pj_vU, pj_vU, pj_vU, pj_vU] [] M Q := by
  refine pj_G_s pj_np105 2 (show pj_gs 2 L 105 117 [pj_vU, pj_vU, pj_vU, pj_vU, pj_vU] [] M = some ([], 146, [pj_vU, pj_vU, pj_vU, pj_vU, pj_vU], [pj_vI 0], M) from rfl) trivial ?_
  exact h
theorem pj_C105_146 {L d : Nat} {Q : Option pj_V → pj_M → Prop} {M : pj_M} {s0 : Int}  (h : Q (some (pj_vI s0)) M) : pj_G L d 105 146 [pj_vU, pj_vU, pj_vU, pj_vU, pj_vU] [pj_vI s0] M Q := by
  exact pj_G_r rfl rfl rfl h
theorem pj_C105_121 {L d : Nat} {Q : Option pj_V → pj_M → Prop} {M : pj_M} {x1 x4 : Int} (j0 j1 : Nat) (ej0 : 2 * x4 = (j0 : Int)) (bj0 : j0 < 4) (ej1 : (2 * x4) + 1 = (j1 : Int)) (bj1 : j1 < 4) (h : pj_G L d 104 0 [pj_vR 38, pj_vI x1, pj_vI (M 60 j0), pj_vI (M 60 j1), pj_vU] [] M (fun r M1 => pj_G L (d + 1) 105 146 [pj_vU, pj_vU, pj_vU, pj_vU, pj_vU] (r.toList ++ []) M1 Q)) : pj_G L (d + 1) 105 121 [pj_vR 38, pj_vI x1, pj_vU, pj_vU, pj_vI x4] [] M Q := by
  have nj0 : pj_nrm (2 * x4) = (j0 : Int) := pj_nk ej0 (by omega)
  have nj1 : pj_nrm ((2 * x4) + 1) = (j1 : Int) := pj_nk ej1 (by omega)
  refine pj_G_s (d := d + 1) pj_np105 16 (show pj_gs 16 L 105 121 [pj_vR 38, pj_vI x1, pj_vU, pj_vU, pj_vI x4] [] M = some ([0 ≤ pj_nrm (2 * x4) ∧ pj_nrm (2 * x4) < (4 : Int), 0 ≤ pj_nrm ((2 * x4) + 1) ∧ pj_nrm ((2 * x4) + 1) < (4 : Int)], 143, [pj_vR 38, pj_vI x1, pj_vU, pj_vU, pj_vI x4], [pj_vI (M 60 (pj_nrm ((2 * x4) + 1)).toNat), pj_vI (M 60 (pj_nrm (2 * x4)).toNat), pj_vI x1, pj_vR 38], M) from rfl) ⟨by omega, by omega, trivial⟩ ?_
  simp only [nj0, nj1, Int.toNat_natCast]
  exact pj_G_k (j := 104) (vs := [pj_vR 38, pj_vI x1, pj_vI (M 60 j0), pj_vI (M 60 j1)]) (st := []) rfl rfl rfl rfl rfl (Nat.le_of_ble_eq_true rfl) pj_nc104 (pj_G.mono h (fun _ _ hh => pj_G_loc (pj_lle_u rfl (pj_lle_u rfl (pj_lle_e (pj_lle_e (pj_lle_u rfl pj_lle_nil))))) hh))
theorem pj_C105_110 {L d : Nat} {Q : Option pj_V → pj_M → Prop} {M : pj_M} {x1 x2 : Int}  (h : pj_G L d 105 111 [pj_vR 38, pj_vI x1, pj_vI x2, pj_vU, pj_vU] [pj_vI 1] M Q) : pj_G L d 105 110 [pj_vR 38, pj_vI x1, pj_vI x2, pj_vU, pj_vU] [] M Q := by
  refine pj_G_s pj_np105 1 (show pj_gs 1 L 105 110 [pj_vR 38, pj_vI x1, pj_vI x2, pj_vU, pj_vU] [] M = some ([], 111, [pj_vR 38, pj_vI x1, pj_vI x2, pj_vU, pj_vU], [pj_vI 1], M) from rfl) trivial ?_
  exact h
theorem pj_C106_0 {L d : Nat} {Q : Option pj_V → pj_M → Prop} {M : pj_M} {x1 x2 : Int} (j0 : Nat) (ej0 : x1 = (j0 : Int)) (bj0 : j0 < 32) (h1 : pj_bt (M 38 23) j0 = false → pj_G L d 106 19 [pj_vR 38, pj_vI x1, pj_vI x2, pj_vU, pj_vU] [] M Q) (h2 : pj_bt (M 38 23) j0 = true → pj_G L d 106 12 [pj_vR 38, pj_vI x1, pj_vU, pj_vU, pj_vU] [] M Q) : pj_G L d 106 0 [pj_vR 38, pj_vI x1, pj_vI x2, pj_vU, pj_vU] [] M Q := by
  have nj0 : pj_nrm x1 = (j0 : Int) := pj_nk ej0 (by omega)
  refine pj_G_s pj_np106 7 (show pj_gs 7 L 106 0 [pj_vR 38, pj_vI x1, pj_vI x2, pj_vU, pj_vU] [] M = some ([], 9, [pj_vR 38, pj_vI x1, pj_vI x2, pj_vU, pj_vU], [pj_vI 1, pj_vI (pj_and (pj_shr (M 38 23) x1) 1)], M) from rfl) trivial ?_
  exact pj_G_if (t := 19) rfl rfl (fun z => h1 (pj_ine1 (pj_ct_ne (pj_tst ej0 (by omega)) (pj_nrm_id (by omega) (by omega)) z))) (fun z => pj_G_loc (pj_lle_e (pj_lle_e (pj_lle_u rfl (pj_lle_e (pj_lle_e pj_lle_nil))))) (h2 (pj_ieq1 (pj_cf_ne (pj_tst ej0 (by omega)) (pj_nrm_id (by omega) (by omega)) z))))
theorem pj_C106_12 {L d : Nat} {Q : Option pj_V → pj_M → Prop} {M : pj_M} {x1 : Int} (j0 : Nat) (ej0 : x1 = (j0 : Int)) (bj0 : j0 < 7) (h : Q (some (pj_vI (M 57 j0))) M) : pj_G L d 106 12 [pj_vR 38, pj_vI x1, pj_vU, pj_vU, pj_vU] [] M Q := by
  have nj0 : pj_nrm x1 = (j0 : Int) := pj_nk ej0 (by omega)
  refine pj_G_s pj_np106 4 (show pj_gs 4 L 106 12 [pj_vR 38, pj_vI x1, pj_vU, pj_vU, pj_vU] [] M = some ([0 ≤ pj_nrm x1 ∧ pj_nrm x1 < (7 : Int)], 18, [pj_vR 38, pj_vI x1, pj_vU, pj_vU, pj_vU], [pj_vI (M 57 (pj_nrm x1).toNat)], M) from rfl) ⟨by omega, trivial⟩ ?_
  simp only [nj0, Int.toNat_natCast]
  exact pj_G_r rfl rfl rfl h
theorem pj_C106_19 {L d : Nat} {Q : Option pj_V → pj_M → Prop} {M : pj_M} {x1 x2 : Int}  (h : pj_G L d 105 0 [pj_vR 38, pj_vI x1, pj_vI x2, pj_vU, pj_vU] [] M (fun r M1 => pj_G L (d + 1) 106 25 [pj_vR 38, pj_vI x1, pj_vU, pj_vU, pj_vU] (r.toList ++ []) M1 Q)) : pj_G L (d + 1) 106 19 [pj_vR 38, pj_vI x1, pj_vI x2, pj_vU, pj_vU] [] M Q := by
  refine pj_G_s (d := d + 1) pj_np106 3 (show pj_gs 3 L 106 19 [pj_vR 38, pj_vI x1, pj_vI x2, pj_vU, pj_vU] [] M = some ([], 22, [pj_vR 38, pj_vI x1, pj_vI x2, pj_vU, pj_vU], [pj_vI x2, pj_vI x1, pj_vR 38], M) from rfl) trivial ?_
  exact pj_G_k (j := 105) (vs := [pj_vR 38, pj_vI x1, pj_vI x2]) (st := []) rfl rfl rfl rfl rfl (Nat.le_of_ble_eq_true rfl) pj_nc105 (pj_G.mono h (fun _ _ hh => pj_G_loc (pj_lle_e (pj_lle_e (pj_lle_u rfl (pj_lle_e (pj_lle_e pj_lle_nil))))) hh))
theorem pj_C106_25 {L d : Nat} {Q : Option pj_V → pj_M → Prop} {M : pj_M} {x1 s0 : Int} (j0 : Nat) (ej0 : x1 = (j0 : Int)) (bj0 : j0 < 32) (h1 : pj_bt (M 38 24) j0 = true → pj_G L d 106 39 [pj_vR 38, pj_vI x1, pj_vU, pj_vI s0, pj_vU] [] M Q) (h2 : pj_bt (M 38 24) j0 = false → pj_G L d 106 37 [pj_vU, pj_vU, pj_vU, pj_vI s0, pj_vU] [] M Q) : pj_G L d 106 25 [pj_vR 38, pj_vI x1, pj_vU, pj_vU, pj_vU] [pj_vI s0] M Q := by
  have nj0 : pj_nrm x1 = (j0 : Int) := pj_nk ej0 (by omega)
  refine pj_G_s pj_np106 7 (show pj_gs 7 L 106 25 [pj_vR 38, pj_vI x1, pj_vU, pj_vU, pj_vU] [pj_vI s0] M = some ([], 34, [pj_vR 38, pj_vI x1, pj_vU, pj_vI s0, pj_vU], [pj_vI (pj_and (pj_shr (M 38 24) x1) 1)], M) from rfl) trivial ?_
  exact pj_G_if0 (t := 39) rfl rfl (fun z => h1 (pj_ine0 (pj_ct_ne (pj_tst ej0 (by omega)) rfl z))) (fun z => pj_G_loc (pj_lle_u rfl (pj_lle_u rfl (pj_lle_e (pj_lle_e (pj_lle_e pj_lle_nil))))) (h2 (pj_ieq0 (pj_cf_ne (pj_tst ej0 (by omega)) rfl z))))
theorem pj_C106_37 {L d : Nat} {Q : Option pj_V → pj_M → Prop} {M : pj_M} {x3 : Int}  (h : Q (some (pj_vI x3)) M) : pj_G L d 106 37 [pj_vU, pj_vU, pj_vU, pj_vI x3, pj_vU] [] M Q := by
  refine pj_G_s pj_np106 1 (show pj_gs 1 L 106 37 [pj_vU, pj_vU, pj_vU, pj_vI x3, pj_vU] [] M = some ([], 38, [pj_vU, pj_vU, pj_vU, pj_vI x3, pj_vU], [pj_vI x3], M) from rfl) trivial ?_
  exact pj_G_r rfl rfl rfl h
theorem pj_C106_39 {L d : Nat} {Q : Option pj_V → pj_M → Prop} {M : pj_M} {x1 x3 : Int} (j0 j1 : Nat) (ej0 : x1 = (j0 : Int)) (bj0 : j0 < 7) (ej1 : M 45 j0 = (j1 : Int)) (bj1 : j1 < 14) (r0 : -2147483648 ≤ M 58 j0 ∧ M 58 j0 < 2147483648) (h1 : M 58 j0 ≠ (1 : Int) → pj_G L d 106 68 [pj_vR 38, pj_vI x1, pj_vU, pj_vI x3, pj_vI ((M 39 j1) - 1)] [] M Q) (h2 : M 58 j0 = (1 : Int) → pj_G L d 106 64 [pj_vU, pj_vU, pj_vU, pj_vU, pj_vU] [] M Q) : pj_G L d 106 39 [pj_vR 38, pj_vI x1, pj_vU, pj_vI x3, pj_vU] [] M Q := by
  have nj0 : pj_nrm x1 = (j0 : Int) := pj_nk ej0 (by omega)
  have nj1 : pj_nrm (M 45 j0) = (j1 : Int) := pj_nk ej1 (by omega)
  refine pj_G_s pj_np106 15 (show pj_gs 15 L 106 39 [pj_vR 38, pj_vI x1, pj_vU, pj_vI x3, pj_vU] [] M = some ([0 ≤ pj_nrm x1 ∧ pj_nrm x1 < (7 : Int), 0 ≤ pj_nrm (M 45 (pj_nrm x1).toNat) ∧ pj_nrm (M 45 (pj_nrm x1).toNat) < (14 : Int), 0 ≤ pj_nrm x1 ∧ pj_nrm x1 < (7 : Int)], 61, [pj_vR 38, pj_vI x1, pj_vU, pj_vI x3, pj_vI ((M 39 (pj_nrm (M 45 (pj_nrm x1).toNat)).toNat) - 1)], [pj_vI 1, pj_vI (M 58 (pj_nrm x1).toNat)], M) from rfl) ⟨by omega, by simp only [nj0, nj1, Int.toNat_natCast]; omega, by omega, trivial⟩ ?_
  simp only [nj0, nj1, Int.toNat_natCast]
  exact pj_G_if (t := 68) rfl rfl (fun z => h1 (pj_ct_ne (pj_nrm_id r0.1 r0.2) (pj_nrm_id (by omega) (by omega)) z)) (fun z => pj_G_loc (pj_lle_u rfl (pj_lle_u rfl (pj_lle_e (pj_lle_u rfl (pj_lle_u rfl pj_lle_nil))))) (h2 (pj_cf_ne (pj_nrm_id r0.1 r0.2) (pj_nrm_id (by omega) (by omega)) z)))
theorem pj_C106_64 {L d : Nat} {Q : Option pj_V → pj_M → Prop} {M : pj_M}  (h : pj_G L d 106 116 [pj_vU, pj_vU, pj_vU, pj_vU, pj_vU] [pj_vI 0] M Q) : pj_G L d 106 64 [pj_vU, pj_vU, pj_vU, pj_vU, pj_vU] [] M Q := by
  refine pj_G_s pj_np106 2 (show pj_gs 2 L 106 64 [pj_vU, pj_vU, pj_vU, pj_vU, pj_vU] [] M = some ([], 116, [pj_vU, pj_vU, pj_vU, pj_vU, pj_vU], [pj_vI 0], M) from rfl) trivial ?_
  exact h
theorem pj_C106_116 {L d : Nat} {Q : Option pj_V → pj_M → Prop} {M : pj_M} {s0 : Int}  (h : Q (some (pj_vI s0)) M) : pj_G L d 106 116 [pj_vU, pj_vU, pj_vU, pj_vU, pj_vU] [pj_vI s0] M Q := by
  exact pj_G_r rfl rfl rfl h
theorem pj_C106_68 {L d : Nat} {Q : Option pj_V → pj_M → Prop} {M : pj_M} {x1 x3 x4 : Int} (j0 : Nat) (ej0 : x1 = (j0 : Int)) (bj0 : j0 < 7) (r0 : -2147483648 ≤ M 58 j0 ∧ M 58 j0 < 2147483648) (h1 : M 58 j0 ≠ (2 : Int) → pj_G L d 106 83 [pj_vR 38, pj_vI x1, pj_vU, pj_vI x3, pj_vI x4] [] M Q) (h2 : M 58 j0 = (2 : Int) → pj_G L d 106 78 [pj_vU, pj_vU, pj_vU, pj_vU, pj_vI x4] [] M Q) : pj_G L d 106 68 [pj_vR 38, pj_vI x1, pj_vU, pj_vI x3, pj_vI x4] [] M Q := by
  have nj0 : pj_nrm x1 = (j0 : Int) := pj_nk ej0 (by omega)
  refine pj_G_s pj_np106 5 (show pj_gs 5 L 106 68 [pj_vR 38, pj_vI x1, pj_vU, pj_vI x3, pj_vI x4] [] M = some ([0 ≤ pj_nrm x1 ∧ pj_nrm x1 < (7 : Int)], 75, [pj_vR 38, pj_vI x1, pj_vU, pj_vI x3, pj_vI x4], [pj_vI 2, pj_vI (M 58 (pj_nrm x1).toNat)], M) from rfl) ⟨by omega, trivial⟩ ?_
  simp only [nj0, Int.toNat_natCast]
  exact pj_G_if (t := 83) rfl rfl (fun z => h1 (pj_ct_ne (pj_nrm_id r0.1 r0.2) (pj_nrm_id (by omega) (by omega)) z)) (fun z => pj_G_loc (pj_lle_u rfl (pj_lle_u rfl (pj_lle_e (pj_lle_u rfl (pj_lle_e pj_lle_nil))))) (h2 (pj_cf_ne (pj_nrm_id r0.1 r0.2) (pj_nrm_id (by omega) (by omega)) z)))
theorem pj_C106_78 {L d : Nat} {Q : Option pj_V → pj_M → Prop} {M : pj_M} {x4 : Int}  (h : pj_G L d 106 116 [pj_vU, pj_vU, pj_vU, pj_vU, pj_vU] [pj_vI x4] M Q) : pj_G L d 106 78 [pj_vU, pj_vU, pj_vU, pj_vU, pj_vI x4] [] M Q := by
  refine pj_G_s pj_np106 2 (show pj_gs 2 L 106 78 [pj_vU, pj_vU, pj_vU, pj_vU, pj_vI x4] [] M = some ([], 116, [pj_vU, pj_vU, pj_vU, pj_vU, pj_vI x4], [pj_vI x4], M) from rfl) trivial ?_
  exact pj_G_loc (pj_lle_e (pj_lle_e (pj_lle_e (pj_lle_e (pj_lle_u rfl pj_lle_nil))))) h
theorem pj_C106_83 {L d : Nat} {Q : Option pj_V → pj_M → Prop} {M : pj_M} {x1 x3 x4 : Int} (j0 : Nat) (ej0 : x1 = (j0 : Int)) (bj0 : j0 < 7) (r0 : -2147483648 ≤ M 58 j0 ∧ M 58 j0 < 2147483648) (h1 : M 58 j0 ≠ (4 : Int) → pj_G L d 106 100 [pj_vR 38, pj_vI x1, pj_vU, pj_vU, pj_vI x4] [] M Q) (h2 : M 58 j0 = (4 : Int) → pj_G L d 106 93 [pj_vU, pj_vU, pj_vU, pj_vI x3, pj_vI x4] [] M Q) : pj_G L d 106 83 [pj_vR 38, pj_vI x1, pj_vU, pj_vI x3, pj_vI x4] [] M Q := by
  have nj0 : pj_nrm x1 = (j0 : Int) := pj_nk ej0 (by omega)
  refine pj_G_s pj_np106 5 (show pj_gs 5 L 106 83 [pj_vR 38, pj_vI x1, pj_vU, pj_vI x3, pj_vI x4] [] M = some ([0 ≤ pj_nrm x1 ∧ pj_nrm x1 < (7 : Int)], 90, [pj_vR 38, pj_vI x1, pj_vU, pj_vI x3, pj_vI x4], [pj_vI 4, pj_vI (M 58 (pj_nrm x1).toNat)], M) from rfl) ⟨by omega, trivial⟩ ?_
  simp only [nj0, Int.toNat_natCast]
  exact pj_G_if (t := 100) rfl rfl (fun z => pj_G_loc (pj_lle_e (pj_lle_e (pj_lle_e (pj_lle_u rfl (pj_lle_e pj_lle_nil))))) (h1 (pj_ct_ne (pj_nrm_id r0.1 r0.2) (pj_nrm_id (by omega) (by omega)) z))) (fun z => pj_G_loc (pj_lle_u rfl (pj_lle_u rfl (pj_lle_e (pj_lle_e (pj_lle_e pj_lle_nil))))) (h2 (pj_cf_ne (pj_nrm_id r0.1 r0.2) (pj_nrm_id (by omega) (by omega)) z)))
theorem pj_C106_93 {L d : Nat} {Q : Option pj_V → pj_M → Prop} {M : pj_M} {x3 x4 : Int}  (h : pj_G L d 106 116 [pj_vU, pj_vU, pj_vU, pj_vU, pj_vU] [pj_vI (x4 - x3)] M Q) : pj_G L d 106 93 [pj_vU, pj_vU, pj_vU, pj_vI x3, pj_vI x4] [] M Q := by
  refine pj_G_s pj_np106 4 (show pj_gs 4 L 106 93 [pj_vU, pj_vU, pj_vU, pj_vI x3, pj_vI x4] [] M = some ([], 116, [pj_vU, pj_vU, pj_vU, pj_vI x3, pj_vI x4], [pj_vI (x4 - x3)], M) from rfl) trivial ?_
  exact pj_G_loc (pj_lle_e (pj_lle_e (pj_lle_e (pj_lle_u rfl (pj_lle_u rfl pj_lle_nil))))) h
theorem pj_C106_100 {L d : Nat} {Q : Option pj_V → pj_M → Prop} {M : pj_M} {x1 x4 : Int} (j0 j1 : Nat) (ej0 : x1 = (j0 : Int)) (bj0 : j0 < 7) (ej1 : M 46 j0 = (j1 : Int)) (bj1 : j1 < 14) (z2 : pj_nrm (x4 + 1) ≠ 0) (h : pj_G L d 106 116 [pj_vU, pj_vU, pj_vU, pj_vU, pj_vU] [pj_vI (pj_rem (M 59 j1) (x4 + 1))] M Q) : pj_G L d 106 100 [pj_vR 38, pj_vI x1, pj_vU, pj_vU, pj_vI x4] [] M Q := by
  have nj0 : pj_nrm x1 = (j0 : Int) := pj_nk ej0 (by omega)
  have nj1 : pj_nrm (M 46 j0) = (j1 : Int) := pj_nk ej1 (by omega)
  refine pj_G_s pj_np106 11 (show pj_gs 11 L 106 100 [pj_vR 38, pj_vI x1, pj_vU, pj_vU, pj_vI x4] [] M = some ([0 ≤ pj_nrm x1 ∧ pj_nrm x1 < (7 : Int), 0 ≤ pj_nrm (M 46 (pj_nrm x1).toNat) ∧ pj_nrm (M 46 (pj_nrm x1).toNat) < (14 : Int), pj_nrm (x4 + 1) ≠ 0], 116, [pj_vR 38, pj_vI x1, pj_vU, pj_vU, pj_vI x4], [pj_vI (pj_rem (M 59 (pj_nrm (M 46 (pj_nrm x1).toNat)).toNat) (x4 + 1))], M) from rfl) ⟨by omega, by simp only [nj0, nj1, Int.toNat_natCast]; omega, by omega, trivial⟩ ?_
  simp only [nj0, nj1, Int.toNat_natCast]
  exact pj_G_loc (pj_lle_u rfl (pj_lle_u rfl (pj_lle_e (pj_lle_e (pj_lle_u rfl pj_lle_nil))))) h
theorem pj_C107_0 {L d : Nat} {Q : Option pj_V → pj_M → Prop} {M : pj_M} {x1 x2 : Int}  (h : pj_G L d 107 5 [pj_vR 38, pj_vI x1, pj_vU, pj_vI x2, pj_vI 0] [] M Q) : pj_G L d 107 0 [pj_vR 38, pj_vI x1, pj_vI x2, pj_vU, pj_vU] [] M Q := by
  refine pj_G_s pj_np107 4 (show pj_gs 4 L 107 0 [pj_vR 38, pj_vI x1, pj_vI x2, pj_vU, pj_vU] [] M = some ([], 5, [pj_vR 38, pj_vI x1, pj_vI x2, pj_vI x2, pj_vI 0], [], M) from rfl) trivial ?_
  exact pj_G_loc (pj_lle_e (pj_lle_e (pj_lle_u rfl (pj_lle_e (pj_lle_e pj_lle_nil))))) h
theorem pj_C107_5 {L d : Nat} {Q : Option pj_V → pj_M → Prop} {M : pj_M} {x1 x3 x4 : Int} (r0 : -2147483648 ≤ x4 ∧ x4 < 2147483648) (h1 : (2 : Int) ≤ x4 → pj_G L d 107 51 [pj_vR 38, pj_vI x1, pj_vU, pj_vU, pj_vU] [] M Q) (h2 : x4 < (2 : Int) → pj_G L d 107 11 [pj_vR 38, pj_vI x1, pj_vU, pj_vI x3, pj_vI x4] [] M Q) : pj_G L d 107 5 [pj_vR 38, pj_vI x1, pj_vU, pj_vI x3, pj_vI x4] [] M Q := by
  refine pj_G_s pj_np107 2 (show pj_gs 2 L 107 5 [pj_vR 38, pj_vI x1, pj_vU, pj_vI x3, pj_vI x4] [] M = some ([], 8, [pj_vR 38, pj_vI x1, pj_vU, pj_vI x3, pj_vI x4], [pj_vI 2, pj_vI x4], M) from rfl) trivial ?_
  exact pj_G_if (t := 51) rfl rfl (fun z => pj_G_loc (pj_lle_e (pj_lle_e (pj_lle_e (pj_lle_u rfl (pj_lle_u rfl pj_lle_nil))))) (h1 (pj_ct_ge (pj_nrm_id r0.1 r0.2) (pj_nrm_id (by omega) (by omega)) z))) (fun z => h2 (pj_cf_ge (pj_nrm_id r0.1 r0.2) (pj_nrm_id (by omega) (by omega)) z))
theorem pj_C107_11 {L d : Nat} {Q : Option pj_V → pj_M → Prop} {M : pj_M} {x1 x3 x4 : Int} (j0 j1 : Nat) (ej0 : 2 * x4 = (j0 : Int)) (bj0 : j0 < 4) (ej1 : (2 * x4) + 1 = (j1 : Int)) (bj1 : j1 < 4) (h : pj_G L d 107 5 [pj_vR 38, pj_vI x1, pj_vU, pj_vI (pj_div x3 9), pj_vI (x4 + 1)] [] (pj_up (pj_up M 60 j0 (pj_div (pj_rem x3 9) 3)) 60 j1 (pj_rem x3 3)) Q) : pj_G L d 107 11 [pj_vR 38, pj_vI x1, pj_vU, pj_vI x3, pj_vI x4] [] M Q := by
  have nj0 : pj_nrm (2 * x4) = (j0 : Int) := pj_nk ej0 (by omega)
  have nj1 : pj_nrm ((2 * x4) + 1) = (j1 : Int) := pj_nk ej1 (by omega)
  refine pj_G_s pj_np107 28 (show pj_gs 28 L 107 11 [pj_vR 38, pj_vI x1, pj_vU, pj_vI x3, pj_vI x4] [] M = some ([(9 : Int) ≠ 0, (3 : Int) ≠ 0, 0 ≤ pj_nrm (2 * x4) ∧ pj_nrm (2 * x4) < (4 : Int), (3 : Int) ≠ 0, 0 ≤ pj_nrm ((2 * x4) + 1) ∧ pj_nrm ((2 * x4) + 1) < (4 : Int), (9 : Int) ≠ 0], 5, [pj_vR 38, pj_vI x1, pj_vU, pj_vI (pj_div x3 9), pj_vI (x4 + 1)], [], pj_up (pj_up M 60 (pj_nrm (2 * x4)).toNat (pj_div (pj_rem x3 9) 3)) 60 (pj_nrm ((2 * x4) + 1)).toNat (pj_rem x3 3)) from rfl) ⟨by decide, by decide, by omega, by decide, by omega, by decide, trivial⟩ ?_
  simp only [nj0, nj1, Int.toNat_natCast]
  exact h
theorem pj_C107_51 {L d : Nat} {Q : Option pj_V → pj_M → Prop} {M : pj_M} {x1 : Int}  (h : pj_G L d 107 54 [pj_vR 38, pj_vI x1, pj_vU, pj_vU, pj_vI 0] [] M Q) : pj_G L d 107 51 [pj_vR 38, pj_vI x1, pj_vU, pj_vU, pj_vU] [] M Q := by
  refine pj_G_s pj_np107 2 (show pj_gs 2 L 107 51 [pj_vR 38, pj_vI x1, pj_vU, pj_vU, pj_vU] [] M = some ([], 54, [pj_vR 38, pj_vI x1, pj_vU, pj_vU, pj_vI 0], [], M) from rfl) trivial ?_
  exact h
theorem pj_C107_54 {L d : Nat} {Q : Option pj_V → pj_M → Prop} {M : pj_M} {x1 x4 : Int} (r0 : -2147483648 ≤ x4 ∧ x4 < 2147483648) (r1 : -2147483648 ≤ M 38 17 ∧ M 38 17 < 2147483648) (h1 : M 38 17 ≤ x4 → pj_G L d 107 113 [pj_vU, pj_vU, pj_vU, pj_vU, pj_vU] [] M Q) (h2 : x4 < M 38 17 → pj_G L d 107 63 [pj_vR 38, pj_vI x1, pj_vU, pj_vU, pj_vI x4] [] M Q) : pj_G L d 107 54 [pj_vR 38, pj_vI x1, pj_vU, pj_vU, pj_vI x4] [] M Q := by
  refine pj_G_s pj_np107 3 (show pj_gs 3 L 107 54 [pj_vR 38, pj_vI x1, pj_vU, pj_vU, pj_vI x4] [] M = some ([], 60, [pj_vR 38, pj_vI x1, pj_vU, pj_vU, pj_vI x4], [pj_vI (M 38 17), pj_vI x4], M) from rfl) trivial ?_
  exact pj_G_if (t := 113) rfl rfl (fun z => pj_G_loc (pj_lle_u rfl (pj_lle_u rfl (pj_lle_e (pj_lle_e (pj_lle_u rfl pj_lle_nil))))) (h1 (pj_ct_ge (pj_nrm_id r0.1 r0.2) (pj_nrm_id r1.1 r1.2) z))) (fun z => h2 (pj_cf_ge (pj_nrm_id r0.1 r0.2) (pj_nrm_id r1.1 r1.2) z))
theorem pj_C107_63 {L d : Nat} {Q : Option pj_V → pj_M → Prop} {M : pj_M} {x1 x4 : Int} (j0 : Nat) (ej0 : x4 = (j0 : Int)) (bj0 : j0 < 14) (r0 : -2147483648 ≤ M 40 j0 ∧ M 40 j0 < 2147483648) (h1 : 0 ≤ M 40 j0 → pj_G L d 107 94 [pj_vR 38, pj_vI x1, pj_vU, pj_vU, pj_vI x4] [pj_vI x4, pj_vR 59] M Q) (h2 : M 40 j0 < 0 → pj_G L d 107 79 [pj_vR 38, pj_vI x1, pj_vU, pj_vU, pj_vI x4] [pj_vI x4, pj_vR 59] M Q) : pj_G L d 107 63 [pj_vR 38, pj_vI x1, pj_vU, pj_vU, pj_vI x4] [] M Q := by
  have nj0 : pj_nrm x4 = (j0 : Int) := pj_nk ej0 (by omega)
  refine pj_G_s pj_np107 7 (show pj_gs 7 L 107 63 [pj_vR 38, pj_vI x1, pj_vU, pj_vU, pj_vI x4] [] M = some ([0 ≤ pj_nrm x4 ∧ pj_nrm x4 < (14 : Int)], 76, [pj_vR 38, pj_vI x1, pj_vU, pj_vU, pj_vI x4], [pj_vI (M 40 (pj_nrm x4).toNat), pj_vI x4, pj_vR 59], M) from rfl) ⟨by omega, trivial⟩ ?_
  simp only [nj0, Int.toNat_natCast]
  exact pj_G_if0 (t := 94) rfl rfl (fun z => h1 (pj_ct_ge (pj_nrm_id r0.1 r0.2) rfl z)) (fun z => h2 (pj_cf_ge (pj_nrm_id r0.1 r0.2) rfl z))
theorem pj_C107_79 {L d : Nat} {Q : Option pj_V → pj_M → Prop} {M : pj_M} {x1 x4 s1 : Int} (j0 : Nat) (ej0 : (14 * x1) + x4 = (j0 : Int)) (bj0 : j0 < 42) (h : pj_G L d 107 106 [pj_vR 38, pj_vI x1, pj_vU, pj_vU, pj_vI x4] [pj_vI (M 42 j0), pj_vI s1, pj_vR 59] M Q) : pj_G L d 107 79 [pj_vR 38, pj_vI x1, pj_vU, pj_vU, pj_vI x4] [pj_vI s1, pj_vR 59] M Q := by
  have nj0 : pj_nrm ((14 * x1) + x4) = (j0 : Int) := pj_nk ej0 (by omega)
  refine pj_G_s pj_np107 9 (show pj_gs 9 L 107 79 [pj_vR 38, pj_vI x1, pj_vU, pj_vU, pj_vI x4] [pj_vI s1, pj_vR 59] M = some ([0 ≤ pj_nrm ((14 * x1) + x4) ∧ pj_nrm ((14 * x1) + x4) < (42 : Int)], 106, [pj_vR 38, pj_vI x1, pj_vU, pj_vU, pj_vI x4], [pj_vI (M 42 (pj_nrm ((14 * x1) + x4)).toNat), pj_vI s1, pj_vR 59], M) from rfl) ⟨by omega, trivial⟩ ?_
  simp only [nj0, Int.toNat_natCast]
  exact h
theorem pj_C107_106 {L d : Nat} {Q : Option pj_V → pj_M → Prop} {M : pj_M} {x1 x4 s1 s2 : Int} (j0 : Nat) (ej0 : s1 = (j0 : Int)) (bj0 : j0 < 14) (h : pj_G L d 107 54 [pj_vR 38, pj_vI x1, pj_vU, pj_vU, pj_vI (x4 + 1)] [] (pj_up M 59 j0 s2) Q) : pj_G L d 107 106 [pj_vR 38, pj_vI x1, pj_vU, pj_vU, pj_vI x4] [pj_vI s2, pj_vI s1, pj_vR 59] M Q := by
  have nj0 : pj_nrm s1 = (j0 : Int) := pj_nk ej0 (by omega)
  refine pj_G_s pj_np107 3 (show pj_gs 3 L 107 106 [pj_vR 38, pj_vI x1, pj_vU, pj_vU, pj_vI x4] [pj_vI s2, pj_vI s1, pj_vR 59] M = some ([0 ≤ pj_nrm s1 ∧ pj_nrm s1 < (14 : Int)], 54, [pj_vR 38, pj_vI x1, pj_vU, pj_vU, pj_vI (x4 + 1)], [], pj_up M 59 (pj_nrm s1).toNat s2) from rfl) ⟨by omega, trivial⟩ ?_
  simp only [nj0, Int.toNat_natCast]
  exact h
theorem pj_C107_94 {L d : Nat} {Q : Option pj_V → pj_M → Prop} {M : pj_M} {x1 x4 s1 : Int} (j0 : Nat) (ej0 : x4 = (j0 : Int)) (bj0 : j0 < 14) (h : pj_G L d 106 0 [pj_vR 38, pj_vI (M 40 j0), pj_vI x1, pj_vU, pj_vU] [] M (fun r M1 => pj_G L (d + 1) 107 106 [pj_vR 38, pj_vI x1, pj_vU, pj_vU, pj_vI x4] (r.toList ++ [pj_vI s1, pj_vR 59]) M1 Q)) : pj_G L (d + 1) 107 94 [pj_vR 38, pj_vI x1, pj_vU, pj_vU, pj_vI x4] [pj_vI s1, pj_vR 59] M Q := by
  have nj0 : pj_nrm x4 = (j0 : Int) := pj_nk ej0 (by omega)
  refine pj_G_s (d := d + 1) pj_np107 6 (show pj_gs 6 L 107 94 [pj_vR 38, pj_vI x1, pj_vU, pj_vU, pj_vI x4] [pj_vI s1, pj_vR 59] M = some ([0 ≤ pj_nrm x4 ∧ pj_nrm x4 < (14 : Int)], 103, [pj_vR 38, pj_vI x1, pj_vU, pj_vU, pj_vI x4], [pj_vI x1, pj_vI (M 40 (pj_nrm x4).toNat), pj_vR 38, pj_vI s1, pj_vR 59], M) from rfl) ⟨by omega, trivial⟩ ?_
  simp only [nj0, Int.toNat_natCast]
  exact pj_G_k (j := 106) (vs := [pj_vR 38, pj_vI (M 40 j0), pj_vI x1]) (st := [pj_vI s1, pj_vR 59]) rfl rfl rfl rfl rfl (Nat.le_of_ble_eq_true rfl) pj_nc106 h
theorem pj_C107_113 {L d : Nat} {Q : Option pj_V → pj_M → Prop} {M : pj_M}  (h : Q (none) M) : pj_G L d 107 113 [pj_vU, pj_vU, pj_vU, pj_vU, pj_vU] [] M Q := by
  exact pj_G_r rfl rfl rfl h
theorem pj_C108_0 {L d : Nat} {Q : Option pj_V → pj_M → Prop} {M : pj_M} {x1 : Int}  (h : pj_G L d 108 2 [pj_vR 38, pj_vI x1, pj_vI 0, pj_vU, pj_vU, pj_vU] [] M Q) : pj_G L d 108 0 [pj_vR 38, pj_vI x1, pj_vU, pj_vU, pj_vU, pj_vU] [] M Q := by
  refine pj_G_s pj_np108 2 (show pj_gs 2 L 108 0 [pj_vR 38, pj_vI x1, pj_vU, pj_vU, pj_vU, pj_vU] [] M = some ([], 2, [pj_vR 38, pj_vI x1, pj_vI 0, pj_vU, pj_vU, pj_vU], [], M) from rfl) trivial ?_
  exact h
theorem pj_C108_2 {L d : Nat} {Q : Option pj_V → pj_M → Prop} {M : pj_M} {x1 x2 : Int} (r0 : -2147483648 ≤ x2 ∧ x2 < 2147483648) (r1 : -2147483648 ≤ M 38 21 ∧ M 38 21 < 2147483648) (h1 : M 38 21 ≤ x2 → pj_G L d 108 109 [pj_vU, pj_vU, pj_vU, pj_vU, pj_vU, pj_vU] [] M Q) (h2 : x2 < M 38 21 → pj_G L d 108 10 [pj_vR 38, pj_vI x1, pj_vI x2, pj_vU, pj_vU, pj_vU] [] M Q) : pj_G L d 108 2 [pj_vR 38, pj_vI x1, pj_vI x2, pj_vU, pj_vU, pj_vU] [] M Q := by
  refine pj_G_s pj_np108 3 (show pj_gs 3 L 108 2 [pj_vR 38, pj_vI x1, pj_vI x2, pj_vU, pj_vU, pj_vU] [] M = some ([], 7, [pj_vR 38, pj_vI x1, pj_vI x2, pj_vU, pj_vU, pj_vU], [pj_vI (M 38 21), pj_vI x2], M) from rfl) trivial ?_
  exact pj_G_if (t := 109) rfl rfl (fun z => pj_G_loc (pj_lle_u rfl (pj_lle_u rfl (pj_lle_u rfl (pj_lle_e (pj_lle_e (pj_lle_e pj_lle_nil)))))) (h1 (pj_ct_ge (pj_nrm_id r0.1 r0.2) (pj_nrm_id r1.1 r1.2) z))) (fun z => h2 (pj_cf_ge (pj_nrm_id r0.1 r0.2) (pj_nrm_id r1.1 r1.2) z))
theorem pj_C108_10 {L d : Nat} {Q : Option pj_V → pj_M → Prop} {M : pj_M} {x1 x2 : Int} (j0 : Nat) (ej0 : x2 = (j0 : Int)) (bj0 : j0 < 16) (r0 : -2147483648 ≤ M 53 j0 ∧ M 53 j0 < 2147483648) (r1 : -2147483648 ≤ x1 ∧ x1 < 2147483648) (h1 : M 53 j0 = x1 → pj_G L d 108 23 [pj_vR 38, pj_vI x1, pj_vI x2, pj_vU, pj_vU, pj_vU] [] M Q) (h2 : M 53 j0 ≠ x1 → pj_G L d 108 20 [pj_vR 38, pj_vI x1, pj_vI x2, pj_vU, pj_vU, pj_vU] [] M Q) : pj_G L d 108 10 [pj_vR 38, pj_vI x1, pj_vI x2, pj_vU, pj_vU, pj_vU] [] M Q := by
  have nj0 : pj_nrm x2 = (j0 : Int) := pj_nk ej0 (by omega)
  refine pj_G_s pj_np108 5 (show pj_gs 5 L 108 10 [pj_vR 38, pj_vI x1, pj_vI x2, pj_vU, pj_vU, pj_vU] [] M = some ([0 ≤ pj_nrm x2 ∧ pj_nrm x2 < (16 : Int)], 17, [pj_vR 38, pj_vI x1, pj_vI x2, pj_vU, pj_vU, pj_vU], [pj_vI x1, pj_vI (M 53 (pj_nrm x2).toNat)], M) from rfl) ⟨by omega, trivial⟩ ?_
  simp only [nj0, Int.toNat_natCast]
  exact pj_G_if (t := 23) rfl rfl (fun z => h1 (pj_ct_eq (pj_nrm_id r0.1 r0.2) (pj_nrm_id r1.1 r1.2) z)) (fun z => h2 (pj_cf_eq (pj_nrm_id r0.1 r0.2) (pj_nrm_id r1.1 r1.2) z))
theorem pj_C108_20 {L d : Nat} {Q : Option pj_V → pj_M → Prop} {M : pj_M} {x1 x2 : Int}  (h : pj_G L d 108 103 [pj_vR 38, pj_vI x1, pj_vI x2, pj_vU, pj_vU, pj_vU] [] M Q) : pj_G L d 108 20 [pj_vR 38, pj_vI x1, pj_vI x2, pj_vU, pj_vU, pj_vU] [] M Q := by
  refine pj_G_s pj_np108 1 (show pj_gs 1 L 108 20 [pj_vR 38, pj_vI x1, pj_vI x2, pj_vU, pj_vU, pj_vU] [] M = some ([], 103, [pj_vR 38, pj_vI x1, pj_vI x2, pj_vU, pj_vU, pj_vU], [], M) from rfl) trivial ?_
  exact h
theorem pj_C108_103 {L d : Nat} {Q : Option pj_V → pj_M → Prop} {M : pj_M} {x1 x2 : Int}  (h : pj_G L d 108 2 [pj_vR 38, pj_vI x1, pj_vI (x2 + 1), pj_vU, pj_vU, pj_vU] [] M Q) : pj_G L d 108 103 [pj_vR 38, pj_vI x1, pj_vI x2, pj_vU, pj_vU, pj_vU] [] M Q := by
  refine pj_G_s pj_np108 2 (show pj_gs 2 L 108 103 [pj_vR 38, pj_vI x1, pj_vI x2, pj_vU, pj_vU, pj_vU] [] M = some ([], 2, [pj_vR 38, pj_vI x1, pj_vI (x2 + 1), pj_vU, pj_vU, pj_vU], [], M) from rfl) trivial ?_
  exact h
theorem pj_C108_23 {L d : Nat} {Q : Option pj_V → pj_M → Prop} {M : pj_M} {x1 x2 : Int} (j0 j1 : Nat) (ej0 : x2 = (j0 : Int)) (bj0 : j0 < 16) (ej1 : M 54 j0 = (j1 : Int)) (bj1 : j1 < 14) (r0 : -2147483648 ≤ M 40 j1 ∧ M 40 j1 < 2147483648) (h1 : M 40 j1 < 0 → pj_G L d 108 73 [pj_vR 38, pj_vI x1, pj_vI x2, pj_vU, pj_vI ((M 55 j0) - (M 59 j1)), pj_vU] [] M Q) (h2 : 0 ≤ M 40 j1 → pj_G L d 108 54 [pj_vR 38, pj_vI x1, pj_vI x2, pj_vI (M 54 j0), pj_vI ((M 55 j0) - (M 59 j1)), pj_vU] [] M Q) : pj_G L d 108 23 [pj_vR 38, pj_vI x1, pj_vI x2, pj_vU, pj_vU, pj_vU] [] M Q := by
  have nj0 : pj_nrm x2 = (j0 : Int) := pj_nk ej0 (by omega)
  have nj1 : pj_nrm (M 54 j0) = (j1 : Int) := pj_nk ej1 (by omega)
  refine pj_G_s pj_np108 19 (show pj_gs 19 L 108 23 [pj_vR 38, pj_vI x1, pj_vI x2, pj_vU, pj_vU, pj_vU] [] M = some ([0 ≤ pj_nrm x2 ∧ pj_nrm x2 < (16 : Int), 0 ≤ pj_nrm x2 ∧ pj_nrm x2 < (16 : Int), 0 ≤ pj_nrm (M 54 (pj_nrm x2).toNat) ∧ pj_nrm (M 54 (pj_nrm x2).toNat) < (14 : Int), 0 ≤ pj_nrm (M 54 (pj_nrm x2).toNat) ∧ pj_nrm (M 54 (pj_nrm x2).toNat) < (14 : Int)], 51, [pj_vR 38, pj_vI x1, pj_vI x2, pj_vI (M 54 (pj_nrm x2).toNat), pj_vI ((M 55 (pj_nrm x2).toNat) - (M 59 (pj_nrm (M 54 (pj_nrm x2).toNat)).toNat)), pj_vU], [pj_vI (M 40 (pj_nrm (M 54 (pj_nrm x2).toNat)).toNat)], M) from rfl) ⟨by omega, by omega, by simp only [nj0, nj1, Int.toNat_natCast]; omega, by simp only [nj0, nj1, Int.toNat_natCast]; omega, trivial⟩ ?_
  simp only [nj0, nj1, Int.toNat_natCast]
  exact pj_G_if0 (t := 73) rfl rfl (fun z => pj_G_loc (pj_lle_e (pj_lle_e (pj_lle_e (pj_lle_u rfl (pj_lle_e (pj_lle_e pj_lle_nil)))))) (h1 (pj_ct_lt (pj_nrm_id r0.1 r0.2) rfl z))) (fun z => h2 (pj_cf_lt (pj_nrm_id r0.1 r0.2) rfl z))
theorem pj_C108_54 {L d : Nat} {Q : Option pj_V → pj_M → Prop} {M : pj_M} {x1 x2 x3 x4 : Int} (j0 j1 : Nat) (ej0 : x3 = (j0 : Int)) (bj0 : j0 < 14) (ej1 : M 40 j0 = (j1 : Int)) (bj1 : j1 < 7) (r0 : -2147483648 ≤ M 43 j1 ∧ M 43 j1 < 2147483648) (h1 : M 43 j1 ≠ (4 : Int) → pj_G L d 108 73 [pj_vR 38, pj_vI x1, pj_vI x2, pj_vU, pj_vI x4, pj_vU] [] M Q) (h2 : M 43 j1 = (4 : Int) → pj_G L d 108 69 [pj_vR 38, pj_vI x1, pj_vI x2, pj_vU, pj_vI x4, pj_vU] [] M Q) : pj_G L d 108 54 [pj_vR 38, pj_vI x1, pj_vI x2, pj_vI x3, pj_vI x4, pj_vU] [] M Q := by
  have nj0 : pj_nrm x3 = (j0 : Int) := pj_nk ej0 (by omega)
  have nj1 : pj_nrm (M 40 j0) = (j1 : Int) := pj_nk ej1 (by omega)
  refine pj_G_s pj_np108 8 (show pj_gs 8 L 108 54 [pj_vR 38, pj_vI x1, pj_vI x2, pj_vI x3, pj_vI x4, pj_vU] [] M = some ([0 ≤ pj_nrm x3 ∧ pj_nrm x3 < (14 : Int), 0 ≤ pj_nrm (M 40 (pj_nrm x3).toNat) ∧ pj_nrm (M 40 (pj_nrm x3).toNat) < (7 : Int)], 66, [pj_vR 38, pj_vI x1, pj_vI x2, pj_vI x3, pj_vI x4, pj_vU], [pj_vI 4, pj_vI (M 43 (pj_nrm (M 40 (pj_nrm x3).toNat)).toNat)], M) from rfl) ⟨by omega, by simp only [nj0, nj1, Int.toNat_natCast]; omega, trivial⟩ ?_
  simp only [nj0, nj1, Int.toNat_natCast]
  exact pj_G_if (t := 73) rfl rfl (fun z => pj_G_loc (pj_lle_e (pj_lle_e (pj_lle_e (pj_lle_u rfl (pj_lle_e (pj_lle_e pj_lle_nil)))))) (h1 (pj_ct_ne (pj_nrm_id r0.1 r0.2) (pj_nrm_id (by omega) (by omega)) z))) (fun z => pj_G_loc (pj_lle_e (pj_lle_e (pj_lle_e (pj_lle_u rfl (pj_lle_e (pj_lle_e pj_lle_nil)))))) (h2 (pj_cf_ne (pj_nrm_id r0.1 r0.2) (pj_nrm_id (by omega) (by omega)) z)))
theorem pj_C108_69 {L d : Nat} {Q : Option pj_V → pj_M → Prop} {M : pj_M} {x1 x2 x4 : Int}  (h : pj_G L d 108 74 [pj_vR 38, pj_vI x1, pj_vI x2, pj_vU, pj_vI x4, pj_vU] [pj_vI 1] M Q) : pj_G L d 108 69 [pj_vR 38, pj_vI x1, pj_vI x2, pj_vU, pj_vI x4, pj_vU] [] M Q := by
  refine pj_G_s pj_np108 2 (show pj_gs 2 L 108 69 [pj_vR 38, pj_vI x1, pj_vI x2, pj_vU, pj_vI x4, pj_vU] [] M = some ([], 74, [pj_vR 38, pj_vI x1, pj_vI x2, pj_vU, pj_vI x4, pj_vU], [pj_vI 1], M) from rfl) trivial ?_
  exact h
theorem pj_C108_74 {L d : Nat} {Q : Option pj_V → pj_M → Prop} {M : pj_M} {x1 x2 x4 s0 : Int} (r0 : -2147483648 ≤ s0 ∧ s0 < 2147483648) (h1 : s0 = 0 → pj_G L d 108 96 [pj_vR 38, pj_vI x1, pj_vI x2, pj_vU, pj_vI x4, pj_vU] [] M Q) (h2 : s0 ≠ 0 → pj_G L d 108 81 [pj_vR 38, pj_vI x1, pj_vI x2, pj_vU, pj_vI x4, pj_vU] [] M Q) : pj_G L d 108 74 [pj_vR 38, pj_vI x1, pj_vI x2, pj_vU, pj_vI x4, pj_vU] [pj_vI s0] M Q := by
  refine pj_G_s pj_np108 2 (show pj_gs 2 L 108 74 [pj_vR 38, pj_vI x1, pj_vI x2, pj_vU, pj_vI x4, pj_vU] [pj_vI s0] M = some ([], 78, [pj_vR 38, pj_vI x1, pj_vI x2, pj_vU, pj_vI x4, pj_vI s0], [pj_vI s0], M) from rfl) trivial ?_
  exact pj_G_if0 (t := 96) rfl rfl (fun z => pj_G_loc (pj_lle_e (pj_lle_e (pj_lle_e (pj_lle_e (pj_lle_e (pj_lle_u rfl pj_lle_nil)))))) (h1 (pj_ct_eq (pj_nrm_id r0.1 r0.2) rfl z))) (fun z => pj_G_loc (pj_lle_e (pj_lle_e (pj_lle_e (pj_lle_e (pj_lle_e (pj_lle_u rfl pj_lle_nil)))))) (h2 (pj_cf_eq (pj_nrm_id r0.1 r0.2) rfl z)))
theorem pj_C108_81 {L d : Nat} {Q : Option pj_V → pj_M → Prop} {M : pj_M} {x1 x2 x4 : Int} (r0 : -2147483648 ≤ x4 ∧ x4 < 2147483648) (h1 : x4 < (-1 : Int) → pj_G L d 108 101 [pj_vU, pj_vU, pj_vU, pj_vU, pj_vU, pj_vU] [] M Q) (h2 : (-1 : Int) ≤ x4 → pj_G L d 108 87 [pj_vR 38, pj_vI x1, pj_vI x2, pj_vU, pj_vI x4, pj_vU] [] M Q) : pj_G L d 108 81 [pj_vR 38, pj_vI x1, pj_vI x2, pj_vU, pj_vI x4, pj_vU] [] M Q := by
  refine pj_G_s pj_np108 2 (show pj_gs 2 L 108 81 [pj_vR 38, pj_vI x1, pj_vI x2, pj_vU, pj_vI x4, pj_vU] [] M = some ([], 84, [pj_vR 38, pj_vI x1, pj_vI x2, pj_vU, pj_vI x4, pj_vU], [pj_vI ((-1)), pj_vI x4], M) from rfl) trivial ?_
  exact pj_G_if (t := 101) rfl rfl (fun z => pj_G_loc (pj_lle_u rfl (pj_lle_u rfl (pj_lle_u rfl (pj_lle_e (pj_lle_u rfl (pj_lle_e pj_lle_nil)))))) (h1 (pj_ct_lt (pj_nrm_id r0.1 r0.2) (pj_nrm_id (by omega) (by omega)) z))) (fun z => h2 (pj_cf_lt (pj_nrm_id r0.1 r0.2) (pj_nrm_id (by omega) (by omega)) z))
theorem pj_C108_87 {L d : Nat} {Q : Option pj_V → pj_M → Prop} {M : pj_M} {x1 x2 x4 : Int} (r0 : -2147483648 ≤ x4 ∧ x4 < 2147483648) (h1 : x4 ≤ (1 : Int) → pj_G L d 108 103 [pj_vR 38, pj_vI x1, pj_vI x2, pj_vU, pj_vU, pj_vU] [] M Q) (h2 : (1 : Int) < x4 → pj_G L d 108 93 [pj_vU, pj_vU, pj_vU, pj_vU, pj_vU, pj_vU] [] M Q) : pj_G L d 108 87 [pj_vR 38, pj_vI x1, pj_vI x2, pj_vU, pj_vI x4, pj_vU] [] M Q := by
  refine pj_G_s pj_np108 2 (show pj_gs 2 L 108 87 [pj_vR 38, pj_vI x1, pj_vI x2, pj_vU, pj_vI x4, pj_vU] [] M = some ([], 90, [pj_vR 38, pj_vI x1, pj_vI x2, pj_vU, pj_vI x4, pj_vU], [pj_vI 1, pj_vI x4], M) from rfl) trivial ?_
  exact pj_G_if (t := 103) rfl rfl (fun z => pj_G_loc (pj_lle_e (pj_lle_e (pj_lle_e (pj_lle_e (pj_lle_u rfl (pj_lle_e pj_lle_nil)))))) (h1 (pj_ct_le (pj_nrm_id r0.1 r0.2) (pj_nrm_id (by omega) (by omega)) z))) (fun z => pj_G_loc (pj_lle_u rfl (pj_lle_u rfl (pj_lle_u rfl (pj_lle_e (pj_lle_u rfl (pj_lle_e pj_lle_nil)))))) (h2 (pj_cf_le (pj_nrm_id r0.1 r0.2) (pj_nrm_id (by omega) (by omega)) z)))
theorem pj_C108_93 {L d : Nat} {Q : Option pj_V → pj_M → Prop} {M : pj_M}  (h : pj_G L d 108 101 [pj_vU, pj_vU, pj_vU, pj_vU, pj_vU, pj_vU] [] M Q) : pj_G L d 108 93 [pj_vU, pj_vU, pj_vU, pj_vU, pj_vU, pj_vU] [] M Q := by
  refine pj_G_s pj_np108 1 (show pj_gs 1 L 108 93 [pj_vU, pj_vU, pj_vU, pj_vU, pj_vU, pj_vU] [] M = some ([], 101, [pj_vU, pj_vU, pj_vU, pj_vU, pj_vU, pj_vU], [], M) from rfl) trivial ?_
  exact h
theorem pj_C108_101 {L d : Nat} {Q : Option pj_V → pj_M → Prop} {M : pj_M}  (h : Q (some (pj_vI 0)) M) : pj_G L d 108 101 [pj_vU, pj_vU, pj_vU, pj_vU, pj_vU, pj_vU] [] M Q := by
  refine pj_G_s pj_np108 1 (show pj_gs 1 L 108 101 [pj_vU, pj_vU, pj_vU, pj_vU, pj_vU, pj_vU] [] M = some ([], 102, [pj_vU, pj_vU, pj_vU, pj_vU, pj_vU, pj_vU], [pj_vI 0], M) from rfl) trivial ?_
  exact pj_G_r rfl rfl rfl h
theorem pj_C108_96 {L d : Nat} {Q : Option pj_V → pj_M → Prop} {M : pj_M} {x1 x2 x4 : Int} (r0 : -2147483648 ≤ x4 ∧ x4 < 2147483648) (h1 : x4 = 0 → pj_G L d 108 103 [pj_vR 38, pj_vI x1, pj_vI x2, pj_vU, pj_vU, pj_vU] [] M Q) (h2 : x4 ≠ 0 → pj_G L d 108 101 [pj_vU, pj_vU, pj_vU, pj_vU, pj_vU, pj_vU] [] M Q) : pj_G L d 108 96 [pj_vR 38, pj_vI x1, pj_vI x2, pj_vU, pj_vI x4, pj_vU] [] M Q := by
  refine pj_G_s pj_np108 1 (show pj_gs 1 L 108 96 [pj_vR 38, pj_vI x1, pj_vI x2, pj_vU, pj_vI x4, pj_vU] [] M = some ([], 98, [pj_vR 38, pj_vI x1, pj_vI x2, pj_vU, pj_vI x4, pj_vU], [pj_vI x4], M) from rfl) trivial ?_
  exact pj_G_if0 (t := 103) rfl rfl (fun z => pj_G_loc (pj_lle_e (pj_lle_e (pj_lle_e (pj_lle_e (pj_lle_u rfl (pj_lle_e pj_lle_nil)))))) (h1 (pj_ct_eq (pj_nrm_id r0.1 r0.2) rfl z))) (fun z => pj_G_loc (pj_lle_u rfl (pj_lle_u rfl (pj_lle_u rfl (pj_lle_e (pj_lle_u rfl (pj_lle_e pj_lle_nil)))))) (h2 (pj_cf_eq (pj_nrm_id r0.1 r0.2) rfl z)))
theorem pj_C108_73 {L d : Nat} {Q : Option pj_V → pj_M → Prop} {M : pj_M} {x1 x2 x4 : Int}  (h : pj_G L d 108 74 [pj_vR 38, pj_vI x1, pj_vI x2, pj_vU, pj_vI x4, pj_vU] [pj_vI 0] M Q) : pj_G L d 108 73 [pj_vR 38, pj_vI x1, pj_vI x2, pj_vU, pj_vI x4, pj_vU] [] M Q := by
  refine pj_G_s pj_np108 1 (show pj_gs 1 L 108 73 [pj_vR 38, pj_vI x1, pj_vI x2, pj_vU, pj_vI x4, pj_vU] [] M = some ([], 74, [pj_vR 38, pj_vI x1, pj_vI x2, pj_vU, pj_vI x4, pj_vU], [pj_vI 0], M) from rfl) trivial ?_
  exact h
theorem pj_C108_109 {L d : Nat} {Q : Option pj_V → pj_M → Prop} {M : pj_M}  (h : Q (some (pj_vI 1)) M) : pj_G L d 108 109 [pj_vU, pj_vU, pj_vU, pj_vU, pj_vU, pj_vU] [] M Q := by
  refine pj_G_s pj_np108 1 (show pj_gs 1 L 108 109 [pj_vU, pj_vU, pj_vU, pj_vU, pj_vU, pj_vU] [] M = some ([], 110, [pj_vU, pj_vU, pj_vU, pj_vU, pj_vU, pj_vU], [pj_vI 1], M) from rfl) trivial ?_
  exact pj_G_r rfl rfl rfl h
theorem pj_C109_0 {L d : Nat} {Q : Option pj_V → pj_M → Prop} {M : pj_M}  (h : pj_G L d 109 9 [pj_vR 38, pj_vI 0, pj_vI ((M 38 19) - 1)] [] M Q) : pj_G L d 109 0 [pj_vR 38, pj_vU, pj_vU] [] M Q := by
  refine pj_G_s pj_np109 7 (show pj_gs 7 L 109 0 [pj_vR 38, pj_vU, pj_vU] [] M = some ([], 9, [pj_vR 38, pj_vI 0, pj_vI ((M 38 19) - 1)], [], M) from rfl) trivial ?_
  exact h
theorem pj_C109_9 {L d : Nat} {Q : Option pj_V → pj_M → Prop} {M : pj_M} {x1 x2 : Int} (r0 : -2147483648 ≤ x2 ∧ x2 < 2147483648) (h1 : x2 < 0 → pj_G L d 109 60 [pj_vU, pj_vI x1, pj_vU] [] M Q) (h2 : 0 ≤ x2 → pj_G L d 109 13 [pj_vR 38, pj_vI x1, pj_vI x2] [] M Q) : pj_G L d 109 9 [pj_vR 38, pj_vI x1, pj_vI x2] [] M Q := by
  refine pj_G_s pj_np109 1 (show pj_gs 1 L 109 9 [pj_vR 38, pj_vI x1, pj_vI x2] [] M = some ([], 10, [pj_vR 38, pj_vI x1, pj_vI x2], [pj_vI x2], M) from rfl) trivial ?_
  exact pj_G_if0 (t := 60) rfl rfl (fun z => pj_G_loc (pj_lle_u rfl (pj_lle_e (pj_lle_u rfl pj_lle_nil))) (h1 (pj_ct_lt (pj_nrm_id r0.1 r0.2) rfl z))) (fun z => h2 (pj_cf_lt (pj_nrm_id r0.1 r0.2) rfl z))
theorem pj_C109_13 {L d : Nat} {Q : Option pj_V → pj_M → Prop} {M : pj_M} {x1 x2 : Int} (j0 j1 j2 j3 : Nat) (ej0 : x2 = (j0 : Int)) (bj0 : j0 < 2) (ej1 : M 51 j0 = (j1 : Int)) (bj1 : j1 < 7) (ej2 : M 46 j1 = (j2 : Int)) (bj2 : j2 < 14) (ej3 : M 47 j1 = (j3 : Int)) (bj3 : j3 < 14) (h : pj_G L d 109 9 [pj_vR 38, pj_vI (((9 * x1) + (3 * (M 59 j2))) + (M 59 j3)), pj_vI (x2 + ((-1)))] [] M Q) : pj_G L d 109 13 [pj_vR 38, pj_vI x1, pj_vI x2] [] M Q := by
  have nj0 : pj_nrm x2 = (j0 : Int) := pj_nk ej0 (by omega)
  have nj1 : pj_nrm (M 51 j0) = (j1 : Int) := pj_nk ej1 (by omega)
  have nj2 : pj_nrm (M 46 j1) = (j2 : Int) := pj_nk ej2 (by omega)
  have nj3 : pj_nrm (M 47 j1) = (j3 : Int) := pj_nk ej3 (by omega)
  refine pj_G_s pj_np109 30 (show pj_gs 30 L 109 13 [pj_vR 38, pj_vI x1, pj_vI x2] [] M = some ([0 ≤ pj_nrm x2 ∧ pj_nrm x2 < (2 : Int), 0 ≤ pj_nrm (M 51 (pj_nrm x2).toNat) ∧ pj_nrm (M 51 (pj_nrm x2).toNat) < (7 : Int), 0 ≤ pj_nrm (M 46 (pj_nrm (M 51 (pj_nrm x2).toNat)).toNat) ∧ pj_nrm (M 46 (pj_nrm (M 51 (pj_nrm x2).toNat)).toNat) < (14 : Int), 0 ≤ pj_nrm x2 ∧ pj_nrm x2 < (2 : Int), 0 ≤ pj_nrm (M 51 (pj_nrm x2).toNat) ∧ pj_nrm (M 51 (pj_nrm x2).toNat) < (7 : Int), 0 ≤ pj_nrm (M 47 (pj_nrm (M 51 (pj_nrm x2).toNat)).toNat) ∧ pj_nrm (M 47 (pj_nrm (M 51 (pj_nrm x2).toNat)).toNat) < (14 : Int)], 9, [pj_vR 38, pj_vI (((9 * x1) + (3 * (M 59 (pj_nrm (M 46 (pj_nrm (M 51 (pj_nrm x2).toNat)).toNat)).toNat))) + (M 59 (pj_nrm (M 47 (pj_nrm (M 51 (pj_nrm x2).toNat)).toNat)).toNat)), pj_vI (x2 + ((-1)))], [], M) from rfl) ⟨by omega, by simp only [nj0, nj1, nj2, nj3, Int.toNat_natCast]; omega, by simp only [nj0, nj1, nj2, nj3, Int.toNat_natCast]; omega, by omega, by simp only [nj0, nj1, nj2, nj3, Int.toNat_natCast]; omega, by simp only [nj0, nj1, nj2, nj3, Int.toNat_natCast]; omega, trivial⟩ ?_
  simp only [nj0, nj1, nj2, nj3, Int.toNat_natCast]
  exact h
theorem pj_C109_60 {L d : Nat} {Q : Option pj_V → pj_M → Prop} {M : pj_M} {x1 : Int}  (h : Q (some (pj_vI x1)) M) : pj_G L d 109 60 [pj_vU, pj_vI x1, pj_vU] [] M Q := by
  refine pj_G_s pj_np109 1 (show pj_gs 1 L 109 60 [pj_vU, pj_vI x1, pj_vU] [] M = some ([], 61, [pj_vU, pj_vI x1, pj_vU], [pj_vI x1], M) from rfl) trivial ?_
  exact pj_G_r rfl rfl rfl h
theorem pj_C110_0 {L d : Nat} {Q : Option pj_V → pj_M → Prop} {M : pj_M}  (h : pj_G L d 110 2 [pj_vR 38, pj_vI 0] [] M Q) : pj_G L d 110 0 [pj_vR 38, pj_vU] [] M Q := by
  refine pj_G_s pj_np110 2 (show pj_gs 2 L 110 0 [pj_vR 38, pj_vU] [] M = some ([], 2, [pj_vR 38, pj_vI 0], [], M) from rfl) trivial ?_
  exact h
theorem pj_C110_2 {L d : Nat} {Q : Option pj_V → pj_M → Prop} {M : pj_M} {x1 : Int} (r0 : -2147483648 ≤ x1 ∧ x1 < 2147483648) (r1 : -2147483648 ≤ M 38 18 ∧ M 38 18 < 2147483648) (h1 : M 38 18 ≤ x1 → pj_G L d 110 69 [pj_vU, pj_vU] [] M Q) (h2 : x1 < M 38 18 → pj_G L d 110 10 [pj_vR 38, pj_vI x1] [] M Q) : pj_G L d 110 2 [pj_vR 38, pj_vI x1] [] M Q := by
  refine pj_G_s pj_np110 3 (show pj_gs 3 L 110 2 [pj_vR 38, pj_vI x1] [] M = some ([], 7, [pj_vR 38, pj_vI x1], [pj_vI (M 38 18), pj_vI x1], M) from rfl) trivial ?_
  exact pj_G_if (t := 69) rfl rfl (fun z => pj_G_loc (pj_lle_u rfl (pj_lle_u rfl pj_lle_nil)) (h1 (pj_ct_ge (pj_nrm_id r0.1 r0.2) (pj_nrm_id r1.1 r1.2) z))) (fun z => h2 (pj_cf_ge (pj_nrm_id r0.1 r0.2) (pj_nrm_id r1.1 r1.2) z))
theorem pj_C110_10 {L d : Nat} {Q : Option pj_V → pj_M → Prop} {M : pj_M} {x1 : Int} (j0 : Nat) (ej0 : x1 = (j0 : Int)) (bj0 : j0 < 32) (h1 : pj_bt (M 38 23) j0 = true → pj_G L d 110 24 [pj_vR 38, pj_vI x1] [] M Q) (h2 : pj_bt (M 38 23) j0 = false → pj_G L d 110 21 [pj_vR 38, pj_vI x1] [] M Q) : pj_G L d 110 10 [pj_vR 38, pj_vI x1] [] M Q := by
  have nj0 : pj_nrm x1 = (j0 : Int) := pj_nk ej0 (by omega)
  refine pj_G_s pj_np110 6 (show pj_gs 6 L 110 10 [pj_vR 38, pj_vI x1] [] M = some ([], 18, [pj_vR 38, pj_vI x1], [pj_vI (pj_and (pj_shr (M 38 23) x1) 1)], M) from rfl) trivial ?_
  exact pj_G_if0 (t := 24) rfl rfl (fun z => h1 (pj_ine0 (pj_ct_ne (pj_tst ej0 (by omega)) rfl z))) (fun z => h2 (pj_ieq0 (pj_cf_ne (pj_tst ej0 (by omega)) rfl z)))
theorem pj_C110_21 {L d : Nat} {Q : Option pj_V → pj_M → Prop} {M : pj_M} {x1 : Int}  (h : pj_G L d 110 63 [pj_vR 38, pj_vI x1] [] M Q) : pj_G L d 110 21 [pj_vR 38, pj_vI x1] [] M Q := by
  refine pj_G_s pj_np110 1 (show pj_gs 1 L 110 21 [pj_vR 38, pj_vI x1] [] M = some ([], 63, [pj_vR 38, pj_vI x1], [], M) from rfl) trivial ?_
  exact h
theorem pj_C110_63 {L d : Nat} {Q : Option pj_V → pj_M → Prop} {M : pj_M} {x1 : Int}  (h : pj_G L d 110 2 [pj_vR 38, pj_vI (x1 + 1)] [] M Q) : pj_G L d 110 63 [pj_vR 38, pj_vI x1] [] M Q := by
  refine pj_G_s pj_np110 2 (show pj_gs 2 L 110 63 [pj_vR 38, pj_vI x1] [] M = some ([], 2, [pj_vR 38, pj_vI (x1 + 1)], [], M) from rfl) trivial ?_
  exact h
theorem pj_C110_24 {L d : Nat} {Q : Option pj_V → pj_M → Prop} {M : pj_M} {x1 : Int} (j0 j1 : Nat) (ej0 : x1 = (j0 : Int)) (bj0 : j0 < 7) (ej1 : M 45 j0 = (j1 : Int)) (bj1 : j1 < 14) (r0 : -2147483648 ≤ (pj_up M 57 j0 ((M 57 j0) + 1)) 57 j0 ∧ (pj_up M 57 j0 ((M 57 j0) + 1)) 57 j0 < 2147483648) (r1 : -2147483648 ≤ M 39 j1 ∧ M 39 j1 < 2147483648) (h1 : M 39 j1 ≤ (pj_up M 57 j0 ((M 57 j0) + 1)) 57 j0 → pj_G L d 110 56 [pj_vR 38, pj_vI x1] [] (pj_up M 57 j0 ((M 57 j0) + 1)) Q) (h2 : (pj_up M 57 j0 ((M 57 j0) + 1)) 57 j0 < M 39 j1 → pj_G L d 110 54 [pj_vU, pj_vU] [] (pj_up M 57 j0 ((M 57 j0) + 1)) Q) : pj_G L d 110 24 [pj_vR 38, pj_vI x1] [] M Q := by
  have nj0 : pj_nrm x1 = (j0 : Int) := pj_nk ej0 (by omega)
  have nj1 : pj_nrm (M 45 j0) = (j1 : Int) := pj_nk ej1 (by omega)
  refine pj_G_s pj_np110 19 (show pj_gs 19 L 110 24 [pj_vR 38, pj_vI x1] [] M = some ([0 ≤ pj_nrm x1 ∧ pj_nrm x1 < (7 : Int), 0 ≤ pj_nrm x1 ∧ pj_nrm x1 < (7 : Int), 0 ≤ pj_nrm x1 ∧ pj_nrm x1 < (7 : Int), 0 ≤ pj_nrm x1 ∧ pj_nrm x1 < (7 : Int), 0 ≤ pj_nrm (M 45 (pj_nrm x1).toNat) ∧ pj_nrm (M 45 (pj_nrm x1).toNat) < (14 : Int)], 51, [pj_vR 38, pj_vI x1], [pj_vI (M 39 (pj_nrm (M 45 (pj_nrm x1).toNat)).toNat), pj_vI ((pj_up M 57 (pj_nrm x1).toNat ((M 57 (pj_nrm x1).toNat) + 1)) 57 (pj_nrm x1).toNat)], pj_up M 57 (pj_nrm x1).toNat ((M 57 (pj_nrm x1).toNat) + 1)) from rfl) ⟨by omega, by omega, by omega, by omega, by simp only [nj0, nj1, Int.toNat_natCast]; omega, trivial⟩ ?_
  simp only [nj0, nj1, Int.toNat_natCast]
  exact pj_G_if (t := 56) rfl rfl (fun z => h1 (pj_ct_ge (pj_nrm_id r0.1 r0.2) (pj_nrm_id r1.1 r1.2) z)) (fun z => pj_G_loc (pj_lle_u rfl (pj_lle_u rfl pj_lle_nil)) (h2 (pj_cf_ge (pj_nrm_id r0.1 r0.2) (pj_nrm_id r1.1 r1.2) z)))
theorem pj_C110_54 {L d : Nat} {Q : Option pj_V → pj_M → Prop} {M : pj_M}  (h : Q (some (pj_vI 1)) M) : pj_G L d 110 54 [pj_vU, pj_vU] [] M Q := by
  refine pj_G_s pj_np110 1 (show pj_gs 1 L 110 54 [pj_vU, pj_vU] [] M = some ([], 55, [pj_vU, pj_vU], [pj_vI 1], M) from rfl) trivial ?_
  exact pj_G_r rfl rfl rfl h
theorem pj_C110_56 {L d : Nat} {Q : Option pj_V → pj_M → Prop} {M : pj_M} {x1 : Int} (j0 : Nat) (ej0 : x1 = (j0 : Int)) (bj0 : j0 < 7) (h : pj_G L d 110 63 [pj_vR 38, pj_vI x1] [] (pj_up M 57 j0 0) Q) : pj_G L d 110 56 [pj_vR 38, pj_vI x1] [] M Q := by
  have nj0 : pj_nrm x1 = (j0 : Int) := pj_nk ej0 (by omega)
  refine pj_G_s pj_np110 5 (show pj_gs 5 L 110 56 [pj_vR 38, pj_vI x1] [] M = some ([0 ≤ pj_nrm x1 ∧ pj_nrm x1 < (7 : Int)], 63, [pj_vR 38, pj_vI x1], [], pj_up M 57 (pj_nrm x1).toNat 0) from rfl) ⟨by omega, trivial⟩ ?_
  simp only [nj0, Int.toNat_natCast]
  exact h
theorem pj_C110_69 {L d : Nat} {Q : Option pj_V → pj_M → Prop} {M : pj_M}  (h : Q (some (pj_vI 0)) M) : pj_G L d 110 69 [pj_vU, pj_vU] [] M Q := by
  refine pj_G_s pj_np110 1 (show pj_gs 1 L 110 69 [pj_vU, pj_vU] [] M = some ([], 70, [pj_vU, pj_vU], [pj_vI 0], M) from rfl) trivial ?_
  exact pj_G_r rfl rfl rfl h
theorem pj_C111_0 {L d : Nat} {Q : Option pj_V → pj_M → Prop} {M : pj_M} {x1 x2 x3 : Int}  (h : pj_G L d 111 3 [pj_vR 38, pj_vI x1, pj_vI x2, pj_vI x3, pj_vI 0, pj_vU, pj_vU] [] M Q) : pj_G L d 111 0 [pj_vR 38, pj_vI x1, pj_vI x2, pj_vI x3, pj_vU, pj_vU, pj_vU] [] M Q := by
  refine pj_G_s pj_np111 2 (show pj_gs 2 L 111 0 [pj_vR 38, pj_vI x1, pj_vI x2, pj_vI x3, pj_vU, pj_vU, pj_vU] [] M = some ([], 3, [pj_vR 38, pj_vI x1, pj_vI x2, pj_vI x3, pj_vI 0, pj_vU, pj_vU], [], M) from rfl) trivial ?_
  exact h
theorem pj_C111_3 {L d : Nat} {Q : Option pj_V → pj_M → Prop} {M : pj_M} {x1 x2 x3 x4 : Int} (r0 : -2147483648 ≤ x4 ∧ x4 < 2147483648) (r1 : -2147483648 ≤ M 38 18 ∧ M 38 18 < 2147483648) (h1 : M 38 18 ≤ x4 → pj_G L d 111 26 [pj_vR 38, pj_vI x1, pj_vI x2, pj_vI x3, pj_vU, pj_vU, pj_vU] [] M Q) (h2 : x4 < M 38 18 → pj_G L d 111 12 [pj_vR 38, pj_vI x1, pj_vI x2, pj_vI x3, pj_vI x4, pj_vU, pj_vU] [] M Q) : pj_G L d 111 3 [pj_vR 38, pj_vI x1, pj_vI x2, pj_vI x3, pj_vI x4, pj_vU, pj_vU] [] M Q := by
  refine pj_G_s pj_np111 3 (show pj_gs 3 L 111 3 [pj_vR 38, pj_vI x1, pj_vI x2, pj_vI x3, pj_vI x4, pj_vU, pj_vU] [] M = some ([], 9, [pj_vR 38, pj_vI x1, pj_vI x2, pj_vI x3, pj_vI x4, pj_vU, pj_vU], [pj_vI (M 38 18), pj_vI x4], M) from rfl) trivial ?_
  exact pj_G_if (t := 26) rfl rfl (fun z => pj_G_loc (pj_lle_e (pj_lle_e (pj_lle_e (pj_lle_e (pj_lle_u rfl (pj_lle_e (pj_lle_e pj_lle_nil))))))) (h1 (pj_ct_ge (pj_nrm_id r0.1 r0.2) (pj_nrm_id r1.1 r1.2) z))) (fun z => h2 (pj_cf_ge (pj_nrm_id r0.1 r0.2) (pj_nrm_id r1.1 r1.2) z))
theorem pj_C111_12 {L d : Nat} {Q : Option pj_V → pj_M → Prop} {M : pj_M} {x1 x2 x3 x4 : Int} (j0 : Nat) (ej0 : x4 = (j0 : Int)) (bj0 : j0 < 7) (h : pj_G L d 111 3 [pj_vR 38, pj_vI x1, pj_vI x2, pj_vI x3, pj_vI (x4 + 1), pj_vU, pj_vU] [] (pj_up M 57 j0 0) Q) : pj_G L d 111 12 [pj_vR 38, pj_vI x1, pj_vI x2, pj_vI x3, pj_vI x4, pj_vU, pj_vU] [] M Q := by
  have nj0 : pj_nrm x4 = (j0 : Int) := pj_nk ej0 (by omega)
  refine pj_G_s pj_np111 7 (show pj_gs 7 L 111 12 [pj_vR 38, pj_vI x1, pj_vI x2, pj_vI x3, pj_vI x4, pj_vU, pj_vU] [] M = some ([0 ≤ pj_nrm x4 ∧ pj_nrm x4 < (7 : Int)], 3, [pj_vR 38, pj_vI x1, pj_vI x2, pj_vI x3, pj_vI (x4 + 1), pj_vU, pj_vU], [], pj_up M 57 (pj_nrm x4).toNat 0) from rfl) ⟨by omega, trivial⟩ ?_
  simp only [nj0, Int.toNat_natCast]
  exact h
theorem pj_C111_26 {L d : Nat} {Q : Option pj_V → pj_M → Prop} {M : pj_M} {x1 x2 x3 : Int}  (h : pj_G L d 111 29 [pj_vR 38, pj_vI x1, pj_vI x2, pj_vI x3, pj_vI 1, pj_vU, pj_vU] [] M Q) : pj_G L d 111 26 [pj_vR 38, pj_vI x1, pj_vI x2, pj_vI x3, pj_vU, pj_vU, pj_vU] [] M Q := by
  refine pj_G_s pj_np111 2 (show pj_gs 2 L 111 26 [pj_vR 38, pj_vI x1, pj_vI x2, pj_vI x3, pj_vU, pj_vU, pj_vU] [] M = some ([], 29, [pj_vR 38, pj_vI x1, pj_vI x2, pj_vI x3, pj_vI 1, pj_vU, pj_vU], [], M) from rfl) trivial ?_
  exact h
theorem pj_C111_29 {L d : Nat} {Q : Option pj_V → pj_M → Prop} {M : pj_M} {x1 x2 x3 x4 : Int} (r0 : -2147483648 ≤ x4 ∧ x4 < 2147483648) (h1 : x4 = 0 → pj_G L d 111 166 [pj_vU, pj_vU, pj_vU, pj_vU, pj_vU, pj_vU, pj_vU] [] M Q) (h2 : x4 ≠ 0 → pj_G L d 111 34 [pj_vR 38, pj_vI x1, pj_vI x2, pj_vI x3, pj_vU, pj_vU, pj_vU] [] M Q) : pj_G L d 111 29 [pj_vR 38, pj_vI x1, pj_vI x2, pj_vI x3, pj_vI x4, pj_vU, pj_vU] [] M Q := by
  refine pj_G_s pj_np111 1 (show pj_gs 1 L 111 29 [pj_vR 38, pj_vI x1, pj_vI x2, pj_vI x3, pj_vI x4, pj_vU, pj_vU] [] M = some ([], 31, [pj_vR 38, pj_vI x1, pj_vI x2, pj_vI x3, pj_vI x4, pj_vU, pj_vU], [pj_vI x4], M) from rfl) trivial ?_
  exact pj_G_if0 (t := 166) rfl rfl (fun z => pj_G_loc (pj_lle_u rfl (pj_lle_u rfl (pj_lle_u rfl (pj_lle_u rfl (pj_lle_u rfl (pj_lle_e (pj_lle_e pj_lle_nil))))))) (h1 (pj_ct_eq (pj_nrm_id r0.1 r0.2) rfl z))) (fun z => pj_G_loc (pj_lle_e (pj_lle_e (pj_lle_e (pj_lle_e (pj_lle_u rfl (pj_lle_e (pj_lle_e pj_lle_nil))))))) (h2 (pj_cf_eq (pj_nrm_id r0.1 r0.2) rfl z)))
theorem pj_C111_34 {L d : Nat} {Q : Option pj_V → pj_M → Prop} {M : pj_M} {x1 x2 x3 : Int}  (h : pj_G L d 107 0 [pj_vR 38, pj_vI x1, pj_vI x2, pj_vU, pj_vU] [] M (fun r M1 => pj_G L (d + 1) 111 40 [pj_vR 38, pj_vI x1, pj_vI x2, pj_vI x3, pj_vU, pj_vU, pj_vU] (r.toList ++ []) M1 Q)) : pj_G L (d + 1) 111 34 [pj_vR 38, pj_vI x1, pj_vI x2, pj_vI x3, pj_vU, pj_vU, pj_vU] [] M Q := by
  refine pj_G_s (d := d + 1) pj_np111 3 (show pj_gs 3 L 111 34 [pj_vR 38, pj_vI x1, pj_vI x2, pj_vI x3, pj_vU, pj_vU, pj_vU] [] M = some ([], 37, [pj_vR 38, pj_vI x1, pj_vI x2, pj_vI x3, pj_vU, pj_vU, pj_vU], [pj_vI x2, pj_vI x1, pj_vR 38], M) from rfl) trivial ?_
  exact pj_G_k (j := 107) (vs := [pj_vR 38, pj_vI x1, pj_vI x2]) (st := []) rfl rfl rfl rfl rfl (Nat.le_of_ble_eq_true rfl) pj_nc107 h
theorem pj_C111_40 {L d : Nat} {Q : Option pj_V → pj_M → Prop} {M : pj_M} {x1 x2 x3 : Int}  (h : pj_G L d 108 0 [pj_vR 38, pj_vI x1, pj_vU, pj_vU, pj_vU, pj_vU] [] M (fun r M1 => pj_G L (d + 1) 111 45 [pj_vR 38, pj_vI x1, pj_vI x2, pj_vI x3, pj_vU, pj_vU, pj_vU] (r.toList ++ []) M1 Q)) : pj_G L (d + 1) 111 40 [pj_vR 38, pj_vI x1, pj_vI x2, pj_vI x3, pj_vU, pj_vU, pj_vU] [] M Q := by
  refine pj_G_s (d := d + 1) pj_np111 2 (show pj_gs 2 L 111 40 [pj_vR 38, pj_vI x1, pj_vI x2, pj_vI x3, pj_vU, pj_vU, pj_vU] [] M = some ([], 42, [pj_vR 38, pj_vI x1, pj_vI x2, pj_vI x3, pj_vU, pj_vU, pj_vU], [pj_vI x1, pj_vR 38], M) from rfl) trivial ?_
  exact pj_G_k (j := 108) (vs := [pj_vR 38, pj_vI x1]) (st := []) rfl rfl rfl rfl rfl (Nat.le_of_ble_eq_true rfl) pj_nc108 h
theorem pj_C111_45 {L d : Nat} {Q : Option pj_V → pj_M → Prop} {M : pj_M} {x1 x2 x3 s0 : Int} (r0 : -2147483648 ≤ s0 ∧ s0 < 2147483648) (h1 : s0 = 0 → pj_G L d 111 157 [pj_vR 38, pj_vI x1, pj_vI x2, pj_vI x3, pj_vU, pj_vU, pj_vU] [] M Q) (h2 : s0 ≠ 0 → pj_G L d 111 48 [pj_vR 38, pj_vI x1, pj_vI x2, pj_vI x3, pj_vU, pj_vU, pj_vU] [] M Q) : pj_G L d 111 45 [pj_vR 38, pj_vI x1, pj_vI x2, pj_vI x3, pj_vU, pj_vU, pj_vU] [pj_vI s0] M Q := by
  exact pj_G_if0 (t := 157) rfl rfl (fun z => h1 (pj_ct_eq (pj_nrm_id r0.1 r0.2) rfl z)) (fun z => h2 (pj_cf_eq (pj_nrm_id r0.1 r0.2) rfl z))
theorem pj_C111_48 {L d : Nat} {Q : Option pj_V → pj_M → Prop} {M : pj_M} {x1 x2 x3 : Int}  (h : pj_G L d 109 0 [pj_vR 38, pj_vU, pj_vU] [] M (fun r M1 => pj_G L (d + 1) 111 58 [pj_vR 38, pj_vI x1, pj_vI x2, pj_vI x3, pj_vU, pj_vU, pj_vU] (r.toList ++ [pj_vI (81 * (x1 + 1))]) M1 Q)) : pj_G L (d + 1) 111 48 [pj_vR 38, pj_vI x1, pj_vI x2, pj_vI x3, pj_vU, pj_vU, pj_vU] [] M Q := by
  refine pj_G_s (d := d + 1) pj_np111 6 (show pj_gs 6 L 111 48 [pj_vR 38, pj_vI x1, pj_vI x2, pj_vI x3, pj_vU, pj_vU, pj_vU] [] M = some ([], 55, [pj_vR 38, pj_vI x1, pj_vI x2, pj_vI x3, pj_vU, pj_vU, pj_vU], [pj_vR 38, pj_vI (81 * (x1 + 1))], M) from rfl) trivial ?_
  exact pj_G_k (j := 109) (vs := [pj_vR 38]) (st := [pj_vI (81 * (x1 + 1))]) rfl rfl rfl rfl rfl (Nat.le_of_ble_eq_true rfl) pj_nc109 h
