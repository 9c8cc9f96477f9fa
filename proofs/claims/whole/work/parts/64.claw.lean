set_option maxRecDepth 100000 in
theorem pj_C152_16 {L d : Nat} {Q : Option pj_V → pj_M → Prop} {M : pj_M}  (h : pj_G L d 152 18 [pj_vR 0, pj_vR 1, pj_vR 38, pj_vI 0] [] M Q) : pj_G L d 152 16 [pj_vR 0, pj_vR 1, pj_vR 38, pj_vU] [] M Q := by
  refine pj_G_s pj_np152 2 (show pj_gs 2 L 152 16 [pj_vR 0, pj_vR 1, pj_vR 38, pj_vU] [] M = some ([], 18, [pj_vR 0, pj_vR 1, pj_vR 38, pj_vI 0], [], M) from rfl) trivial ?_
  exact h
set_option maxRecDepth 100000 in
theorem pj_C152_18 {L d : Nat} {Q : Option pj_V → pj_M → Prop} {M : pj_M} {x3 : Int} (r0 : -2147483648 ≤ x3 ∧ x3 < 2147483648) (r1 : -2147483648 ≤ ((L : Int)) - 5 ∧ ((L : Int)) - 5 < 2147483648) (h1 : ((L : Int)) - 5 < x3 → pj_G L d 152 1122 [pj_vU, pj_vU, pj_vU, pj_vU] [] M Q) (h2 : x3 ≤ ((L : Int)) - 5 → pj_G L d 152 26 [pj_vR 0, pj_vR 1, pj_vR 38, pj_vI x3] [] M Q) : pj_G L d 152 18 [pj_vR 0, pj_vR 1, pj_vR 38, pj_vI x3] [] M Q := by
  refine pj_G_s pj_np152 5 (show pj_gs 5 L 152 18 [pj_vR 0, pj_vR 1, pj_vR 38, pj_vI x3] [] M = some ([], 23, [pj_vR 0, pj_vR 1, pj_vR 38, pj_vI x3], [pj_vI (((L : Int)) - 5), pj_vI x3], M) from rfl) trivial ?_
  exact pj_G_if (t := 1122) rfl rfl (fun z => pj_G_loc (pj_lle_u rfl (pj_lle_u rfl (pj_lle_u rfl (pj_lle_u rfl pj_lle_nil)))) (h1 (pj_ct_gt (pj_nrm_id r0.1 r0.2) (pj_nrm_id r1.1 r1.2) z))) (fun z => h2 (pj_cf_gt (pj_nrm_id r0.1 r0.2) (pj_nrm_id r1.1 r1.2) z))
set_option maxRecDepth 100000 in
theorem pj_C152_26 {L d : Nat} {Q : Option pj_V → pj_M → Prop} {M : pj_M} {x3 : Int} (j0 : Nat) (hL : L ≤ 2560) (ej0 : x3 = (j0 : Int)) (bj0 : j0 < L) (k0 : pj_and (M 0 j0) 31 = 0 → pj_G L d 152 176 [pj_vR 0, pj_vR 1, pj_vR 38, pj_vI x3] [] M Q) (k1 : pj_and (M 0 j0) 31 = 1 → pj_G L d 152 199 [pj_vR 0, pj_vR 1, pj_vR 38, pj_vI x3] [] M Q) (k2 : pj_and (M 0 j0) 31 = 2 → pj_G L d 152 252 [pj_vR 0, pj_vR 1, pj_vR 38, pj_vI x3] [] M Q) (k3 : pj_and (M 0 j0) 31 = 3 → pj_G L d 152 295 [pj_vR 0, pj_vR 1, pj_vR 38, pj_vI x3] [] M Q) (k4 : pj_and (M 0 j0) 31 = 4 → pj_G L d 152 328 [pj_vR 0, pj_vR 1, pj_vR 38, pj_vI x3] [] M Q) (k5 : pj_and (M 0 j0) 31 = 5 → pj_G L d 152 361 [pj_vR 0, pj_vR 1, pj_vR 38, pj_vI x3] [] M Q) (k6 : pj_and (M 0 j0) 31 = 6 → pj_G L d 152 394 [pj_vR 0, pj_vR 1, pj_vR 38, pj_vI x3] [] M Q) (k7 : pj_and (M 0 j0) 31 = 7 → pj_G L d 152 417 [pj_vR 0, pj_vR 1, pj_vR 38, pj_vI x3] [] M Q) (k8 : pj_and (M 0 j0) 31 = 8 → pj_G L d 152 460 [pj_vR 0, pj_vR 1, pj_vR 38, pj_vI x3] [] M Q) (k9 : pj_and (M 0 j0) 31 = 9 → pj_G L d 152 509 [pj_vR 0, pj_vR 1, pj_vR 38, pj_vI x3] [] M Q) (k10 : pj_and (M 0 j0) 31 = 10 → pj_G L d 152 542 [pj_vR 0, pj_vR 1, pj_vR 38, pj_vI x3] [] M Q) (k11 : pj_and (M 0 j0) 31 = 11 → pj_G L d 152 575 [pj_vR 0, pj_vR 1, pj_vR 38, pj_vI x3] [] M Q) (k12 : pj_and (M 0 j0) 31 = 12 → pj_G L d 152 618 [pj_vR 0, pj_vR 1, pj_vR 38, pj_vI x3] [] M Q) (k13 : pj_and (M 0 j0) 31 = 13 → pj_G L d 152 631 [pj_vR 0, pj_vR 1, pj_vR 38, pj_vI x3] [] M Q) (k14 : pj_and (M 0 j0) 31 = 14 → pj_G L d 152 664 [pj_vR 0, pj_vR 1, pj_vR 38, pj_vI x3] [] M Q) (k15 : pj_and (M 0 j0) 31 = 15 → pj_G L d 152 677 [pj_vR 0, pj_vR 1, pj_vR 38, pj_vI x3] [] M Q) (k16 : pj_and (M 0 j0) 31 = 16 → pj_G L d 152 700 [pj_vR 0, pj_vR 1, pj_vR 38, pj_vI x3] [] M Q) (k17 : pj_and (M 0 j0) 31 = 17 → pj_G L d 152 723 [pj_vR 0, pj_vR 1, pj_vR 38, pj_vI x3] [] M Q) (k18 : pj_and (M 0 j0) 31 = 18 → pj_G L d 152 747 [pj_vR 0, pj_vR 1, pj_vR 38, pj_vI x3] [] M Q) (k19 : pj_and (M 0 j0) 31 = 19 → pj_G L d 152 760 [pj_vR 0, pj_vR 1, pj_vR 38, pj_vI x3] [] M Q) (k20 : pj_and (M 0 j0) 31 = 20 → pj_G L d 152 810 [pj_vR 0, pj_vR 1, pj_vR 38, pj_vI x3] [] M Q) (k21 : pj_and (M 0 j0) 31 = 21 → pj_G L d 152 823 [pj_vR 0, pj_vR 1, pj_vR 38, pj_vI x3] [] M Q) (k22 : pj_and (M 0 j0) 31 = 22 → pj_G L d 152 846 [pj_vR 0, pj_vR 1, pj_vR 38, pj_vI x3] [] M Q) (k23 : pj_and (M 0 j0) 31 = 23 → pj_G L d 152 869 [pj_vR 0, pj_vR 1, pj_vR 38, pj_vI x3] [] M Q) (k24 : pj_and (M 0 j0) 31 = 24 → pj_G L d 152 912 [pj_vR 0, pj_vR 1, pj_vR 38, pj_vI x3] [] M Q) (k25 : pj_and (M 0 j0) 31 = 25 → pj_G L d 152 945 [pj_vR 0, pj_vR 1, pj_vR 38, pj_vI x3] [] M Q) (k26 : pj_and (M 0 j0) 31 = 26 → pj_G L d 152 958 [pj_vR 0, pj_vR 1, pj_vR 38, pj_vI x3] [] M Q) (k27 : pj_and (M 0 j0) 31 = 27 → pj_G L d 152 991 [pj_vR 0, pj_vR 1, pj_vR 38, pj_vI x3] [] M Q) (k28 : pj_and (M 0 j0) 31 = 28 → pj_G L d 152 1014 [pj_vR 0, pj_vR 1, pj_vR 38, pj_vI x3] [] M Q) (k29 : pj_and (M 0 j0) 31 = 29 → pj_G L d 152 1027 [pj_vR 0, pj_vR 1, pj_vR 38, pj_vI x3] [] M Q) (k30 : pj_and (M 0 j0) 31 = 30 → pj_G L d 152 1050 [pj_vR 0, pj_vR 1, pj_vR 38, pj_vI x3] [] M Q) (k31 : pj_and (M 0 j0) 31 = 31 → pj_G L d 152 1093 [pj_vR 0, pj_vR 1, pj_vR 38, pj_vI x3] [] M Q) (kd : (pj_and (M 0 j0) 31 < 0 ∨ 31 < pj_and (M 0 j0) 31) → pj_G L d 152 1116 [pj_vR 0, pj_vR 1, pj_vR 38, pj_vI x3] [] M Q) : pj_G L d 152 26 [pj_vR 0, pj_vR 1, pj_vR 38, pj_vI x3] [] M Q := by
  have nj0 : pj_nrm x3 = (j0 : Int) := pj_nk ej0 (by omega)
  refine pj_G_s pj_np152 5 (show pj_gs 5 L 152 26 [pj_vR 0, pj_vR 1, pj_vR 38, pj_vI x3] [] M = some ([0 ≤ pj_nrm x3 ∧ pj_nrm x3 < (L : Int)], 32, [pj_vR 0, pj_vR 1, pj_vR 38, pj_vI x3], [pj_vI (pj_and (M 0 (pj_nrm x3).toNat) 31)], M) from rfl) ⟨by omega, trivial⟩ ?_
  simp only [nj0, Int.toNat_natCast]
  have hX : pj_nrm (pj_and (M 0 j0) 31) = pj_and (M 0 j0) 31 := (pj_nrm_op _)
  by_cases z : pj_and (M 0 j0) 31 < 0 ∨ 31 < pj_and (M 0 j0) 31
  · refine pj_G_n (pc' := 1116) (loc' := [pj_vR 0, pj_vR 1, pj_vR 38, pj_vI x3]) (stk' := []) (M' := M) pj_np152 rfl ?_ (kd z)
    show (if pj_nrm (pj_and (M 0 j0) 31) < 0 ∨ 31 < pj_nrm (pj_and (M 0 j0) 31) then _ else _) = _
    rw [hX, if_pos z]
    rfl
  · obtain w | w | w | w | w | w | w | w | w | w | w | w | w | w | w | w | w | w | w | w | w | w | w | w | w | w | w | w | w | w | w | w : pj_and (M 0 j0) 31 = 0 ∨ pj_and (M 0 j0) 31 = 1 ∨ pj_and (M 0 j0) 31 = 2 ∨ pj_and (M 0 j0) 31 = 3 ∨ pj_and (M 0 j0) 31 = 4 ∨ pj_and (M 0 j0) 31 = 5 ∨ pj_and (M 0 j0) 31 = 6 ∨ pj_and (M 0 j0) 31 = 7 ∨ pj_and (M 0 j0) 31 = 8 ∨ pj_and (M 0 j0) 31 = 9 ∨ pj_and (M 0 j0) 31 = 10 ∨ pj_and (M 0 j0) 31 = 11 ∨ pj_and (M 0 j0) 31 = 12 ∨ pj_and (M 0 j0) 31 = 13 ∨ pj_and (M 0 j0) 31 = 14 ∨ pj_and (M 0 j0) 31 = 15 ∨ pj_and (M 0 j0) 31 = 16 ∨ pj_and (M 0 j0) 31 = 17 ∨ pj_and (M 0 j0) 31 = 18 ∨ pj_and (M 0 j0) 31 = 19 ∨ pj_and (M 0 j0) 31 = 20 ∨ pj_and (M 0 j0) 31 = 21 ∨ pj_and (M 0 j0) 31 = 22 ∨ pj_and (M 0 j0) 31 = 23 ∨ pj_and (M 0 j0) 31 = 24 ∨ pj_and (M 0 j0) 31 = 25 ∨ pj_and (M 0 j0) 31 = 26 ∨ pj_and (M 0 j0) 31 = 27 ∨ pj_and (M 0 j0) 31 = 28 ∨ pj_and (M 0 j0) 31 = 29 ∨ pj_and (M 0 j0) 31 = 30 ∨ pj_and (M 0 j0) 31 = 31 := by omega
    · refine pj_G_n (pc' := 176) (loc' := [pj_vR 0, pj_vR 1, pj_vR 38, pj_vI x3]) (stk' := []) (M' := M) pj_np152 rfl ?_ (k0 w)
      show (if pj_nrm (pj_and (M 0 j0) 31) < 0 ∨ 31 < pj_nrm (pj_and (M 0 j0) 31) then _ else _) = _
      rw [hX, if_neg z, w]
      rfl
    · refine pj_G_n (pc' := 199) (loc' := [pj_vR 0, pj_vR 1, pj_vR 38, pj_vI x3]) (stk' := []) (M' := M) pj_np152 rfl ?_ (k1 w)
      show (if pj_nrm (pj_and (M 0 j0) 31) < 0 ∨ 31 < pj_nrm (pj_and (M 0 j0) 31) then _ else _) = _
      rw [hX, if_neg z, w]
      rfl
    · refine pj_G_n (pc' := 252) (loc' := [pj_vR 0, pj_vR 1, pj_vR 38, pj_vI x3]) (stk' := []) (M' := M) pj_np152 rfl ?_ (k2 w)
      show (if pj_nrm (pj_and (M 0 j0) 31) < 0 ∨ 31 < pj_nrm (pj_and (M 0 j0) 31) then _ else _) = _
      rw [hX, if_neg z, w]
      rfl
    · refine pj_G_n (pc' := 295) (loc' := [pj_vR 0, pj_vR 1, pj_vR 38, pj_vI x3]) (stk' := []) (M' := M) pj_np152 rfl ?_ (k3 w)
      show (if pj_nrm (pj_and (M 0 j0) 31) < 0 ∨ 31 < pj_nrm (pj_and (M 0 j0) 31) then _ else _) = _
      rw [hX, if_neg z, w]
      rfl
    · refine pj_G_n (pc' := 328) (loc' := [pj_vR 0, pj_vR 1, pj_vR 38, pj_vI x3]) (stk' := []) (M' := M) pj_np152 rfl ?_ (k4 w)
      show (if pj_nrm (pj_and (M 0 j0) 31) < 0 ∨ 31 < pj_nrm (pj_and (M 0 j0) 31) then _ else _) = _
      rw [hX, if_neg z, w]
      rfl
    · refine pj_G_n (pc' := 361) (loc' := [pj_vR 0, pj_vR 1, pj_vR 38, pj_vI x3]) (stk' := []) (M' := M) pj_np152 rfl ?_ (k5 w)
      show (if pj_nrm (pj_and (M 0 j0) 31) < 0 ∨ 31 < pj_nrm (pj_and (M 0 j0) 31) then _ else _) = _
      rw [hX, if_neg z, w]
      rfl
    · refine pj_G_n (pc' := 394) (loc' := [pj_vR 0, pj_vR 1, pj_vR 38, pj_vI x3]) (stk' := []) (M' := M) pj_np152 rfl ?_ (k6 w)
      show (if pj_nrm (pj_and (M 0 j0) 31) < 0 ∨ 31 < pj_nrm (pj_and (M 0 j0) 31) then _ else _) = _
      rw [hX, if_neg z, w]
      rfl
    · refine pj_G_n (pc' := 417) (loc' := [pj_vR 0, pj_vR 1, pj_vR 38, pj_vI x3]) (stk' := []) (M' := M) pj_np152 rfl ?_ (k7 w)
      show (if pj_nrm (pj_and (M 0 j0) 31) < 0 ∨ 31 < pj_nrm (pj_and (M 0 j0) 31) then _ else _) = _
      rw [hX, if_neg z, w]
      rfl
    · refine pj_G_n (pc' := 460) (loc' := [pj_vR 0, pj_vR 1, pj_vR 38, pj_vI x3]) (stk' := []) (M' := M) pj_np152 rfl ?_ (k8 w)
      show (if pj_nrm (pj_and (M 0 j0) 31) < 0 ∨ 31 < pj_nrm (pj_and (M 0 j0) 31) then _ else _) = _
      rw [hX, if_neg z, w]
      rfl
    · refine pj_G_n (pc' := 509) (loc' := [pj_vR 0, pj_vR 1, pj_vR 38, pj_vI x3]) (stk' := []) (M' := M) pj_np152 rfl ?_ (k9 w)
      show (if pj_nrm (pj_and (M 0 j0) 31) < 0 ∨ 31 < pj_nrm (pj_and (M 0 j0) 31) then _ else _) = _
      rw [hX, if_neg z, w]
      rfl
    · refine pj_G_n (pc' := 542) (loc' := [pj_vR 0, pj_vR 1, pj_vR 38, pj_vI x3]) (stk' := []) (M' := M) pj_np152 rfl ?_ (k10 w)
      show (if pj_nrm (pj_and (M 0 j0) 31) < 0 ∨ 31 < pj_nrm (pj_and (M 0 j0) 31) then _ else _) = _
      rw [hX, if_neg z, w]
      rfl
    · refine pj_G_n (pc' := 575) (loc' := [pj_vR 0, pj_vR 1, pj_vR 38, pj_vI x3]) (stk' := []) (M' := M) pj_np152 rfl ?_ (k11 w)
      show (if pj_nrm (pj_and (M 0 j0) 31) < 0 ∨ 31 < pj_nrm (pj_and (M 0 j0) 31) then _ else _) = _
      rw [hX, if_neg z, w]
      rfl
    · refine pj_G_n (pc' := 618) (loc' := [pj_vR 0, pj_vR 1, pj_vR 38, pj_vI x3]) (stk' := []) (M' := M) pj_np152 rfl ?_ (k12 w)
      show (if pj_nrm (pj_and (M 0 j0) 31) < 0 ∨ 31 < pj_nrm (pj_and (M 0 j0) 31) then _ else _) = _
      rw [hX, if_neg z, w]
      rfl
    · refine pj_G_n (pc' := 631) (loc' := [pj_vR 0, pj_vR 1, pj_vR 38, pj_vI x3]) (stk' := []) (M' := M) pj_np152 rfl ?_ (k13 w)
      show (if pj_nrm (pj_and (M 0 j0) 31) < 0 ∨ 31 < pj_nrm (pj_and (M 0 j0) 31) then _ else _) = _
      rw [hX, if_neg z, w]
      rfl
    · refine pj_G_n (pc' := 664) (loc' := [pj_vR 0, pj_vR 1, pj_vR 38, pj_vI x3]) (stk' := []) (M' := M) pj_np152 rfl ?_ (k14 w)
      show (if pj_nrm (pj_and (M 0 j0) 31) < 0 ∨ 31 < pj_nrm (pj_and (M 0 j0) 31) then _ else _) = _
      rw [hX, if_neg z, w]
      rfl
    · refine pj_G_n (pc' := 677) (loc' := [pj_vR 0, pj_vR 1, pj_vR 38, pj_vI x3]) (stk' := []) (M' := M) pj_np152 rfl ?_ (k15 w)
      show (if pj_nrm (pj_and (M 0 j0) 31) < 0 ∨ 31 < pj_nrm (pj_and (M 0 j0) 31) then _ else _) = _
      rw [hX, if_neg z, w]
      rfl
    · refine pj_G_n (pc' := 700) (loc' := [pj_vR 0, pj_vR 1, pj_vR 38, pj_vI x3]) (stk' := []) (M' := M) pj_np152 rfl ?_ (k16 w)
      show (if pj_nrm (pj_and (M 0 j0) 31) < 0 ∨ 31 < pj_nrm (pj_and (M 0 j0) 31) then _ else _) = _
      rw [hX, if_neg z, w]
      rfl
    · refine pj_G_n (pc' := 723) (loc' := [pj_vR 0, pj_vR 1, pj_vR 38, pj_vI x3]) (stk' := []) (M' := M) pj_np152 rfl ?_ (k17 w)
      show (if pj_nrm (pj_and (M 0 j0) 31) < 0 ∨ 31 < pj_nrm (pj_and (M 0 j0) 31) then _ else _) = _
      rw [hX, if_neg z, w]
      rfl
    · refine pj_G_n (pc' := 747) (loc' := [pj_vR 0, pj_vR 1, pj_vR 38, pj_vI x3]) (stk' := []) (M' := M) pj_np152 rfl ?_ (k18 w)
      show (if pj_nrm (pj_and (M 0 j0) 31) < 0 ∨ 31 < pj_nrm (pj_and (M 0 j0) 31) then _ else _) = _
      rw [hX, if_neg z, w]
      rfl
    · refine pj_G_n (pc' := 760) (loc' := [pj_vR 0, pj_vR 1, pj_vR 38, pj_vI x3]) (stk' := []) (M' := M) pj_np152 rfl ?_ (k19 w)
      show (if pj_nrm (pj_and (M 0 j0) 31) < 0 ∨ 31 < pj_nrm (pj_and (M 0 j0) 31) then _ else _) = _
      rw [hX, if_neg z, w]
      rfl
    · refine pj_G_n (pc' := 810) (loc' := [pj_vR 0, pj_vR 1, pj_vR 38, pj_vI x3]) (stk' := []) (M' := M) pj_np152 rfl ?_ (k20 w)
      show (if pj_nrm (pj_and (M 0 j0) 31) < 0 ∨ 31 < pj_nrm (pj_and (M 0 j0) 31) then _ else _) = _
      rw [hX, if_neg z, w]
      rfl
    · refine pj_G_n (pc' := 823) (loc' := [pj_vR 0, pj_vR 1, pj_vR 38, pj_vI x3]) (stk' := []) (M' := M) pj_np152 rfl ?_ (k21 w)
      show (if pj_nrm (pj_and (M 0 j0) 31) < 0 ∨ 31 < pj_nrm (pj_and (M 0 j0) 31) then _ else _) = _
      rw [hX, if_neg z, w]
      rfl
    · refine pj_G_n (pc' := 846) (loc' := [pj_vR 0, pj_vR 1, pj_vR 38, pj_vI x3]) (stk' := []) (M' := M) pj_np152 rfl ?_ (k22 w)
      show (if pj_nrm (pj_and (M 0 j0) 31) < 0 ∨ 31 < pj_nrm (pj_and (M 0 j0) 31) then _ else _) = _
      rw [hX, if_neg z, w]
      rfl
    · refine pj_G_n (pc' := 869) (loc' := [pj_vR 0, pj_vR 1, pj_vR 38, pj_vI x3]) (stk' := []) (M' := M) pj_np152 rfl ?_ (k23 w)
      show (if pj_nrm (pj_and (M 0 j0) 31) < 0 ∨ 31 < pj_nrm (pj_and (M 0 j0) 31) then _ else _) = _
      rw [hX, if_neg z, w]
      rfl
    · refine pj_G_n (pc' := 912) (loc' := [pj_vR 0, pj_vR 1, pj_vR 38, pj_vI x3]) (stk' := []) (M' := M) pj_np152 rfl ?_ (k24 w)
      show (if pj_nrm (pj_and (M 0 j0) 31) < 0 ∨ 31 < pj_nrm (pj_and (M 0 j0) 31) then _ else _) = _
      rw [hX, if_neg z, w]
      rfl
    · refine pj_G_n (pc' := 945) (loc' := [pj_vR 0, pj_vR 1, pj_vR 38, pj_vI x3]) (stk' := []) (M' := M) pj_np152 rfl ?_ (k25 w)
      show (if pj_nrm (pj_and (M 0 j0) 31) < 0 ∨ 31 < pj_nrm (pj_and (M 0 j0) 31) then _ else _) = _
      rw [hX, if_neg z, w]
      rfl
    · refine pj_G_n (pc' := 958) (loc' := [pj_vR 0, pj_vR 1, pj_vR 38, pj_vI x3]) (stk' := []) (M' := M) pj_np152 rfl ?_ (k26 w)
      show (if pj_nrm (pj_and (M 0 j0) 31) < 0 ∨ 31 < pj_nrm (pj_and (M 0 j0) 31) then _ else _) = _
      rw [hX, if_neg z, w]
      rfl
    · refine pj_G_n (pc' := 991) (loc' := [pj_vR 0, pj_vR 1, pj_vR 38, pj_vI x3]) (stk' := []) (M' := M) pj_np152 rfl ?_ (k27 w)
      show (if pj_nrm (pj_and (M 0 j0) 31) < 0 ∨ 31 < pj_nrm (pj_and (M 0 j0) 31) then _ else _) = _
      rw [hX, if_neg z, w]
      rfl
    · refine pj_G_n (pc' := 1014) (loc' := [pj_vR 0, pj_vR 1, pj_vR 38, pj_vI x3]) (stk' := []) (M' := M) pj_np152 rfl ?_ (k28 w)
      show (if pj_nrm (pj_and (M 0 j0) 31) < 0 ∨ 31 < pj_nrm (pj_and (M 0 j0) 31) then _ else _) = _
      rw [hX, if_neg z, w]
      rfl
    · refine pj_G_n (pc' := 1027) (loc' := [pj_vR 0, pj_vR 1, pj_vR 38, pj_vI x3]) (stk' := []) (M' := M) pj_np152 rfl ?_ (k29 w)
      show (if pj_nrm (pj_and (M 0 j0) 31) < 0 ∨ 31 < pj_nrm (pj_and (M 0 j0) 31) then _ else _) = _
      rw [hX, if_neg z, w]
      rfl
    · refine pj_G_n (pc' := 1050) (loc' := [pj_vR 0, pj_vR 1, pj_vR 38, pj_vI x3]) (stk' := []) (M' := M) pj_np152 rfl ?_ (k30 w)
      show (if pj_nrm (pj_and (M 0 j0) 31) < 0 ∨ 31 < pj_nrm (pj_and (M 0 j0) 31) then _ else _) = _
      rw [hX, if_neg z, w]
      rfl
    · refine pj_G_n (pc' := 1093) (loc' := [pj_vR 0, pj_vR 1, pj_vR 38, pj_vI x3]) (stk' := []) (M' := M) pj_np152 rfl ?_ (k31 w)
      show (if pj_nrm (pj_and (M 0 j0) 31) < 0 ∨ 31 < pj_nrm (pj_and (M 0 j0) 31) then _ else _) = _
      rw [hX, if_neg z, w]
      rfl
set_option maxRecDepth 100000 in
theorem pj_C152_1116 {L d : Nat} {Q : Option pj_V → pj_M → Prop} {M : pj_M} {x3 : Int}  (h : pj_G L d 152 18 [pj_vR 0, pj_vR 1, pj_vR 38, pj_vI (x3 + 5)] [] M Q) : pj_G L d 152 1116 [pj_vR 0, pj_vR 1, pj_vR 38, pj_vI x3] [] M Q := by
  refine pj_G_s pj_np152 2 (show pj_gs 2 L 152 1116 [pj_vR 0, pj_vR 1, pj_vR 38, pj_vI x3] [] M = some ([], 18, [pj_vR 0, pj_vR 1, pj_vR 38, pj_vI (x3 + 5)], [], M) from rfl) trivial ?_
  exact h
set_option maxRecDepth 100000 in
theorem pj_C152_1093 {L d : Nat} {Q : Option pj_V → pj_M → Prop} {M : pj_M} {x3 : Int} (j0 : Nat) (hL : L ≤ 2560) (ej0 : x3 + 1 = (j0 : Int)) (bj0 : j0 < L) (h : pj_G L d 76 0 [pj_vR 1, pj_vI (M 0 j0)] [] M (fun r M1 => pj_G L (d + 1) 152 1102 [pj_vR 0, pj_vR 1, pj_vR 38, pj_vI x3] (r.toList ++ []) M1 Q)) : pj_G L (d + 1) 152 1093 [pj_vR 0, pj_vR 1, pj_vR 38, pj_vI x3] [] M Q := by
  have nj0 : pj_nrm (x3 + 1) = (j0 : Int) := pj_nk ej0 (by omega)
  refine pj_G_s (d := d + 1) pj_np152 6 (show pj_gs 6 L 152 1093 [pj_vR 0, pj_vR 1, pj_vR 38, pj_vI x3] [] M = some ([0 ≤ pj_nrm (x3 + 1) ∧ pj_nrm (x3 + 1) < (L : Int)], 1099, [pj_vR 0, pj_vR 1, pj_vR 38, pj_vI x3], [pj_vI (M 0 (pj_nrm (x3 + 1)).toNat), pj_vR 1], M) from rfl) ⟨by omega, trivial⟩ ?_
  simp only [nj0, Int.toNat_natCast]
  exact pj_G_k (j := 76) (vs := [pj_vR 1, pj_vI (M 0 j0)]) (st := []) rfl rfl rfl rfl rfl (Nat.le_of_ble_eq_true rfl) pj_nc76 h
set_option maxRecDepth 100000 in
theorem pj_C152_1102 {L d : Nat} {Q : Option pj_V → pj_M → Prop} {M : pj_M} {x3 s0 : Int} (j0 : Nat) (hL : L ≤ 2560) (ej0 : x3 + 1 = (j0 : Int)) (bj0 : j0 < L) (h : pj_G L d 149 0 [pj_vR 38, pj_vI (M 0 j0)] [] M (fun r M1 => pj_G L (d + 1) 152 1111 [pj_vR 0, pj_vR 1, pj_vR 38, pj_vI x3] (r.toList ++ [pj_vI s0]) M1 Q)) : pj_G L (d + 1) 152 1102 [pj_vR 0, pj_vR 1, pj_vR 38, pj_vI x3] [pj_vI s0] M Q := by
  have nj0 : pj_nrm (x3 + 1) = (j0 : Int) := pj_nk ej0 (by omega)
  refine pj_G_s (d := d + 1) pj_np152 6 (show pj_gs 6 L 152 1102 [pj_vR 0, pj_vR 1, pj_vR 38, pj_vI x3] [pj_vI s0] M = some ([0 ≤ pj_nrm (x3 + 1) ∧ pj_nrm (x3 + 1) < (L : Int)], 1108, [pj_vR 0, pj_vR 1, pj_vR 38, pj_vI x3], [pj_vI (M 0 (pj_nrm (x3 + 1)).toNat), pj_vR 38, pj_vI s0], M) from rfl) ⟨by omega, trivial⟩ ?_
  simp only [nj0, Int.toNat_natCast]
  exact pj_G_k (j := 149) (vs := [pj_vR 38, pj_vI (M 0 j0)]) (st := [pj_vI s0]) rfl rfl rfl rfl rfl (Nat.le_of_ble_eq_true rfl) pj_nc149 h
set_option maxRecDepth 100000 in
theorem pj_C152_1111 {L d : Nat} {Q : Option pj_V → pj_M → Prop} {M : pj_M} {x3 s0 s1 : Int} (r0 : -2147483648 ≤ s0 ∧ s0 < 2147483648) (r1 : -2147483648 ≤ s1 ∧ s1 < 2147483648) (h1 : s0 = s1 → pj_G L d 152 1116 [pj_vR 0, pj_vR 1, pj_vR 38, pj_vI x3] [] M Q) (h2 : s0 ≠ s1 → pj_G L d 152 1114 [pj_vU, pj_vU, pj_vU, pj_vU] [] M Q) : pj_G L d 152 1111 [pj_vR 0, pj_vR 1, pj_vR 38, pj_vI x3] [pj_vI s1, pj_vI s0] M Q := by
  exact pj_G_if (t := 1116) rfl rfl (fun z => h1 (pj_ct_eq (pj_nrm_id r0.1 r0.2) (pj_nrm_id r1.1 r1.2) z)) (fun z => pj_G_loc (pj_lle_u rfl (pj_lle_u rfl (pj_lle_u rfl (pj_lle_u rfl pj_lle_nil)))) (h2 (pj_cf_eq (pj_nrm_id r0.1 r0.2) (pj_nrm_id r1.1 r1.2) z)))
set_option maxRecDepth 100000 in
theorem pj_C152_1114 {L d : Nat} {Q : Option pj_V → pj_M → Prop} {M : pj_M}  (h : Q (some (pj_vI 0)) M) : pj_G L d 152 1114 [pj_vU, pj_vU, pj_vU, pj_vU] [] M Q := by
  refine pj_G_s pj_np152 1 (show pj_gs 1 L 152 1114 [pj_vU, pj_vU, pj_vU, pj_vU] [] M = some ([], 1115, [pj_vU, pj_vU, pj_vU, pj_vU], [pj_vI 0], M) from rfl) trivial ?_
  exact pj_G_r rfl rfl rfl h
set_option maxRecDepth 100000 in
theorem pj_C152_1050 {L d : Nat} {Q : Option pj_V → pj_M → Prop} {M : pj_M} {x3 : Int} (j0 j1 j2 : Nat) (hL : L ≤ 2560) (ej0 : x3 + 1 = (j0 : Int)) (bj0 : j0 < L) (ej1 : x3 + 2 = (j1 : Int)) (bj1 : j1 < L) (ej2 : x3 + 3 = (j2 : Int)) (bj2 : j2 < L) (h : pj_G L d 75 0 [pj_vR 1, pj_vI (M 0 j0), pj_vI (M 0 j1), pj_vI (M 0 j2)] [] M (fun r M1 => pj_G L (d + 1) 152 1069 [pj_vR 0, pj_vR 1, pj_vR 38, pj_vI x3] (r.toList ++ []) M1 Q)) : pj_G L (d + 1) 152 1050 [pj_vR 0, pj_vR 1, pj_vR 38, pj_vI x3] [] M Q := by
  have nj0 : pj_nrm (x3 + 1) = (j0 : Int) := pj_nk ej0 (by omega)
  have nj1 : pj_nrm (x3 + 2) = (j1 : Int) := pj_nk ej1 (by omega)
  have nj2 : pj_nrm (x3 + 3) = (j2 : Int) := pj_nk ej2 (by omega)
  refine pj_G_s (d := d + 1) pj_np152 16 (show pj_gs 16 L 152 1050 [pj_vR 0, pj_vR 1, pj_vR 38, pj_vI x3] [] M = some ([0 ≤ pj_nrm (x3 + 1) ∧ pj_nrm (x3 + 1) < (L : Int), 0 ≤ pj_nrm (x3 + 2) ∧ pj_nrm (x3 + 2) < (L : Int), 0 ≤ pj_nrm (x3 + 3) ∧ pj_nrm (x3 + 3) < (L : Int)], 1066, [pj_vR 0, pj_vR 1, pj_vR 38, pj_vI x3], [pj_vI (M 0 (pj_nrm (x3 + 3)).toNat), pj_vI (M 0 (pj_nrm (x3 + 2)).toNat), pj_vI (M 0 (pj_nrm (x3 + 1)).toNat), pj_vR 1], M) from rfl) ⟨by omega, by omega, by omega, trivial⟩ ?_
  simp only [nj0, nj1, nj2, Int.toNat_natCast]
  exact pj_G_k (j := 75) (vs := [pj_vR 1, pj_vI (M 0 j0), pj_vI (M 0 j1), pj_vI (M 0 j2)]) (st := []) rfl rfl rfl rfl rfl (Nat.le_of_ble_eq_true rfl) pj_nc75 h
set_option maxRecDepth 100000 in
theorem pj_C152_1069 {L d : Nat} {Q : Option pj_V → pj_M → Prop} {M : pj_M} {x3 s0 : Int} (j0 j1 j2 : Nat) (hL : L ≤ 2560) (ej0 : x3 + 1 = (j0 : Int)) (bj0 : j0 < L) (ej1 : x3 + 2 = (j1 : Int)) (bj1 : j1 < L) (ej2 : x3 + 3 = (j2 : Int)) (bj2 : j2 < L) (h : pj_G L d 148 0 [pj_vR 38, pj_vI (M 0 j0), pj_vI (M 0 j1), pj_vI (M 0 j2), pj_vU] [] M (fun r M1 => pj_G L (d + 1) 152 1088 [pj_vR 0, pj_vR 1, pj_vR 38, pj_vI x3] (r.toList ++ [pj_vI s0]) M1 Q)) : pj_G L (d + 1) 152 1069 [pj_vR 0, pj_vR 1, pj_vR 38, pj_vI x3] [pj_vI s0] M Q := by
  have nj0 : pj_nrm (x3 + 1) = (j0 : Int) := pj_nk ej0 (by omega)
  have nj1 : pj_nrm (x3 + 2) = (j1 : Int) := pj_nk ej1 (by omega)
  have nj2 : pj_nrm (x3 + 3) = (j2 : Int) := pj_nk ej2 (by omega)
  refine pj_G_s (d := d + 1) pj_np152 16 (show pj_gs 16 L 152 1069 [pj_vR 0, pj_vR 1, pj_vR 38, pj_vI x3] [pj_vI s0] M = some ([0 ≤ pj_nrm (x3 + 1) ∧ pj_nrm (x3 + 1) < (L : Int), 0 ≤ pj_nrm (x3 + 2) ∧ pj_nrm (x3 + 2) < (L : Int), 0 ≤ pj_nrm (x3 + 3) ∧ pj_nrm (x3 + 3) < (L : Int)], 1085, [pj_vR 0, pj_vR 1, pj_vR 38, pj_vI x3], [pj_vI (M 0 (pj_nrm (x3 + 3)).toNat), pj_vI (M 0 (pj_nrm (x3 + 2)).toNat), pj_vI (M 0 (pj_nrm (x3 + 1)).toNat), pj_vR 38, pj_vI s0], M) from rfl) ⟨by omega, by omega, by omega, trivial⟩ ?_
  simp only [nj0, nj1, nj2, Int.toNat_natCast]
  exact pj_G_k (j := 148) (vs := [pj_vR 38, pj_vI (M 0 j0), pj_vI (M 0 j1), pj_vI (M 0 j2)]) (st := [pj_vI s0]) rfl rfl rfl rfl rfl (Nat.le_of_ble_eq_true rfl) pj_nc148 h
set_option maxRecDepth 100000 in
theorem pj_C152_1088 {L d : Nat} {Q : Option pj_V → pj_M → Prop} {M : pj_M} {x3 s0 s1 : Int} (r0 : -2147483648 ≤ s0 ∧ s0 < 2147483648) (r1 : -2147483648 ≤ s1 ∧ s1 < 2147483648) (h1 : s0 = s1 → pj_G L d 152 1116 [pj_vR 0, pj_vR 1, pj_vR 38, pj_vI x3] [] M Q) (h2 : s0 ≠ s1 → pj_G L d 152 1091 [pj_vU, pj_vU, pj_vU, pj_vU] [] M Q) : pj_G L d 152 1088 [pj_vR 0, pj_vR 1, pj_vR 38, pj_vI x3] [pj_vI s1, pj_vI s0] M Q := by
  exact pj_G_if (t := 1116) rfl rfl (fun z => h1 (pj_ct_eq (pj_nrm_id r0.1 r0.2) (pj_nrm_id r1.1 r1.2) z)) (fun z => pj_G_loc (pj_lle_u rfl (pj_lle_u rfl (pj_lle_u rfl (pj_lle_u rfl pj_lle_nil)))) (h2 (pj_cf_eq (pj_nrm_id r0.1 r0.2) (pj_nrm_id r1.1 r1.2) z)))
set_option maxRecDepth 100000 in
theorem pj_C152_1091 {L d : Nat} {Q : Option pj_V → pj_M → Prop} {M : pj_M}  (h : Q (some (pj_vI 0)) M) : pj_G L d 152 1091 [pj_vU, pj_vU, pj_vU, pj_vU] [] M Q := by
  refine pj_G_s pj_np152 1 (show pj_gs 1 L 152 1091 [pj_vU, pj_vU, pj_vU, pj_vU] [] M = some ([], 1092, [pj_vU, pj_vU, pj_vU, pj_vU], [pj_vI 0], M) from rfl) trivial ?_
  exact pj_G_r rfl rfl rfl h
set_option maxRecDepth 100000 in
theorem pj_C152_1027 {L d : Nat} {Q : Option pj_V → pj_M → Prop} {M : pj_M} {x3 : Int} (j0 : Nat) (hL : L ≤ 2560) (ej0 : x3 + 1 = (j0 : Int)) (bj0 : j0 < L) (h : pj_G L d 74 0 [pj_vR 1, pj_vI (M 0 j0)] [] M (fun r M1 => pj_G L (d + 1) 152 1036 [pj_vR 0, pj_vR 1, pj_vR 38, pj_vI x3] (r.toList ++ []) M1 Q)) : pj_G L (d + 1) 152 1027 [pj_vR 0, pj_vR 1, pj_vR 38, pj_vI x3] [] M Q := by
  have nj0 : pj_nrm (x3 + 1) = (j0 : Int) := pj_nk ej0 (by omega)
  refine pj_G_s (d := d + 1) pj_np152 6 (show pj_gs 6 L 152 1027 [pj_vR 0, pj_vR 1, pj_vR 38, pj_vI x3] [] M = some ([0 ≤ pj_nrm (x3 + 1) ∧ pj_nrm (x3 + 1) < (L : Int)], 1033, [pj_vR 0, pj_vR 1, pj_vR 38, pj_vI x3], [pj_vI (M 0 (pj_nrm (x3 + 1)).toNat), pj_vR 1], M) from rfl) ⟨by omega, trivial⟩ ?_
  simp only [nj0, Int.toNat_natCast]
  exact pj_G_k (j := 74) (vs := [pj_vR 1, pj_vI (M 0 j0)]) (st := []) rfl rfl rfl rfl rfl (Nat.le_of_ble_eq_true rfl) pj_nc74 h
set_option maxRecDepth 100000 in
theorem pj_C152_1036 {L d : Nat} {Q : Option pj_V → pj_M → Prop} {M : pj_M} {x3 s0 : Int} (j0 : Nat) (hL : L ≤ 2560) (ej0 : x3 + 1 = (j0 : Int)) (bj0 : j0 < L) (h : pj_G L d 147 0 [pj_vR 38, pj_vI (M 0 j0)] [] M (fun r M1 => pj_G L (d + 1) 152 1045 [pj_vR 0, pj_vR 1, pj_vR 38, pj_vI x3] (r.toList ++ [pj_vI s0]) M1 Q)) : pj_G L (d + 1) 152 1036 [pj_vR 0, pj_vR 1, pj_vR 38, pj_vI x3] [pj_vI s0] M Q := by
  have nj0 : pj_nrm (x3 + 1) = (j0 : Int) := pj_nk ej0 (by omega)
  refine pj_G_s (d := d + 1) pj_np152 6 (show pj_gs 6 L 152 1036 [pj_vR 0, pj_vR 1, pj_vR 38, pj_vI x3] [pj_vI s0] M = some ([0 ≤ pj_nrm (x3 + 1) ∧ pj_nrm (x3 + 1) < (L : Int)], 1042, [pj_vR 0, pj_vR 1, pj_vR 38, pj_vI x3], [pj_vI (M 0 (pj_nrm (x3 + 1)).toNat), pj_vR 38, pj_vI s0], M) from rfl) ⟨by omega, trivial⟩ ?_
  simp only [nj0, Int.toNat_natCast]
  exact pj_G_k (j := 147) (vs := [pj_vR 38, pj_vI (M 0 j0)]) (st := [pj_vI s0]) rfl rfl rfl rfl rfl (Nat.le_of_ble_eq_true rfl) pj_nc147 h
set_option maxRecDepth 100000 in
theorem pj_C152_1045 {L d : Nat} {Q : Option pj_V → pj_M → Prop} {M : pj_M} {x3 s0 s1 : Int} (r0 : -2147483648 ≤ s0 ∧ s0 < 2147483648) (r1 : -2147483648 ≤ s1 ∧ s1 < 2147483648) (h1 : s0 = s1 → pj_G L d 152 1116 [pj_vR 0, pj_vR 1, pj_vR 38, pj_vI x3] [] M Q) (h2 : s0 ≠ s1 → pj_G L d 152 1048 [pj_vU, pj_vU, pj_vU, pj_vU] [] M Q) : pj_G L d 152 1045 [pj_vR 0, pj_vR 1, pj_vR 38, pj_vI x3] [pj_vI s1, pj_vI s0] M Q := by
  exact pj_G_if (t := 1116) rfl rfl (fun z => h1 (pj_ct_eq (pj_nrm_id r0.1 r0.2) (pj_nrm_id r1.1 r1.2) z)) (fun z => pj_G_loc (pj_lle_u rfl (pj_lle_u rfl (pj_lle_u rfl (pj_lle_u rfl pj_lle_nil)))) (h2 (pj_cf_eq (pj_nrm_id r0.1 r0.2) (pj_nrm_id r1.1 r1.2) z)))
set_option maxRecDepth 100000 in
theorem pj_C152_1048 {L d : Nat} {Q : Option pj_V → pj_M → Prop} {M : pj_M}  (h : Q (some (pj_vI 0)) M) : pj_G L d 152 1048 [pj_vU, pj_vU, pj_vU, pj_vU] [] M Q := by
  refine pj_G_s pj_np152 1 (show pj_gs 1 L 152 1048 [pj_vU, pj_vU, pj_vU, pj_vU] [] M = some ([], 1049, [pj_vU, pj_vU, pj_vU, pj_vU], [pj_vI 0], M) from rfl) trivial ?_
  exact pj_G_r rfl rfl rfl h
set_option maxRecDepth 100000 in
theorem pj_C152_1014 {L d : Nat} {Q : Option pj_V → pj_M → Prop} {M : pj_M} {x3 : Int}  (h : pj_G L d 73 0 [pj_vR 1, pj_vU] [] M (fun r M1 => pj_G L (d + 1) 152 1018 [pj_vR 0, pj_vR 1, pj_vR 38, pj_vI x3] (r.toList ++ []) M1 Q)) : pj_G L (d + 1) 152 1014 [pj_vR 0, pj_vR 1, pj_vR 38, pj_vI x3] [] M Q := by
  refine pj_G_s (d := d + 1) pj_np152 1 (show pj_gs 1 L 152 1014 [pj_vR 0, pj_vR 1, pj_vR 38, pj_vI x3] [] M = some ([], 1015, [pj_vR 0, pj_vR 1, pj_vR 38, pj_vI x3], [pj_vR 1], M) from rfl) trivial ?_
  exact pj_G_k (j := 73) (vs := [pj_vR 1]) (st := []) rfl rfl rfl rfl rfl (Nat.le_of_ble_eq_true rfl) pj_nc73 h
set_option maxRecDepth 100000 in
theorem pj_C152_1018 {L d : Nat} {Q : Option pj_V → pj_M → Prop} {M : pj_M} {x3 s0 : Int}  (h : pj_G L d 146 0 [pj_vR 38, pj_vU] [] M (fun r M1 => pj_G L (d + 1) 152 1022 [pj_vR 0, pj_vR 1, pj_vR 38, pj_vI x3] (r.toList ++ [pj_vI s0]) M1 Q)) : pj_G L (d + 1) 152 1018 [pj_vR 0, pj_vR 1, pj_vR 38, pj_vI x3] [pj_vI s0] M Q := by
  refine pj_G_s (d := d + 1) pj_np152 1 (show pj_gs 1 L 152 1018 [pj_vR 0, pj_vR 1, pj_vR 38, pj_vI x3] [pj_vI s0] M = some ([], 1019, [pj_vR 0, pj_vR 1, pj_vR 38, pj_vI x3], [pj_vR 38, pj_vI s0], M) from rfl) trivial ?_
  exact pj_G_k (j := 146) (vs := [pj_vR 38]) (st := [pj_vI s0]) rfl rfl rfl rfl rfl (Nat.le_of_ble_eq_true rfl) pj_nc146 h
set_option maxRecDepth 100000 in
theorem pj_C152_1022 {L d : Nat} {Q : Option pj_V → pj_M → Prop} {M : pj_M} {x3 s0 s1 : Int} (r0 : -2147483648 ≤ s0 ∧ s0 < 2147483648) (r1 : -2147483648 ≤ s1 ∧ s1 < 2147483648) (h1 : s0 = s1 → pj_G L d 152 1116 [pj_vR 0, pj_vR 1, pj_vR 38, pj_vI x3] [] M Q) (h2 : s0 ≠ s1 → pj_G L d 152 1025 [pj_vU, pj_vU, pj_vU, pj_vU] [] M Q) : pj_G L d 152 1022 [pj_vR 0, pj_vR 1, pj_vR 38, pj_vI x3] [pj_vI s1, pj_vI s0] M Q := by
  exact pj_G_if (t := 1116) rfl rfl (fun z => h1 (pj_ct_eq (pj_nrm_id r0.1 r0.2) (pj_nrm_id r1.1 r1.2) z)) (fun z => pj_G_loc (pj_lle_u rfl (pj_lle_u rfl (pj_lle_u rfl (pj_lle_u rfl pj_lle_nil)))) (h2 (pj_cf_eq (pj_nrm_id r0.1 r0.2) (pj_nrm_id r1.1 r1.2) z)))
set_option maxRecDepth 100000 in
theorem pj_C152_1025 {L d : Nat} {Q : Option pj_V → pj_M → Prop} {M : pj_M}  (h : Q (some (pj_vI 0)) M) : pj_G L d 152 1025 [pj_vU, pj_vU, pj_vU, pj_vU] [] M Q := by
  refine pj_G_s pj_np152 1 (show pj_gs 1 L 152 1025 [pj_vU, pj_vU, pj_vU, pj_vU] [] M = some ([], 1026, [pj_vU, pj_vU, pj_vU, pj_vU], [pj_vI 0], M) from rfl) trivial ?_
  exact pj_G_r rfl rfl rfl h
set_option maxRecDepth 100000 in
theorem pj_C152_991 {L d : Nat} {Q : Option pj_V → pj_M → Prop} {M : pj_M} {x3 : Int} (j0 : Nat) (hL : L ≤ 2560) (ej0 : x3 + 1 = (j0 : Int)) (bj0 : j0 < L) (h : pj_G L d 72 0 [pj_vR 1, pj_vI (M 0 j0)] [] M (fun r M1 => pj_G L (d + 1) 152 1000 [pj_vR 0, pj_vR 1, pj_vR 38, pj_vI x3] (r.toList ++ []) M1 Q)) : pj_G L (d + 1) 152 991 [pj_vR 0, pj_vR 1, pj_vR 38, pj_vI x3] [] M Q := by
  have nj0 : pj_nrm (x3 + 1) = (j0 : Int) := pj_nk ej0 (by omega)
  refine pj_G_s (d := d + 1) pj_np152 6 (show pj_gs 6 L 152 991 [pj_vR 0, pj_vR 1, pj_vR 38, pj_vI x3] [] M = some ([0 ≤ pj_nrm (x3 + 1) ∧ pj_nrm (x3 + 1) < (L : Int)], 997, [pj_vR 0, pj_vR 1, pj_vR 38, pj_vI x3], [pj_vI (M 0 (pj_nrm (x3 + 1)).toNat), pj_vR 1], M) from rfl) ⟨by omega, trivial⟩ ?_
  simp only [nj0, Int.toNat_natCast]
  exact pj_G_k (j := 72) (vs := [pj_vR 1, pj_vI (M 0 j0)]) (st := []) rfl rfl rfl rfl rfl (Nat.le_of_ble_eq_true rfl) pj_nc72 h
set_option maxRecDepth 100000 in
theorem pj_C152_1000 {L d : Nat} {Q : Option pj_V → pj_M → Prop} {M : pj_M} {x3 s0 : Int} (j0 : Nat) (hL : L ≤ 2560) (ej0 : x3 + 1 = (j0 : Int)) (bj0 : j0 < L) (h : pj_G L d 145 0 [pj_vR 38, pj_vI (M 0 j0), pj_vU] [] M (fun r M1 => pj_G L (d + 1) 152 1009 [pj_vR 0, pj_vR 1, pj_vR 38, pj_vI x3] (r.toList ++ [pj_vI s0]) M1 Q)) : pj_G L (d + 1) 152 1000 [pj_vR 0, pj_vR 1, pj_vR 38, pj_vI x3] [pj_vI s0] M Q := by
  have nj0 : pj_nrm (x3 + 1) = (j0 : Int) := pj_nk ej0 (by omega)
  refine pj_G_s (d := d + 1) pj_np152 6 (show pj_gs 6 L 152 1000 [pj_vR 0, pj_vR 1, pj_vR 38, pj_vI x3] [pj_vI s0] M = some ([0 ≤ pj_nrm (x3 + 1) ∧ pj_nrm (x3 + 1) < (L : Int)], 1006, [pj_vR 0, pj_vR 1, pj_vR 38, pj_vI x3], [pj_vI (M 0 (pj_nrm (x3 + 1)).toNat), pj_vR 38, pj_vI s0], M) from rfl) ⟨by omega, trivial⟩ ?_
  simp only [nj0, Int.toNat_natCast]
  exact pj_G_k (j := 145) (vs := [pj_vR 38, pj_vI (M 0 j0)]) (st := [pj_vI s0]) rfl rfl rfl rfl rfl (Nat.le_of_ble_eq_true rfl) pj_nc145 h
set_option maxRecDepth 100000 in
theorem pj_C152_1009 {L d : Nat} {Q : Option pj_V → pj_M → Prop} {M : pj_M} {x3 s0 s1 : Int} (r0 : -2147483648 ≤ s0 ∧ s0 < 2147483648) (r1 : -2147483648 ≤ s1 ∧ s1 < 2147483648) (h1 : s0 = s1 → pj_G L d 152 1116 [pj_vR 0, pj_vR 1, pj_vR 38, pj_vI x3] [] M Q) (h2 : s0 ≠ s1 → pj_G L d 152 1012 [pj_vU, pj_vU, pj_vU, pj_vU] [] M Q) : pj_G L d 152 1009 [pj_vR 0, pj_vR 1, pj_vR 38, pj_vI x3] [pj_vI s1, pj_vI s0] M Q := by
  exact pj_G_if (t := 1116) rfl rfl (fun z => h1 (pj_ct_eq (pj_nrm_id r0.1 r0.2) (pj_nrm_id r1.1 r1.2) z)) (fun z => pj_G_loc (pj_lle_u rfl (pj_lle_u rfl (pj_lle_u rfl (pj_lle_u rfl pj_lle_nil)))) (h2 (pj_cf_eq (pj_nrm_id r0.1 r0.2) (pj_nrm_id r1.1 r1.2) z)))
set_option maxRecDepth 100000 in
theorem pj_C152_1012 {L d : Nat} {Q : Option pj_V → pj_M → Prop} {M : pj_M}  (h : Q (some (pj_vI 0)) M) : pj_G L d 152 1012 [pj_vU, pj_vU, pj_vU, pj_vU] [] M Q := by
  refine pj_G_s pj_np152 1 (show pj_gs 1 L 152 1012 [pj_vU, pj_vU, pj_vU, pj_vU] [] M = some ([], 1013, [pj_vU, pj_vU, pj_vU, pj_vU], [pj_vI 0], M) from rfl) trivial ?_
  exact pj_G_r rfl rfl rfl h
set_option maxRecDepth 100000 in
theorem pj_C152_958 {L d : Nat} {Q : Option pj_V → pj_M → Prop} {M : pj_M} {x3 : Int} (j0 j1 : Nat) (hL : L ≤ 2560) (ej0 : x3 + 1 = (j0 : Int)) (bj0 : j0 < L) (ej1 : x3 + 2 = (j1 : Int)) (bj1 : j1 < L) (h : pj_G L d 71 0 [pj_vR 1, pj_vI (M 0 j0), pj_vI (M 0 j1), pj_vU, pj_vU, pj_vU, pj_vU, pj_vU] [] M (fun r M1 => pj_G L (d + 1) 152 972 [pj_vR 0, pj_vR 1, pj_vR 38, pj_vI x3] (r.toList ++ []) M1 Q)) : pj_G L (d + 1) 152 958 [pj_vR 0, pj_vR 1, pj_vR 38, pj_vI x3] [] M Q := by
  have nj0 : pj_nrm (x3 + 1) = (j0 : Int) := pj_nk ej0 (by omega)
  have nj1 : pj_nrm (x3 + 2) = (j1 : Int) := pj_nk ej1 (by omega)
  refine pj_G_s (d := d + 1) pj_np152 11 (show pj_gs 11 L 152 958 [pj_vR 0, pj_vR 1, pj_vR 38, pj_vI x3] [] M = some ([0 ≤ pj_nrm (x3 + 1) ∧ pj_nrm (x3 + 1) < (L : Int), 0 ≤ pj_nrm (x3 + 2) ∧ pj_nrm (x3 + 2) < (L : Int)], 969, [pj_vR 0, pj_vR 1, pj_vR 38, pj_vI x3], [pj_vI (M 0 (pj_nrm (x3 + 2)).toNat), pj_vI (M 0 (pj_nrm (x3 + 1)).toNat), pj_vR 1], M) from rfl) ⟨by omega, by omega, trivial⟩ ?_
  simp only [nj0, nj1, Int.toNat_natCast]
  exact pj_G_k (j := 71) (vs := [pj_vR 1, pj_vI (M 0 j0), pj_vI (M 0 j1)]) (st := []) rfl rfl rfl rfl rfl (Nat.le_of_ble_eq_true rfl) pj_nc71 h
set_option maxRecDepth 100000 in
theorem pj_C152_972 {L d : Nat} {Q : Option pj_V → pj_M → Prop} {M : pj_M} {x3 s0 : Int} (j0 j1 : Nat) (hL : L ≤ 2560) (ej0 : x3 + 1 = (j0 : Int)) (bj0 : j0 < L) (ej1 : x3 + 2 = (j1 : Int)) (bj1 : j1 < L) (h : pj_G L d 144 0 [pj_vR 38, pj_vI (M 0 j0), pj_vI (M 0 j1), pj_vU, pj_vU, pj_vU] [] M (fun r M1 => pj_G L (d + 1) 152 986 [pj_vR 0, pj_vR 1, pj_vR 38, pj_vI x3] (r.toList ++ [pj_vI s0]) M1 Q)) : pj_G L (d + 1) 152 972 [pj_vR 0, pj_vR 1, pj_vR 38, pj_vI x3] [pj_vI s0] M Q := by
  have nj0 : pj_nrm (x3 + 1) = (j0 : Int) := pj_nk ej0 (by omega)
  have nj1 : pj_nrm (x3 + 2) = (j1 : Int) := pj_nk ej1 (by omega)
  refine pj_G_s (d := d + 1) pj_np152 11 (show pj_gs 11 L 152 972 [pj_vR 0, pj_vR 1, pj_vR 38, pj_vI x3] [pj_vI s0] M = some ([0 ≤ pj_nrm (x3 + 1) ∧ pj_nrm (x3 + 1) < (L : Int), 0 ≤ pj_nrm (x3 + 2) ∧ pj_nrm (x3 + 2) < (L : Int)], 983, [pj_vR 0, pj_vR 1, pj_vR 38, pj_vI x3], [pj_vI (M 0 (pj_nrm (x3 + 2)).toNat), pj_vI (M 0 (pj_nrm (x3 + 1)).toNat), pj_vR 38, pj_vI s0], M) from rfl) ⟨by omega, by omega, trivial⟩ ?_
  simp only [nj0, nj1, Int.toNat_natCast]
  exact pj_G_k (j := 144) (vs := [pj_vR 38, pj_vI (M 0 j0), pj_vI (M 0 j1)]) (st := [pj_vI s0]) rfl rfl rfl rfl rfl (Nat.le_of_ble_eq_true rfl) pj_nc144 h
set_option maxRecDepth 100000 in
theorem pj_C152_986 {L d : Nat} {Q : Option pj_V → pj_M → Prop} {M : pj_M} {x3 s0 s1 : Int} (r0 : -2147483648 ≤ s0 ∧ s0 < 2147483648) (r1 : -2147483648 ≤ s1 ∧ s1 < 2147483648) (h1 : s0 = s1 → pj_G L d 152 1116 [pj_vR 0, pj_vR 1, pj_vR 38, pj_vI x3] [] M Q) (h2 : s0 ≠ s1 → pj_G L d 152 989 [pj_vU, pj_vU, pj_vU, pj_vU] [] M Q) : pj_G L d 152 986 [pj_vR 0, pj_vR 1, pj_vR 38, pj_vI x3] [pj_vI s1, pj_vI s0] M Q := by
  exact pj_G_if (t := 1116) rfl rfl (fun z => h1 (pj_ct_eq (pj_nrm_id r0.1 r0.2) (pj_nrm_id r1.1 r1.2) z)) (fun z => pj_G_loc (pj_lle_u rfl (pj_lle_u rfl (pj_lle_u rfl (pj_lle_u rfl pj_lle_nil)))) (h2 (pj_cf_eq (pj_nrm_id r0.1 r0.2) (pj_nrm_id r1.1 r1.2) z)))
set_option maxRecDepth 100000 in
theorem pj_C152_989 {L d : Nat} {Q : Option pj_V → pj_M → Prop} {M : pj_M}  (h : Q (some (pj_vI 0)) M) : pj_G L d 152 989 [pj_vU, pj_vU, pj_vU, pj_vU] [] M Q := by
  refine pj_G_s pj_np152 1 (show pj_gs 1 L 152 989 [pj_vU, pj_vU, pj_vU, pj_vU] [] M = some ([], 990, [pj_vU, pj_vU, pj_vU, pj_vU], [pj_vI 0], M) from rfl) trivial ?_
  exact pj_G_r rfl rfl rfl h
set_option maxRecDepth 100000 in
theorem pj_C152_945 {L d : Nat} {Q : Option pj_V → pj_M → Prop} {M : pj_M} {x3 : Int}  (h : pj_G L d 70 0 [pj_vR 1, pj_vU, pj_vU, pj_vU, pj_vU, pj_vU, pj_vU] [] M (fun r M1 => pj_G L (d + 1) 152 949 [pj_vR 0, pj_vR 1, pj_vR 38, pj_vI x3] (r.toList ++ []) M1 Q)) : pj_G L (d + 1) 152 945 [pj_vR 0, pj_vR 1, pj_vR 38, pj_vI x3] [] M Q := by
  refine pj_G_s (d := d + 1) pj_np152 1 (show pj_gs 1 L 152 945 [pj_vR 0, pj_vR 1, pj_vR 38, pj_vI x3] [] M = some ([], 946, [pj_vR 0, pj_vR 1, pj_vR 38, pj_vI x3], [pj_vR 1], M) from rfl) trivial ?_
  exact pj_G_k (j := 70) (vs := [pj_vR 1]) (st := []) rfl rfl rfl rfl rfl (Nat.le_of_ble_eq_true rfl) pj_nc70 h
set_option maxRecDepth 100000 in
theorem pj_C152_949 {L d : Nat} {Q : Option pj_V → pj_M → Prop} {M : pj_M} {x3 s0 : Int}  (h : pj_G L d 143 0 [pj_vR 38, pj_vU, pj_vU, pj_vU, pj_vU, pj_vU] [] M (fun r M1 => pj_G L (d + 1) 152 953 [pj_vR 0, pj_vR 1, pj_vR 38, pj_vI x3] (r.toList ++ [pj_vI s0]) M1 Q)) : pj_G L (d + 1) 152 949 [pj_vR 0, pj_vR 1, pj_vR 38, pj_vI x3] [pj_vI s0] M Q := by
  refine pj_G_s (d := d + 1) pj_np152 1 (show pj_gs 1 L 152 949 [pj_vR 0, pj_vR 1, pj_vR 38, pj_vI x3] [pj_vI s0] M = some ([], 950, [pj_vR 0, pj_vR 1, pj_vR 38, pj_vI x3], [pj_vR 38, pj_vI s0], M) from rfl) trivial ?_
  exact pj_G_k (j := 143) (vs := [pj_vR 38]) (st := [pj_vI s0]) rfl rfl rfl rfl rfl (Nat.le_of_ble_eq_true rfl) pj_nc143 h
set_option maxRecDepth 100000 in
theorem pj_C152_953 {L d : Nat} {Q : Option pj_V → pj_M → Prop} {M : pj_M} {x3 s0 s1 : Int} (r0 : -2147483648 ≤ s0 ∧ s0 < 2147483648) (r1 : -2147483648 ≤ s1 ∧ s1 < 2147483648) (h1 : s0 = s1 → pj_G L d 152 1116 [pj_vR 0, pj_vR 1, pj_vR 38, pj_vI x3] [] M Q) (h2 : s0 ≠ s1 → pj_G L d 152 956 [pj_vU, pj_vU, pj_vU, pj_vU] [] M Q) : pj_G L d 152 953 [pj_vR 0, pj_vR 1, pj_vR 38, pj_vI x3] [pj_vI s1, pj_vI s0] M Q := by
  exact pj_G_if (t := 1116) rfl rfl (fun z => h1 (pj_ct_eq (pj_nrm_id r0.1 r0.2) (pj_nrm_id r1.1 r1.2) z)) (fun z => pj_G_loc (pj_lle_u rfl (pj_lle_u rfl (pj_lle_u rfl (pj_lle_u rfl pj_lle_nil)))) (h2 (pj_cf_eq (pj_nrm_id r0.1 r0.2) (pj_nrm_id r1.1 r1.2) z)))
set_option maxRecDepth 100000 in
theorem pj_C152_956 {L d : Nat} {Q : Option pj_V → pj_M → Prop} {M : pj_M}  (h : Q (some (pj_vI 0)) M) : pj_G L d 152 956 [pj_vU, pj_vU, pj_vU, pj_vU] [] M Q := by
  refine pj_G_s pj_np152 1 (show pj_gs 1 L 152 956 [pj_vU, pj_vU, pj_vU, pj_vU] [] M = some ([], 957, [pj_vU, pj_vU, pj_vU, pj_vU], [pj_vI 0], M) from rfl) trivial ?_
  exact pj_G_r rfl rfl rfl h
set_option maxRecDepth 100000 in
theorem pj_C152_912 {L d : Nat} {Q : Option pj_V → pj_M → Prop} {M : pj_M} {x3 : Int} (j0 j1 : Nat) (hL : L ≤ 2560) (ej0 : x3 + 1 = (j0 : Int)) (bj0 : j0 < L) (ej1 : x3 + 2 = (j1 : Int)) (bj1 : j1 < L) (h : pj_G L d 69 0 [pj_vR 1, pj_vI (M 0 j0), pj_vI (M 0 j1)] [] M (fun r M1 => pj_G L (d + 1) 152 926 [pj_vR 0, pj_vR 1, pj_vR 38, pj_vI x3] (r.toList ++ []) M1 Q)) : pj_G L (d + 1) 152 912 [pj_vR 0, pj_vR 1, pj_vR 38, pj_vI x3] [] M Q := by
  have nj0 : pj_nrm (x3 + 1) = (j0 : Int) := pj_nk ej0 (by omega)
  have nj1 : pj_nrm (x3 + 2) = (j1 : Int) := pj_nk ej1 (by omega)
  refine pj_G_s (d := d + 1) pj_np152 11 (show pj_gs 11 L 152 912 [pj_vR 0, pj_vR 1, pj_vR 38, pj_vI x3] [] M = some ([0 ≤ pj_nrm (x3 + 1) ∧ pj_nrm (x3 + 1) < (L : Int), 0 ≤ pj_nrm (x3 + 2) ∧ pj_nrm (x3 + 2) < (L : Int)], 923, [pj_vR 0, pj_vR 1, pj_vR 38, pj_vI x3], [pj_vI (M 0 (pj_nrm (x3 + 2)).toNat), pj_vI (M 0 (pj_nrm (x3 + 1)).toNat), pj_vR 1], M) from rfl) ⟨by omega, by omega, trivial⟩ ?_
  simp only [nj0, nj1, Int.toNat_natCast]
  exact pj_G_k (j := 69) (vs := [pj_vR 1, pj_vI (M 0 j0), pj_vI (M 0 j1)]) (st := []) rfl rfl rfl rfl rfl (Nat.le_of_ble_eq_true rfl) pj_nc69 h
set_option maxRecDepth 100000 in
theorem pj_C152_926 {L d : Nat} {Q : Option pj_V → pj_M → Prop} {M : pj_M} {x3 s0 : Int} (j0 j1 : Nat) (hL : L ≤ 2560) (ej0 : x3 + 1 = (j0 : Int)) (bj0 : j0 < L) (ej1 : x3 + 2 = (j1 : Int)) (bj1 : j1 < L) (h : pj_G L d 140 0 [pj_vR 38, pj_vI (M 0 j0), pj_vI (M 0 j1)] [] M (fun r M1 => pj_G L (d + 1) 152 940 [pj_vR 0, pj_vR 1, pj_vR 38, pj_vI x3] (r.toList ++ [pj_vI s0]) M1 Q)) : pj_G L (d + 1) 152 926 [pj_vR 0, pj_vR 1, pj_vR 38, pj_vI x3] [pj_vI s0] M Q := by
  have nj0 : pj_nrm (x3 + 1) = (j0 : Int) := pj_nk ej0 (by omega)
  have nj1 : pj_nrm (x3 + 2) = (j1 : Int) := pj_nk ej1 (by omega)
  refine pj_G_s (d := d + 1) pj_np152 11 (show pj_gs 11 L 152 926 [pj_vR 0, pj_vR 1, pj_vR 38, pj_vI x3] [pj_vI s0] M = some ([0 ≤ pj_nrm (x3 + 1) ∧ pj_nrm (x3 + 1) < (L : Int), 0 ≤ pj_nrm (x3 + 2) ∧ pj_nrm (x3 + 2) < (L : Int)], 937, [pj_vR 0, pj_vR 1, pj_vR 38, pj_vI x3], [pj_vI (M 0 (pj_nrm (x3 + 2)).toNat), pj_vI (M 0 (pj_nrm (x3 + 1)).toNat), pj_vR 38, pj_vI s0], M) from rfl) ⟨by omega, by omega, trivial⟩ ?_
  simp only [nj0, nj1, Int.toNat_natCast]
  exact pj_G_k (j := 140) (vs := [pj_vR 38, pj_vI (M 0 j0), pj_vI (M 0 j1)]) (st := [pj_vI s0]) rfl rfl rfl rfl rfl (Nat.le_of_ble_eq_true rfl) pj_nc140 h
set_option maxRecDepth 100000 in
theorem pj_C152_940 {L d : Nat} {Q : Option pj_V → pj_M → Prop} {M : pj_M} {x3 s0 s1 : Int} (r0 : -2147483648 ≤ s0 ∧ s0 < 2147483648) (r1 : -2147483648 ≤ s1 ∧ s1 < 2147483648) (h1 : s0 = s1 → pj_G L d 152 1116 [pj_vR 0, pj_vR 1, pj_vR 38, pj_vI x3] [] M Q) (h2 : s0 ≠ s1 → pj_G L d 152 943 [pj_vU, pj_vU, pj_vU, pj_vU] [] M Q) : pj_G L d 152 940 [pj_vR 0, pj_vR 1, pj_vR 38, pj_vI x3] [pj_vI s1, pj_vI s0] M Q := by
  exact pj_G_if (t := 1116) rfl rfl (fun z => h1 (pj_ct_eq (pj_nrm_id r0.1 r0.2) (pj_nrm_id r1.1 r1.2) z)) (fun z => pj_G_loc (pj_lle_u rfl (pj_lle_u rfl (pj_lle_u rfl (pj_lle_u rfl pj_lle_nil)))) (h2 (pj_cf_eq (pj_nrm_id r0.1 r0.2) (pj_nrm_id r1.1 r1.2) z)))
set_option maxRecDepth 100000 in
theorem pj_C152_943 {L d : Nat} {Q : Option pj_V → pj_M → Prop} {M : pj_M}  (h : Q (some (pj_vI 0)) M) : pj_G L d 152 943 [pj_vU, pj_vU, pj_vU, pj_vU] [] M Q := by
  refine pj_G_s pj_np152 1 (show pj_gs 1 L 152 943 [pj_vU, pj_vU, pj_vU, pj_vU] [] M = some ([], 944, [pj_vU, pj_vU, pj_vU, pj_vU], [pj_vI 0], M) from rfl) trivial ?_
  exact pj_G_r rfl rfl rfl h
set_option maxRecDepth 100000 in
theorem pj_C152_869 {L d : Nat} {Q : Option pj_V → pj_M → Prop} {M : pj_M} {x3 : Int} (j0 j1 j2 : Nat) (hL : L ≤ 2560) (ej0 : x3 + 1 = (j0 : Int)) (bj0 : j0 < L) (ej1 : x3 + 2 = (j1 : Int)) (bj1 : j1 < L) (ej2 : x3 + 3 = (j2 : Int)) (bj2 : j2 < L) (h : pj_G L d 68 0 [pj_vR 1, pj_vI (M 0 j0), pj_vI (M 0 j1), pj_vI (M 0 j2)] [] M (fun r M1 => pj_G L (d + 1) 152 888 [pj_vR 0, pj_vR 1, pj_vR 38, pj_vI x3] (r.toList ++ []) M1 Q)) : pj_G L (d + 1) 152 869 [pj_vR 0, pj_vR 1, pj_vR 38, pj_vI x3] [] M Q := by
  have nj0 : pj_nrm (x3 + 1) = (j0 : Int) := pj_nk ej0 (by omega)
  have nj1 : pj_nrm (x3 + 2) = (j1 : Int) := pj_nk ej1 (by omega)
  have nj2 : pj_nrm (x3 + 3) = (j2 : Int) := pj_nk ej2 (by omega)
  refine pj_G_s (d := d + 1) pj_np152 16 (show pj_gs 16 L 152 869 [pj_vR 0, pj_vR 1, pj_vR 38, pj_vI x3] [] M = some ([0 ≤ pj_nrm (x3 + 1) ∧ pj_nrm (x3 + 1) < (L : Int), 0 ≤ pj_nrm (x3 + 2) ∧ pj_nrm (x3 + 2) < (L : Int), 0 ≤ pj_nrm (x3 + 3) ∧ pj_nrm (x3 + 3) < (L : Int)], 885, [pj_vR 0, pj_vR 1, pj_vR 38, pj_vI x3], [pj_vI (M 0 (pj_nrm (x3 + 3)).toNat), pj_vI (M 0 (pj_nrm (x3 + 2)).toNat), pj_vI (M 0 (pj_nrm (x3 + 1)).toNat), pj_vR 1], M) from rfl) ⟨by omega, by omega, by omega, trivial⟩ ?_
  simp only [nj0, nj1, nj2, Int.toNat_natCast]
  exact pj_G_k (j := 68) (vs := [pj_vR 1, pj_vI (M 0 j0), pj_vI (M 0 j1), pj_vI (M 0 j2)]) (st := []) rfl rfl rfl rfl rfl (Nat.le_of_ble_eq_true rfl) pj_nc68 h
set_option maxRecDepth 100000 in
theorem pj_C152_888 {L d : Nat} {Q : Option pj_V → pj_M → Prop} {M : pj_M} {x3 s0 : Int} (j0 j1 j2 : Nat) (hL : L ≤ 2560) (ej0 : x3 + 1 = (j0 : Int)) (bj0 : j0 < L) (ej1 : x3 + 2 = (j1 : Int)) (bj1 : j1 < L) (ej2 : x3 + 3 = (j2 : Int)) (bj2 : j2 < L) (h : pj_G L d 138 0 [pj_vR 38, pj_vI (M 0 j0), pj_vI (M 0 j1), pj_vI (M 0 j2)] [] M (fun r M1 => pj_G L (d + 1) 152 907 [pj_vR 0, pj_vR 1, pj_vR 38, pj_vI x3] (r.toList ++ [pj_vI s0]) M1 Q)) : pj_G L (d + 1) 152 888 [pj_vR 0, pj_vR 1, pj_vR 38, pj_vI x3] [pj_vI s0] M Q := by
  have nj0 : pj_nrm (x3 + 1) = (j0 : Int) := pj_nk ej0 (by omega)
  have nj1 : pj_nrm (x3 + 2) = (j1 : Int) := pj_nk ej1 (by omega)
  have nj2 : pj_nrm (x3 + 3) = (j2 : Int) := pj_nk ej2 (by omega)
  refine pj_G_s (d := d + 1) pj_np152 16 (show pj_gs 16 L 152 888 [pj_vR 0, pj_vR 1, pj_vR 38, pj_vI x3] [pj_vI s0] M = some ([0 ≤ pj_nrm (x3 + 1) ∧ pj_nrm (x3 + 1) < (L : Int), 0 ≤ pj_nrm (x3 + 2) ∧ pj_nrm (x3 + 2) < (L : Int), 0 ≤ pj_nrm (x3 + 3) ∧ pj_nrm (x3 + 3) < (L : Int)], 904, [pj_vR 0, pj_vR 1, pj_vR 38, pj_vI x3], [pj_vI (M 0 (pj_nrm (x3 + 3)).toNat), pj_vI (M 0 (pj_nrm (x3 + 2)).toNat), pj_vI (M 0 (pj_nrm (x3 + 1)).toNat), pj_vR 38, pj_vI s0], M) from rfl) ⟨by omega, by omega, by omega, trivial⟩ ?_
  simp only [nj0, nj1, nj2, Int.toNat_natCast]
  exact pj_G_k (j := 138) (vs := [pj_vR 38, pj_vI (M 0 j0), pj_vI (M 0 j1), pj_vI (M 0 j2)]) (st := [pj_vI s0]) rfl rfl rfl rfl rfl (Nat.le_of_ble_eq_true rfl) pj_nc138 h
set_option maxRecDepth 100000 in
theorem pj_C152_907 {L d : Nat} {Q : Option pj_V → pj_M → Prop} {M : pj_M} {x3 s0 s1 : Int} (r0 : -2147483648 ≤ s0 ∧ s0 < 2147483648) (r1 : -2147483648 ≤ s1 ∧ s1 < 2147483648) (h1 : s0 = s1 → pj_G L d 152 1116 [pj_vR 0, pj_vR 1, pj_vR 38, pj_vI x3] [] M Q) (h2 : s0 ≠ s1 → pj_G L d 152 910 [pj_vU, pj_vU, pj_vU, pj_vU] [] M Q) : pj_G L d 152 907 [pj_vR 0, pj_vR 1, pj_vR 38, pj_vI x3] [pj_vI s1, pj_vI s0] M Q := by
  exact pj_G_if (t := 1116) rfl rfl (fun z => h1 (pj_ct_eq (pj_nrm_id r0.1 r0.2) (pj_nrm_id r1.1 r1.2) z)) (fun z => pj_G_loc (pj_lle_u rfl (pj_lle_u rfl (pj_lle_u rfl (pj_lle_u rfl pj_lle_nil)))) (h2 (pj_cf_eq (pj_nrm_id r0.1 r0.2) (pj_nrm_id r1.1 r1.2) z)))
set_option maxRecDepth 100000 in
theorem pj_C152_910 {L d : Nat} {Q : Option pj_V → pj_M → Prop} {M : pj_M}  (h : Q (some (pj_vI 0)) M) : pj_G L d 152 910 [pj_vU, pj_vU, pj_vU, pj_vU] [] M Q := by
  refine pj_G_s pj_np152 1 (show pj_gs 1 L 152 910 [pj_vU, pj_vU, pj_vU, pj_vU] [] M = some ([], 911, [pj_vU, pj_vU, pj_vU, pj_vU], [pj_vI 0], M) from rfl) trivial ?_
  exact pj_G_r rfl rfl rfl h
set_option maxRecDepth 100000 in
theorem pj_C152_846 {L d : Nat} {Q : Option pj_V → pj_M → Prop} {M : pj_M} {x3 : Int} (j0 : Nat) (hL : L ≤ 2560) (ej0 : x3 + 1 = (j0 : Int)) (bj0 : j0 < L) (h : pj_G L d 67 0 [pj_vR 1, pj_vI (M 0 j0), pj_vU] [] M (fun r M1 => pj_G L (d + 1) 152 855 [pj_vR 0, pj_vR 1, pj_vR 38, pj_vI x3] (r.toList ++ []) M1 Q)) : pj_G L (d + 1) 152 846 [pj_vR 0, pj_vR 1, pj_vR 38, pj_vI x3] [] M Q := by
  have nj0 : pj_nrm (x3 + 1) = (j0 : Int) := pj_nk ej0 (by omega)
  refine pj_G_s (d := d + 1) pj_np152 6 (show pj_gs 6 L 152 846 [pj_vR 0, pj_vR 1, pj_vR 38, pj_vI x3] [] M = some ([0 ≤ pj_nrm (x3 + 1) ∧ pj_nrm (x3 + 1) < (L : Int)], 852, [pj_vR 0, pj_vR 1, pj_vR 38, pj_vI x3], [pj_vI (M 0 (pj_nrm (x3 + 1)).toNat), pj_vR 1], M) from rfl) ⟨by omega, trivial⟩ ?_
  simp only [nj0, Int.toNat_natCast]
  exact pj_G_k (j := 67) (vs := [pj_vR 1, pj_vI (M 0 j0)]) (st := []) rfl rfl rfl rfl rfl (Nat.le_of_ble_eq_true rfl) pj_nc67 h
set_option maxRecDepth 100000 in
theorem pj_C152_855 {L d : Nat} {Q : Option pj_V → pj_M → Prop} {M : pj_M} {x3 s0 : Int} (j0 : Nat) (hL : L ≤ 2560) (ej0 : x3 + 1 = (j0 : Int)) (bj0 : j0 < L) (h : pj_G L d 137 0 [pj_vR 38, pj_vI (M 0 j0)] [] M (fun r M1 => pj_G L (d + 1) 152 864 [pj_vR 0, pj_vR 1, pj_vR 38, pj_vI x3] (r.toList ++ [pj_vI s0]) M1 Q)) : pj_G L (d + 1) 152 855 [pj_vR 0, pj_vR 1, pj_vR 38, pj_vI x3] [pj_vI s0] M Q := by
  have nj0 : pj_nrm (x3 + 1) = (j0 : Int) := pj_nk ej0 (by omega)
  refine pj_G_s (d := d + 1) pj_np152 6 (show pj_gs 6 L 152 855 [pj_vR 0, pj_vR 1, pj_vR 38, pj_vI x3] [pj_vI s0] M = some ([0 ≤ pj_nrm (x3 + 1) ∧ pj_nrm (x3 + 1) < (L : Int)], 861, [pj_vR 0, pj_vR 1, pj_vR 38, pj_vI x3], [pj_vI (M 0 (pj_nrm (x3 + 1)).toNat), pj_vR 38, pj_vI s0], M) from rfl) ⟨by omega, trivial⟩ ?_
  simp only [nj0, Int.toNat_natCast]
  exact pj_G_k (j := 137) (vs := [pj_vR 38, pj_vI (M 0 j0)]) (st := [pj_vI s0]) rfl rfl rfl rfl rfl (Nat.le_of_ble_eq_true rfl) pj_nc137 h
set_option maxRecDepth 100000 in
theorem pj_C152_864 {L d : Nat} {Q : Option pj_V → pj_M → Prop} {M : pj_M} {x3 s0 s1 : Int} (r0 : -2147483648 ≤ s0 ∧ s0 < 2147483648) (r1 : -2147483648 ≤ s1 ∧ s1 < 2147483648) (h1 : s0 = s1 → pj_G L d 152 1116 [pj_vR 0, pj_vR 1, pj_vR 38, pj_vI x3] [] M Q) (h2 : s0 ≠ s1 → pj_G L d 152 867 [pj_vU, pj_vU, pj_vU, pj_vU] [] M Q) : pj_G L d 152 864 [pj_vR 0, pj_vR 1, pj_vR 38, pj_vI x3] [pj_vI s1, pj_vI s0] M Q := by
  exact pj_G_if (t := 1116) rfl rfl (fun z => h1 (pj_ct_eq (pj_nrm_id r0.1 r0.2) (pj_nrm_id r1.1 r1.2) z)) (fun z => pj_G_loc (pj_lle_u rfl (pj_lle_u rfl (pj_lle_u rfl (pj_lle_u rfl pj_lle_nil)))) (h2 (pj_cf_eq (pj_nrm_id r0.1 r0.2) (pj_nrm_id r1.1 r1.2) z)))
set_option maxRecDepth 100000 in
theorem pj_C152_867 {L d : Nat} {Q : Option pj_V → pj_M → Prop} {M : pj_M}  (h : Q (some (pj_vI 0)) M) : pj_G L d 152 867 [pj_vU, pj_vU, pj_vU, pj_vU] [] M Q := by
  refine pj_G_s pj_np152 1 (show pj_gs 1 L 152 867 [pj_vU, pj_vU, pj_vU, pj_vU] [] M = some ([], 868, [pj_vU, pj_vU, pj_vU, pj_vU], [pj_vI 0], M) from rfl) trivial ?_
  exact pj_G_r rfl rfl rfl h
set_option maxRecDepth 100000 in
theorem pj_C152_823 {L d : Nat} {Q : Option pj_V → pj_M → Prop} {M : pj_M} {x3 : Int} (j0 : Nat) (hL : L ≤ 2560) (ej0 : x3 + 1 = (j0 : Int)) (bj0 : j0 < L) (h : pj_G L d 66 0 [pj_vR 1, pj_vI (M 0 j0)] [] M (fun r M1 => pj_G L (d + 1) 152 832 [pj_vR 0, pj_vR 1, pj_vR 38, pj_vI x3] (r.toList ++ []) M1 Q)) : pj_G L (d + 1) 152 823 [pj_vR 0, pj_vR 1, pj_vR 38, pj_vI x3] [] M Q := by
  have nj0 : pj_nrm (x3 + 1) = (j0 : Int) := pj_nk ej0 (by omega)
  refine pj_G_s (d := d + 1) pj_np152 6 (show pj_gs 6 L 152 823 [pj_vR 0, pj_vR 1, pj_vR 38, pj_vI x3] [] M = some ([0 ≤ pj_nrm (x3 + 1) ∧ pj_nrm (x3 + 1) < (L : Int)], 829, [pj_vR 0, pj_vR 1, pj_vR 38, pj_vI x3], [pj_vI (M 0 (pj_nrm (x3 + 1)).toNat), pj_vR 1], M) from rfl) ⟨by omega, trivial⟩ ?_
  simp only [nj0, Int.toNat_natCast]
  exact pj_G_k (j := 66) (vs := [pj_vR 1, pj_vI (M 0 j0)]) (st := []) rfl rfl rfl rfl rfl (Nat.le_of_ble_eq_true rfl) pj_nc66 h
set_option maxRecDepth 100000 in
theorem pj_C152_832 {L d : Nat} {Q : Option pj_V → pj_M → Prop} {M : pj_M} {x3 s0 : Int} (j0 : Nat) (hL : L ≤ 2560) (ej0 : x3 + 1 = (j0 : Int)) (bj0 : j0 < L) (h : pj_G L d 136 0 [pj_vR 38, pj_vI (M 0 j0), pj_vU] [] M (fun r M1 => pj_G L (d + 1) 152 841 [pj_vR 0, pj_vR 1, pj_vR 38, pj_vI x3] (r.toList ++ [pj_vI s0]) M1 Q)) : pj_G L (d + 1) 152 832 [pj_vR 0, pj_vR 1, pj_vR 38, pj_vI x3] [pj_vI s0] M Q := by
  have nj0 : pj_nrm (x3 + 1) = (j0 : Int) := pj_nk ej0 (by omega)
  refine pj_G_s (d := d + 1) pj_np152 6 (show pj_gs 6 L 152 832 [pj_vR 0, pj_vR 1, pj_vR 38, pj_vI x3] [pj_vI s0] M = some ([0 ≤ pj_nrm (x3 + 1) ∧ pj_nrm (x3 + 1) < (L : Int)], 838, [pj_vR 0, pj_vR 1, pj_vR 38, pj_vI x3], [pj_vI (M 0 (pj_nrm (x3 + 1)).toNat), pj_vR 38, pj_vI s0], M) from rfl) ⟨by omega, trivial⟩ ?_
  simp only [nj0, Int.toNat_natCast]
  exact pj_G_k (j := 136) (vs := [pj_vR 38, pj_vI (M 0 j0)]) (st := [pj_vI s0]) rfl rfl rfl rfl rfl (Nat.le_of_ble_eq_true rfl) pj_nc136 h
set_option maxRecDepth 100000 in
theorem pj_C152_841 {L d : Nat} {Q : Option pj_V → pj_M → Prop} {M : pj_M} {x3 s0 s1 : Int} (r0 : -2147483648 ≤ s0 ∧ s0 < 2147483648) (r1 : -2147483648 ≤ s1 ∧ s1 < 2147483648) (h1 : s0 = s1 → pj_G L d 152 1116 [pj_vR 0, pj_vR 1, pj_vR 38, pj_vI x3] [] M Q) (h2 : s0 ≠ s1 → pj_G L d 152 844 [pj_vU, pj_vU, pj_vU, pj_vU] [] M Q) : pj_G L d 152 841 [pj_vR 0, pj_vR 1, pj_vR 38, pj_vI x3] [pj_vI s1, pj_vI s0] M Q := by
  exact pj_G_if (t := 1116) rfl rfl (fun z => h1 (pj_ct_eq (pj_nrm_id r0.1 r0.2) (pj_nrm_id r1.1 r1.2) z)) (fun z => pj_G_loc (pj_lle_u rfl (pj_lle_u rfl (pj_lle_u rfl (pj_lle_u rfl pj_lle_nil)))) (h2 (pj_cf_eq (pj_nrm_id r0.1 r0.2) (pj_nrm_id r1.1 r1.2) z)))
set_option maxRecDepth 100000 in
theorem pj_C152_844 {L d : Nat} {Q : Option pj_V → pj_M → Prop} {M : pj_M}  (h : Q (some (pj_vI 0)) M) : pj_G L d 152 844 [pj_vU, pj_vU, pj_vU, pj_vU] [] M Q := by
  refine pj_G_s pj_np152 1 (show pj_gs 1 L 152 844 [pj_vU, pj_vU, pj_vU, pj_vU] [] M = some ([], 845, [pj_vU, pj_vU, pj_vU, pj_vU], [pj_vI 0], M) from rfl) trivial ?_
  exact pj_G_r rfl rfl rfl h
set_option maxRecDepth 100000 in
theorem pj_C152_810 {L d : Nat} {Q : Option pj_V → pj_M → Prop} {M : pj_M} {x3 : Int}  (h : pj_G L d 65 0 [pj_vR 1] [] M (fun r M1 => pj_G L (d + 1) 152 814 [pj_vR 0, pj_vR 1, pj_vR 38, pj_vI x3] (r.toList ++ []) M1 Q)) : pj_G L (d + 1) 152 810 [pj_vR 0, pj_vR 1, pj_vR 38, pj_vI x3] [] M Q := by
  refine pj_G_s (d := d + 1) pj_np152 1 (show pj_gs 1 L 152 810 [pj_vR 0, pj_vR 1, pj_vR 38, pj_vI x3] [] M = some ([], 811, [pj_vR 0, pj_vR 1, pj_vR 38, pj_vI x3], [pj_vR 1], M) from rfl) trivial ?_
  exact pj_G_k (j := 65) (vs := [pj_vR 1]) (st := []) rfl rfl rfl rfl rfl (Nat.le_of_ble_eq_true rfl) pj_nc65 h
set_option maxRecDepth 100000 in
theorem pj_C152_814 {L d : Nat} {Q : Option pj_V → pj_M → Prop} {M : pj_M} {x3 s0 : Int}  (h : pj_G L d 135 0 [pj_vR 38, pj_vU] [] M (fun r M1 => pj_G L (d + 1) 152 818 [pj_vR 0, pj_vR 1, pj_vR 38, pj_vI x3] (r.toList ++ [pj_vI s0]) M1 Q)) : pj_G L (d + 1) 152 814 [pj_vR 0, pj_vR 1, pj_vR 38, pj_vI x3] [pj_vI s0] M Q := by
  refine pj_G_s (d := d + 1) pj_np152 1 (show pj_gs 1 L 152 814 [pj_vR 0, pj_vR 1, pj_vR 38, pj_vI x3] [pj_vI s0] M = some ([], 815, [pj_vR 0, pj_vR 1, pj_vR 38, pj_vI x3], [pj_vR 38, pj_vI s0], M) from rfl) trivial ?_
  exact pj_G_k (j := 135) (vs := [pj_vR 38]) (st := [pj_vI s0]) rfl rfl rfl rfl rfl (Nat.le_of_ble_eq_true rfl) pj_nc135 h
set_option maxRecDepth 100000 in
theorem pj_C152_818 {L d : Nat} {Q : Option pj_V → pj_M → Prop} {M : pj_M} {x3 s0 s1 : Int} (r0 : -2147483648 ≤ s0 ∧ s0 < 2147483648) (r1 : -2147483648 ≤ s1 ∧ s1 < 2147483648) (h1 : s0 = s1 → pj_G L d 152 1116 [pj_vR 0, pj_vR 1, pj_vR 38, pj_vI x3] [] M Q) (h2 : s0 ≠ s1 → pj_G L d 152 821 [pj_vU, pj_vU, pj_vU, pj_vU] [] M Q) : pj_G L d 152 818 [pj_vR 0, pj_vR 1, pj_vR 38, pj_vI x3] [pj_vI s1, pj_vI s0] M Q := by
  exact pj_G_if (t := 1116) rfl rfl (fun z => h1 (pj_ct_eq (pj_nrm_id r0.1 r0.2) (pj_nrm_id r1.1 r1.2) z)) (fun z => pj_G_loc (pj_lle_u rfl (pj_lle_u rfl (pj_lle_u rfl (pj_lle_u rfl pj_lle_nil)))) (h2 (pj_cf_eq (pj_nrm_id r0.1 r0.2) (pj_nrm_id r1.1 r1.2) z)))
set_option maxRecDepth 100000 in
theorem pj_C152_821 {L d : Nat} {Q : Option pj_V → pj_M → Prop} {M : pj_M}  (h : Q (some (pj_vI 0)) M) : pj_G L d 152 821 [pj_vU, pj_vU, pj_vU, pj_vU] [] M Q := by
  refine pj_G_s pj_np152 1 (show pj_gs 1 L 152 821 [pj_vU, pj_vU, pj_vU, pj_vU] [] M = some ([], 822, [pj_vU, pj_vU, pj_vU, pj_vU], [pj_vI 0], M) from rfl) trivial ?_
  exact pj_G_r rfl rfl rfl h
set_option maxRecDepth 100000 in
theorem pj_C152_760 {L d : Nat} {Q : Option pj_V → pj_M → Prop} {M : pj_M} {x3 : Int} (j0 j1 : Nat) (hL : L ≤ 2560) (ej0 : x3 + 1 = (j0 : Int)) (bj0 : j0 < L) (ej1 : x3 + 2 = (j1 : Int)) (bj1 : j1 < L) (r0 : -2147483648 ≤ M 0 j1 ∧ M 0 j1 < 2147483648) (h1 : M 0 j1 = 0 → pj_G L d 152 778 [pj_vR 0, pj_vR 1, pj_vR 38, pj_vI x3] [pj_vI (M 0 j0), pj_vR 1] M Q) (h2 : M 0 j1 ≠ 0 → pj_G L d 152 774 [pj_vR 0, pj_vR 1, pj_vR 38, pj_vI x3] [pj_vI (M 0 j0), pj_vR 1] M Q) : pj_G L d 152 760 [pj_vR 0, pj_vR 1, pj_vR 38, pj_vI x3] [] M Q := by
  have nj0 : pj_nrm (x3 + 1) = (j0 : Int) := pj_nk ej0 (by omega)
  have nj1 : pj_nrm (x3 + 2) = (j1 : Int) := pj_nk ej1 (by omega)
  refine pj_G_s pj_np152 11 (show pj_gs 11 L 152 760 [pj_vR 0, pj_vR 1, pj_vR 38, pj_vI x3] [] M = some ([0 ≤ pj_nrm (x3 + 1) ∧ pj_nrm (x3 + 1) < (L : Int), 0 ≤ pj_nrm (x3 + 2) ∧ pj_nrm (x3 + 2) < (L : Int)], 771, [pj_vR 0, pj_vR 1, pj_vR 38, pj_vI x3], [pj_vI (M 0 (pj_nrm (x3 + 2)).toNat), pj_vI (M 0 (pj_nrm (x3 + 1)).toNat), pj_vR 1], M) from rfl) ⟨by omega, by omega, trivial⟩ ?_
  simp only [nj0, nj1, Int.toNat_natCast]
  exact pj_G_if0 (t := 778) rfl rfl (fun z => h1 (pj_ct_eq (pj_nrm_id r0.1 r0.2) rfl z)) (fun z => h2 (pj_cf_eq (pj_nrm_id r0.1 r0.2) rfl z))
set_option maxRecDepth 100000 in
theorem pj_C152_774 {L d : Nat} {Q : Option pj_V → pj_M → Prop} {M : pj_M} {x3 s1 : Int}  (h : pj_G L d 152 779 [pj_vR 0, pj_vR 1, pj_vR 38, pj_vI x3] [pj_vI 1, pj_vI s1, pj_vR 1] M Q) : pj_G L d 152 774 [pj_vR 0, pj_vR 1, pj_vR 38, pj_vI x3] [pj_vI s1, pj_vR 1] M Q := by
  refine pj_G_s pj_np152 2 (show pj_gs 2 L 152 774 [pj_vR 0, pj_vR 1, pj_vR 38, pj_vI x3] [pj_vI s1, pj_vR 1] M = some ([], 779, [pj_vR 0, pj_vR 1, pj_vR 38, pj_vI x3], [pj_vI 1, pj_vI s1, pj_vR 1], M) from rfl) trivial ?_
  exact h
set_option maxRecDepth 100000 in
theorem pj_C152_779 {L d : Nat} {Q : Option pj_V → pj_M → Prop} {M : pj_M} {x3 s1 s2 : Int}  (h : pj_G L d 64 0 [pj_vR 1, pj_vI s1, pj_vI s2, pj_vU, pj_vU, pj_vU, pj_vU, pj_vU, pj_vU, pj_vU, pj_vU] [] M (fun r M1 => pj_G L (d + 1) 152 782 [pj_vR 0, pj_vR 1, pj_vR 38, pj_vI x3] (r.toList ++ []) M1 Q)) : pj_G L (d + 1) 152 779 [pj_vR 0, pj_vR 1, pj_vR 38, pj_vI x3] [pj_vI s2, pj_vI s1, pj_vR 1] M Q := by
  exact pj_G_k (j := 64) (vs := [pj_vR 1, pj_vI s1, pj_vI s2]) (st := []) rfl rfl rfl rfl rfl (Nat.le_of_ble_eq_true rfl) pj_nc64 h
set_option maxRecDepth 100000 in
theorem pj_C152_782 {L d : Nat} {Q : Option pj_V → pj_M → Prop} {M : pj_M} {x3 s0 : Int} (j0 j1 : Nat) (hL : L ≤ 2560) (ej0 : x3 + 1 = (j0 : Int)) (bj0 : j0 < L) (ej1 : x3 + 2 = (j1 : Int)) (bj1 : j1 < L) (r0 : -2147483648 ≤ M 0 j1 ∧ M 0 j1 < 2147483648) (h1 : M 0 j1 = 0 → pj_G L d 152 800 [pj_vR 0, pj_vR 1, pj_vR 38, pj_vI x3] [pj_vI (M 0 j0), pj_vR 38, pj_vL s0] M Q) (h2 : M 0 j1 ≠ 0 → pj_G L d 152 796 [pj_vR 0, pj_vR 1, pj_vR 38, pj_vI x3] [pj_vI (M 0 j0), pj_vR 38, pj_vL s0] M Q) : pj_G L d 152 782 [pj_vR 0, pj_vR 1, pj_vR 38, pj_vI x3] [pj_vL s0] M Q := by
  have nj0 : pj_nrm (x3 + 1) = (j0 : Int) := pj_nk ej0 (by omega)
  have nj1 : pj_nrm (x3 + 2) = (j1 : Int) := pj_nk ej1 (by omega)
  refine pj_G_s pj_np152 11 (show pj_gs 11 L 152 782 [pj_vR 0, pj_vR 1, pj_vR 38, pj_vI x3] [pj_vL s0] M = some ([0 ≤ pj_nrm (x3 + 1) ∧ pj_nrm (x3 + 1) < (L : Int), 0 ≤ pj_nrm (x3 + 2) ∧ pj_nrm (x3 + 2) < (L : Int)], 793, [pj_vR 0, pj_vR 1, pj_vR 38, pj_vI x3], [pj_vI (M 0 (pj_nrm (x3 + 2)).toNat), pj_vI (M 0 (pj_nrm (x3 + 1)).toNat), pj_vR 38, pj_vL s0], M) from rfl) ⟨by omega, by omega, trivial⟩ ?_
  simp only [nj0, nj1, Int.toNat_natCast]
  exact pj_G_if0 (t := 800) rfl rfl (fun z => h1 (pj_ct_eq (pj_nrm_id r0.1 r0.2) rfl z)) (fun z => h2 (pj_cf_eq (pj_nrm_id r0.1 r0.2) rfl z))
set_option maxRecDepth 100000 in
theorem pj_C152_796 {L d : Nat} {Q : Option pj_V → pj_M → Prop} {M : pj_M} {x3 s0 s2 : Int}  (h : pj_G L d 152 801 [pj_vR 0, pj_vR 1, pj_vR 38, pj_vI x3] [pj_vI 1, pj_vI s2, pj_vR 38, pj_vL s0] M Q) : pj_G L d 152 796 [pj_vR 0, pj_vR 1, pj_vR 38, pj_vI x3] [pj_vI s2, pj_vR 38, pj_vL s0] M Q := by
  refine pj_G_s pj_np152 2 (show pj_gs 2 L 152 796 [pj_vR 0, pj_vR 1, pj_vR 38, pj_vI x3] [pj_vI s2, pj_vR 38, pj_vL s0] M = some ([], 801, [pj_vR 0, pj_vR 1, pj_vR 38, pj_vI x3], [pj_vI 1, pj_vI s2, pj_vR 38, pj_vL s0], M) from rfl) trivial ?_
  exact h
set_option maxRecDepth 100000 in
theorem pj_C152_801 {L d : Nat} {Q : Option pj_V → pj_M → Prop} {M : pj_M} {x3 s0 s2 s3 : Int}  (h : pj_G L d 131 0 [pj_vR 38, pj_vI s2, pj_vI s3, pj_vU, pj_vU, pj_vU, pj_vU, pj_vU, pj_vU, pj_vU, pj_vU, pj_vU, pj_vU, pj_vU] [] M (fun r M1 => pj_G L (d + 1) 152 804 [pj_vR 0, pj_vR 1, pj_vR 38, pj_vI x3] (r.toList ++ [pj_vL s0]) M1 Q)) : pj_G L (d + 1) 152 801 [pj_vR 0, pj_vR 1, pj_vR 38, pj_vI x3] [pj_vI s3, pj_vI s2, pj_vR 38, pj_vL s0] M Q := by
  exact pj_G_k (j := 131) (vs := [pj_vR 38, pj_vI s2, pj_vI s3]) (st := [pj_vL s0]) rfl rfl rfl rfl rfl (Nat.le_of_ble_eq_true rfl) pj_nc131 h
set_option maxRecDepth 100000 in
theorem pj_C152_804 {L d : Nat} {Q : Option pj_V → pj_M → Prop} {M : pj_M} {x3 s0 s1 : Int}  (h1 : pj_lcmp s0 s1 = 0 → pj_G L d 152 1116 [pj_vR 0, pj_vR 1, pj_vR 38, pj_vI x3] [] M Q) (h2 : pj_lcmp s0 s1 ≠ 0 → pj_G L d 152 808 [pj_vU, pj_vU, pj_vU, pj_vU] [] M Q) : pj_G L d 152 804 [pj_vR 0, pj_vR 1, pj_vR 38, pj_vI x3] [pj_vL s1, pj_vL s0] M Q := by
  refine pj_G_s pj_np152 1 (show pj_gs 1 L 152 804 [pj_vR 0, pj_vR 1, pj_vR 38, pj_vI x3] [pj_vL s1, pj_vL s0] M = some ([], 805, [pj_vR 0, pj_vR 1, pj_vR 38, pj_vI x3], [pj_vI (pj_lcmp s0 s1)], M) from rfl) trivial ?_
  exact pj_G_if0 (t := 1116) rfl rfl (fun z => h1 (pj_ct_eq (pj_nrm_op _) rfl z)) (fun z => pj_G_loc (pj_lle_u rfl (pj_lle_u rfl (pj_lle_u rfl (pj_lle_u rfl pj_lle_nil)))) (h2 (pj_cf_eq (pj_nrm_op _) rfl z)))
set_option maxRecDepth 100000 in
theorem pj_C152_808 {L d : Nat} {Q : Option pj_V → pj_M → Prop} {M : pj_M}  (h : Q (some (pj_vI 0)) M) : pj_G L d 152 808 [pj_vU, pj_vU, pj_vU, pj_vU] [] M Q := by
  refine pj_G_s pj_np152 1 (show pj_gs 1 L 152 808 [pj_vU, pj_vU, pj_vU, pj_vU] [] M = some ([], 809, [pj_vU, pj_vU, pj_vU, pj_vU], [pj_vI 0], M) from rfl) trivial ?_
  exact pj_G_r rfl rfl rfl h
set_option maxRecDepth 100000 in
theorem pj_C152_800 {L d : Nat} {Q : Option pj_V → pj_M → Prop} {M : pj_M} {x3 s0 s2 : Int}  (h : pj_G L d 152 801 [pj_vR 0, pj_vR 1, pj_vR 38, pj_vI x3] [pj_vI 0, pj_vI s2, pj_vR 38, pj_vL s0] M Q) : pj_G L d 152 800 [pj_vR 0, pj_vR 1, pj_vR 38, pj_vI x3] [pj_vI s2, pj_vR 38, pj_vL s0] M Q := by
  refine pj_G_s pj_np152 1 (show pj_gs 1 L 152 800 [pj_vR 0, pj_vR 1, pj_vR 38, pj_vI x3] [pj_vI s2, pj_vR 38, pj_vL s0] M = some ([], 801, [pj_vR 0, pj_vR 1, pj_vR 38, pj_vI x3], [pj_vI 0, pj_vI s2, pj_vR 38, pj_vL s0], M) from rfl) trivial ?_
  exact h
set_option maxRecDepth 100000 in
theorem pj_C152_778 {L d : Nat} {Q : Option pj_V → pj_M → Prop} {M : pj_M} {x3 s1 : Int}  (h : pj_G L d 152 779 [pj_vR 0, pj_vR 1, pj_vR 38, pj_vI x3] [pj_vI 0, pj_vI s1, pj_vR 1] M Q) : pj_G L d 152 778 [pj_vR 0, pj_vR 1, pj_vR 38, pj_vI x3] [pj_vI s1, pj_vR 1] M Q := by
  refine pj_G_s pj_np152 1 (show pj_gs 1 L 152 778 [pj_vR 0, pj_vR 1, pj_vR 38, pj_vI x3] [pj_vI s1, pj_vR 1] M = some ([], 779, [pj_vR 0, pj_vR 1, pj_vR 38, pj_vI x3], [pj_vI 0, pj_vI s1, pj_vR 1], M) from rfl) trivial ?_
  exact h
set_option maxRecDepth 100000 in
theorem pj_C152_747 {L d : Nat} {Q : Option pj_V → pj_M → Prop} {M : pj_M} {x3 : Int}  (h : pj_G L d 63 0 [pj_vR 1, pj_vU, pj_vU, pj_vU, pj_vU, pj_vU, pj_vU, pj_vU] [] M (fun r M1 => pj_G L (d + 1) 152 751 [pj_vR 0, pj_vR 1, pj_vR 38, pj_vI x3] (r.toList ++ []) M1 Q)) : pj_G L (d + 1) 152 747 [pj_vR 0, pj_vR 1, pj_vR 38, pj_vI x3] [] M Q := by
  refine pj_G_s (d := d + 1) pj_np152 1 (show pj_gs 1 L 152 747 [pj_vR 0, pj_vR 1, pj_vR 38, pj_vI x3] [] M = some ([], 748, [pj_vR 0, pj_vR 1, pj_vR 38, pj_vI x3], [pj_vR 1], M) from rfl) trivial ?_
  exact pj_G_k (j := 63) (vs := [pj_vR 1]) (st := []) rfl rfl rfl rfl rfl (Nat.le_of_ble_eq_true rfl) pj_nc63 h
set_option maxRecDepth 100000 in
theorem pj_C152_751 {L d : Nat} {Q : Option pj_V → pj_M → Prop} {M : pj_M} {x3 s0 : Int}  (h : pj_G L d 130 0 [pj_vR 38, pj_vU, pj_vU] [] M (fun r M1 => pj_G L (d + 1) 152 755 [pj_vR 0, pj_vR 1, pj_vR 38, pj_vI x3] (r.toList ++ [pj_vI s0]) M1 Q)) : pj_G L (d + 1) 152 751 [pj_vR 0, pj_vR 1, pj_vR 38, pj_vI x3] [pj_vI s0] M Q := by
  refine pj_G_s (d := d + 1) pj_np152 1 (show pj_gs 1 L 152 751 [pj_vR 0, pj_vR 1, pj_vR 38, pj_vI x3] [pj_vI s0] M = some ([], 752, [pj_vR 0, pj_vR 1, pj_vR 38, pj_vI x3], [pj_vR 38, pj_vI s0], M) from rfl) trivial ?_
  exact pj_G_k (j := 130) (vs := [pj_vR 38]) (st := [pj_vI s0]) rfl rfl rfl rfl rfl (Nat.le_of_ble_eq_true rfl) pj_nc130 h
set_option maxRecDepth 100000 in
theorem pj_C152_755 {L d : Nat} {Q : Option pj_V → pj_M → Prop} {M : pj_M} {x3 s0 s1 : Int} (r0 : -2147483648 ≤ s0 ∧ s0 < 2147483648) (r1 : -2147483648 ≤ s1 ∧ s1 < 2147483648) (h1 : s0 = s1 → pj_G L d 152 1116 [pj_vR 0, pj_vR 1, pj_vR 38, pj_vI x3] [] M Q) (h2 : s0 ≠ s1 → pj_G L d 152 758 [pj_vU, pj_vU, pj_vU, pj_vU] [] M Q) : pj_G L d 152 755 [pj_vR 0, pj_vR 1, pj_vR 38, pj_vI x3] [pj_vI s1, pj_vI s0] M Q := by
  exact pj_G_if (t := 1116) rfl rfl (fun z => h1 (pj_ct_eq (pj_nrm_id r0.1 r0.2) (pj_nrm_id r1.1 r1.2) z)) (fun z => pj_G_loc (pj_lle_u rfl (pj_lle_u rfl (pj_lle_u rfl (pj_lle_u rfl pj_lle_nil)))) (h2 (pj_cf_eq (pj_nrm_id r0.1 r0.2) (pj_nrm_id r1.1 r1.2) z)))
set_option maxRecDepth 100000 in
theorem pj_C152_758 {L d : Nat} {Q : Option pj_V → pj_M → Prop} {M : pj_M}  (h : Q (some (pj_vI 0)) M) : pj_G L d 152 758 [pj_vU, pj_vU, pj_vU, pj_vU] [] M Q := by
  refine pj_G_s pj_np152 1 (show pj_gs 1 L 152 758 [pj_vU, pj_vU, pj_vU, pj_vU] [] M = some ([], 759, [pj_vU, pj_vU, pj_vU, pj_vU], [pj_vI 0], M) from rfl) trivial ?_
  exact pj_G_r rfl rfl rfl h
set_option maxRecDepth 100000 in
theorem pj_C152_723 {L d : Nat} {Q : Option pj_V → pj_M → Prop} {M : pj_M} {x3 : Int} (j0 : Nat) (hL : L ≤ 2560) (ej0 : x3 + 1 = (j0 : Int)) (bj0 : j0 < L) (h : pj_G L d 62 0 [pj_vR 1, pj_vI (M 0 j0)] [] M (fun r M1 => pj_G L (d + 1) 152 732 [pj_vR 0, pj_vR 1, pj_vR 38, pj_vI x3] (r.toList ++ []) M1 Q)) : pj_G L (d + 1) 152 723 [pj_vR 0, pj_vR 1, pj_vR 38, pj_vI x3] [] M Q := by
  have nj0 : pj_nrm (x3 + 1) = (j0 : Int) := pj_nk ej0 (by omega)
  refine pj_G_s (d := d + 1) pj_np152 6 (show pj_gs 6 L 152 723 [pj_vR 0, pj_vR 1, pj_vR 38, pj_vI x3] [] M = some ([0 ≤ pj_nrm (x3 + 1) ∧ pj_nrm (x3 + 1) < (L : Int)], 729, [pj_vR 0, pj_vR 1, pj_vR 38, pj_vI x3], [pj_vI (M 0 (pj_nrm (x3 + 1)).toNat), pj_vR 1], M) from rfl) ⟨by omega, trivial⟩ ?_
  simp only [nj0, Int.toNat_natCast]
  exact pj_G_k (j := 62) (vs := [pj_vR 1, pj_vI (M 0 j0)]) (st := []) rfl rfl rfl rfl rfl (Nat.le_of_ble_eq_true rfl) pj_nc62 h
set_option maxRecDepth 100000 in
theorem pj_C152_732 {L d : Nat} {Q : Option pj_V → pj_M → Prop} {M : pj_M} {x3 s0 : Int} (j0 : Nat) (hL : L ≤ 2560) (ej0 : x3 + 1 = (j0 : Int)) (bj0 : j0 < L) (h : pj_G L d 129 0 [pj_vR 38, pj_vI (M 0 j0), pj_vU, pj_vU] [] M (fun r M1 => pj_G L (d + 1) 152 741 [pj_vR 0, pj_vR 1, pj_vR 38, pj_vI x3] (r.toList ++ [pj_vL s0]) M1 Q)) : pj_G L (d + 1) 152 732 [pj_vR 0, pj_vR 1, pj_vR 38, pj_vI x3] [pj_vL s0] M Q := by
  have nj0 : pj_nrm (x3 + 1) = (j0 : Int) := pj_nk ej0 (by omega)
  refine pj_G_s (d := d + 1) pj_np152 6 (show pj_gs 6 L 152 732 [pj_vR 0, pj_vR 1, pj_vR 38, pj_vI x3] [pj_vL s0] M = some ([0 ≤ pj_nrm (x3 + 1) ∧ pj_nrm (x3 + 1) < (L : Int)], 738, [pj_vR 0, pj_vR 1, pj_vR 38, pj_vI x3], [pj_vI (M 0 (pj_nrm (x3 + 1)).toNat), pj_vR 38, pj_vL s0], M) from rfl) ⟨by omega, trivial⟩ ?_
  simp only [nj0, Int.toNat_natCast]
  exact pj_G_k (j := 129) (vs := [pj_vR 38, pj_vI (M 0 j0)]) (st := [pj_vL s0]) rfl rfl rfl rfl rfl (Nat.le_of_ble_eq_true rfl) pj_nc129 h
set_option maxRecDepth 100000 in
theorem pj_C152_741 {L d : Nat} {Q : Option pj_V → pj_M → Prop} {M : pj_M} {x3 s0 s1 : Int}  (h1 : pj_lcmp s0 s1 = 0 → pj_G L d 152 1116 [pj_vR 0, pj_vR 1, pj_vR 38, pj_vI x3] [] M Q) (h2 : pj_lcmp s0 s1 ≠ 0 → pj_G L d 152 745 [pj_vU, pj_vU, pj_vU, pj_vU] [] M Q) : pj_G L d 152 741 [pj_vR 0, pj_vR 1, pj_vR 38, pj_vI x3] [pj_vL s1, pj_vL s0] M Q := by
  refine pj_G_s pj_np152 1 (show pj_gs 1 L 152 741 [pj_vR 0, pj_vR 1, pj_vR 38, pj_vI x3] [pj_vL s1, pj_vL s0] M = some ([], 742, [pj_vR 0, pj_vR 1, pj_vR 38, pj_vI x3], [pj_vI (pj_lcmp s0 s1)], M) from rfl) trivial ?_
  exact pj_G_if0 (t := 1116) rfl rfl (fun z => h1 (pj_ct_eq (pj_nrm_op _) rfl z)) (fun z => pj_G_loc (pj_lle_u rfl (pj_lle_u rfl (pj_lle_u rfl (pj_lle_u rfl pj_lle_nil)))) (h2 (pj_cf_eq (pj_nrm_op _) rfl z)))
set_option maxRecDepth 100000 in
theorem pj_C152_745 {L d : Nat} {Q : Option pj_V → pj_M → Prop} {M : pj_M}  (h : Q (some (pj_vI 0)) M) : pj_G L d 152 745 [pj_vU, pj_vU, pj_vU, pj_vU] [] M Q := by
  refine pj_G_s pj_np152 1 (show pj_gs 1 L 152 745 [pj_vU, pj_vU, pj_vU, pj_vU] [] M = some ([], 746, [pj_vU, pj_vU, pj_vU, pj_vU], [pj_vI 0], M) from rfl) trivial ?_
  exact pj_G_r rfl rfl rfl h
set_option maxRecDepth 100000 in
theorem pj_C152_700 {L d : Nat} {Q : Option pj_V → pj_M → Prop} {M : pj_M} {x3 : Int} (j0 : Nat) (hL : L ≤ 2560) (ej0 : x3 + 1 = (j0 : Int)) (bj0 : j0 < L) (h : pj_G L d 61 0 [pj_vR 1, pj_vI (M 0 j0)] [] M (fun r M1 => pj_G L (d + 1) 152 709 [pj_vR 0, pj_vR 1, pj_vR 38, pj_vI x3] (r.toList ++ []) M1 Q)) : pj_G L (d + 1) 152 700 [pj_vR 0, pj_vR 1, pj_vR 38, pj_vI x3] [] M Q := by
  have nj0 : pj_nrm (x3 + 1) = (j0 : Int) := pj_nk ej0 (by omega)
  refine pj_G_s (d := d + 1) pj_np152 6 (show pj_gs 6 L 152 700 [pj_vR 0, pj_vR 1, pj_vR 38, pj_vI x3] [] M = some ([0 ≤ pj_nrm (x3 + 1) ∧ pj_nrm (x3 + 1) < (L : Int)], 706, [pj_vR 0, pj_vR 1, pj_vR 38, pj_vI x3], [pj_vI (M 0 (pj_nrm (x3 + 1)).toNat), pj_vR 1], M) from rfl) ⟨by omega, trivial⟩ ?_
  simp only [nj0, Int.toNat_natCast]
  exact pj_G_k (j := 61) (vs := [pj_vR 1, pj_vI (M 0 j0)]) (st := []) rfl rfl rfl rfl rfl (Nat.le_of_ble_eq_true rfl) pj_nc61 h
set_option maxRecDepth 100000 in
theorem pj_C152_709 {L d : Nat} {Q : Option pj_V → pj_M → Prop} {M : pj_M} {x3 s0 : Int} (j0 : Nat) (hL : L ≤ 2560) (ej0 : x3 + 1 = (j0 : Int)) (bj0 : j0 < L) (h : pj_G L d 127 0 [pj_vR 38, pj_vI (M 0 j0), pj_vU] [] M (fun r M1 => pj_G L (d + 1) 152 718 [pj_vR 0, pj_vR 1, pj_vR 38, pj_vI x3] (r.toList ++ [pj_vI s0]) M1 Q)) : pj_G L (d + 1) 152 709 [pj_vR 0, pj_vR 1, pj_vR 38, pj_vI x3] [pj_vI s0] M Q := by
  have nj0 : pj_nrm (x3 + 1) = (j0 : Int) := pj_nk ej0 (by omega)
  refine pj_G_s (d := d + 1) pj_np152 6 (show pj_gs 6 L 152 709 [pj_vR 0, pj_vR 1, pj_vR 38, pj_vI x3] [pj_vI s0] M = some ([0 ≤ pj_nrm (x3 + 1) ∧ pj_nrm (x3 + 1) < (L : Int)], 715, [pj_vR 0, pj_vR 1, pj_vR 38, pj_vI x3], [pj_vI (M 0 (pj_nrm (x3 + 1)).toNat), pj_vR 38, pj_vI s0], M) from rfl) ⟨by omega, trivial⟩ ?_
  simp only [nj0, Int.toNat_natCast]
  exact pj_G_k (j := 127) (vs := [pj_vR 38, pj_vI (M 0 j0)]) (st := [pj_vI s0]) rfl rfl rfl rfl rfl (Nat.le_of_ble_eq_true rfl) pj_nc127 h
set_option maxRecDepth 100000 in
theorem pj_C152_718 {L d : Nat} {Q : Option pj_V → pj_M → Prop} {M : pj_M} {x3 s0 s1 : Int} (r0 : -2147483648 ≤ s0 ∧ s0 < 2147483648) (r1 : -2147483648 ≤ s1 ∧ s1 < 2147483648) (h1 : s0 = s1 → pj_G L d 152 1116 [pj_vR 0, pj_vR 1, pj_vR 38, pj_vI x3] [] M Q) (h2 : s0 ≠ s1 → pj_G L d 152 721 [pj_vU, pj_vU, pj_vU, pj_vU] [] M Q) : pj_G L d 152 718 [pj_vR 0, pj_vR 1, pj_vR 38, pj_vI x3] [pj_vI s1, pj_vI s0] M Q := by
  exact pj_G_if (t := 1116) rfl rfl (fun z => h1 (pj_ct_eq (pj_nrm_id r0.1 r0.2) (pj_nrm_id r1.1 r1.2) z)) (fun z => pj_G_loc (pj_lle_u rfl (pj_lle_u rfl (pj_lle_u rfl (pj_lle_u rfl pj_lle_nil)))) (h2 (pj_cf_eq (pj_nrm_id r0.1 r0.2) (pj_nrm_id r1.1 r1.2) z)))
set_option maxRecDepth 100000 in
theorem pj_C152_721 {L d : Nat} {Q : Option pj_V → pj_M → Prop} {M : pj_M}  (h : Q (some (pj_vI 0)) M) : pj_G L d 152 721 [pj_vU, pj_vU, pj_vU, pj_vU] [] M Q := by
  refine pj_G_s pj_np152 1 (show pj_gs 1 L 152 721 [pj_vU, pj_vU, pj_vU, pj_vU] [] M = some ([], 722, [pj_vU, pj_vU, pj_vU, pj_vU], [pj_vI 0], M) from rfl) trivial ?_
  exact pj_G_r rfl rfl rfl h
set_option maxRecDepth 100000 in
theorem pj_C152_677 {L d : Nat} {Q : Option pj_V → pj_M → Prop} {M : pj_M} {x3 : Int} (j0 : Nat) (hL : L ≤ 2560) (ej0 : x3 + 1 = (j0 : Int)) (bj0 : j0 < L) (h : pj_G L d 60 0 [pj_vR 1, pj_vI (M 0 j0)] [] M (fun r M1 => pj_G L (d + 1) 152 686 [pj_vR 0, pj_vR 1, pj_vR 38, pj_vI x3] (r.toList ++ []) M1 Q)) : pj_G L (d + 1) 152 677 [pj_vR 0, pj_vR 1, pj_vR 38, pj_vI x3] [] M Q := by
  have nj0 : pj_nrm (x3 + 1) = (j0 : Int) := pj_nk ej0 (by omega)
  refine pj_G_s (d := d + 1) pj_np152 6 (show pj_gs 6 L 152 677 [pj_vR 0, pj_vR 1, pj_vR 38, pj_vI x3] [] M = some ([0 ≤ pj_nrm (x3 + 1) ∧ pj_nrm (x3 + 1) < (L : Int)], 683, [pj_vR 0, pj_vR 1, pj_vR 38, pj_vI x3], [pj_vI (M 0 (pj_nrm (x3 + 1)).toNat), pj_vR 1], M) from rfl) ⟨by omega, trivial⟩ ?_
  simp only [nj0, Int.toNat_natCast]
  exact pj_G_k (j := 60) (vs := [pj_vR 1, pj_vI (M 0 j0)]) (st := []) rfl rfl rfl rfl rfl (Nat.le_of_ble_eq_true rfl) pj_nc60 h
set_option maxRecDepth 100000 in
theorem pj_C152_686 {L d : Nat} {Q : Option pj_V → pj_M → Prop} {M : pj_M} {x3 s0 : Int} (j0 : Nat) (hL : L ≤ 2560) (ej0 : x3 + 1 = (j0 : Int)) (bj0 : j0 < L) (h : pj_G L d 124 0 [pj_vR 38, pj_vI (M 0 j0)] [] M (fun r M1 => pj_G L (d + 1) 152 695 [pj_vR 0, pj_vR 1, pj_vR 38, pj_vI x3] (r.toList ++ [pj_vI s0]) M1 Q)) : pj_G L (d + 1) 152 686 [pj_vR 0, pj_vR 1, pj_vR 38, pj_vI x3] [pj_vI s0] M Q := by
  have nj0 : pj_nrm (x3 + 1) = (j0 : Int) := pj_nk ej0 (by omega)
  refine pj_G_s (d := d + 1) pj_np152 6 (show pj_gs 6 L 152 686 [pj_vR 0, pj_vR 1, pj_vR 38, pj_vI x3] [pj_vI s0] M = some ([0 ≤ pj_nrm (x3 + 1) ∧ pj_nrm (x3 + 1) < (L : Int)], 692, [pj_vR 0, pj_vR 1, pj_vR 38, pj_vI x3], [pj_vI (M 0 (pj_nrm (x3 + 1)).toNat), pj_vR 38, pj_vI s0], M) from rfl) ⟨by omega, trivial⟩ ?_
  simp only [nj0, Int.toNat_natCast]
  exact pj_G_k (j := 124) (vs := [pj_vR 38, pj_vI (M 0 j0)]) (st := [pj_vI s0]) rfl rfl rfl rfl rfl (Nat.le_of_ble_eq_true rfl) pj_nc124 h
set_option maxRecDepth 100000 in
theorem pj_C152_695 {L d : Nat} {Q : Option pj_V → pj_M → Prop} {M : pj_M} {x3 s0 s1 : Int} (r0 : -2147483648 ≤ s0 ∧ s0 < 2147483648) (r1 : -2147483648 ≤ s1 ∧ s1 < 2147483648) (h1 : s0 = s1 → pj_G L d 152 1116 [pj_vR 0, pj_vR 1, pj_vR 38, pj_vI x3] [] M Q) (h2 : s0 ≠ s1 → pj_G L d 152 698 [pj_vU, pj_vU, pj_vU, pj_vU] [] M Q) : pj_G L d 152 695 [pj_vR 0, pj_vR 1, pj_vR 38, pj_vI x3] [pj_vI s1, pj_vI s0] M Q := by
  exact pj_G_if (t := 1116) rfl rfl (fun z => h1 (pj_ct_eq (pj_nrm_id r0.1 r0.2) (pj_nrm_id r1.1 r1.2) z)) (fun z => pj_G_loc (pj_lle_u rfl (pj_lle_u rfl (pj_lle_u rfl (pj_lle_u rfl pj_lle_nil)))) (h2 (pj_cf_eq (pj_nrm_id r0.1 r0.2) (pj_nrm_id r1.1 r1.2) z)))
set_option maxRecDepth 100000 in
theorem pj_C152_698 {L d : Nat} {Q : Option pj_V → pj_M → Prop} {M : pj_M}  (h : Q (some (pj_vI 0)) M) : pj_G L d 152 698 [pj_vU, pj_vU, pj_vU, pj_vU] [] M Q := by
  refine pj_G_s pj_np152 1 (show pj_gs 1 L 152 698 [pj_vU, pj_vU, pj_vU, pj_vU] [] M = some ([], 699, [pj_vU, pj_vU, pj_vU, pj_vU], [pj_vI 0], M) from rfl) trivial ?_
  exact pj_G_r rfl rfl rfl h
set_option maxRecDepth 100000 in
theorem pj_C152_664 {L d : Nat} {Q : Option pj_V → pj_M → Prop} {M : pj_M} {x3 : Int}  (h : pj_G L d 59 0 [pj_vR 1] [] M (fun r M1 => pj_G L (d + 1) 152 668 [pj_vR 0, pj_vR 1, pj_vR 38, pj_vI x3] (r.toList ++ []) M1 Q)) : pj_G L (d + 1) 152 664 [pj_vR 0, pj_vR 1, pj_vR 38, pj_vI x3] [] M Q := by
  refine pj_G_s (d := d + 1) pj_np152 1 (show pj_gs 1 L 152 664 [pj_vR 0, pj_vR 1, pj_vR 38, pj_vI x3] [] M = some ([], 665, [pj_vR 0, pj_vR 1, pj_vR 38, pj_vI x3], [pj_vR 1], M) from rfl) trivial ?_
  exact pj_G_k (j := 59) (vs := [pj_vR 1]) (st := []) rfl rfl rfl rfl rfl (Nat.le_of_ble_eq_true rfl) pj_nc59 h
set_option maxRecDepth 100000 in
theorem pj_C152_668 {L d : Nat} {Q : Option pj_V → pj_M → Prop} {M : pj_M} {x3 s0 : Int}  (h : pj_G L d 123 0 [pj_vR 38] [] M (fun r M1 => pj_G L (d + 1) 152 672 [pj_vR 0, pj_vR 1, pj_vR 38, pj_vI x3] (r.toList ++ [pj_vI s0]) M1 Q)) : pj_G L (d + 1) 152 668 [pj_vR 0, pj_vR 1, pj_vR 38, pj_vI x3] [pj_vI s0] M Q := by
  refine pj_G_s (d := d + 1) pj_np152 1 (show pj_gs 1 L 152 668 [pj_vR 0, pj_vR 1, pj_vR 38, pj_vI x3] [pj_vI s0] M = some ([], 669, [pj_vR 0, pj_vR 1, pj_vR 38, pj_vI x3], [pj_vR 38, pj_vI s0], M) from rfl) trivial ?_
  exact pj_G_k (j := 123) (vs := [pj_vR 38]) (st := [pj_vI s0]) rfl rfl rfl rfl rfl (Nat.le_of_ble_eq_true rfl) pj_nc123 h
set_option maxRecDepth 100000 in
theorem pj_C152_672 {L d : Nat} {Q : Option pj_V → pj_M → Prop} {M : pj_M} {x3 s0 s1 : Int} (r0 : -2147483648 ≤ s0 ∧ s0 < 2147483648) (r1 : -2147483648 ≤ s1 ∧ s1 < 2147483648) (h1 : s0 = s1 → pj_G L d 152 1116 [pj_vR 0, pj_vR 1, pj_vR 38, pj_vI x3] [] M Q) (h2 : s0 ≠ s1 → pj_G L d 152 675 [pj_vU, pj_vU, pj_vU, pj_vU] [] M Q) : pj_G L d 152 672 [pj_vR 0, pj_vR 1, pj_vR 38, pj_vI x3] [pj_vI s1, pj_vI s0] M Q := by
  exact pj_G_if (t := 1116) rfl rfl (fun z => h1 (pj_ct_eq (pj_nrm_id r0.1 r0.2) (pj_nrm_id r1.1 r1.2) z)) (fun z => pj_G_loc (pj_lle_u rfl (pj_lle_u rfl (pj_lle_u rfl (pj_lle_u rfl pj_lle_nil)))) (h2 (pj_cf_eq (pj_nrm_id r0.1 r0.2) (pj_nrm_id r1.1 r1.2) z)))
set_option maxRecDepth 100000 in
theorem pj_C152_675 {L d : Nat} {Q : Option pj_V → pj_M → Prop} {M : pj_M}  (h : Q (some (pj_vI 0)) M) : pj_G L d 152 675 [pj_vU, pj_vU, pj_vU, pj_vU] [] M Q := by
  refine pj_G_s pj_np152 1 (show pj_gs 1 L 152 675 [pj_vU, pj_vU, pj_vU, pj_vU] [] M = some ([], 676, [pj_vU, pj_vU, pj_vU, pj_vU], [pj_vI 0], M) from rfl) trivial ?_
  exact pj_G_r rfl rfl rfl h
set_option maxRecDepth 100000 in
theorem pj_C152_631 {L d : Nat} {Q : Option pj_V → pj_M → Prop} {M : pj_M} {x3 : Int} (j0 j1 : Nat) (hL : L ≤ 2560) (ej0 : x3 + 1 = (j0 : Int)) (bj0 : j0 < L) (ej1 : x3 + 2 = (j1 : Int)) (bj1 : j1 < L) (h : pj_G L d 58 0 [pj_vR 1, pj_vI (M 0 j0), pj_vI (M 0 j1)] [] M (fun r M1 => pj_G L (d + 1) 152 645 [pj_vR 0, pj_vR 1, pj_vR 38, pj_vI x3] (r.toList ++ []) M1 Q)) : pj_G L (d + 1) 152 631 [pj_vR 0, pj_vR 1, pj_vR 38, pj_vI x3] [] M Q := by
  have nj0 : pj_nrm (x3 + 1) = (j0 : Int) := pj_nk ej0 (by omega)
  have nj1 : pj_nrm (x3 + 2) = (j1 : Int) := pj_nk ej1 (by omega)
  refine pj_G_s (d := d + 1) pj_np152 11 (show pj_gs 11 L 152 631 [pj_vR 0, pj_vR 1, pj_vR 38, pj_vI x3] [] M = some ([0 ≤ pj_nrm (x3 + 1) ∧ pj_nrm (x3 + 1) < (L : Int), 0 ≤ pj_nrm (x3 + 2) ∧ pj_nrm (x3 + 2) < (L : Int)], 642, [pj_vR 0, pj_vR 1, pj_vR 38, pj_vI x3], [pj_vI (M 0 (pj_nrm (x3 + 2)).toNat), pj_vI (M 0 (pj_nrm (x3 + 1)).toNat), pj_vR 1], M) from rfl) ⟨by omega, by omega, trivial⟩ ?_
  simp only [nj0, nj1, Int.toNat_natCast]
  exact pj_G_k (j := 58) (vs := [pj_vR 1, pj_vI (M 0 j0), pj_vI (M 0 j1)]) (st := []) rfl rfl rfl rfl rfl (Nat.le_of_ble_eq_true rfl) pj_nc58 h
set_option maxRecDepth 100000 in
theorem pj_C152_645 {L d : Nat} {Q : Option pj_V → pj_M → Prop} {M : pj_M} {x3 s0 : Int} (j0 j1 : Nat) (hL : L ≤ 2560) (ej0 : x3 + 1 = (j0 : Int)) (bj0 : j0 < L) (ej1 : x3 + 2 = (j1 : Int)) (bj1 : j1 < L) (h : pj_G L d 114 0 [pj_vR 38, pj_vI (M 0 j0), pj_vI (M 0 j1)] [] M (fun r M1 => pj_G L (d + 1) 152 659 [pj_vR 0, pj_vR 1, pj_vR 38, pj_vI x3] (r.toList ++ [pj_vI s0]) M1 Q)) : pj_G L (d + 1) 152 645 [pj_vR 0, pj_vR 1, pj_vR 38, pj_vI x3] [pj_vI s0] M Q := by
  have nj0 : pj_nrm (x3 + 1) = (j0 : Int) := pj_nk ej0 (by omega)
  have nj1 : pj_nrm (x3 + 2) = (j1 : Int) := pj_nk ej1 (by omega)
  refine pj_G_s (d := d + 1) pj_np152 11 (show pj_gs 11 L 152 645 [pj_vR 0, pj_vR 1, pj_vR 38, pj_vI x3] [pj_vI s0] M = some ([0 ≤ pj_nrm (x3 + 1) ∧ pj_nrm (x3 + 1) < (L : Int), 0 ≤ pj_nrm (x3 + 2) ∧ pj_nrm (x3 + 2) < (L : Int)], 656, [pj_vR 0, pj_vR 1, pj_vR 38, pj_vI x3], [pj_vI (M 0 (pj_nrm (x3 + 2)).toNat), pj_vI (M 0 (pj_nrm (x3 + 1)).toNat), pj_vR 38, pj_vI s0], M) from rfl) ⟨by omega, by omega, trivial⟩ ?_
  simp only [nj0, nj1, Int.toNat_natCast]
  exact pj_G_k (j := 114) (vs := [pj_vR 38, pj_vI (M 0 j0), pj_vI (M 0 j1)]) (st := [pj_vI s0]) rfl rfl rfl rfl rfl (Nat.le_of_ble_eq_true rfl) pj_nc114 h
set_option maxRecDepth 100000 in
theorem pj_C152_659 {L d : Nat} {Q : Option pj_V → pj_M → Prop} {M : pj_M} {x3 s0 s1 : Int} (r0 : -2147483648 ≤ s0 ∧ s0 < 2147483648) (r1 : -2147483648 ≤ s1 ∧ s1 < 2147483648) (h1 : s0 = s1 → pj_G L d 152 1116 [pj_vR 0, pj_vR 1, pj_vR 38, pj_vI x3] [] M Q) (h2 : s0 ≠ s1 → pj_G L d 152 662 [pj_vU, pj_vU, pj_vU, pj_vU] [] M Q) : pj_G L d 152 659 [pj_vR 0, pj_vR 1, pj_vR 38, pj_vI x3] [pj_vI s1, pj_vI s0] M Q := by
  exact pj_G_if (t := 1116) rfl rfl (fun z => h1 (pj_ct_eq (pj_nrm_id r0.1 r0.2) (pj_nrm_id r1.1 r1.2) z)) (fun z => pj_G_loc (pj_lle_u rfl (pj_lle_u rfl (pj_lle_u rfl (pj_lle_u rfl pj_lle_nil)))) (h2 (pj_cf_eq (pj_nrm_id r0.1 r0.2) (pj_nrm_id r1.1 r1.2) z)))
set_option maxRecDepth 100000 in
theorem pj_C152_662 {L d : Nat} {Q : Option pj_V → pj_M → Prop} {M : pj_M}  (h : Q (some (pj_vI 0)) M) : pj_G L d 152 662 [pj_vU, pj_vU, pj_vU, pj_vU] [] M Q := by
  refine pj_G_s pj_np152 1 (show pj_gs 1 L 152 662 [pj_vU, pj_vU, pj_vU, pj_vU] [] M = some ([], 663, [pj_vU, pj_vU, pj_vU, pj_vU], [pj_vI 0], M) from rfl) trivial ?_
  exact pj_G_r rfl rfl rfl h
set_option maxRecDepth 100000 in
theorem pj_C152_618 {L d : Nat} {Q : Option pj_V → pj_M → Prop} {M : pj_M} {x3 : Int}  (h : pj_G L d 57 0 [pj_vR 1] [] M (fun r M1 => pj_G L (d + 1) 152 622 [pj_vR 0, pj_vR 1, pj_vR 38, pj_vI x3] (r.toList ++ []) M1 Q)) : pj_G L (d + 1) 152 618 [pj_vR 0, pj_vR 1, pj_vR 38, pj_vI x3] [] M Q := by
  refine pj_G_s (d := d + 1) pj_np152 1 (show pj_gs 1 L 152 618 [pj_vR 0, pj_vR 1, pj_vR 38, pj_vI x3] [] M = some ([], 619, [pj_vR 0, pj_vR 1, pj_vR 38, pj_vI x3], [pj_vR 1], M) from rfl) trivial ?_
  exact pj_G_k (j := 57) (vs := [pj_vR 1]) (st := []) rfl rfl rfl rfl rfl (Nat.le_of_ble_eq_true rfl) pj_nc57 h
set_option maxRecDepth 100000 in
theorem pj_C152_622 {L d : Nat} {Q : Option pj_V → pj_M → Prop} {M : pj_M} {x3 s0 : Int}  (h : pj_G L d 103 0 [pj_vR 38] [] M (fun r M1 => pj_G L (d + 1) 152 626 [pj_vR 0, pj_vR 1, pj_vR 38, pj_vI x3] (r.toList ++ [pj_vI s0]) M1 Q)) : pj_G L (d + 1) 152 622 [pj_vR 0, pj_vR 1, pj_vR 38, pj_vI x3] [pj_vI s0] M Q := by
  refine pj_G_s (d := d + 1) pj_np152 1 (show pj_gs 1 L 152 622 [pj_vR 0, pj_vR 1, pj_vR 38, pj_vI x3] [pj_vI s0] M = some ([], 623, [pj_vR 0, pj_vR 1, pj_vR 38, pj_vI x3], [pj_vR 38, pj_vI s0], M) from rfl) trivial ?_
  exact pj_G_k (j := 103) (vs := [pj_vR 38]) (st := [pj_vI s0]) rfl rfl rfl rfl rfl (Nat.le_of_ble_eq_true rfl) pj_nc103 h
set_option maxRecDepth 100000 in
theorem pj_C152_626 {L d : Nat} {Q : Option pj_V → pj_M → Prop} {M : pj_M} {x3 s0 s1 : Int} (r0 : -2147483648 ≤ s0 ∧ s0 < 2147483648) (r1 : -2147483648 ≤ s1 ∧ s1 < 2147483648) (h1 : s0 = s1 → pj_G L d 152 1116 [pj_vR 0, pj_vR 1, pj_vR 38, pj_vI x3] [] M Q) (h2 : s0 ≠ s1 → pj_G L d 152 629 [pj_vU, pj_vU, pj_vU, pj_vU] [] M Q) : pj_G L d 152 626 [pj_vR 0, pj_vR 1, pj_vR 38, pj_vI x3] [pj_vI s1, pj_vI s0] M Q := by
  exact pj_G_if (t := 1116) rfl rfl (fun z => h1 (pj_ct_eq (pj_nrm_id r0.1 r0.2) (pj_nrm_id r1.1 r1.2) z)) (fun z => pj_G_loc (pj_lle_u rfl (pj_lle_u rfl (pj_lle_u rfl (pj_lle_u rfl pj_lle_nil)))) (h2 (pj_cf_eq (pj_nrm_id r0.1 r0.2) (pj_nrm_id r1.1 r1.2) z)))
set_option maxRecDepth 100000 in
theorem pj_C152_629 {L d : Nat} {Q : Option pj_V → pj_M → Prop} {M : pj_M}  (h : Q (some (pj_vI 0)) M) : pj_G L d 152 629 [pj_vU, pj_vU, pj_vU, pj_vU] [] M Q := by
  refine pj_G_s pj_np152 1 (show pj_gs 1 L 152 629 [pj_vU, pj_vU, pj_vU, pj_vU] [] M = some ([], 630, [pj_vU, pj_vU, pj_vU, pj_vU], [pj_vI 0], M) from rfl) trivial ?_
  exact pj_G_r rfl rfl rfl h
set_option maxRecDepth 100000 in
theorem pj_C152_575 {L d : Nat} {Q : Option pj_V → pj_M → Prop} {M : pj_M} {x3 : Int} (j0 j1 j2 : Nat) (hL : L ≤ 2560) (ej0 : x3 + 1 = (j0 : Int)) (bj0 : j0 < L) (ej1 : x3 + 2 = (j1 : Int)) (bj1 : j1 < L) (ej2 : x3 + 3 = (j2 : Int)) (bj2 : j2 < L) (h : pj_G L d 56 0 [pj_vR 1, pj_vI (M 0 j0), pj_vI (M 0 j1), pj_vI (M 0 j2), pj_vU] [] M (fun r M1 => pj_G L (d + 1) 152 594 [pj_vR 0, pj_vR 1, pj_vR 38, pj_vI x3] (r.toList ++ []) M1 Q)) : pj_G L (d + 1) 152 575 [pj_vR 0, pj_vR 1, pj_vR 38, pj_vI x3] [] M Q := by
  have nj0 : pj_nrm (x3 + 1) = (j0 : Int) := pj_nk ej0 (by omega)
  have nj1 : pj_nrm (x3 + 2) = (j1 : Int) := pj_nk ej1 (by omega)
  have nj2 : pj_nrm (x3 + 3) = (j2 : Int) := pj_nk ej2 (by omega)
  refine pj_G_s (d := d + 1) pj_np152 16 (show pj_gs 16 L 152 575 [pj_vR 0, pj_vR 1, pj_vR 38, pj_vI x3] [] M = some ([0 ≤ pj_nrm (x3 + 1) ∧ pj_nrm (x3 + 1) < (L : Int), 0 ≤ pj_nrm (x3 + 2) ∧ pj_nrm (x3 + 2) < (L : Int), 0 ≤ pj_nrm (x3 + 3) ∧ pj_nrm (x3 + 3) < (L : Int)], 591, [pj_vR 0, pj_vR 1, pj_vR 38, pj_vI x3], [pj_vI (M 0 (pj_nrm (x3 + 3)).toNat), pj_vI (M 0 (pj_nrm (x3 + 2)).toNat), pj_vI (M 0 (pj_nrm (x3 + 1)).toNat), pj_vR 1], M) from rfl) ⟨by omega, by omega, by omega, trivial⟩ ?_
  simp only [nj0, nj1, nj2, Int.toNat_natCast]
  exact pj_G_k (j := 56) (vs := [pj_vR 1, pj_vI (M 0 j0), pj_vI (M 0 j1), pj_vI (M 0 j2)]) (st := []) rfl rfl rfl rfl rfl (Nat.le_of_ble_eq_true rfl) pj_nc56 h
set_option maxRecDepth 100000 in
theorem pj_C152_594 {L d : Nat} {Q : Option pj_V → pj_M → Prop} {M : pj_M} {x3 s0 : Int} (j0 j1 j2 : Nat) (hL : L ≤ 2560) (ej0 : x3 + 1 = (j0 : Int)) (bj0 : j0 < L) (ej1 : x3 + 2 = (j1 : Int)) (bj1 : j1 < L) (ej2 : x3 + 3 = (j2 : Int)) (bj2 : j2 < L) (h : pj_G L d 102 0 [pj_vR 38, pj_vI (M 0 j0), pj_vI (M 0 j1), pj_vI (M 0 j2)] [] M (fun r M1 => pj_G L (d + 1) 152 613 [pj_vR 0, pj_vR 1, pj_vR 38, pj_vI x3] (r.toList ++ [pj_vI s0]) M1 Q)) : pj_G L (d + 1) 152 594 [pj_vR 0, pj_vR 1, pj_vR 38, pj_vI x3] [pj_vI s0] M Q := by
  have nj0 : pj_nrm (x3 + 1) = (j0 : Int) := pj_nk ej0 (by omega)
  have nj1 : pj_nrm (x3 + 2) = (j1 : Int) := pj_nk ej1 (by omega)
  have nj2 : pj_nrm (x3 + 3) = (j2 : Int) := pj_nk ej2 (by omega)
  refine pj_G_s (d := d + 1) pj_np152 16 (show pj_gs 16 L 152 594 [pj_vR 0, pj_vR 1, pj_vR 38, pj_vI x3] [pj_vI s0] M = some ([0 ≤ pj_nrm (x3 + 1) ∧ pj_nrm (x3 + 1) < (L : Int), 0 ≤ pj_nrm (x3 + 2) ∧ pj_nrm (x3 + 2) < (L : Int), 0 ≤ pj_nrm (x3 + 3) ∧ pj_nrm (x3 + 3) < (L : Int)], 610, [pj_vR 0, pj_vR 1, pj_vR 38, pj_vI x3], [pj_vI (M 0 (pj_nrm (x3 + 3)).toNat), pj_vI (M 0 (pj_nrm (x3 + 2)).toNat), pj_vI (M 0 (pj_nrm (x3 + 1)).toNat), pj_vR 38, pj_vI s0], M) from rfl) ⟨by omega, by omega, by omega, trivial⟩ ?_
  simp only [nj0, nj1, nj2, Int.toNat_natCast]
  exact pj_G_k (j := 102) (vs := [pj_vR 38, pj_vI (M 0 j0), pj_vI (M 0 j1), pj_vI (M 0 j2)]) (st := [pj_vI s0]) rfl rfl rfl rfl rfl (Nat.le_of_ble_eq_true rfl) pj_nc102 h
set_option maxRecDepth 100000 in
theorem pj_C152_613 {L d : Nat} {Q : Option pj_V → pj_M → Prop} {M : pj_M} {x3 s0 s1 : Int} (r0 : -2147483648 ≤ s0 ∧ s0 < 2147483648) (r1 : -2147483648 ≤ s1 ∧ s1 < 2147483648) (h1 : s0 = s1 → pj_G L d 152 1116 [pj_vR 0, pj_vR 1, pj_vR 38, pj_vI x3] [] M Q) (h2 : s0 ≠ s1 → pj_G L d 152 616 [pj_vU, pj_vU, pj_vU, pj_vU] [] M Q) : pj_G L d 152 613 [pj_vR 0, pj_vR 1, pj_vR 38, pj_vI x3] [pj_vI s1, pj_vI s0] M Q := by
  exact pj_G_if (t := 1116) rfl rfl (fun z => h1 (pj_ct_eq (pj_nrm_id r0.1 r0.2) (pj_nrm_id r1.1 r1.2) z)) (fun z => pj_G_loc (pj_lle_u rfl (pj_lle_u rfl (pj_lle_u rfl (pj_lle_u rfl pj_lle_nil)))) (h2 (pj_cf_eq (pj_nrm_id r0.1 r0.2) (pj_nrm_id r1.1 r1.2) z)))
set_option maxRecDepth 100000 in
theorem pj_C152_616 {L d : Nat} {Q : Option pj_V → pj_M → Prop} {M : pj_M}  (h : Q (some (pj_vI 0)) M) : pj_G L d 152 616 [pj_vU, pj_vU, pj_vU, pj_vU] [] M Q := by
  refine pj_G_s pj_np152 1 (show pj_gs 1 L 152 616 [pj_vU, pj_vU, pj_vU, pj_vU] [] M = some ([], 617, [pj_vU, pj_vU, pj_vU, pj_vU], [pj_vI 0], M) from rfl) trivial ?_
  exact pj_G_r rfl rfl rfl h
set_option maxRecDepth 100000 in
theorem pj_C152_542 {L d : Nat} {Q : Option pj_V → pj_M → Prop} {M : pj_M} {x3 : Int} (j0 j1 : Nat) (hL : L ≤ 2560) (ej0 : x3 + 1 = (j0 : Int)) (bj0 : j0 < L) (ej1 : x3 + 2 = (j1 : Int)) (bj1 : j1 < L) (h : pj_G L d 55 0 [pj_vR 1, pj_vI (M 0 j0), pj_vI (M 0 j1)] [] M (fun r M1 => pj_G L (d + 1) 152 556 [pj_vR 0, pj_vR 1, pj_vR 38, pj_vI x3] (r.toList ++ []) M1 Q)) : pj_G L (d + 1) 152 542 [pj_vR 0, pj_vR 1, pj_vR 38, pj_vI x3] [] M Q := by
  have nj0 : pj_nrm (x3 + 1) = (j0 : Int) := pj_nk ej0 (by omega)
  have nj1 : pj_nrm (x3 + 2) = (j1 : Int) := pj_nk ej1 (by omega)
  refine pj_G_s (d := d + 1) pj_np152 11 (show pj_gs 11 L 152 542 [pj_vR 0, pj_vR 1, pj_vR 38, pj_vI x3] [] M = some ([0 ≤ pj_nrm (x3 + 1) ∧ pj_nrm (x3 + 1) < (L : Int), 0 ≤ pj_nrm (x3 + 2) ∧ pj_nrm (x3 + 2) < (L : Int)], 553, [pj_vR 0, pj_vR 1, pj_vR 38, pj_vI x3], [pj_vI (M 0 (pj_nrm (x3 + 2)).toNat), pj_vI (M 0 (pj_nrm (x3 + 1)).toNat), pj_vR 1], M) from rfl) ⟨by omega, by omega, trivial⟩ ?_
  simp only [nj0, nj1, Int.toNat_natCast]
  exact pj_G_k (j := 55) (vs := [pj_vR 1, pj_vI (M 0 j0), pj_vI (M 0 j1)]) (st := []) rfl rfl rfl rfl rfl (Nat.le_of_ble_eq_true rfl) pj_nc55 h
set_option maxRecDepth 100000 in
theorem pj_C152_556 {L d : Nat} {Q : Option pj_V → pj_M → Prop} {M : pj_M} {x3 s0 : Int} (j0 j1 : Nat) (hL : L ≤ 2560) (ej0 : x3 + 1 = (j0 : Int)) (bj0 : j0 < L) (ej1 : x3 + 2 = (j1 : Int)) (bj1 : j1 < L) (h : pj_G L d 100 0 [pj_vR 38, pj_vI (M 0 j0), pj_vI (M 0 j1)] [] M (fun r M1 => pj_G L (d + 1) 152 570 [pj_vR 0, pj_vR 1, pj_vR 38, pj_vI x3] (r.toList ++ [pj_vI s0]) M1 Q)) : pj_G L (d + 1) 152 556 [pj_vR 0, pj_vR 1, pj_vR 38, pj_vI x3] [pj_vI s0] M Q := by
  have nj0 : pj_nrm (x3 + 1) = (j0 : Int) := pj_nk ej0 (by omega)
  have nj1 : pj_nrm (x3 + 2) = (j1 : Int) := pj_nk ej1 (by omega)
  refine pj_G_s (d := d + 1) pj_np152 11 (show pj_gs 11 L 152 556 [pj_vR 0, pj_vR 1, pj_vR 38, pj_vI x3] [pj_vI s0] M = some ([0 ≤ pj_nrm (x3 + 1) ∧ pj_nrm (x3 + 1) < (L : Int), 0 ≤ pj_nrm (x3 + 2) ∧ pj_nrm (x3 + 2) < (L : Int)], 567, [pj_vR 0, pj_vR 1, pj_vR 38, pj_vI x3], [pj_vI (M 0 (pj_nrm (x3 + 2)).toNat), pj_vI (M 0 (pj_nrm (x3 + 1)).toNat), pj_vR 38, pj_vI s0], M) from rfl) ⟨by omega, by omega, trivial⟩ ?_
  simp only [nj0, nj1, Int.toNat_natCast]
  exact pj_G_k (j := 100) (vs := [pj_vR 38, pj_vI (M 0 j0), pj_vI (M 0 j1)]) (st := [pj_vI s0]) rfl rfl rfl rfl rfl (Nat.le_of_ble_eq_true rfl) pj_nc100 h
set_option maxRecDepth 100000 in
theorem pj_C152_570 {L d : Nat} {Q : Option pj_V → pj_M → Prop} {M : pj_M} {x3 s0 s1 : Int} (r0 : -2147483648 ≤ s0 ∧ s0 < 2147483648) (r1 : -2147483648 ≤ s1 ∧ s1 < 2147483648) (h1 : s0 = s1 → pj_G L d 152 1116 [pj_vR 0, pj_vR 1, pj_vR 38, pj_vI x3] [] M Q) (h2 : s0 ≠ s1 → pj_G L d 152 573 [pj_vU, pj_vU, pj_vU, pj_vU] [] M Q) : pj_G L d 152 570 [pj_vR 0, pj_vR 1, pj_vR 38, pj_vI x3] [pj_vI s1, pj_vI s0] M Q := by
  exact pj_G_if (t := 1116) rfl rfl (fun z => h1 (pj_ct_eq (pj_nrm_id r0.1 r0.2) (pj_nrm_id r1.1 r1.2) z)) (fun z => pj_G_loc (pj_lle_u rfl (pj_lle_u rfl (pj_lle_u rfl (pj_lle_u rfl pj_lle_nil)))) (h2 (pj_cf_eq (pj_nrm_id r0.1 r0.2) (pj_nrm_id r1.1 r1.2) z)))
set_option maxRecDepth 100000 in
theorem pj_C152_573 {L d : Nat} {Q : Option pj_V → pj_M → Prop} {M : pj_M}  (h : Q (some (pj_vI 0)) M) : pj_G L d 152 573 [pj_vU, pj_vU, pj_vU, pj_vU] [] M Q := by
  refine pj_G_s pj_np152 1 (show pj_gs 1 L 152 573 [pj_vU, pj_vU, pj_vU, pj_vU] [] M = some ([], 574, [pj_vU, pj_vU, pj_vU, pj_vU], [pj_vI 0], M) from rfl) trivial ?_
  exact pj_G_r rfl rfl rfl h
set_option maxRecDepth 100000 in
theorem pj_C152_509 {L d : Nat} {Q : Option pj_V → pj_M → Prop} {M : pj_M} {x3 : Int} (j0 j1 : Nat) (hL : L ≤ 2560) (ej0 : x3 + 1 = (j0 : Int)) (bj0 : j0 < L) (ej1 : x3 + 2 = (j1 : Int)) (bj1 : j1 < L) (h : pj_G L d 54 0 [pj_vR 1, pj_vI (M 0 j0), pj_vI (M 0 j1)] [] M (fun r M1 => pj_G L (d + 1) 152 523 [pj_vR 0, pj_vR 1, pj_vR 38, pj_vI x3] (r.toList ++ []) M1 Q)) : pj_G L (d + 1) 152 509 [pj_vR 0, pj_vR 1, pj_vR 38, pj_vI x3] [] M Q := by
  have nj0 : pj_nrm (x3 + 1) = (j0 : Int) := pj_nk ej0 (by omega)
  have nj1 : pj_nrm (x3 + 2) = (j1 : Int) := pj_nk ej1 (by omega)
  refine pj_G_s (d := d + 1) pj_np152 11 (show pj_gs 11 L 152 509 [pj_vR 0, pj_vR 1, pj_vR 38, pj_vI x3] [] M = some ([0 ≤ pj_nrm (x3 + 1) ∧ pj_nrm (x3 + 1) < (L : Int), 0 ≤ pj_nrm (x3 + 2) ∧ pj_nrm (x3 + 2) < (L : Int)], 520, [pj_vR 0, pj_vR 1, pj_vR 38, pj_vI x3], [pj_vI (M 0 (pj_nrm (x3 + 2)).toNat), pj_vI (M 0 (pj_nrm (x3 + 1)).toNat), pj_vR 1], M) from rfl) ⟨by omega, by omega, trivial⟩ ?_
  simp only [nj0, nj1, Int.toNat_natCast]
  exact pj_G_k (j := 54) (vs := [pj_vR 1, pj_vI (M 0 j0), pj_vI (M 0 j1)]) (st := []) rfl rfl rfl rfl rfl (Nat.le_of_ble_eq_true rfl) pj_nc54 h
set_option maxRecDepth 100000 in
theorem pj_C152_523 {L d : Nat} {Q : Option pj_V → pj_M → Prop} {M : pj_M} {x3 s0 : Int} (j0 j1 : Nat) (hL : L ≤ 2560) (ej0 : x3 + 1 = (j0 : Int)) (bj0 : j0 < L) (ej1 : x3 + 2 = (j1 : Int)) (bj1 : j1 < L) (h : pj_G L d 99 0 [pj_vR 38, pj_vI (M 0 j0), pj_vI (M 0 j1)] [] M (fun r M1 => pj_G L (d + 1) 152 537 [pj_vR 0, pj_vR 1, pj_vR 38, pj_vI x3] (r.toList ++ [pj_vI s0]) M1 Q)) : pj_G L (d + 1) 152 523 [pj_vR 0, pj_vR 1, pj_vR 38, pj_vI x3] [pj_vI s0] M Q := by
  have nj0 : pj_nrm (x3 + 1) = (j0 : Int) := pj_nk ej0 (by omega)
  have nj1 : pj_nrm (x3 + 2) = (j1 : Int) := pj_nk ej1 (by omega)
  refine pj_G_s (d := d + 1) pj_np152 11 (show pj_gs 11 L 152 523 [pj_vR 0, pj_vR 1, pj_vR 38, pj_vI x3] [pj_vI s0] M = some ([0 ≤ pj_nrm (x3 + 1) ∧ pj_nrm (x3 + 1) < (L : Int), 0 ≤ pj_nrm (x3 + 2) ∧ pj_nrm (x3 + 2) < (L : Int)], 534, [pj_vR 0, pj_vR 1, pj_vR 38, pj_vI x3], [pj_vI (M 0 (pj_nrm (x3 + 2)).toNat), pj_vI (M 0 (pj_nrm (x3 + 1)).toNat), pj_vR 38, pj_vI s0], M) from rfl) ⟨by omega, by omega, trivial⟩ ?_
  simp only [nj0, nj1, Int.toNat_natCast]
  exact pj_G_k (j := 99) (vs := [pj_vR 38, pj_vI (M 0 j0), pj_vI (M 0 j1)]) (st := [pj_vI s0]) rfl rfl rfl rfl rfl (Nat.le_of_ble_eq_true rfl) pj_nc99 h
set_option maxRecDepth 100000 in
theorem pj_C152_537 {L d : Nat} {Q : Option pj_V → pj_M → Prop} {M : pj_M} {x3 s0 s1 : Int} (r0 : -2147483648 ≤ s0 ∧ s0 < 2147483648) (r1 : -2147483648 ≤ s1 ∧ s1 < 2147483648) (h1 : s0 = s1 → pj_G L d 152 1116 [pj_vR 0, pj_vR 1, pj_vR 38, pj_vI x3] [] M Q) (h2 : s0 ≠ s1 → pj_G L d 152 540 [pj_vU, pj_vU, pj_vU, pj_vU] [] M Q) : pj_G L d 152 537 [pj_vR 0, pj_vR 1, pj_vR 38, pj_vI x3] [pj_vI s1, pj_vI s0] M Q := by
  exact pj_G_if (t := 1116) rfl rfl (fun z => h1 (pj_ct_eq (pj_nrm_id r0.1 r0.2) (pj_nrm_id r1.1 r1.2) z)) (fun z => pj_G_loc (pj_lle_u rfl (pj_lle_u rfl (pj_lle_u rfl (pj_lle_u rfl pj_lle_nil)))) (h2 (pj_cf_eq (pj_nrm_id r0.1 r0.2) (pj_nrm_id r1.1 r1.2) z)))
set_option maxRecDepth 100000 in
theorem pj_C152_540 {L d : Nat} {Q : Option pj_V → pj_M → Prop} {M : pj_M}  (h : Q (some (pj_vI 0)) M) : pj_G L d 152 540 [pj_vU, pj_vU, pj_vU, pj_vU] [] M Q := by
  refine pj_G_s pj_np152 1 (show pj_gs 1 L 152 540 [pj_vU, pj_vU, pj_vU, pj_vU] [] M = some ([], 541, [pj_vU, pj_vU, pj_vU, pj_vU], [pj_vI 0], M) from rfl) trivial ?_
  exact pj_G_r rfl rfl rfl h
set_option maxRecDepth 100000 in
theorem pj_C152_460 {L d : Nat} {Q : Option pj_V → pj_M → Prop} {M : pj_M} {x3 : Int} (j0 j1 : Nat) (hL : L ≤ 2560) (ej0 : x3 + 1 = (j0 : Int)) (bj0 : j0 < L) (ej1 : x3 + 2 = (j1 : Int)) (bj1 : j1 < L) (r0 : -2147483648 ≤ M 0 j1 ∧ M 0 j1 < 2147483648) (h1 : M 0 j1 = 0 → pj_G L d 152 478 [pj_vR 0, pj_vR 1, pj_vR 38, pj_vI x3] [pj_vI (M 0 j0), pj_vR 1] M Q) (h2 : M 0 j1 ≠ 0 → pj_G L d 152 474 [pj_vR 0, pj_vR 1, pj_vR 38, pj_vI x3] [pj_vI (M 0 j0), pj_vR 1] M Q) : pj_G L d 152 460 [pj_vR 0, pj_vR 1, pj_vR 38, pj_vI x3] [] M Q := by
  have nj0 : pj_nrm (x3 + 1) = (j0 : Int) := pj_nk ej0 (by omega)
  have nj1 : pj_nrm (x3 + 2) = (j1 : Int) := pj_nk ej1 (by omega)
  refine pj_G_s pj_np152 11 (show pj_gs 11 L 152 460 [pj_vR 0, pj_vR 1, pj_vR 38, pj_vI x3] [] M = some ([0 ≤ pj_nrm (x3 + 1) ∧ pj_nrm (x3 + 1) < (L : Int), 0 ≤ pj_nrm (x3 + 2) ∧ pj_nrm (x3 + 2) < (L : Int)], 471, [pj_vR 0, pj_vR 1, pj_vR 38, pj_vI x3], [pj_vI (M 0 (pj_nrm (x3 + 2)).toNat), pj_vI (M 0 (pj_nrm (x3 + 1)).toNat), pj_vR 1], M) from rfl) ⟨by omega, by omega, trivial⟩ ?_
  simp only [nj0, nj1, Int.toNat_natCast]
  exact pj_G_if0 (t := 478) rfl rfl (fun z => h1 (pj_ct_eq (pj_nrm_id r0.1 r0.2) rfl z)) (fun z => h2 (pj_cf_eq (pj_nrm_id r0.1 r0.2) rfl z))
set_option maxRecDepth 100000 in
theorem pj_C152_474 {L d : Nat} {Q : Option pj_V → pj_M → Prop} {M : pj_M} {x3 s1 : Int}  (h : pj_G L d 152 479 [pj_vR 0, pj_vR 1, pj_vR 38, pj_vI x3] [pj_vI 1, pj_vI s1, pj_vR 1] M Q) : pj_G L d 152 474 [pj_vR 0, pj_vR 1, pj_vR 38, pj_vI x3] [pj_vI s1, pj_vR 1] M Q := by
  refine pj_G_s pj_np152 2 (show pj_gs 2 L 152 474 [pj_vR 0, pj_vR 1, pj_vR 38, pj_vI x3] [pj_vI s1, pj_vR 1] M = some ([], 479, [pj_vR 0, pj_vR 1, pj_vR 38, pj_vI x3], [pj_vI 1, pj_vI s1, pj_vR 1], M) from rfl) trivial ?_
  exact h
set_option maxRecDepth 100000 in
theorem pj_C152_479 {L d : Nat} {Q : Option pj_V → pj_M → Prop} {M : pj_M} {x3 s1 s2 : Int}  (h : pj_G L d 53 0 [pj_vR 1, pj_vI s1, pj_vI s2, pj_vU, pj_vU] [] M (fun r M1 => pj_G L (d + 1) 152 482 [pj_vR 0, pj_vR 1, pj_vR 38, pj_vI x3] (r.toList ++ []) M1 Q)) : pj_G L (d + 1) 152 479 [pj_vR 0, pj_vR 1, pj_vR 38, pj_vI x3] [pj_vI s2, pj_vI s1, pj_vR 1] M Q := by
  exact pj_G_k (j := 53) (vs := [pj_vR 1, pj_vI s1, pj_vI s2]) (st := []) rfl rfl rfl rfl rfl (Nat.le_of_ble_eq_true rfl) pj_nc53 h
set_option maxRecDepth 100000 in
theorem pj_C152_482 {L d : Nat} {Q : Option pj_V → pj_M → Prop} {M : pj_M} {x3 s0 : Int} (j0 j1 : Nat) (hL : L ≤ 2560) (ej0 : x3 + 1 = (j0 : Int)) (bj0 : j0 < L) (ej1 : x3 + 2 = (j1 : Int)) (bj1 : j1 < L) (r0 : -2147483648 ≤ M 0 j1 ∧ M 0 j1 < 2147483648) (h1 : M 0 j1 = 0 → pj_G L d 152 500 [pj_vR 0, pj_vR 1, pj_vR 38, pj_vI x3] [pj_vI (M 0 j0), pj_vR 38, pj_vI s0] M Q) (h2 : M 0 j1 ≠ 0 → pj_G L d 152 496 [pj_vR 0, pj_vR 1, pj_vR 38, pj_vI x3] [pj_vI (M 0 j0), pj_vR 38, pj_vI s0] M Q) : pj_G L d 152 482 [pj_vR 0, pj_vR 1, pj_vR 38, pj_vI x3] [pj_vI s0] M Q := by
  have nj0 : pj_nrm (x3 + 1) = (j0 : Int) := pj_nk ej0 (by omega)
  have nj1 : pj_nrm (x3 + 2) = (j1 : Int) := pj_nk ej1 (by omega)
  refine pj_G_s pj_np152 11 (show pj_gs 11 L 152 482 [pj_vR 0, pj_vR 1, pj_vR 38, pj_vI x3] [pj_vI s0] M = some ([0 ≤ pj_nrm (x3 + 1) ∧ pj_nrm (x3 + 1) < (L : Int), 0 ≤ pj_nrm (x3 + 2) ∧ pj_nrm (x3 + 2) < (L : Int)], 493, [pj_vR 0, pj_vR 1, pj_vR 38, pj_vI x3], [pj_vI (M 0 (pj_nrm (x3 + 2)).toNat), pj_vI (M 0 (pj_nrm (x3 + 1)).toNat), pj_vR 38, pj_vI s0], M) from rfl) ⟨by omega, by omega, trivial⟩ ?_
  simp only [nj0, nj1, Int.toNat_natCast]
  exact pj_G_if0 (t := 500) rfl rfl (fun z => h1 (pj_ct_eq (pj_nrm_id r0.1 r0.2) rfl z)) (fun z => h2 (pj_cf_eq (pj_nrm_id r0.1 r0.2) rfl z))
set_option maxRecDepth 100000 in
theorem pj_C152_496 {L d : Nat} {Q : Option pj_V → pj_M → Prop} {M : pj_M} {x3 s0 s2 : Int}  (h : pj_G L d 152 501 [pj_vR 0, pj_vR 1, pj_vR 38, pj_vI x3] [pj_vI 1, pj_vI s2, pj_vR 38, pj_vI s0] M Q) : pj_G L d 152 496 [pj_vR 0, pj_vR 1, pj_vR 38, pj_vI x3] [pj_vI s2, pj_vR 38, pj_vI s0] M Q := by
  refine pj_G_s pj_np152 2 (show pj_gs 2 L 152 496 [pj_vR 0, pj_vR 1, pj_vR 38, pj_vI x3] [pj_vI s2, pj_vR 38, pj_vI s0] M = some ([], 501, [pj_vR 0, pj_vR 1, pj_vR 38, pj_vI x3], [pj_vI 1, pj_vI s2, pj_vR 38, pj_vI s0], M) from rfl) trivial ?_
  exact h
set_option maxRecDepth 100000 in
theorem pj_C152_501 {L d : Nat} {Q : Option pj_V → pj_M → Prop} {M : pj_M} {x3 s0 s2 s3 : Int}  (h : pj_G L d 98 0 [pj_vR 38, pj_vI s2, pj_vI s3, pj_vU] [] M (fun r M1 => pj_G L (d + 1) 152 504 [pj_vR 0, pj_vR 1, pj_vR 38, pj_vI x3] (r.toList ++ [pj_vI s0]) M1 Q)) : pj_G L (d + 1) 152 501 [pj_vR 0, pj_vR 1, pj_vR 38, pj_vI x3] [pj_vI s3, pj_vI s2, pj_vR 38, pj_vI s0] M Q := by
  exact pj_G_k (j := 98) (vs := [pj_vR 38, pj_vI s2, pj_vI s3]) (st := [pj_vI s0]) rfl rfl rfl rfl rfl (Nat.le_of_ble_eq_true rfl) pj_nc98 h
set_option maxRecDepth 100000 in
theorem pj_C152_504 {L d : Nat} {Q : Option pj_V → pj_M → Prop} {M : pj_M} {x3 s0 s1 : Int} (r0 : -2147483648 ≤ s0 ∧ s0 < 2147483648) (r1 : -2147483648 ≤ s1 ∧ s1 < 2147483648) (h1 : s0 = s1 → pj_G L d 152 1116 [pj_vR 0, pj_vR 1, pj_vR 38, pj_vI x3] [] M Q) (h2 : s0 ≠ s1 → pj_G L d 152 507 [pj_vU, pj_vU, pj_vU, pj_vU] [] M Q) : pj_G L d 152 504 [pj_vR 0, pj_vR 1, pj_vR 38, pj_vI x3] [pj_vI s1, pj_vI s0] M Q := by
  exact pj_G_if (t := 1116) rfl rfl (fun z => h1 (pj_ct_eq (pj_nrm_id r0.1 r0.2) (pj_nrm_id r1.1 r1.2) z)) (fun z => pj_G_loc (pj_lle_u rfl (pj_lle_u rfl (pj_lle_u rfl (pj_lle_u rfl pj_lle_nil)))) (h2 (pj_cf_eq (pj_nrm_id r0.1 r0.2) (pj_nrm_id r1.1 r1.2) z)))
set_option maxRecDepth 100000 in
theorem pj_C152_507 {L d : Nat} {Q : Option pj_V → pj_M → Prop} {M : pj_M}  (h : Q (some (pj_vI 0)) M) : pj_G L d 152 507 [pj_vU, pj_vU, pj_vU, pj_vU] [] M Q := by
  refine pj_G_s pj_np152 1 (show pj_gs 1 L 152 507 [pj_vU, pj_vU, pj_vU, pj_vU] [] M = some ([], 508, [pj_vU, pj_vU, pj_vU, pj_vU], [pj_vI 0], M) from rfl) trivial ?_
  exact pj_G_r rfl rfl rfl h
set_option maxRecDepth 100000 in
theorem pj_C152_500 {L d : Nat} {Q : Option pj_V → pj_M → Prop} {M : pj_M} {x3 s0 s2 : Int}  (h : pj_G L d 152 501 [pj_vR 0, pj_vR 1, pj_vR 38, pj_vI x3] [pj_vI 0, pj_vI s2, pj_vR 38, pj_vI s0] M Q) : pj_G L d 152 500 [pj_vR 0, pj_vR 1, pj_vR 38, pj_vI x3] [pj_vI s2, pj_vR 38, pj_vI s0] M Q := by
  refine pj_G_s pj_np152 1 (show pj_gs 1 L 152 500 [pj_vR 0, pj_vR 1, pj_vR 38, pj_vI x3] [pj_vI s2, pj_vR 38, pj_vI s0] M = some ([], 501, [pj_vR 0, pj_vR 1, pj_vR 38, pj_vI x3], [pj_vI 0, pj_vI s2, pj_vR 38, pj_vI s0], M) from rfl) trivial ?_
  exact h
set_option maxRecDepth 100000 in
theorem pj_C152_478 {L d : Nat} {Q : Option pj_V → pj_M → Prop} {M : pj_M} {x3 s1 : Int}  (h : pj_G L d 152 479 [pj_vR 0, pj_vR 1, pj_vR 38, pj_vI x3] [pj_vI 0, pj_vI s1, pj_vR 1] M Q) : pj_G L d 152 478 [pj_vR 0, pj_vR 1, pj_vR 38, pj_vI x3] [pj_vI s1, pj_vR 1] M Q := by
  refine pj_G_s pj_np152 1 (show pj_gs 1 L 152 478 [pj_vR 0, pj_vR 1, pj_vR 38, pj_vI x3] [pj_vI s1, pj_vR 1] M = some ([], 479, [pj_vR 0, pj_vR 1, pj_vR 38, pj_vI x3], [pj_vI 0, pj_vI s1, pj_vR 1], M) from rfl) trivial ?_
  exact h
set_option maxRecDepth 100000 in
theorem pj_C152_417 {L d : Nat} {Q : Option pj_V → pj_M → Prop} {M : pj_M} {x3 : Int} (j0 j1 j2 : Nat) (hL : L ≤ 2560) (ej0 : x3 + 1 = (j0 : Int)) (bj0 : j0 < L) (ej1 : x3 + 2 = (j1 : Int)) (bj1 : j1 < L) (ej2 : x3 + 3 = (j2 : Int)) (bj2 : j2 < L) (h : pj_G L d 52 0 [pj_vR 1, pj_vI (M 0 j0), pj_vI (M 0 j1), pj_vI (M 0 j2), pj_vU, pj_vU] [] M (fun r M1 => pj_G L (d + 1) 152 436 [pj_vR 0, pj_vR 1, pj_vR 38, pj_vI x3] (r.toList ++ []) M1 Q)) : pj_G L (d + 1) 152 417 [pj_vR 0, pj_vR 1, pj_vR 38, pj_vI x3] [] M Q := by
  have nj0 : pj_nrm (x3 + 1) = (j0 : Int) := pj_nk ej0 (by omega)
  have nj1 : pj_nrm (x3 + 2) = (j1 : Int) := pj_nk ej1 (by omega)
  have nj2 : pj_nrm (x3 + 3) = (j2 : Int) := pj_nk ej2 (by omega)
  refine pj_G_s (d := d + 1) pj_np152 16 (show pj_gs 16 L 152 417 [pj_vR 0, pj_vR 1, pj_vR 38, pj_vI x3] [] M = some ([0 ≤ pj_nrm (x3 + 1) ∧ pj_nrm (x3 + 1) < (L : Int), 0 ≤ pj_nrm (x3 + 2) ∧ pj_nrm (x3 + 2) < (L : Int), 0 ≤ pj_nrm (x3 + 3) ∧ pj_nrm (x3 + 3) < (L : Int)], 433, [pj_vR 0, pj_vR 1, pj_vR 38, pj_vI x3], [pj_vI (M 0 (pj_nrm (x3 + 3)).toNat), pj_vI (M 0 (pj_nrm (x3 + 2)).toNat), pj_vI (M 0 (pj_nrm (x3 + 1)).toNat), pj_vR 1], M) from rfl) ⟨by omega, by omega, by omega, trivial⟩ ?_
  simp only [nj0, nj1, nj2, Int.toNat_natCast]
  exact pj_G_k (j := 52) (vs := [pj_vR 1, pj_vI (M 0 j0), pj_vI (M 0 j1), pj_vI (M 0 j2)]) (st := []) rfl rfl rfl rfl rfl (Nat.le_of_ble_eq_true rfl) pj_nc52 h
set_option maxRecDepth 100000 in
theorem pj_C152_436 {L d : Nat} {Q : Option pj_V → pj_M → Prop} {M : pj_M} {x3 s0 : Int} (j0 j1 j2 : Nat) (hL : L ≤ 2560) (ej0 : x3 + 1 = (j0 : Int)) (bj0 : j0 < L) (ej1 : x3 + 2 = (j1 : Int)) (bj1 : j1 < L) (ej2 : x3 + 3 = (j2 : Int)) (bj2 : j2 < L) (h : pj_G L d 97 0 [pj_vR 38, pj_vI (M 0 j0), pj_vI (M 0 j1), pj_vI (M 0 j2), pj_vU] [] M (fun r M1 => pj_G L (d + 1) 152 455 [pj_vR 0, pj_vR 1, pj_vR 38, pj_vI x3] (r.toList ++ [pj_vI s0]) M1 Q)) : pj_G L (d + 1) 152 436 [pj_vR 0, pj_vR 1, pj_vR 38, pj_vI x3] [pj_vI s0] M Q := by
  have nj0 : pj_nrm (x3 + 1) = (j0 : Int) := pj_nk ej0 (by omega)
  have nj1 : pj_nrm (x3 + 2) = (j1 : Int) := pj_nk ej1 (by omega)
  have nj2 : pj_nrm (x3 + 3) = (j2 : Int) := pj_nk ej2 (by omega)
  refine pj_G_s (d := d + 1) pj_np152 16 (show pj_gs 16 L 152 436 [pj_vR 0, pj_vR 1, pj_vR 38, pj_vI x3] [pj_vI s0] M = some ([0 ≤ pj_nrm (x3 + 1) ∧ pj_nrm (x3 + 1) < (L : Int), 0 ≤ pj_nrm (x3 + 2) ∧ pj_nrm (x3 + 2) < (L : Int), 0 ≤ pj_nrm (x3 + 3) ∧ pj_nrm (x3 + 3) < (L : Int)], 452, [pj_vR 0, pj_vR 1, pj_vR 38, pj_vI x3], [pj_vI (M 0 (pj_nrm (x3 + 3)).toNat), pj_vI (M 0 (pj_nrm (x3 + 2)).toNat), pj_vI (M 0 (pj_nrm (x3 + 1)).toNat), pj_vR 38, pj_vI s0], M) from rfl) ⟨by omega, by omega, by omega, trivial⟩ ?_
  simp only [nj0, nj1, nj2, Int.toNat_natCast]
  exact pj_G_k (j := 97) (vs := [pj_vR 38, pj_vI (M 0 j0), pj_vI (M 0 j1), pj_vI (M 0 j2)]) (st := [pj_vI s0]) rfl rfl rfl rfl rfl (Nat.le_of_ble_eq_true rfl) pj_nc97 h
set_option maxRecDepth 100000 in
theorem pj_C152_455 {L d : Nat} {Q : Option pj_V → pj_M → Prop} {M : pj_M} {x3 s0 s1 : Int} (r0 : -2147483648 ≤ s0 ∧ s0 < 2147483648) (r1 : -2147483648 ≤ s1 ∧ s1 < 2147483648) (h1 : s0 = s1 → pj_G L d 152 1116 [pj_vR 0, pj_vR 1, pj_vR 38, pj_vI x3] [] M Q) (h2 : s0 ≠ s1 → pj_G L d 152 458 [pj_vU, pj_vU, pj_vU, pj_vU] [] M Q) : pj_G L d 152 455 [pj_vR 0, pj_vR 1, pj_vR 38, pj_vI x3] [pj_vI s1, pj_vI s0] M Q := by
  exact pj_G_if (t := 1116) rfl rfl (fun z => h1 (pj_ct_eq (pj_nrm_id r0.1 r0.2) (pj_nrm_id r1.1 r1.2) z)) (fun z => pj_G_loc (pj_lle_u rfl (pj_lle_u rfl (pj_lle_u rfl (pj_lle_u rfl pj_lle_nil)))) (h2 (pj_cf_eq (pj_nrm_id r0.1 r0.2) (pj_nrm_id r1.1 r1.2) z)))
set_option maxRecDepth 100000 in
theorem pj_C152_458 {L d : Nat} {Q : Option pj_V → pj_M → Prop} {M : pj_M}  (h : Q (some (pj_vI 0)) M) : pj_G L d 152 458 [pj_vU, pj_vU, pj_vU, pj_vU] [] M Q := by
  refine pj_G_s pj_np152 1 (show pj_gs 1 L 152 458 [pj_vU, pj_vU, pj_vU, pj_vU] [] M = some ([], 459, [pj_vU, pj_vU, pj_vU, pj_vU], [pj_vI 0], M) from rfl) trivial ?_
  exact pj_G_r rfl rfl rfl h
set_option maxRecDepth 100000 in
theorem pj_C152_394 {L d : Nat} {Q : Option pj_V → pj_M → Prop} {M : pj_M} {x3 : Int} (j0 : Nat) (hL : L ≤ 2560) (ej0 : x3 + 1 = (j0 : Int)) (bj0 : j0 < L) (h : pj_G L d 51 0 [pj_vR 1, pj_vI (M 0 j0), pj_vU] [] M (fun r M1 => pj_G L (d + 1) 152 403 [pj_vR 0, pj_vR 1, pj_vR 38, pj_vI x3] (r.toList ++ []) M1 Q)) : pj_G L (d + 1) 152 394 [pj_vR 0, pj_vR 1, pj_vR 38, pj_vI x3] [] M Q := by
  have nj0 : pj_nrm (x3 + 1) = (j0 : Int) := pj_nk ej0 (by omega)
  refine pj_G_s (d := d + 1) pj_np152 6 (show pj_gs 6 L 152 394 [pj_vR 0, pj_vR 1, pj_vR 38, pj_vI x3] [] M = some ([0 ≤ pj_nrm (x3 + 1) ∧ pj_nrm (x3 + 1) < (L : Int)], 400, [pj_vR 0, pj_vR 1, pj_vR 38, pj_vI x3], [pj_vI (M 0 (pj_nrm (x3 + 1)).toNat), pj_vR 1], M) from rfl) ⟨by omega, trivial⟩ ?_
  simp only [nj0, Int.toNat_natCast]
  exact pj_G_k (j := 51) (vs := [pj_vR 1, pj_vI (M 0 j0)]) (st := []) rfl rfl rfl rfl rfl (Nat.le_of_ble_eq_true rfl) pj_nc51 h
set_option maxRecDepth 100000 in
theorem pj_C152_403 {L d : Nat} {Q : Option pj_V → pj_M → Prop} {M : pj_M} {x3 s0 : Int} (j0 : Nat) (hL : L ≤ 2560) (ej0 : x3 + 1 = (j0 : Int)) (bj0 : j0 < L) (h : pj_G L d 96 0 [pj_vR 38, pj_vI (M 0 j0), pj_vU, pj_vU, pj_vU] [] M (fun r M1 => pj_G L (d + 1) 152 412 [pj_vR 0, pj_vR 1, pj_vR 38, pj_vI x3] (r.toList ++ [pj_vI s0]) M1 Q)) : pj_G L (d + 1) 152 403 [pj_vR 0, pj_vR 1, pj_vR 38, pj_vI x3] [pj_vI s0] M Q := by
  have nj0 : pj_nrm (x3 + 1) = (j0 : Int) := pj_nk ej0 (by omega)
  refine pj_G_s (d := d + 1) pj_np152 6 (show pj_gs 6 L 152 403 [pj_vR 0, pj_vR 1, pj_vR 38, pj_vI x3] [pj_vI s0] M = some ([0 ≤ pj_nrm (x3 + 1) ∧ pj_nrm (x3 + 1) < (L : Int)], 409, [pj_vR 0, pj_vR 1, pj_vR 38, pj_vI x3], [pj_vI (M 0 (pj_nrm (x3 + 1)).toNat), pj_vR 38, pj_vI s0], M) from rfl) ⟨by omega, trivial⟩ ?_
  simp only [nj0, Int.toNat_natCast]
  exact pj_G_k (j := 96) (vs := [pj_vR 38, pj_vI (M 0 j0)]) (st := [pj_vI s0]) rfl rfl rfl rfl rfl (Nat.le_of_ble_eq_true rfl) pj_nc96 h
set_option maxRecDepth 100000 in
theorem pj_C152_412 {L d : Nat} {Q : Option pj_V → pj_M → Prop} {M : pj_M} {x3 s0 s1 : Int} (r0 : -2147483648 ≤ s0 ∧ s0 < 2147483648) (r1 : -2147483648 ≤ s1 ∧ s1 < 2147483648) (h1 : s0 = s1 → pj_G L d 152 1116 [pj_vR 0, pj_vR 1, pj_vR 38, pj_vI x3] [] M Q) (h2 : s0 ≠ s1 → pj_G L d 152 415 [pj_vU, pj_vU, pj_vU, pj_vU] [] M Q) : pj_G L d 152 412 [pj_vR 0, pj_vR 1, pj_vR 38, pj_vI x3] [pj_vI s1, pj_vI s0] M Q := by
  exact pj_G_if (t := 1116) rfl rfl (fun z => h1 (pj_ct_eq (pj_nrm_id r0.1 r0.2) (pj_nrm_id r1.1 r1.2) z)) (fun z => pj_G_loc (pj_lle_u rfl (pj_lle_u rfl (pj_lle_u rfl (pj_lle_u rfl pj_lle_nil)))) (h2 (pj_cf_eq (pj_nrm_id r0.1 r0.2) (pj_nrm_id r1.1 r1.2) z)))
set_option maxRecDepth 100000 in
theorem pj_C152_415 {L d : Nat} {Q : Option pj_V → pj_M → Prop} {M : pj_M}  (h : Q (some (pj_vI 0)) M) : pj_G L d 152 415 [pj_vU, pj_vU, pj_vU, pj_vU] [] M Q := by
  refine pj_G_s pj_np152 1 (show pj_gs 1 L 152 415 [pj_vU, pj_vU, pj_vU, pj_vU] [] M = some ([], 416, [pj_vU, pj_vU, pj_vU, pj_vU], [pj_vI 0], M) from rfl) trivial ?_
  exact pj_G_r rfl rfl rfl h
set_option maxRecDepth 100000 in
theorem pj_C152_361 {L d : Nat} {Q : Option pj_V → pj_M → Prop} {M : pj_M} {x3 : Int} (j0 j1 : Nat) (hL : L ≤ 2560) (ej0 : x3 + 1 = (j0 : Int)) (bj0 : j0 < L) (ej1 : x3 + 2 = (j1 : Int)) (bj1 : j1 < L) (h : pj_G L d 50 0 [pj_vR 1, pj_vI (M 0 j0), pj_vI (M 0 j1), pj_vU] [] M (fun r M1 => pj_G L (d + 1) 152 375 [pj_vR 0, pj_vR 1, pj_vR 38, pj_vI x3] (r.toList ++ []) M1 Q)) : pj_G L (d + 1) 152 361 [pj_vR 0, pj_vR 1, pj_vR 38, pj_vI x3] [] M Q := by
  have nj0 : pj_nrm (x3 + 1) = (j0 : Int) := pj_nk ej0 (by omega)
  have nj1 : pj_nrm (x3 + 2) = (j1 : Int) := pj_nk ej1 (by omega)
  refine pj_G_s (d := d + 1) pj_np152 11 (show pj_gs 11 L 152 361 [pj_vR 0, pj_vR 1, pj_vR 38, pj_vI x3] [] M = some ([0 ≤ pj_nrm (x3 + 1) ∧ pj_nrm (x3 + 1) < (L : Int), 0 ≤ pj_nrm (x3 + 2) ∧ pj_nrm (x3 + 2) < (L : Int)], 372, [pj_vR 0, pj_vR 1, pj_vR 38, pj_vI x3], [pj_vI (M 0 (pj_nrm (x3 + 2)).toNat), pj_vI (M 0 (pj_nrm (x3 + 1)).toNat), pj_vR 1], M) from rfl) ⟨by omega, by omega, trivial⟩ ?_
  simp only [nj0, nj1, Int.toNat_natCast]
  exact pj_G_k (j := 50) (vs := [pj_vR 1, pj_vI (M 0 j0), pj_vI (M 0 j1)]) (st := []) rfl rfl rfl rfl rfl (Nat.le_of_ble_eq_true rfl) pj_nc50 h
set_option maxRecDepth 100000 in
theorem pj_C152_375 {L d : Nat} {Q : Option pj_V → pj_M → Prop} {M : pj_M} {x3 s0 : Int} (j0 j1 : Nat) (hL : L ≤ 2560) (ej0 : x3 + 1 = (j0 : Int)) (bj0 : j0 < L) (ej1 : x3 + 2 = (j1 : Int)) (bj1 : j1 < L) (h : pj_G L d 95 0 [pj_vR 38, pj_vI (M 0 j0), pj_vI (M 0 j1), pj_vU] [] M (fun r M1 => pj_G L (d + 1) 152 389 [pj_vR 0, pj_vR 1, pj_vR 38, pj_vI x3] (r.toList ++ [pj_vI s0]) M1 Q)) : pj_G L (d + 1) 152 375 [pj_vR 0, pj_vR 1, pj_vR 38, pj_vI x3] [pj_vI s0] M Q := by
  have nj0 : pj_nrm (x3 + 1) = (j0 : Int) := pj_nk ej0 (by omega)
  have nj1 : pj_nrm (x3 + 2) = (j1 : Int) := pj_nk ej1 (by omega)
  refine pj_G_s (d := d + 1) pj_np152 11 (show pj_gs 11 L 152 375 [pj_vR 0, pj_vR 1, pj_vR 38, pj_vI x3] [pj_vI s0] M = some ([0 ≤ pj_nrm (x3 + 1) ∧ pj_nrm (x3 + 1) < (L : Int), 0 ≤ pj_nrm (x3 + 2) ∧ pj_nrm (x3 + 2) < (L : Int)], 386, [pj_vR 0, pj_vR 1, pj_vR 38, pj_vI x3], [pj_vI (M 0 (pj_nrm (x3 + 2)).toNat), pj_vI (M 0 (pj_nrm (x3 + 1)).toNat), pj_vR 38, pj_vI s0], M) from rfl) ⟨by omega, by omega, trivial⟩ ?_
  simp only [nj0, nj1, Int.toNat_natCast]
  exact pj_G_k (j := 95) (vs := [pj_vR 38, pj_vI (M 0 j0), pj_vI (M 0 j1)]) (st := [pj_vI s0]) rfl rfl rfl rfl rfl (Nat.le_of_ble_eq_true rfl) pj_nc95 h
set_option maxRecDepth 100000 in
theorem pj_C152_389 {L d : Nat} {Q : Option pj_V → pj_M → Prop} {M : pj_M} {x3 s0 s1 : Int} (r0 : -2147483648 ≤ s0 ∧ s0 < 2147483648) (r1 : -2147483648 ≤ s1 ∧ s1 < 2147483648) (h1 : s0 = s1 → pj_G L d 152 1116 [pj_vR 0, pj_vR 1, pj_vR 38, pj_vI x3] [] M Q) (h2 : s0 ≠ s1 → pj_G L d 152 392 [pj_vU, pj_vU, pj_vU, pj_vU] [] M Q) : pj_G L d 152 389 [pj_vR 0, pj_vR 1, pj_vR 38, pj_vI x3] [pj_vI s1, pj_vI s0] M Q := by
  exact pj_G_if (t := 1116) rfl rfl (fun z => h1 (pj_ct_eq (pj_nrm_id r0.1 r0.2) (pj_nrm_id r1.1 r1.2) z)) (fun z => pj_G_loc (pj_lle_u rfl (pj_lle_u rfl (pj_lle_u rfl (pj_lle_u rfl pj_lle_nil)))) (h2 (pj_cf_eq (pj_nrm_id r0.1 r0.2) (pj_nrm_id r1.1 r1.2) z)))
set_option maxRecDepth 100000 in
theorem pj_C152_392 {L d : Nat} {Q : Option pj_V → pj_M → Prop} {M : pj_M}  (h : Q (some (pj_vI 0)) M) : pj_G L d 152 392 [pj_vU, pj_vU, pj_vU, pj_vU] [] M Q := by
  refine pj_G_s pj_np152 1 (show pj_gs 1 L 152 392 [pj_vU, pj_vU, pj_vU, pj_vU] [] M = some ([], 393, [pj_vU, pj_vU, pj_vU, pj_vU], [pj_vI 0], M) from rfl) trivial ?_
  exact pj_G_r rfl rfl rfl h
set_option maxRecDepth 100000 in
theorem pj_C152_328 {L d : Nat} {Q : Option pj_V → pj_M → Prop} {M : pj_M} {x3 : Int} (j0 j1 : Nat) (hL : L ≤ 2560) (ej0 : x3 + 1 = (j0 : Int)) (bj0 : j0 < L) (ej1 : x3 + 2 = (j1 : Int)) (bj1 : j1 < L) (h : pj_G L d 49 0 [pj_vR 1, pj_vI (M 0 j0), pj_vI (M 0 j1), pj_vU] [] M (fun r M1 => pj_G L (d + 1) 152 342 [pj_vR 0, pj_vR 1, pj_vR 38, pj_vI x3] (r.toList ++ []) M1 Q)) : pj_G L (d + 1) 152 328 [pj_vR 0, pj_vR 1, pj_vR 38, pj_vI x3] [] M Q := by
  have nj0 : pj_nrm (x3 + 1) = (j0 : Int) := pj_nk ej0 (by omega)
  have nj1 : pj_nrm (x3 + 2) = (j1 : Int) := pj_nk ej1 (by omega)
  refine pj_G_s (d := d + 1) pj_np152 11 (show pj_gs 11 L 152 328 [pj_vR 0, pj_vR 1, pj_vR 38, pj_vI x3] [] M = some ([0 ≤ pj_nrm (x3 + 1) ∧ pj_nrm (x3 + 1) < (L : Int), 0 ≤ pj_nrm (x3 + 2) ∧ pj_nrm (x3 + 2) < (L : Int)], 339, [pj_vR 0, pj_vR 1, pj_vR 38, pj_vI x3], [pj_vI (M 0 (pj_nrm (x3 + 2)).toNat), pj_vI (M 0 (pj_nrm (x3 + 1)).toNat), pj_vR 1], M) from rfl) ⟨by omega, by omega, trivial⟩ ?_
  simp only [nj0, nj1, Int.toNat_natCast]
  exact pj_G_k (j := 49) (vs := [pj_vR 1, pj_vI (M 0 j0), pj_vI (M 0 j1)]) (st := []) rfl rfl rfl rfl rfl (Nat.le_of_ble_eq_true rfl) pj_nc49 h
set_option maxRecDepth 100000 in
theorem pj_C152_342 {L d : Nat} {Q : Option pj_V → pj_M → Prop} {M : pj_M} {x3 s0 : Int} (j0 j1 : Nat) (hL : L ≤ 2560) (ej0 : x3 + 1 = (j0 : Int)) (bj0 : j0 < L) (ej1 : x3 + 2 = (j1 : Int)) (bj1 : j1 < L) (h : pj_G L d 94 0 [pj_vR 38, pj_vI (M 0 j0), pj_vI (M 0 j1), pj_vU] [] M (fun r M1 => pj_G L (d + 1) 152 356 [pj_vR 0, pj_vR 1, pj_vR 38, pj_vI x3] (r.toList ++ [pj_vI s0]) M1 Q)) : pj_G L (d + 1) 152 342 [pj_vR 0, pj_vR 1, pj_vR 38, pj_vI x3] [pj_vI s0] M Q := by
  have nj0 : pj_nrm (x3 + 1) = (j0 : Int) := pj_nk ej0 (by omega)
  have nj1 : pj_nrm (x3 + 2) = (j1 : Int) := pj_nk ej1 (by omega)
  refine pj_G_s (d := d + 1) pj_np152 11 (show pj_gs 11 L 152 342 [pj_vR 0, pj_vR 1, pj_vR 38, pj_vI x3] [pj_vI s0] M = some ([0 ≤ pj_nrm (x3 + 1) ∧ pj_nrm (x3 + 1) < (L : Int), 0 ≤ pj_nrm (x3 + 2) ∧ pj_nrm (x3 + 2) < (L : Int)], 353, [pj_vR 0, pj_vR 1, pj_vR 38, pj_vI x3], [pj_vI (M 0 (pj_nrm (x3 + 2)).toNat), pj_vI (M 0 (pj_nrm (x3 + 1)).toNat), pj_vR 38, pj_vI s0], M) from rfl) ⟨by omega, by omega, trivial⟩ ?_
  simp only [nj0, nj1, Int.toNat_natCast]
  exact pj_G_k (j := 94) (vs := [pj_vR 38, pj_vI (M 0 j0), pj_vI (M 0 j1)]) (st := [pj_vI s0]) rfl rfl rfl rfl rfl (Nat.le_of_ble_eq_true rfl) pj_nc94 h
set_option maxRecDepth 100000 in
theorem pj_C152_356 {L d : Nat} {Q : Option pj_V → pj_M → Prop} {M : pj_M} {x3 s0 s1 : Int} (r0 : -2147483648 ≤ s0 ∧ s0 < 2147483648) (r1 : -2147483648 ≤ s1 ∧ s1 < 2147483648) (h1 : s0 = s1 → pj_G L d 152 1116 [pj_vR 0, pj_vR 1, pj_vR 38, pj_vI x3] [] M Q) (h2 : s0 ≠ s1 → pj_G L d 152 359 [pj_vU, pj_vU, pj_vU, pj_vU] [] M Q) : pj_G L d 152 356 [pj_vR 0, pj_vR 1, pj_vR 38, pj_vI x3] [pj_vI s1, pj_vI s0] M Q := by
  exact pj_G_if (t := 1116) rfl rfl (fun z => h1 (pj_ct_eq (pj_nrm_id r0.1 r0.2) (pj_nrm_id r1.1 r1.2) z)) (fun z => pj_G_loc (pj_lle_u rfl (pj_lle_u rfl (pj_lle_u rfl (pj_lle_u rfl pj_lle_nil)))) (h2 (pj_cf_eq (pj_nrm_id r0.1 r0.2) (pj_nrm_id r1.1 r1.2) z)))
set_option maxRecDepth 100000 in
theorem pj_C152_359 {L d : Nat} {Q : Option pj_V → pj_M → Prop} {M : pj_M}  (h : Q (some (pj_vI 0)) M) : pj_G L d 152 359 [pj_vU, pj_vU, pj_vU, pj_vU] [] M Q := by
  refine pj_G_s pj_np152 1 (show pj_gs 1 L 152 359 [pj_vU, pj_vU, pj_vU, pj_vU] [] M = some ([], 360, [pj_vU, pj_vU, pj_vU, pj_vU], [pj_vI 0], M) from rfl) trivial ?_
  exact pj_G_r rfl rfl rfl h
set_option maxRecDepth 100000 in
theorem pj_C152_295 {L d : Nat} {Q : Option pj_V → pj_M → Prop} {M : pj_M} {x3 : Int} (j0 j1 : Nat) (hL : L ≤ 2560) (ej0 : x3 + 1 = (j0 : Int)) (bj0 : j0 < L) (ej1 : x3 + 2 = (j1 : Int)) (bj1 : j1 < L) (h : pj_G L d 48 0 [pj_vR 1, pj_vI (M 0 j0), pj_vI (M 0 j1), pj_vU] [] M (fun r M1 => pj_G L (d + 1) 152 309 [pj_vR 0, pj_vR 1, pj_vR 38, pj_vI x3] (r.toList ++ []) M1 Q)) : pj_G L (d + 1) 152 295 [pj_vR 0, pj_vR 1, pj_vR 38, pj_vI x3] [] M Q := by
  have nj0 : pj_nrm (x3 + 1) = (j0 : Int) := pj_nk ej0 (by omega)
  have nj1 : pj_nrm (x3 + 2) = (j1 : Int) := pj_nk ej1 (by omega)
  refine pj_G_s (d := d + 1) pj_np152 11 (show pj_gs 11 L 152 295 [pj_vR 0, pj_vR 1, pj_vR 38, pj_vI x3] [] M = some ([0 ≤ pj_nrm (x3 + 1) ∧ pj_nrm (x3 + 1) < (L : Int), 0 ≤ pj_nrm (x3 + 2) ∧ pj_nrm (x3 + 2) < (L : Int)], 306, [pj_vR 0, pj_vR 1, pj_vR 38, pj_vI x3], [pj_vI (M 0 (pj_nrm (x3 + 2)).toNat), pj_vI (M 0 (pj_nrm (x3 + 1)).toNat), pj_vR 1], M) from rfl) ⟨by omega, by omega, trivial⟩ ?_
  simp only [nj0, nj1, Int.toNat_natCast]
  exact pj_G_k (j := 48) (vs := [pj_vR 1, pj_vI (M 0 j0), pj_vI (M 0 j1)]) (st := []) rfl rfl rfl rfl rfl (Nat.le_of_ble_eq_true rfl) pj_nc48 h
set_option maxRecDepth 100000 in
theorem pj_C152_309 {L d : Nat} {Q : Option pj_V → pj_M → Prop} {M : pj_M} {x3 s0 : Int} (j0 j1 : Nat) (hL : L ≤ 2560) (ej0 : x3 + 1 = (j0 : Int)) (bj0 : j0 < L) (ej1 : x3 + 2 = (j1 : Int)) (bj1 : j1 < L) (h : pj_G L d 93 0 [pj_vR 38, pj_vI (M 0 j0), pj_vI (M 0 j1), pj_vU] [] M (fun r M1 => pj_G L (d + 1) 152 323 [pj_vR 0, pj_vR 1, pj_vR 38, pj_vI x3] (r.toList ++ [pj_vI s0]) M1 Q)) : pj_G L (d + 1) 152 309 [pj_vR 0, pj_vR 1, pj_vR 38, pj_vI x3] [pj_vI s0] M Q := by
  have nj0 : pj_nrm (x3 + 1) = (j0 : Int) := pj_nk ej0 (by omega)
  have nj1 : pj_nrm (x3 + 2) = (j1 : Int) := pj_nk ej1 (by omega)
  refine pj_G_s (d := d + 1) pj_np152 11 (show pj_gs 11 L 152 309 [pj_vR 0, pj_vR 1, pj_vR 38, pj_vI x3] [pj_vI s0] M = some ([0 ≤ pj_nrm (x3 + 1) ∧ pj_nrm (x3 + 1) < (L : Int), 0 ≤ pj_nrm (x3 + 2) ∧ pj_nrm (x3 + 2) < (L : Int)], 320, [pj_vR 0, pj_vR 1, pj_vR 38, pj_vI x3], [pj_vI (M 0 (pj_nrm (x3 + 2)).toNat), pj_vI (M 0 (pj_nrm (x3 + 1)).toNat), pj_vR 38, pj_vI s0], M) from rfl) ⟨by omega, by omega, trivial⟩ ?_
  simp only [nj0, nj1, Int.toNat_natCast]
  exact pj_G_k (j := 93) (vs := [pj_vR 38, pj_vI (M 0 j0), pj_vI (M 0 j1)]) (st := [pj_vI s0]) rfl rfl rfl rfl rfl (Nat.le_of_ble_eq_true rfl) pj_nc93 h
set_option maxRecDepth 100000 in
theorem pj_C152_323 {L d : Nat} {Q : Option pj_V → pj_M → Prop} {M : pj_M} {x3 s0 s1 : Int} (r0 : -2147483648 ≤ s0 ∧ s0 < 2147483648) (r1 : -2147483648 ≤ s1 ∧ s1 < 2147483648) (h1 : s0 = s1 → pj_G L d 152 1116 [pj_vR 0, pj_vR 1, pj_vR 38, pj_vI x3] [] M Q) (h2 : s0 ≠ s1 → pj_G L d 152 326 [pj_vU, pj_vU, pj_vU, pj_vU] [] M Q) : pj_G L d 152 323 [pj_vR 0, pj_vR 1, pj_vR 38, pj_vI x3] [pj_vI s1, pj_vI s0] M Q := by
  exact pj_G_if (t := 1116) rfl rfl (fun z => h1 (pj_ct_eq (pj_nrm_id r0.1 r0.2) (pj_nrm_id r1.1 r1.2) z)) (fun z => pj_G_loc (pj_lle_u rfl (pj_lle_u rfl (pj_lle_u rfl (pj_lle_u rfl pj_lle_nil)))) (h2 (pj_cf_eq (pj_nrm_id r0.1 r0.2) (pj_nrm_id r1.1 r1.2) z)))
set_option maxRecDepth 100000 in
theorem pj_C152_326 {L d : Nat} {Q : Option pj_V → pj_M → Prop} {M : pj_M}  (h : Q (some (pj_vI 0)) M) : pj_G L d 152 326 [pj_vU, pj_vU, pj_vU, pj_vU] [] M Q := by
  refine pj_G_s pj_np152 1 (show pj_gs 1 L 152 326 [pj_vU, pj_vU, pj_vU, pj_vU] [] M = some ([], 327, [pj_vU, pj_vU, pj_vU, pj_vU], [pj_vI 0], M) from rfl) trivial ?_
  exact pj_G_r rfl rfl rfl h
set_option maxRecDepth 100000 in
theorem pj_C152_252 {L d : Nat} {Q : Option pj_V → pj_M → Prop} {M : pj_M} {x3 : Int} (j0 j1 j2 : Nat) (hL : L ≤ 2560) (ej0 : x3 + 1 = (j0 : Int)) (bj0 : j0 < L) (ej1 : x3 + 2 = (j1 : Int)) (bj1 : j1 < L) (ej2 : x3 + 3 = (j2 : Int)) (bj2 : j2 < L) (h : pj_G L d 47 0 [pj_vR 1, pj_vI (M 0 j0), pj_vI (M 0 j1), pj_vI (M 0 j2), pj_vU] [] M (fun r M1 => pj_G L (d + 1) 152 271 [pj_vR 0, pj_vR 1, pj_vR 38, pj_vI x3] (r.toList ++ []) M1 Q)) : pj_G L (d + 1) 152 252 [pj_vR 0, pj_vR 1, pj_vR 38, pj_vI x3] [] M Q := by
  have nj0 : pj_nrm (x3 + 1) = (j0 : Int) := pj_nk ej0 (by omega)
  have nj1 : pj_nrm (x3 + 2) = (j1 : Int) := pj_nk ej1 (by omega)
  have nj2 : pj_nrm (x3 + 3) = (j2 : Int) := pj_nk ej2 (by omega)
  refine pj_G_s (d := d + 1) pj_np152 16 (show pj_gs 16 L 152 252 [pj_vR 0, pj_vR 1, pj_vR 38, pj_vI x3] [] M = some ([0 ≤ pj_nrm (x3 + 1) ∧ pj_nrm (x3 + 1) < (L : Int), 0 ≤ pj_nrm (x3 + 2) ∧ pj_nrm (x3 + 2) < (L : Int), 0 ≤ pj_nrm (x3 + 3) ∧ pj_nrm (x3 + 3) < (L : Int)], 268, [pj_vR 0, pj_vR 1, pj_vR 38, pj_vI x3], [pj_vI (M 0 (pj_nrm (x3 + 3)).toNat), pj_vI (M 0 (pj_nrm (x3 + 2)).toNat), pj_vI (M 0 (pj_nrm (x3 + 1)).toNat), pj_vR 1], M) from rfl) ⟨by omega, by omega, by omega, trivial⟩ ?_
  simp only [nj0, nj1, nj2, Int.toNat_natCast]
  exact pj_G_k (j := 47) (vs := [pj_vR 1, pj_vI (M 0 j0), pj_vI (M 0 j1), pj_vI (M 0 j2)]) (st := []) rfl rfl rfl rfl rfl (Nat.le_of_ble_eq_true rfl) pj_nc47 h
set_option maxRecDepth 100000 in
theorem pj_C152_271 {L d : Nat} {Q : Option pj_V → pj_M → Prop} {M : pj_M} {x3 s0 : Int} (j0 j1 j2 : Nat) (hL : L ≤ 2560) (ej0 : x3 + 1 = (j0 : Int)) (bj0 : j0 < L) (ej1 : x3 + 2 = (j1 : Int)) (bj1 : j1 < L) (ej2 : x3 + 3 = (j2 : Int)) (bj2 : j2 < L) (h : pj_G L d 92 0 [pj_vR 38, pj_vI (M 0 j0), pj_vI (M 0 j1), pj_vI (M 0 j2), pj_vU] [] M (fun r M1 => pj_G L (d + 1) 152 290 [pj_vR 0, pj_vR 1, pj_vR 38, pj_vI x3] (r.toList ++ [pj_vI s0]) M1 Q)) : pj_G L (d + 1) 152 271 [pj_vR 0, pj_vR 1, pj_vR 38, pj_vI x3] [pj_vI s0] M Q := by
  have nj0 : pj_nrm (x3 + 1) = (j0 : Int) := pj_nk ej0 (by omega)
  have nj1 : pj_nrm (x3 + 2) = (j1 : Int) := pj_nk ej1 (by omega)
  have nj2 : pj_nrm (x3 + 3) = (j2 : Int) := pj_nk ej2 (by omega)
  refine pj_G_s (d := d + 1) pj_np152 16 (show pj_gs 16 L 152 271 [pj_vR 0, pj_vR 1, pj_vR 38, pj_vI x3] [pj_vI s0] M = some ([0 ≤ pj_nrm (x3 + 1) ∧ pj_nrm (x3 + 1) < (L : Int), 0 ≤ pj_nrm (x3 + 2) ∧ pj_nrm (x3 + 2) < (L : Int), 0 ≤ pj_nrm (x3 + 3) ∧ pj_nrm (x3 + 3) < (L : Int)], 287, [pj_vR 0, pj_vR 1, pj_vR 38, pj_vI x3], [pj_vI (M 0 (pj_nrm (x3 + 3)).toNat), pj_vI (M 0 (pj_nrm (x3 + 2)).toNat), pj_vI (M 0 (pj_nrm (x3 + 1)).toNat), pj_vR 38, pj_vI s0], M) from rfl) ⟨by omega, by omega, by omega, trivial⟩ ?_
  simp only [nj0, nj1, nj2, Int.toNat_natCast]
  exact pj_G_k (j := 92) (vs := [pj_vR 38, pj_vI (M 0 j0), pj_vI (M 0 j1), pj_vI (M 0 j2)]) (st := [pj_vI s0]) rfl rfl rfl rfl rfl (Nat.le_of_ble_eq_true rfl) pj_nc92 h
set_option maxRecDepth 100000 in
theorem pj_C152_290 {L d : Nat} {Q : Option pj_V → pj_M → Prop} {M : pj_M} {x3 s0 s1 : Int} (r0 : -2147483648 ≤ s0 ∧ s0 < 2147483648) (r1 : -2147483648 ≤ s1 ∧ s1 < 2147483648) (h1 : s0 = s1 → pj_G L d 152 1116 [pj_vR 0, pj_vR 1, pj_vR 38, pj_vI x3] [] M Q) (h2 : s0 ≠ s1 → pj_G L d 152 293 [pj_vU, pj_vU, pj_vU, pj_vU] [] M Q) : pj_G L d 152 290 [pj_vR 0, pj_vR 1, pj_vR 38, pj_vI x3] [pj_vI s1, pj_vI s0] M Q := by
  exact pj_G_if (t := 1116) rfl rfl (fun z => h1 (pj_ct_eq (pj_nrm_id r0.1 r0.2) (pj_nrm_id r1.1 r1.2) z)) (fun z => pj_G_loc (pj_lle_u rfl (pj_lle_u rfl (pj_lle_u rfl (pj_lle_u rfl pj_lle_nil)))) (h2 (pj_cf_eq (pj_nrm_id r0.1 r0.2) (pj_nrm_id r1.1 r1.2) z)))
set_option maxRecDepth 100000 in
theorem pj_C152_293 {L d : Nat} {Q : Option pj_V → pj_M → Prop} {M : pj_M}  (h : Q (some (pj_vI 0)) M) : pj_G L d 152 293 [pj_vU, pj_vU, pj_vU, pj_vU] [] M Q := by
  refine pj_G_s pj_np152 1 (show pj_gs 1 L 152 293 [pj_vU, pj_vU, pj_vU, pj_vU] [] M = some ([], 294, [pj_vU, pj_vU, pj_vU, pj_vU], [pj_vI 0], M) from rfl) trivial ?_
  exact pj_G_r rfl rfl rfl h
set_option maxRecDepth 100000 in
theorem pj_C152_199 {L d : Nat} {Q : Option pj_V → pj_M → Prop} {M : pj_M} {x3 : Int} (j0 j1 j2 j3 : Nat) (hL : L ≤ 2560) (ej0 : x3 + 1 = (j0 : Int)) (bj0 : j0 < L) (ej1 : x3 + 2 = (j1 : Int)) (bj1 : j1 < L) (ej2 : x3 + 3 = (j2 : Int)) (bj2 : j2 < L) (ej3 : x3 + 4 = (j3 : Int)) (bj3 : j3 < L) (h : pj_G L d 46 0 [pj_vR 1, pj_vI (M 0 j0), pj_vI (M 0 j1), pj_vI (M 0 j2), pj_vI (M 0 j3), pj_vU, pj_vU, pj_vU, pj_vU, pj_vU, pj_vU] [] M (fun r M1 => pj_G L (d + 1) 152 223 [pj_vR 0, pj_vR 1, pj_vR 38, pj_vI x3] (r.toList ++ []) M1 Q)) : pj_G L (d + 1) 152 199 [pj_vR 0, pj_vR 1, pj_vR 38, pj_vI x3] [] M Q := by
  have nj0 : pj_nrm (x3 + 1) = (j0 : Int) := pj_nk ej0 (by omega)
  have nj1 : pj_nrm (x3 + 2) = (j1 : Int) := pj_nk ej1 (by omega)
  have nj2 : pj_nrm (x3 + 3) = (j2 : Int) := pj_nk ej2 (by omega)
  have nj3 : pj_nrm (x3 + 4) = (j3 : Int) := pj_nk ej3 (by omega)
  refine pj_G_s (d := d + 1) pj_np152 21 (show pj_gs 21 L 152 199 [pj_vR 0, pj_vR 1, pj_vR 38, pj_vI x3] [] M = some ([0 ≤ pj_nrm (x3 + 1) ∧ pj_nrm (x3 + 1) < (L : Int), 0 ≤ pj_nrm (x3 + 2) ∧ pj_nrm (x3 + 2) < (L : Int), 0 ≤ pj_nrm (x3 + 3) ∧ pj_nrm (x3 + 3) < (L : Int), 0 ≤ pj_nrm (x3 + 4) ∧ pj_nrm (x3 + 4) < (L : Int)], 220, [pj_vR 0, pj_vR 1, pj_vR 38, pj_vI x3], [pj_vI (M 0 (pj_nrm (x3 + 4)).toNat), pj_vI (M 0 (pj_nrm (x3 + 3)).toNat), pj_vI (M 0 (pj_nrm (x3 + 2)).toNat), pj_vI (M 0 (pj_nrm (x3 + 1)).toNat), pj_vR 1], M) from rfl) ⟨by omega, by omega, by omega, by omega, trivial⟩ ?_
  simp only [nj0, nj1, nj2, nj3, Int.toNat_natCast]
  exact pj_G_k (j := 46) (vs := [pj_vR 1, pj_vI (M 0 j0), pj_vI (M 0 j1), pj_vI (M 0 j2), pj_vI (M 0 j3)]) (st := []) rfl rfl rfl rfl rfl (Nat.le_of_ble_eq_true rfl) pj_nc46 h
set_option maxRecDepth 100000 in
theorem pj_C152_223 {L d : Nat} {Q : Option pj_V → pj_M → Prop} {M : pj_M} {x3 s0 : Int} (j0 j1 j2 j3 : Nat) (hL : L ≤ 2560) (ej0 : x3 + 1 = (j0 : Int)) (bj0 : j0 < L) (ej1 : x3 + 2 = (j1 : Int)) (bj1 : j1 < L) (ej2 : x3 + 3 = (j2 : Int)) (bj2 : j2 < L) (ej3 : x3 + 4 = (j3 : Int)) (bj3 : j3 < L) (h : pj_G L d 91 0 [pj_vR 38, pj_vI (M 0 j0), pj_vI (M 0 j1), pj_vI (M 0 j2), pj_vI (M 0 j3), pj_vU, pj_vU, pj_vU, pj_vU] [] M (fun r M1 => pj_G L (d + 1) 152 247 [pj_vR 0, pj_vR 1, pj_vR 38, pj_vI x3] (r.toList ++ [pj_vI s0]) M1 Q)) : pj_G L (d + 1) 152 223 [pj_vR 0, pj_vR 1, pj_vR 38, pj_vI x3] [pj_vI s0] M Q := by
  have nj0 : pj_nrm (x3 + 1) = (j0 : Int) := pj_nk ej0 (by omega)
  have nj1 : pj_nrm (x3 + 2) = (j1 : Int) := pj_nk ej1 (by omega)
  have nj2 : pj_nrm (x3 + 3) = (j2 : Int) := pj_nk ej2 (by omega)
  have nj3 : pj_nrm (x3 + 4) = (j3 : Int) := pj_nk ej3 (by omega)
  refine pj_G_s (d := d + 1) pj_np152 21 (show pj_gs 21 L 152 223 [pj_vR 0, pj_vR 1, pj_vR 38, pj_vI x3] [pj_vI s0] M = some ([0 ≤ pj_nrm (x3 + 1) ∧ pj_nrm (x3 + 1) < (L : Int), 0 ≤ pj_nrm (x3 + 2) ∧ pj_nrm (x3 + 2) < (L : Int), 0 ≤ pj_nrm (x3 + 3) ∧ pj_nrm (x3 + 3) < (L : Int), 0 ≤ pj_nrm (x3 + 4) ∧ pj_nrm (x3 + 4) < (L : Int)], 244, [pj_vR 0, pj_vR 1, pj_vR 38, pj_vI x3], [pj_vI (M 0 (pj_nrm (x3 + 4)).toNat), pj_vI (M 0 (pj_nrm (x3 + 3)).toNat), pj_vI (M 0 (pj_nrm (x3 + 2)).toNat), pj_vI (M 0 (pj_nrm (x3 + 1)).toNat), pj_vR 38, pj_vI s0], M) from rfl) ⟨by omega, by omega, by omega, by omega, trivial⟩ ?_
  simp only [nj0, nj1, nj2, nj3, Int.toNat_natCast]
  exact pj_G_k (j := 91) (vs := [pj_vR 38, pj_vI (M 0 j0), pj_vI (M 0 j1), pj_vI (M 0 j2), pj_vI (M 0 j3)]) (st := [pj_vI s0]) rfl rfl rfl rfl rfl (Nat.le_of_ble_eq_true rfl) pj_nc91 h
set_option maxRecDepth 100000 in
theorem pj_C152_247 {L d : Nat} {Q : Option pj_V → pj_M → Prop} {M : pj_M} {x3 s0 s1 : Int} (r0 : -2147483648 ≤ s0 ∧ s0 < 2147483648) (r1 : -2147483648 ≤ s1 ∧ s1 < 2147483648) (h1 : s0 = s1 → pj_G L d 152 1116 [pj_vR 0, pj_vR 1, pj_vR 38, pj_vI x3] [] M Q) (h2 : s0 ≠ s1 → pj_G L d 152 250 [pj_vU, pj_vU, pj_vU, pj_vU] [] M Q) : pj_G L d 152 247 [pj_vR 0, pj_vR 1, pj_vR 38, pj_vI x3] [pj_vI s1, pj_vI s0] M Q := by
  exact pj_G_if (t := 1116) rfl rfl (fun z => h1 (pj_ct_eq (pj_nrm_id r0.1 r0.2) (pj_nrm_id r1.1 r1.2) z)) (fun z => pj_G_loc (pj_lle_u rfl (pj_lle_u rfl (pj_lle_u rfl (pj_lle_u rfl pj_lle_nil)))) (h2 (pj_cf_eq (pj_nrm_id r0.1 r0.2) (pj_nrm_id r1.1 r1.2) z)))
set_option maxRecDepth 100000 in
theorem pj_C152_250 {L d : Nat} {Q : Option pj_V → pj_M → Prop} {M : pj_M}  (h : Q (some (pj_vI 0)) M) : pj_G L d 152 250 [pj_vU, pj_vU, pj_vU, pj_vU] [] M Q := by
  refine pj_G_s pj_np152 1 (show pj_gs 1 L 152 250 [pj_vU, pj_vU, pj_vU, pj_vU] [] M = some ([], 251, [pj_vU, pj_vU, pj_vU, pj_vU], [pj_vI 0], M) from rfl) trivial ?_
  exact pj_G_r rfl rfl rfl h
set_option maxRecDepth 100000 in
theorem pj_C152_176 {L d : Nat} {Q : Option pj_V → pj_M → Prop} {M : pj_M} {x3 : Int} (j0 : Nat) (hL : L ≤ 2560) (ej0 : x3 + 1 = (j0 : Int)) (bj0 : j0 < L) (h : pj_G L d 45 0 [pj_vR 1, pj_vI (M 0 j0)] [] M (fun r M1 => pj_G L (d + 1) 152 185 [pj_vR 0, pj_vR 1, pj_vR 38, pj_vI x3] (r.toList ++ []) M1 Q)) : pj_G L (d + 1) 152 176 [pj_vR 0, pj_vR 1, pj_vR 38, pj_vI x3] [] M Q := by
  have nj0 : pj_nrm (x3 + 1) = (j0 : Int) := pj_nk ej0 (by omega)
  refine pj_G_s (d := d + 1) pj_np152 6 (show pj_gs 6 L 152 176 [pj_vR 0, pj_vR 1, pj_vR 38, pj_vI x3] [] M = some ([0 ≤ pj_nrm (x3 + 1) ∧ pj_nrm (x3 + 1) < (L : Int)], 182, [pj_vR 0, pj_vR 1, pj_vR 38, pj_vI x3], [pj_vI (M 0 (pj_nrm (x3 + 1)).toNat), pj_vR 1], M) from rfl) ⟨by omega, trivial⟩ ?_
  simp only [nj0, Int.toNat_natCast]
  exact pj_G_k (j := 45) (vs := [pj_vR 1, pj_vI (M 0 j0)]) (st := []) rfl rfl rfl rfl rfl (Nat.le_of_ble_eq_true rfl) pj_nc45 h
set_option maxRecDepth 100000 in
theorem pj_C152_185 {L d : Nat} {Q : Option pj_V → pj_M → Prop} {M : pj_M} {x3 s0 : Int} (j0 : Nat) (hL : L ≤ 2560) (ej0 : x3 + 1 = (j0 : Int)) (bj0 : j0 < L) (h : pj_G L d 90 0 [pj_vR 38, pj_vI (M 0 j0)] [] M (fun r M1 => pj_G L (d + 1) 152 194 [pj_vR 0, pj_vR 1, pj_vR 38, pj_vI x3] (r.toList ++ [pj_vI s0]) M1 Q)) : pj_G L (d + 1) 152 185 [pj_vR 0, pj_vR 1, pj_vR 38, pj_vI x3] [pj_vI s0] M Q := by
  have nj0 : pj_nrm (x3 + 1) = (j0 : Int) := pj_nk ej0 (by omega)
  refine pj_G_s (d := d + 1) pj_np152 6 (show pj_gs 6 L 152 185 [pj_vR 0, pj_vR 1, pj_vR 38, pj_vI x3] [pj_vI s0] M = some ([0 ≤ pj_nrm (x3 + 1) ∧ pj_nrm (x3 + 1) < (L : Int)], 191, [pj_vR 0, pj_vR 1, pj_vR 38, pj_vI x3], [pj_vI (M 0 (pj_nrm (x3 + 1)).toNat), pj_vR 38, pj_vI s0], M) from rfl) ⟨by omega, trivial⟩ ?_
  simp only [nj0, Int.toNat_natCast]
  exact pj_G_k (j := 90) (vs := [pj_vR 38, pj_vI (M 0 j0)]) (st := [pj_vI s0]) rfl rfl rfl rfl rfl (Nat.le_of_ble_eq_true rfl) pj_nc90 h
set_option maxRecDepth 100000 in
theorem pj_C152_194 {L d : Nat} {Q : Option pj_V → pj_M → Prop} {M : pj_M} {x3 s0 s1 : Int} (r0 : -2147483648 ≤ s0 ∧ s0 < 2147483648) (r1 : -2147483648 ≤ s1 ∧ s1 < 2147483648) (h1 : s0 = s1 → pj_G L d 152 1116 [pj_vR 0, pj_vR 1, pj_vR 38, pj_vI x3] [] M Q) (h2 : s0 ≠ s1 → pj_G L d 152 197 [pj_vU, pj_vU, pj_vU, pj_vU] [] M Q) : pj_G L d 152 194 [pj_vR 0, pj_vR 1, pj_vR 38, pj_vI x3] [pj_vI s1, pj_vI s0] M Q := by
  exact pj_G_if (t := 1116) rfl rfl (fun z => h1 (pj_ct_eq (pj_nrm_id r0.1 r0.2) (pj_nrm_id r1.1 r1.2) z)) (fun z => pj_G_loc (pj_lle_u rfl (pj_lle_u rfl (pj_lle_u rfl (pj_lle_u rfl pj_lle_nil)))) (h2 (pj_cf_eq (pj_nrm_id r0.1 r0.2) (pj_nrm_id r1.1 r1.2) z)))
set_option maxRecDepth 100000 in
theorem pj_C152_197 {L d : Nat} {Q : Option pj_V → pj_M → Prop} {M : pj_M}  (h : Q (some (pj_vI 0)) M) : pj_G L d 152 197 [pj_vU, pj_vU, pj_vU, pj_vU] [] M Q := by
  refine pj_G_s pj_np152 1 (show pj_gs 1 L 152 197 [pj_vU, pj_vU, pj_vU, pj_vU] [] M = some ([], 198, [pj_vU, pj_vU, pj_vU, pj_vU], [pj_vI 0], M) from rfl) trivial ?_
  exact pj_G_r rfl rfl rfl h
set_option maxRecDepth 100000 in
theorem pj_C152_1122 {L d : Nat} {Q : Option pj_V → pj_M → Prop} {M : pj_M}  (h : Q (some (pj_vI 1)) M) : pj_G L d 152 1122 [pj_vU, pj_vU, pj_vU, pj_vU] [] M Q := by
  refine pj_G_s pj_np152 1 (show pj_gs 1 L 152 1122 [pj_vU, pj_vU, pj_vU, pj_vU] [] M = some ([], 1123, [pj_vU, pj_vU, pj_vU, pj_vU], [pj_vI 1], M) from rfl) trivial ?_
  exact pj_G_r rfl rfl rfl h
