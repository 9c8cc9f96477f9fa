/-! THE REFERENCE, a part's numbers: works, should, gives. -/
section QFA
variable {L d : Nat} {Q : Option pj_V → pj_M → Prop} {M : pj_M} {D : qf_D} {p : Nat}
theorem qf_rgp (hD : qf_okD D) (hp : p < qf_dP D) : 2 ≤ qf_rg D (qf_wo D p) ∧ qf_rg D (qf_wo D p) ≤ 3 ∧ qf_wo D p < 14 ∧ p < 7 := by
  have h1 := (hD.pt p hp).1
  have h2 := hD.rg _ h1
  have h3 := hD.b
  omega
theorem qf_nrm_ne {x : Int} {n : Nat} (e : x = (n : Int)) (h1 : 0 < n) (h2 : n < 2147483648) : pj_nrm x ≠ 0 := by
  rw [pj_nk e h2]
  omega
theorem qf_worksY (hD : qf_okD D) (hY : qf_Y D M) (hp : p < qf_dP D) (hk : qf_kd D p ≤ 2) {a b : Nat} (ha : a < 3) (hb : b < 3) (h : Q (some (pj_vI (qf_wks D p a b : Int))) M) : pj_G L d 104 0 [pj_vR 38, pj_vI (p : Int), pj_vI (a : Int), pj_vI (b : Int), pj_vU] [] M Q := by
  have hr := qf_rgp hD hp
  have hpt := hD.pt p hp
  have hw := hY.wk p hp
  have hrg := hY.rg _ hpt.1
  have fin : ∀ (n : Nat) (x : Int), x = (n : Int) → n < 1000 → n = qf_wk0 D p a b → pj_G L d 104 122 [pj_vR 38, pj_vI (p : Int), pj_vU, pj_vU, pj_vI x] [] M Q := by
    intro n x e hn e2
    refine pj_C104_122 p (qf_wo D p) rfl (by omega) (hY.wo p hp) (by omega) (qf_nrm_ne hrg (by omega) (by omega)) ?_
    rw [e, hrg, pj_rem_nat (by omega) (by omega) (by omega), e2]
    exact h
  have e3 : ¬ qf_kd D p = 4 := by omega
  have e4 : ¬ qf_kd D p = 3 := by omega
  unfold qf_wk0 at fin
  rw [if_neg e3, if_neg e4] at fin
  refine pj_C104_0 p rfl (by omega) (by omega) (fun k => ?_) (fun k => ?_) (fun k => ?_) (fun k => ?_) (fun k => ?_) (fun k => ?_)
  · refine pj_C104_44 (fin (a + b) _ (by omega) (by omega) ?_)
    rw [if_pos (by omega)]
  · refine pj_C104_52 (fin (a * b) _ (by rw [Int.natCast_mul]) ?_ ?_)
    · exact Nat.lt_of_le_of_lt (Nat.mul_le_mul (show a ≤ 2 by omega) (show b ≤ 2 by omega)) (by omega)
    · rw [if_neg (by omega), if_pos (by omega)]
  · refine pj_C104_60 (by omega) (by omega) (fun c => pj_C104_69 (pj_C104_70 (fin b _ rfl (by omega) ?_))) (fun c => pj_C104_65 (pj_C104_70 (fin a _ rfl (by omega) ?_)))
    · rw [if_neg (by omega), if_neg (by omega), if_pos (by omega), if_neg (by omega)]
    · rw [if_neg (by omega), if_neg (by omega), if_pos (by omega), if_pos (by omega)]
  · refine pj_C104_75 (by omega) (by omega) (fun c => pj_C104_84 (pj_C104_85 (fin b _ rfl (by omega) ?_))) (fun c => pj_C104_80 (pj_C104_85 (fin a _ rfl (by omega) ?_)))
    · rw [if_neg (by omega), if_neg (by omega), if_neg (by omega), if_pos (by omega), if_neg (by omega)]
    · rw [if_neg (by omega), if_neg (by omega), if_neg (by omega), if_pos (by omega), if_pos (by omega)]
  · refine pj_C104_90 (by omega) (by omega) (fun c => pj_C104_99 (pj_C104_100 (fin 0 _ rfl (by omega) ?_))) (fun c => pj_C104_95 (pj_C104_100 (fin 1 _ rfl (by omega) ?_)))
    · rw [if_neg (by omega), if_neg (by omega), if_neg (by omega), if_neg (by omega), if_pos (by omega), if_neg (by omega)]
    · rw [if_neg (by omega), if_neg (by omega), if_neg (by omega), if_neg (by omega), if_pos (by omega), if_pos (by omega)]
  · have ht := hY.tb (9 * p + 3 * a + b) (by omega)
    have ht2 := hD.tb (9 * p + 3 * a + b) (by omega)
    refine pj_C104_105 (9 * p + 3 * a + b) (by omega) (by omega) (fin _ _ ht (by omega) ?_)
    rw [if_neg (by omega), if_neg (by omega), if_neg (by omega), if_neg (by omega), if_neg (by omega)]
/-- the numbers of the tick lie in the reference's row -/
def qf_vY (D : qf_D) (M : pj_M) (n : Nat) (u : Nat → Nat) : Prop := ∀ w, w < n → M 59 w = (u w : Int) ∧ u w < 3
/-- what the streams read in the tick before lies in the reference's row -/
def qf_beY (M : pj_M) (s : Nat) : Prop := M 60 0 = ((s % 9 / 3 : Nat) : Int) ∧ M 60 1 = ((s % 3 : Nat) : Int) ∧ M 60 2 = ((s / 9 % 9 / 3 : Nat) : Int) ∧ M 60 3 = ((s / 9 % 3 : Nat) : Int)
theorem qf_shouldY (hD : qf_okD D) (hE : qf_okE D) (hY : qf_Y D M) (hp : p < qf_dP D) {t s : Nat} (ht : t < 3) {u : Nat → Nat} (hv : qf_vY D M (qf_wo D p) u) (hb : qf_beY M s) (h : Q (some (pj_vI (qf_sh0 D (qf_bR D t s) u p : Int))) M) : pj_G L (d + 1) 105 0 [pj_vR 38, pj_vI (p : Int), pj_vI (t : Int), pj_vU, pj_vU] [] M Q := by
  have hr := qf_rgp hD hp
  have hpt := hD.pt p hp
  have hrg := hY.rg _ hpt.1
  have hk := hY.kd p hp
  have hx := hY.dx p hp
  have hy := hY.dy p hp
  refine pj_C105_0 p (qf_wo D p) rfl (by omega) (hY.wo p hp) (by omega) (by omega) (fun c => ?_) (fun c => ?_)
  · refine pj_C105_34 p rfl (by omega) (by omega) (fun c4 => ?_) (fun c4 => ?_)
    · refine pj_C105_58 p rfl (by omega) (by omega) (fun c2 => ?_) (fun c2 => ?_)
      · -- a stream
        have e0 := hY.st 0 (by omega)
        have e1 := hE.1 0 (by omega)
        unfold qf_sh0 qf_bR at h
        rw [if_pos (by omega)] at h
        refine pj_C105_96 (by omega) (by omega) (fun cs => ?_) (fun cs => ?_)
        · refine pj_C105_110 (pj_C105_111 (by omega) (fun ct => ?_) (fun ct => ?_))
          · rw [if_neg (by omega), if_neg (by omega)] at h
            refine pj_C105_121 2 3 (by omega) (by omega) (by omega) (by omega) ?_
            rw [hb.2.2.1, hb.2.2.2]
            refine qf_worksY hD hY hp (by omega) (by omega) (by omega) (pj_C105_146 h)
          · rw [if_pos (by omega)] at h
            exact pj_C105_117 (pj_C105_146 h)
        · refine pj_C105_106 (pj_C105_111 (by omega) (fun ct => ?_) (fun ct => ?_))
          · rw [if_neg (by omega), if_pos (by omega)] at h
            refine pj_C105_121 0 1 (by omega) (by omega) (by omega) (by omega) ?_
            rw [hb.1, hb.2.1]
            refine qf_worksY hD hY hp (by omega) (by omega) (by omega) (pj_C105_146 h)
          · rw [if_pos (by omega)] at h
            exact pj_C105_117 (pj_C105_146 h)
      · have hxl := hpt.2.2.2.2.1 (by omega)
        have hyl := hpt.2.2.2.2.2.1 (by omega)
        rw [if_neg (by omega)] at hx
        rw [if_pos (by omega)] at hy
        have vx := hv _ hxl
        have vy := hv _ hyl
        unfold qf_sh0 qf_mk at h
        rw [if_neg (by omega), if_neg (by omega), if_pos (by omega)] at h
        refine pj_C105_68 p (qf_dx D p) (qf_dy D p) rfl (by omega) hx (by omega) hy (by omega) ?_
        rw [vx.1, vy.1]
        exact qf_worksY hD hY hp (by omega) vx.2 vy.2 (pj_C105_95 h)
    · have hxl := hpt.2.2.2.2.1 (by omega)
      rw [if_neg (by omega)] at hx
      have vx := hv _ hxl
      unfold qf_sh0 qf_mk qf_wks qf_wk0 at h
      rw [if_neg (show ¬ qf_kd D p = 2 by omega), if_pos (show qf_kd D p = 4 by omega), if_neg (show ¬ qf_kd D p = 3 by omega)] at h
      refine pj_C105_44 p (qf_dx D p) rfl (by omega) hx (by omega) (qf_nrm_ne hrg (by omega) (by omega)) ?_
      rw [vx.1, hrg, pj_rem_nat (by omega) (by omega) (by omega)]
      exact h
  · have ht9 := hY.tb (9 * p) (by omega)
    have ht2 := hD.tb (9 * p) (by omega)
    unfold qf_sh0 qf_mk qf_wks qf_wk0 at h
    rw [if_neg (by omega), if_neg (by omega), if_pos (by omega)] at h
    refine pj_C105_22 (9 * p) (by omega) (by omega) (qf_nrm_ne hrg (by omega) (by omega)) ?_
    rw [ht9, hrg, pj_rem_nat (by omega) (by omega) (by omega)]
    exact h
/-- the roles, as the reference holds them -/
def qf_roY (D : qf_D) (M : pj_M) (ro : Nat → Nat) : Prop := ∀ p, p < qf_dP D → (pj_bt (M 38 23) p = decide (ro p = 16)) ∧ (ro p ≠ 16 → pj_bt (M 38 24) p = decide (ro p ≠ 0)) ∧ (ro p ≠ 16 → ro p ≠ 0 → M 58 p = (ro p : Int) ∧ qf_wy D p ≠ 0) ∧ (ro p = 0 ∨ ro p = 1 ∨ ro p = 2 ∨ ro p = 4 ∨ ro p = 8 ∨ ro p = 16)
theorem qf_givesY (hD : qf_okD D) (hE : qf_okE D) (hY : qf_Y D M) {ro : Nat → Nat} (hR : qf_roY D M ro) (hp : p < qf_dP D) {t s : Nat} (ht : t < 3) {u : Nat → Nat} (hv : qf_vY D M (qf_wo D p) u) (hb : qf_beY M s) (hf : ro p = 16 → Q (some (pj_vI (M 57 p))) M) (h : ro p ≠ 16 → Q (some (pj_vI (qf_gv D (ro p) (qf_bR D t s) u p : Int))) M) : pj_G L (d + 2) 106 0 [pj_vR 38, pj_vI (p : Int), pj_vI (t : Int), pj_vU, pj_vU] [] M Q := by
  have hr := qf_rgp hD hp
  have hpt := hD.pt p hp
  have hrg := hY.rg _ hpt.1
  have hx := hY.dx p hp
  obtain ⟨r1, r2, r3, r4⟩ := hR p hp
  refine pj_C106_0 p rfl (by omega) (fun c => ?_) (fun c => ?_)
  · rw [r1] at c
    have n16 : ro p ≠ 16 := of_decide_eq_false c
    have h' := h n16
    refine pj_C106_19 (qf_shouldY hD hE hY hp ht hv hb (pj_C106_25 p rfl (by omega) (fun c2 => ?_) (fun c2 => ?_)))
    · rw [r2 n16] at c2
      have n0 : ro p ≠ 0 := of_decide_eq_true c2
      obtain ⟨w1, w2⟩ := r3 n16 n0
      have hkk := (hpt.2.2.2.2.2.2.2.1).mp w2
      have hsl : qf_sh0 D (qf_bR D t s) u p < qf_rg D (qf_wo D p) := by
        unfold qf_sh0
        split
        · exact qf_bR_lt hD t s p hp (by assumption)
        · exact qf_mk_lt (by omega) u
      unfold qf_gv at h'
      refine pj_C106_39 p (qf_wo D p) rfl (by omega) (hY.wo p hp) (by omega) (by omega) (fun c3 => ?_) (fun c3 => ?_)
      · refine pj_C106_68 p rfl (by omega) (by omega) (fun c4 => ?_) (fun c4 => ?_)
        · refine pj_C106_83 p rfl (by omega) (by omega) (fun c5 => ?_) (fun c5 => ?_)
          · rw [if_neg (by omega), if_neg (by omega), if_pos (by omega)] at h'
            have hxl := hpt.2.2.2.2.1 (by omega)
            rw [if_neg (by omega)] at hx
            have vx := hv _ hxl
            have e1 : M 39 (qf_wo D p) - 1 + 1 = (qf_rg D (qf_wo D p) : Int) := by omega
            refine pj_C106_100 p (qf_dx D p) rfl (by omega) hx (by omega) (qf_nrm_ne e1 (by omega) (by omega)) ?_
            rw [e1, vx.1, pj_rem_nat (by omega) (by omega) (by omega)]
            exact pj_C106_116 h'
          · rw [if_neg (by omega), if_neg (by omega), if_neg (by omega), if_pos (by omega)] at h'
            refine pj_C106_93 (pj_C106_116 ?_)
            have e1 : M 39 (qf_wo D p) - 1 - (qf_sh0 D (qf_bR D t s) u p : Int) = ((qf_rg D (qf_wo D p) - 1 - qf_sh0 D (qf_bR D t s) u p : Nat) : Int) := by omega
            rw [e1]
            exact h'
        · rw [if_neg (by omega), if_pos (by omega)] at h'
          refine pj_C106_78 (pj_C106_116 ?_)
          have e1 : M 39 (qf_wo D p) - 1 = ((qf_rg D (qf_wo D p) - 1 : Nat) : Int) := by omega
          rw [e1]
          exact h'
      · rw [if_pos (by omega)] at h'
        exact pj_C106_64 (pj_C106_116 h')
    · rw [r2 n16] at c2
      have n0 : ro p = 0 := Decidable.of_not_not (of_decide_eq_false c2)
      unfold qf_gv at h'
      rw [if_neg (by omega), if_neg (by omega), if_neg (by omega), if_neg (by omega)] at h'
      exact pj_C106_37 h'
  · rw [r1] at c
    exact pj_C106_12 p rfl (by omega) (hf (of_decide_eq_true c))
end QFA
