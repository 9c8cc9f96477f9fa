/-! wire. -/
section QFWI
variable {L d : Nat} {Q : Option pj_V → pj_M → Prop} {D : qf_D} {M : pj_M} {x : Int} {r n : Nat}
def qf_w_wire (D : qf_D) (x : Int) : Nat := if x ≠ 2 ∧ x ≠ 3 then 7 else if 14 ≤ qf_dW D then 8 else 0
def qf_wiX (M : pj_M) (n r : Nat) : pj_M := pj_up (pj_up (pj_up (pj_up (qf_fgX M) 3 n (r : Int)) 4 n (-1)) 5 n 1) 2 0 ((n : Int) + 1)
def qf_wiY (M : pj_M) (n r : Nat) : pj_M := pj_up (pj_up (pj_up (pj_up M 39 n (r : Int)) 40 n (-1)) 41 n 1) 38 17 ((n : Int) + 1)
def qf_wiD (D : qf_D) (n r : Nat) : qf_D := qf_ud (qf_ud (qf_ud (qf_ud D 1 n r) 2 n 0) 3 n 1) 0 0 (n + 1)
theorem qf_wireX (hD : qf_okD D) (hX : qf_X D M) (hx : -2147483648 ≤ x ∧ x < 2147483648)
    (hb : ∀ w : Nat, w ≠ 0 → qf_w_wire D x = w → Q (some (pj_vI (-(w : Int)))) (pj_rfX M w))
    (h : qf_w_wire D x = 0 → ∀ r : Nat, x = (r : Int) → r = 2 ∨ r = 3 → qf_dW D < 14 → Q (some (pj_vI (qf_dW D : Int))) (qf_wiX M (qf_dW D) r)) : pj_G L (d + 1) 45 0 [pj_vR 1, pj_vI x] [] M Q := by
  have hb14 := hD.b
  have eW := hX.W
  have eW2 := hX.fg.W
  have ok : x = 2 ∨ x = 3 → pj_G L (d + 1) 45 17 [pj_vR 1, pj_vI x] [] M Q := by
    intro hx2
    have c7 : ¬ (x ≠ 2 ∧ x ≠ 3) := by omega
    refine pj_C45_17 (by omega) (fun g => pj_C45_36 (qf_forgetX (pj_C45_43 (pj_C42_0 (qf_dW D) eW2 (by omega) (pj_C45_51 ?_))))) (fun g => pj_C45_29 (pj_refuse 8 (by decide) (pj_C45_35 (hb 8 (by decide) ((if_neg c7).trans (if_pos (by omega)))))))
    obtain ⟨r, rfl⟩ : ∃ r : Nat, x = (r : Int) := ⟨x.toNat, by omega⟩
    rw [eW2]
    exact h ((if_neg c7).trans (if_neg (by omega))) r rfl (by omega) (by omega)
  exact pj_C45_0 hx (fun z => ok (Or.inl z)) (fun z => pj_C45_5 hx (fun y => ok (Or.inr y)) (fun y => pj_C45_10 (pj_refuse 7 (by decide) (pj_C45_16 (hb 7 (by decide) (if_pos ⟨z, y⟩))))))
theorem qf_wireY (hD : qf_okD D) (hY : qf_Y D M) (hx : -2147483648 ≤ x ∧ x < 2147483648)
    (hb : ∀ w : Nat, w ≠ 0 → qf_w_wire D x = w → Q (some (pj_vI (-(w : Int)))) (pj_rfY M w))
    (h : qf_w_wire D x = 0 → ∀ r : Nat, x = (r : Int) → r = 2 ∨ r = 3 → qf_dW D < 14 → Q (some (pj_vI (qf_dW D : Int))) (qf_fgY (qf_wiY M (qf_dW D) r))) : pj_G L (d + 1) 90 0 [pj_vR 38, pj_vI x] [] M Q := by
  have hb14 := hD.b
  have eW := hY.W
  refine pj_C90_0 hx (qf_isInY hx (by omega) (by omega) (fun g1 g2 => pj_C90_11 (by omega) (fun _ => ?_) (fun z => absurd z (by decide))) (fun g => pj_C90_11 (by omega) (fun z => absurd rfl z) (fun _ => pj_C90_14 (pj_no 7 (by decide) (pj_C90_20 (hb 7 (by decide) (if_pos (by omega))))))))
  have c7 : ¬ (x ≠ 2 ∧ x ≠ 3) := by omega
  refine pj_C90_21 (by omega) (fun g => pj_C90_37 (qf_dW D) eW (by omega) ?_) (fun g => pj_C90_30 (pj_no 8 (by decide) (pj_C90_36 (hb 8 (by decide) ((if_neg c7).trans (if_pos (by omega)))))))
  obtain ⟨r, rfl⟩ : ∃ r : Nat, x = (r : Int) := ⟨x.toNat, by omega⟩
  rw [eW, show (qf_dW D : Int) + 1 - 1 = (qf_dW D : Int) by omega]
  exact h ((if_neg c7).trans (if_neg (by omega))) r rfl (by omega) (by omega)
theorem qf_wiD_W : qf_dW (qf_wiD D n r) = n + 1 := qf_ud_same
theorem qf_wiD_rg {w : Nat} : qf_rg (qf_wiD D n r) w = if w = n then r else qf_rg D w := qf_ud_if (D := D) (a := 1) (k := n) (v := r)
theorem qf_wiD_dv {w : Nat} : qf_dv (qf_wiD D n r) w = if w = n then 0 else qf_dv D w := qf_ud_if (D := D) (a := 2) (k := n) (v := 0)
theorem qf_wiD_pr {w : Nat} : qf_pr (qf_wiD D n r) w = if w = n then 1 else qf_pr D w := qf_ud_if (D := D) (a := 3) (k := n) (v := 1)
theorem qf_okD.wire (hD : qf_okD D) (hE : qf_okE D) (hr : r = 2 ∨ r = 3) (h14 : qf_dW D < 14) : qf_okD (qf_wiD D (qf_dW D) r) := by
  have hb := hD.b
  have eW := qf_wiD_W (D := D) (n := qf_dW D) (r := r)
  refine ⟨⟨by rw [eW]; omega, hb.2⟩, fun w hw => ?_, fun w hw hdv => ?_, fun p hp => ?_, hD.tb, fun t w ht hw => ?_, hD.st, hD.ts, hD.s2, fun k hk => ?_, hD.l2, hD.or, hD.os, hD.oe⟩
  · rw [eW] at hw
    rw [qf_wiD_rg, qf_wiD_pr]
    by_cases z : w = qf_dW D
    · rw [if_pos z, if_pos z]
      omega
    · rw [if_neg z, if_neg z]
      exact hD.rg w (by omega)
  · rw [eW] at hw
    rw [qf_wiD_dv] at hdv ⊢
    by_cases z : w = qf_dW D
    · rw [if_pos z] at hdv
      exact absurd rfl hdv
    · rw [if_neg z] at hdv ⊢
      exact hD.dv w (by omega) hdv
  · obtain ⟨a1, a2, a3⟩ := hD.pt p hp
    refine ⟨?_, ?_, a3⟩
    · rw [eW]
      exact Nat.lt_succ_of_lt a1
    · have : qf_dv (qf_wiD D (qf_dW D) r) (qf_wo D p) = p + 1 := by
        rw [qf_wiD_dv, if_neg (by omega)]
        exact a2
      exact this
  · rw [eW] at hw
    rw [qf_wiD_rg]
    by_cases z : w = qf_dW D
    · rw [if_pos z]
      have : qf_np0 D (14 * t + w) = 0 := hE.2.2.1.2 t w ht (by omega) (by omega)
      show qf_np0 D (14 * t + w) < r
      omega
    · rw [if_neg z]
      exact hD.np t w ht (by omega)
  · obtain ⟨a1, a2, a3⟩ := hD.lk k hk
    refine ⟨a1, ?_, ?_⟩
    · rw [eW]
      exact Nat.lt_succ_of_lt a2
    · have : qf_lv D k < qf_rg (qf_wiD D (qf_dW D) r) (qf_lw D k) := by
        rw [qf_wiD_rg, if_neg (by omega)]
        exact a3
      exact this
theorem qf_okE.wire (hE : qf_okE D) : qf_okE (qf_wiD D (qf_dW D) r) := by
  refine ⟨hE.1, hE.2.1, ⟨hE.2.2.1.1, fun t w ht hw h14 => ?_⟩, hE.2.2.2⟩
  rw [qf_wiD_W] at hw
  exact hE.2.2.1.2 t w ht (by omega) h14
theorem qf_wks_wire (hD : qf_okD D) {p a b : Nat} (hp : p < qf_dP D) : qf_wks (qf_wiD D (qf_dW D) r) p a b = qf_wks D p a b := by
  have h1 := (hD.pt p hp).1
  have : qf_rg (qf_wiD D (qf_dW D) r) (qf_wo D p) = qf_rg D (qf_wo D p) := by
    rw [qf_wiD_rg, if_neg (by omega)]
  show qf_wk0 D p a b % qf_rg (qf_wiD D (qf_dW D) r) (qf_wo D p) = qf_wk0 D p a b % qf_rg D (qf_wo D p)
  rw [this]
theorem qf_X.wire (hD : qf_okD D) (h : qf_X D M) : qf_X (qf_wiD D (qf_dW D) r) (qf_wiX M (qf_dW D) r) := by
  have h' := h.fg
  have eW := qf_wiD_W (D := D) (n := qf_dW D) (r := r)
  refine ⟨?_, h'.P, h'.S, h'.T, h'.K, fun w hw => ?_, fun w hw => ?_, fun w hw => ?_, h'.np, h'.kd, h'.wk, h'.wo, h'.dx, h'.dy, h'.tb, h'.wy, h'.od, h'.st, fun p a b hp ha hb => ?_, h'.or, h'.mt, h'.sb, h'.pl, h'.sv, h'.no⟩
  · rw [eW]
    exact pj_up_same
  · rw [eW] at hw
    rw [qf_wiD_rg]
    show pj_up (qf_fgX M) 3 (qf_dW D) (r : Int) 3 w = _
    by_cases z : w = qf_dW D
    · rw [if_pos z, z, pj_up_same]
    · rw [if_neg z, pj_up_slot z]
      exact h'.rg w (by omega)
  · rw [eW] at hw
    rw [qf_wiD_dv]
    show pj_up (pj_up (qf_fgX M) 3 (qf_dW D) (r : Int)) 4 (qf_dW D) (-1) 4 w = _
    by_cases z : w = qf_dW D
    · rw [if_pos z, z, pj_up_same]
      rfl
    · rw [if_neg z, pj_up_slot z, pj_up_else (by decide)]
      exact h'.dv w (by omega)
  · rw [eW] at hw
    rw [qf_wiD_pr]
    show pj_up (pj_up (pj_up (qf_fgX M) 3 (qf_dW D) (r : Int)) 4 (qf_dW D) (-1)) 5 (qf_dW D) 1 5 w = _
    by_cases z : w = qf_dW D
    · rw [if_pos z, z, pj_up_same]
      rfl
    · rw [if_neg z, pj_up_slot z, pj_up_else (by decide), pj_up_else (by decide)]
      exact h'.pr w (by omega)
  · rw [qf_wks_wire hD hp]
    exact h'.md p a b hp ha hb
theorem qf_Y.wire (h : qf_Y D M) : qf_Y (qf_wiD D (qf_dW D) r) (qf_wiY M (qf_dW D) r) := by
  have eW := qf_wiD_W (D := D) (n := qf_dW D) (r := r)
  refine ⟨?_, h.P, h.S, h.T, h.K, fun w hw => ?_, fun w hw => ?_, fun w hw => ?_, h.np, h.kd, h.wk, h.wo, h.dx, h.dy, h.tb, h.wy, h.od, h.st, h.sn, h.lt, h.lw, h.lv⟩
  · rw [eW]
    exact pj_up_same
  · rw [eW] at hw
    rw [qf_wiD_rg]
    show pj_up M 39 (qf_dW D) (r : Int) 39 w = _
    by_cases z : w = qf_dW D
    · rw [if_pos z, z, pj_up_same]
    · rw [if_neg z, pj_up_slot z]
      exact h.rg w (by omega)
  · rw [eW] at hw
    rw [qf_wiD_dv]
    show pj_up (pj_up M 39 (qf_dW D) (r : Int)) 40 (qf_dW D) (-1) 40 w = _
    by_cases z : w = qf_dW D
    · rw [if_pos z, z, pj_up_same]
      rfl
    · rw [if_neg z, pj_up_slot z, pj_up_else (by decide)]
      exact h.dv w (by omega)
  · rw [eW] at hw
    rw [qf_wiD_pr]
    show pj_up (pj_up (pj_up M 39 (qf_dW D) (r : Int)) 40 (qf_dW D) (-1)) 41 (qf_dW D) 1 41 w = _
    by_cases z : w = qf_dW D
    · rw [if_pos z, z, pj_up_same]
      rfl
    · rw [if_neg z, pj_up_slot z, pj_up_else (by decide), pj_up_else (by decide)]
      exact h.pr w (by omega)
end QFWI
theorem qf_case_wire : pj_Case qf_I 176 := by
  rintro L d Q M x h0 h5 hL ⟨D, hI⟩ go
  obtain ⟨X, rfl⟩ : ∃ X : Nat, x = (X : Int) := ⟨x.toNat, by omega⟩
  have hr1 := hI.rng (X + 1) (by omega)
  have eZ : ∀ w, (pj_rfX M w) 0 = M 0 := fun w => rfl
  refine pj_C152_176 (X + 1) hL (by omega) (by omega) (qf_wireX (d := d + 38) hI.ok hI.X hr1 (fun w hw0 ew => ?_) (fun e0 r er g1 g2 => ?_))
  · have hw := hI.rfX w
    refine pj_C152_185 (X + 1) hL (by omega) (by omega) ?_
    rw [eZ w]
    refine qf_wireY (d := d + 38) hw.ok hw.Y hr1 (fun w' _ ew' => ?_) (fun e0 => absurd (ew.symm.trans e0) hw0)
    obtain rfl : w' = w := ew'.symm.trans ew
    exact pj_B152_194 (fun _ => go _ ⟨D, hw.rfY⟩) (fun c => absurd rfl c)
  · have f1 : ∀ a, a < 2 ∨ 22 < a → (qf_wiX M (qf_dW D) r) a = M a := fun a ha => by
      unfold qf_wiX
      rw [pj_up_ne (by omega), pj_up_ne (by omega), pj_up_ne (by omega), pj_up_ne (by omega), qf_fgX_ne (by omega)]
    have zz : (qf_wiX M (qf_dW D) r) 22 8 = 0 ∧ (qf_wiX M (qf_dW D) r) 22 3 = -1 ∧ (qf_wiX M (qf_dW D) r) 22 5 = -1 := by
      have : (qf_wiX M (qf_dW D) r) 22 = (qf_fgX M) 22 := by
        unfold qf_wiX
        rw [pj_up_ne (by omega), pj_up_ne (by omega), pj_up_ne (by omega), pj_up_ne (by omega)]
      rw [this]
      exact qf_fgX_z
    have hY1 := hI.Y.offX f1
    refine pj_C152_185 (X + 1) hL (by omega) (by omega) ?_
    rw [f1 0 (by omega)]
    refine qf_wireY (d := d + 38) hI.ok hY1 hr1 (fun w' hw' ew' => absurd (ew'.symm.trans e0) hw') (fun _ r' er' _ _ => ?_)
    obtain rfl : r' = r := by omega
    refine pj_B152_194 (fun _ => go _ ⟨_, hI.new (hI.ok.wire hI.E g1 g2) hI.E.wire (hI.X.wire hI.ok) (hY1.wire (r := r')).fg f1 zz (fun a ha => ?_) ?_ pj_up_same⟩) (fun c => absurd rfl c)
    · rw [qf_fgY_ne (by omega)]
      unfold qf_wiY
      rw [pj_up_ne (by omega), pj_up_ne (by omega), pj_up_ne (by omega), pj_up_ne (by omega)]
    · rw [qf_fgY, pj_up_slot (by decide)]
      unfold qf_wiY
      rw [pj_up_slot (by decide), pj_up_else (by decide), pj_up_else (by decide), pj_up_else (by decide)]
