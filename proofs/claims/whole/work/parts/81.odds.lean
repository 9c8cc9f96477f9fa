/-! odds, price (what was found is kept), sound, wire. -/
section QFOP
variable {L d : Nat} {Q : Option pj_V → pj_M → Prop} {D D' : qf_D} {M M1 M2 : pj_M} {v k : Nat} {x y z : Int}
/-- a new machine whose findings are the old ones -/
theorem qf_IP.alter (h : qf_IP D L M) (h1 : qf_okD D') (h2 : qf_okE D') (hX : qf_X D' M1) (hY : qf_Y D' M2) (f1 : ∀ a, a < 2 ∨ 21 < a → M1 a = M a) (f2 : ∀ a, a < 39 ∨ 55 < a → M2 a = M1 a) (hc : qf_cX D M → qf_cX D' M) (hc2 : qf_cY D M → qf_cY D' M) : qf_IP D' L M2 := by
  obtain ⟨a1, a2, a3, a4, a5, a6, b1, b2, b3, b4, b5, b6⟩ := h
  have g : ∀ a, a < 2 ∨ (21 < a ∧ a < 39) ∨ 55 < a → M2 a = M a := fun a ha => (f2 a (by omega)).trans (f1 a (by omega))
  refine ⟨h1, h2, hX.keep (fun a h1 h2 => f2 a (by omega)), (hc a4).far (fun a h1 h2 => g a (by omega)), hY, (hc2 a6).far (by rw [g 38 (by omega)]) (by rw [g 38 (by omega)]) (g 64 (by omega)) (g 65 (by omega)), ?_⟩
  unfold qf_R
  rw [g 38 (by omega), g 1 (by omega), g 36 (by omega), g 66 (by omega), g 37 (by omega), g 56 (by omega), g 0 (by omega)]
  exact ⟨b1, b2, b3, b4, b5, b6⟩
theorem qf_run_3 : qf_run (qf_ud D 3 k v) = qf_run D := rfl
theorem qf_agr_3 : qf_agr (qf_ud D 3 k v) = qf_agr D := rfl
theorem qf_CB_3 : qf_CB (qf_ud D 3 k v) = qf_CB D := rfl
theorem qf_vm_3 : qf_vm (qf_ud D 3 k v) = qf_vm D := rfl
theorem qf_sl_3 : qf_sl (qf_ud D 3 k v) = qf_sl D := rfl
theorem qf_ql_3 : qf_ql (qf_ud D 3 k v) = qf_ql D := rfl
theorem qf_pp_3 : qf_pp (qf_ud D 3 k v) = qf_pp D := rfl
theorem qf_cX_3 (h : qf_cX D M) : qf_cX (qf_ud D 3 k v) M := by
  unfold qf_cX
  rw [qf_pp_3, qf_sl_3, qf_vm_3, qf_ql_3]
  exact h
theorem qf_cY_3 (h : qf_cY D M) : qf_cY (qf_ud D 3 k v) M := by
  unfold qf_cY qf_FY
  rw [qf_sl_3, qf_vm_3]
  exact h
theorem qf_run_11 : qf_run (qf_ud D 11 k v) = qf_run D := rfl
theorem qf_agr_11 : qf_agr (qf_ud D 11 k v) = qf_agr D := rfl
theorem qf_CB_11 : qf_CB (qf_ud D 11 k v) = qf_CB D := rfl
theorem qf_vm_11 : qf_vm (qf_ud D 11 k v) = qf_vm D := rfl
theorem qf_sl_11 : qf_sl (qf_ud D 11 k v) = qf_sl D := rfl
theorem qf_ql_11 : qf_ql (qf_ud D 11 k v) = qf_ql D := rfl
theorem qf_pp_11 : qf_pp (qf_ud D 11 k v) = qf_pp D := rfl
theorem qf_cX_11 (h : qf_cX D M) : qf_cX (qf_ud D 11 k v) M := by
  unfold qf_cX
  rw [qf_pp_11, qf_sl_11, qf_vm_11, qf_ql_11]
  exact h
theorem qf_cY_11 (h : qf_cY D M) : qf_cY (qf_ud D 11 k v) M := by
  unfold qf_cY qf_FY
  rw [qf_sl_11, qf_vm_11]
  exact h
/-! odds -/
def qf_w_odds (D : qf_D) (x y : Int) : Nat := if x < 0 ∨ (qf_dP D : Int) ≤ x then 3 else if qf_kd D x.toNat = 4 then 5 else if y < 1 ∨ 9 < y then 7 else 0
theorem qf_oddsX (hD : qf_okD D) (hX : qf_X D M) (hx : -2147483648 ≤ x ∧ x < 2147483648) (hy : -2147483648 ≤ y ∧ y < 2147483648)
    (hb : ∀ w : Nat, w ≠ 0 → qf_w_odds D x y = w → Q (some (pj_vI (-(w : Int)))) (pj_rfX M w))
    (h : qf_w_odds D x y = 0 → ∀ p v : Nat, x = (p : Int) → y = (v : Int) → p < qf_dP D → 1 ≤ v → v ≤ 9 → Q (some (pj_vI (qf_od D p : Int))) (pj_up M 14 p (v : Int))) : pj_G L (d + 1) 49 0 [pj_vR 1, pj_vI x, pj_vI y, pj_vU] [] M Q := by
  have hb14 := hD.b
  refine pj_C49_0 (qf_isPartX hD hX hx (fun p ep hp => pj_C49_5 (by omega) (fun _ => ?_) (fun z => absurd z (by decide))) (fun hno => pj_C49_5 (by omega) (fun z => absurd rfl z) (fun _ => pj_C49_8 (pj_refuse 3 (by decide) (pj_C49_14 (hb 3 (by decide) (if_pos (qf_out hno))))))))
  subst ep
  have ek := hX.kd p hp
  have hpt := hD.pt p hp
  refine pj_C49_15 p rfl (by omega) (by omega) (fun hw => ?_) (fun hw => pj_C49_28 (pj_refuse 5 (by decide) (pj_C49_34 (hb 5 (by decide) ((if_neg (by omega)).trans (if_pos (show qf_kd D p = 4 by omega)))))))
  have hk : ¬ qf_kd D p = 4 := by omega
  have no : y < 1 ∨ 9 < y → pj_G L (d + 1) 49 46 [pj_vR 1, pj_vU, pj_vU, pj_vU] [] M Q := fun z => pj_C49_46 (pj_refuse 7 (by decide) (pj_C49_52 (hb 7 (by decide) ((if_neg (by omega)).trans ((if_neg hk).trans (if_pos z))))))
  refine pj_C49_35 hy (fun z => no (by omega)) (fun z1 => pj_C49_40 hy (fun z2 => ?_) (fun z => no (by omega)))
  obtain ⟨v, rfl⟩ : ∃ v : Nat, y = (v : Int) := ⟨y.toNat, by omega⟩
  refine pj_C49_53 p rfl (by omega) ?_
  rw [hX.od p hp]
  exact h ((if_neg (by omega)).trans ((if_neg hk).trans (if_neg (by omega)))) p v rfl rfl hp (by omega) (by omega)
theorem qf_oddsY (hD : qf_okD D) (hY : qf_Y D M) (hx : -2147483648 ≤ x ∧ x < 2147483648) (hy : -2147483648 ≤ y ∧ y < 2147483648)
    (hb : ∀ w : Nat, w ≠ 0 → qf_w_odds D x y = w → Q (some (pj_vI (-(w : Int)))) (pj_rfY M w))
    (h : qf_w_odds D x y = 0 → ∀ p v : Nat, x = (p : Int) → y = (v : Int) → p < qf_dP D → 1 ≤ v → v ≤ 9 → Q (some (pj_vI (qf_od D p : Int))) (pj_up M 50 p (v : Int))) : pj_G L (d + 1) 94 0 [pj_vR 38, pj_vI x, pj_vI y, pj_vU] [] M Q := by
  have hb14 := hD.b
  refine pj_C94_0 (qf_isPartY hD hY hx (fun p ep hp => pj_C94_5 (by omega) (fun _ => ?_) (fun z => absurd z (by decide))) (fun hno => pj_C94_5 (by omega) (fun z => absurd rfl z) (fun _ => pj_C94_8 (pj_no 3 (by decide) (pj_C94_14 (hb 3 (by decide) (if_pos (qf_out hno))))))))
  subst ep
  have ek := hY.kd p hp
  have hpt := hD.pt p hp
  refine pj_C94_15 p rfl (by omega) (by omega) (fun hw => pj_C94_32 hy (qf_isInY hy (by omega) (by omega) (fun g1 g2 => pj_C94_41 (by omega) (fun _ => ?_) (fun z => absurd z (by decide))) (fun g => pj_C94_41 (by omega) (fun z => absurd rfl z) (fun _ => pj_C94_44 (pj_no 7 (by decide) (pj_C94_50 (hb 7 (by decide) ((if_neg (by omega)).trans ((if_neg (show ¬ qf_kd D p = 4 by omega)).trans (if_pos (by omega))))))))))) (fun hw => pj_C94_25 (pj_no 5 (by decide) (pj_C94_31 (hb 5 (by decide) ((if_neg (by omega)).trans (if_pos (show qf_kd D p = 4 by omega)))))))
  obtain ⟨v, rfl⟩ : ∃ v : Nat, y = (v : Int) := ⟨y.toNat, by omega⟩
  refine pj_C94_51 p rfl (by omega) ?_
  rw [hY.od p hp]
  exact h ((if_neg (by omega)).trans ((if_neg (show ¬ qf_kd D p = 4 by omega)).trans (if_neg (by omega)))) p v rfl rfl hp (by omega) (by omega)
theorem qf_okD.odds (hD : qf_okD D) {p : Nat} (h1 : 1 ≤ v) (h2 : v ≤ 9) : qf_okD (qf_ud D 11 p v) := by
  refine ⟨hD.b, hD.rg, hD.dv, fun q hq => ?_, hD.tb, hD.np, hD.st, hD.ts, hD.s2, hD.lk, hD.l2, hD.or, hD.os, hD.oe⟩
  obtain ⟨a1, a2, a3, a4, a5, a6, a7, a8, a9, a10, a11⟩ := hD.pt q hq
  have e : qf_od (qf_ud D 11 p v) q = if q = p then v else qf_od D q := qf_ud_if
  refine ⟨a1, a2, a3, a4, a5, a6, a7, a8, ?_, ?_, a11⟩
  · rw [e]
    split <;> omega
  · rw [e]
    split <;> omega
theorem qf_X.odds (h : qf_X D M) {p : Nat} : qf_X (qf_ud D 11 p v) (pj_up M 14 p (v : Int)) := ⟨h.W, h.P, h.S, h.T, h.K, h.rg, h.dv, h.pr, h.np, h.kd, h.wk, h.wo, h.dx, h.dy, h.tb, h.wy, qf_putc h.od, h.st, h.md, h.or, h.mt, h.sb, h.pl, h.sv, h.no⟩
theorem qf_Y.odds (h : qf_Y D M) {p : Nat} : qf_Y (qf_ud D 11 p v) (pj_up M 50 p (v : Int)) := ⟨h.W, h.P, h.S, h.T, h.K, h.rg, h.dv, h.pr, h.np, h.kd, h.wk, h.wo, h.dx, h.dy, h.tb, h.wy, qf_putc h.od, h.st, h.sn, h.lt, h.lw, h.lv⟩
/-! price -/
def qf_w_price (D : qf_D) (x y : Int) : Nat := if x < 0 ∨ (qf_dW D : Int) ≤ x then 3 else if y < 1 ∨ 9 < y then 7 else 0
theorem qf_priceX (hD : qf_okD D) (hX : qf_X D M) (hx : -2147483648 ≤ x ∧ x < 2147483648) (hy : -2147483648 ≤ y ∧ y < 2147483648)
    (hb : ∀ w : Nat, w ≠ 0 → qf_w_price D x y = w → Q (some (pj_vI (-(w : Int)))) (pj_rfX M w))
    (h : qf_w_price D x y = 0 → ∀ p v : Nat, x = (p : Int) → y = (v : Int) → p < qf_dW D → 1 ≤ v → v ≤ 9 → Q (some (pj_vI (qf_pr D p : Int))) (pj_up M 5 p (v : Int))) : pj_G L (d + 1) 50 0 [pj_vR 1, pj_vI x, pj_vI y, pj_vU] [] M Q := by
  have hb14 := hD.b
  refine pj_C50_0 (qf_isWireX hD hX hx (fun p ep hp => pj_C50_5 (by omega) (fun _ => ?_) (fun z => absurd z (by decide))) (fun hno => pj_C50_5 (by omega) (fun z => absurd rfl z) (fun _ => pj_C50_8 (pj_refuse 3 (by decide) (pj_C50_14 (hb 3 (by decide) (if_pos (qf_out hno))))))))
  subst ep
  have no : y < 1 ∨ 9 < y → pj_G L (d + 1) 50 26 [pj_vR 1, pj_vU, pj_vU, pj_vU] [] M Q := fun z => pj_C50_26 (pj_refuse 7 (by decide) (pj_C50_32 (hb 7 (by decide) ((if_neg (by omega)).trans (if_pos z)))))
  refine pj_C50_15 hy (fun z => no (by omega)) (fun z1 => pj_C50_20 hy (fun z2 => ?_) (fun z => no (by omega)))
  obtain ⟨v, rfl⟩ : ∃ v : Nat, y = (v : Int) := ⟨y.toNat, by omega⟩
  refine pj_C50_33 p rfl (by omega) ?_
  rw [hX.pr p hp]
  exact h ((if_neg (by omega)).trans (if_neg (by omega))) p v rfl rfl hp (by omega) (by omega)
theorem qf_priceY (hD : qf_okD D) (hY : qf_Y D M) (hx : -2147483648 ≤ x ∧ x < 2147483648) (hy : -2147483648 ≤ y ∧ y < 2147483648)
    (hb : ∀ w : Nat, w ≠ 0 → qf_w_price D x y = w → Q (some (pj_vI (-(w : Int)))) (pj_rfY M w))
    (h : qf_w_price D x y = 0 → ∀ p v : Nat, x = (p : Int) → y = (v : Int) → p < qf_dW D → 1 ≤ v → v ≤ 9 → Q (some (pj_vI (qf_pr D p : Int))) (pj_up M 41 p (v : Int))) : pj_G L (d + 1) 95 0 [pj_vR 38, pj_vI x, pj_vI y, pj_vU] [] M Q := by
  have hb14 := hD.b
  refine pj_C95_0 (qf_isWireY hD hY hx (fun p ep hp => pj_C95_5 (by omega) (fun _ => ?_) (fun z => absurd z (by decide))) (fun hno => pj_C95_5 (by omega) (fun z => absurd rfl z) (fun _ => pj_C95_8 (pj_no 3 (by decide) (pj_C95_14 (hb 3 (by decide) (if_pos (qf_out hno))))))))
  subst ep
  refine pj_C95_15 hy (qf_isInY hy (by omega) (by omega) (fun g1 g2 => pj_C95_24 (by omega) (fun _ => ?_) (fun z => absurd z (by decide))) (fun g => pj_C95_24 (by omega) (fun z => absurd rfl z) (fun _ => pj_C95_27 (pj_no 7 (by decide) (pj_C95_33 (hb 7 (by decide) ((if_neg (by omega)).trans (if_pos (by omega)))))))))
  obtain ⟨v, rfl⟩ : ∃ v : Nat, y = (v : Int) := ⟨y.toNat, by omega⟩
  refine pj_C95_34 p rfl (by omega) ?_
  rw [hY.pr p hp]
  exact h ((if_neg (by omega)).trans (if_neg (by omega))) p v rfl rfl hp (by omega) (by omega)
theorem qf_okD.price (hD : qf_okD D) {p : Nat} (h1 : 1 ≤ v) (h2 : v ≤ 9) : qf_okD (qf_ud D 3 p v) := by
  refine ⟨hD.b, fun q hq => ?_, hD.dv, hD.pt, hD.tb, hD.np, hD.st, hD.ts, hD.s2, hD.lk, hD.l2, hD.or, hD.os, hD.oe⟩
  obtain ⟨a1, a2, a3, a4⟩ := hD.rg q hq
  have e : qf_pr (qf_ud D 3 p v) q = if q = p then v else qf_pr D q := qf_ud_if
  refine ⟨a1, a2, ?_, ?_⟩
  · rw [e]
    split <;> omega
  · rw [e]
    split <;> omega
theorem qf_X.price (h : qf_X D M) {p : Nat} : qf_X (qf_ud D 3 p v) (pj_up M 5 p (v : Int)) := ⟨h.W, h.P, h.S, h.T, h.K, h.rg, h.dv, qf_putc h.pr, h.np, h.kd, h.wk, h.wo, h.dx, h.dy, h.tb, h.wy, h.od, h.st, h.md, h.or, h.mt, h.sb, h.pl, h.sv, h.no⟩
theorem qf_Y.price (h : qf_Y D M) {p : Nat} : qf_Y (qf_ud D 3 p v) (pj_up M 41 p (v : Int)) := ⟨h.W, h.P, h.S, h.T, h.K, h.rg, h.dv, qf_putc h.pr, h.np, h.kd, h.wk, h.wo, h.dx, h.dy, h.tb, h.wy, h.od, h.st, h.sn, h.lt, h.lw, h.lv⟩
end QFOP
theorem qf_case_odds : pj_Case qf_I 328 := by
  rintro L d Q M x h0 h5 hL ⟨D, hI⟩ go
  obtain ⟨X, rfl⟩ : ∃ X : Nat, x = (X : Int) := ⟨x.toNat, by omega⟩
  have hr1 := hI.rng (X + 1) (by omega)
  have hr2 := hI.rng (X + 2) (by omega)
  have eZ : ∀ w, (pj_rfX M w) 0 = M 0 := fun w => rfl
  refine pj_C152_328 (X + 1) (X + 2) hL (by omega) (by omega) (by omega) (by omega) (qf_oddsX (d := d + 38) hI.ok hI.X hr1 hr2 (fun w hw0 ew => ?_) (fun e0 p v ep ev hp g1 g2 => ?_))
  · have hw := hI.rfX w
    refine pj_C152_342 (X + 1) (X + 2) hL (by omega) (by omega) (by omega) (by omega) ?_
    rw [eZ w]
    refine qf_oddsY (d := d + 38) hw.ok hw.Y hr1 hr2 (fun w' _ ew' => ?_) (fun e0 => absurd (ew.symm.trans e0) hw0)
    obtain rfl : w' = w := ew'.symm.trans ew
    exact pj_B152_356 (fun _ => go _ ⟨D, hw.rfY⟩) (fun c => absurd rfl c)
  · have f1 : ∀ a, a < 2 ∨ 21 < a → (pj_up M 14 p (v : Int)) a = M a := fun a ha => pj_up_ne (by omega)
    have hY1 := hI.Y.offX (M1 := pj_up M 14 p (v : Int)) (fun a ha => f1 a (by omega))
    refine pj_C152_342 (X + 1) (X + 2) hL (by omega) (by omega) (by omega) (by omega) ?_
    rw [f1 0 (by omega)]
    refine qf_oddsY (d := d + 38) hI.ok hY1 hr1 hr2 (fun w' hw' ew' => absurd (ew'.symm.trans e0) hw') (fun _ p' v' ep' ev' _ _ _ => ?_)
    obtain rfl : p' = p := by omega
    obtain rfl : v' = v := by omega
    exact pj_B152_356 (fun _ => go _ ⟨_, hI.alter (hI.ok.odds g1 g2) hI.E hI.X.odds (hY1.odds (p := p') (v := v')) f1 (fun a ha => pj_up_ne (by omega)) qf_cX_11 qf_cY_11⟩) (fun c => absurd rfl c)
theorem qf_case_price : pj_Case qf_I 361 := by
  rintro L d Q M x h0 h5 hL ⟨D, hI⟩ go
  obtain ⟨X, rfl⟩ : ∃ X : Nat, x = (X : Int) := ⟨x.toNat, by omega⟩
  have hr1 := hI.rng (X + 1) (by omega)
  have hr2 := hI.rng (X + 2) (by omega)
  have eZ : ∀ w, (pj_rfX M w) 0 = M 0 := fun w => rfl
  refine pj_C152_361 (X + 1) (X + 2) hL (by omega) (by omega) (by omega) (by omega) (qf_priceX (d := d + 38) hI.ok hI.X hr1 hr2 (fun w hw0 ew => ?_) (fun e0 p v ep ev hp g1 g2 => ?_))
  · have hw := hI.rfX w
    refine pj_C152_375 (X + 1) (X + 2) hL (by omega) (by omega) (by omega) (by omega) ?_
    rw [eZ w]
    refine qf_priceY (d := d + 38) hw.ok hw.Y hr1 hr2 (fun w' _ ew' => ?_) (fun e0 => absurd (ew.symm.trans e0) hw0)
    obtain rfl : w' = w := ew'.symm.trans ew
    exact pj_B152_389 (fun _ => go _ ⟨D, hw.rfY⟩) (fun c => absurd rfl c)
  · have f1 : ∀ a, a < 2 ∨ 21 < a → (pj_up M 5 p (v : Int)) a = M a := fun a ha => pj_up_ne (by omega)
    have hY1 := hI.Y.offX (M1 := pj_up M 5 p (v : Int)) (fun a ha => f1 a (by omega))
    refine pj_C152_375 (X + 1) (X + 2) hL (by omega) (by omega) (by omega) (by omega) ?_
    rw [f1 0 (by omega)]
    refine qf_priceY (d := d + 38) hI.ok hY1 hr1 hr2 (fun w' hw' ew' => absurd (ew'.symm.trans e0) hw') (fun _ p' v' ep' ev' _ _ _ => ?_)
    obtain rfl : p' = p := by omega
    obtain rfl : v' = v := by omega
    exact pj_B152_389 (fun _ => go _ ⟨_, hI.alter (hI.ok.price g1 g2) hI.E hI.X.price (hY1.price (p := p') (v := v')) f1 (fun a ha => pj_up_ne (by omega)) qf_cX_3 qf_cY_3⟩) (fun c => absurd rfl c)
