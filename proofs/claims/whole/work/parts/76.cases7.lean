/-! worth; next; apart. -/
section QFCG
variable {L d : Nat} {Q : Option pj_V → pj_M → Prop} {D : qf_D} {M : pj_M} {x y : Int}
/-- a tick and a wire that there are -/
def qf_tw (D : qf_D) (x y : Int) : Prop := (0 ≤ x ∧ x < (qf_dT D : Int)) ∧ (0 ≤ y ∧ y < (qf_dW D : Int))
theorem qf_worthCX (hD : qf_okD D) (hE : qf_okE D) (hX : qf_X D M) (hc : qf_cX D M) (hr : -2147483648 ≤ x ∧ x < 2147483648) (hr2 : -2147483648 ≤ y ∧ y < 2147483648)
    (hb : ¬ qf_tw D x y → Q (some (pj_vI (-3))) (pj_rfX M 3))
    (h : qf_tw D x y → ∀ M', qf_fr qf_cL M M' → qf_cX D M' → Q (some (pj_vI (qf_wsum D (14 * x.toNat + y.toNat) 3 : Int))) M') : pj_G L (d + 22) 69 0 [pj_vR 1, pj_vI x, pj_vI y] [] M Q := by
  have hb14 := hD.b
  have no : ¬ qf_tw D x y → pj_G L (d + 22) 69 16 [pj_vR 1, pj_vU, pj_vU] [] M Q := fun g3 => pj_C69_16 (pj_refuse 3 (by decide) (pj_C69_22 (hb g3)))
  refine pj_C69_0 (qf_isTickX hD hX hr (fun t ht htl => pj_C69_5 (by omega) (fun w => absurd w (by decide)) (fun _ => pj_C69_8 ?_)) (fun hno => pj_C69_5 (by omega) (fun _ => no (fun w => hno x.toNat (by have := w.1; omega) (by have := w.1; omega))) (fun w => absurd rfl w)))
  refine qf_isWireX hD hX hr2 (fun w hw hwl => pj_C69_13 (by omega) (fun _ => pj_C69_23 ?_) (fun v => absurd v (by decide))) (fun hno => pj_C69_13 (by omega) (fun v => absurd rfl v) (fun _ => no (fun v => hno y.toNat (by have := v.2; omega) (by have := v.2; omega))))
  have hgood : qf_tw D x y := ⟨⟨by omega, by omega⟩, ⟨by omega, by omega⟩⟩
  refine qf_findStoriesX (d := d) hD hE hX hc (fun M1 hm1 hc1 h3 => pj_C69_35 ?_)
  refine qf_learnX (d := d) (a := 0) (b := (qf_sl D).length) hD hE (hX.keep (qf_kX.of hm1 (by decide))) hc1 h3 (by omega) (Nat.le_refl _) (fun M2 hm2 hc2 h32 hkn _ => pj_C69_38 ?_)
  rw [show x * 14 + y = ((14 * t + w : Nat) : Int) by omega]
  refine qf_worthX h32 hkn (by omega) (pj_C69_51 ?_)
  have := h hgood M2 (hm1.trans hm2 (fun _ q => q)) hc2
  rw [show x.toNat = t by omega, show y.toNat = w by omega] at this
  exact this
theorem qf_worthCY (hD : qf_okD D) (hE : qf_okE D) (hY : qf_Y D M) (hc : qf_cY D M) (hr : -2147483648 ≤ x ∧ x < 2147483648) (hr2 : -2147483648 ≤ y ∧ y < 2147483648)
    (hb : ¬ qf_tw D x y → Q (some (pj_vI (-3))) (pj_rfY M 3))
    (h : qf_tw D x y → ∀ M', qf_frF M M' → qf_cY D M' → Q (some (pj_vI (qf_wsum D (14 * x.toNat + y.toNat) 3 : Int))) M') : pj_G L (d + 8) 140 0 [pj_vR 38, pj_vI x, pj_vI y] [] M Q := by
  have hb14 := hD.b
  have no : ¬ qf_tw D x y → pj_G L (d + 8) 140 16 [pj_vR 38, pj_vU, pj_vU] [] M Q := fun g3 => pj_C140_16 (pj_no 3 (by decide) (pj_C140_22 (hb g3)))
  refine pj_C140_0 (qf_isTickY hD hY hr (fun t ht htl => pj_C140_5 (by omega) (fun w => absurd w (by decide)) (fun _ => pj_C140_8 ?_)) (fun hno => pj_C140_5 (by omega) (fun _ => no (fun w => hno x.toNat (by have := w.1; omega) (by have := w.1; omega))) (fun w => absurd rfl w)))
  refine qf_isWireY hD hY hr2 (fun w hw hwl => pj_C140_13 (by omega) (fun _ => pj_C140_23 ?_) (fun v => absurd v (by decide))) (fun hno => pj_C140_13 (by omega) (fun v => absurd rfl v) (fun _ => no (fun v => hno y.toNat (by have := v.2; omega) (by have := v.2; omega))))
  have hgood : qf_tw D x y := ⟨⟨by omega, by omega⟩, ⟨by omega, by omega⟩⟩
  refine qf_findY (d := d) hD hE hY hc (fun M1 hm1 e35 hFY => pj_C140_27 ?_)
  rw [ht, hw]
  refine qf_worthY hD (hY.far (fun a h1 h2 => hm1.1 a (by simp only [List.mem_cons, List.not_mem_nil, or_false, not_or]; omega)) (fun k h1 h2 => hm1.2 k (by simp only [List.mem_cons, List.not_mem_nil, or_false, not_or]; omega))) hFY (by omega) hwl (pj_C140_33 ?_)
  have := h hgood M1 hm1 (Or.inr ⟨e35, hFY⟩)
  rw [show x.toNat = t by omega, show y.toNat = w by omega] at this
  exact this
/-- what a look costs -/
noncomputable def qf_cost (D : qf_D) (t w : Nat) : Nat := qf_wsum D (14 * t + w) 3 * qf_pr D w
theorem qf_wsum_le (k : Nat) : qf_wsum D k 3 ≤ 3675 := by
  have hl := qf_sl_len D
  have a : ∀ v, qf_cnt D k v (qf_sl D).length * qf_cnt D k v (qf_sl D).length ≤ 35 * 35 := fun v => Nat.mul_le_mul (Nat.le_trans (qf_cnt_le _) hl) (Nat.le_trans (qf_cnt_le _) hl)
  have a0 := a 0
  have a1 := a 1
  have a2 := a 2
  have e : qf_wsum D k 3 = 0 + qf_cnt D k 0 (qf_sl D).length * qf_cnt D k 0 (qf_sl D).length + qf_cnt D k 1 (qf_sl D).length * qf_cnt D k 1 (qf_sl D).length + qf_cnt D k 2 (qf_sl D).length * qf_cnt D k 2 (qf_sl D).length := rfl
  rw [e]
  omega
theorem qf_cost_le (hD : qf_okD D) {t w : Nat} (hw : w < qf_dW D) : qf_cost D t w ≤ 33075 := Nat.mul_le_mul (qf_wsum_le _) (hD.rg w hw).2.2.2
noncomputable def qf_stp (D : qf_D) (t w : Nat) (p : Int × Int) : Int × Int := @ite _ (qf_tel D (14 * t + w) ∧ qf_met D w = false) (Classical.propDecidable _) (if p.1 < 0 ∨ (qf_cost D t w : Int) < p.2 then (100 * (t : Int) + (w : Int), (qf_cost D t w : Int)) else p) p
noncomputable def qf_rwb (D : qf_D) (t : Nat) (p : Int × Int) : Nat → Int × Int
  | 0 => p
  | w + 1 => qf_stp D t w (qf_rwb D t p w)
noncomputable def qf_nxt (D : qf_D) : Nat → Int × Int
  | 0 => (-1, 0)
  | t + 1 => qf_rwb D t (qf_nxt D t) (qf_dW D)
def qf_prg (p : Int × Int) : Prop := (p.1 = -1 ∨ (0 ≤ p.1 ∧ p.1 ≤ 400)) ∧ 0 ≤ p.2 ∧ p.2 ≤ 40000
theorem qf_stp_no {t w : Nat} {p : Int × Int} (h : ¬ (qf_tel D (14 * t + w) ∧ qf_met D w = false)) : qf_stp D t w p = p := if_neg h
theorem qf_stp_up {t w : Nat} {p : Int × Int} (h : qf_tel D (14 * t + w) ∧ qf_met D w = false) (h2 : p.1 < 0 ∨ (qf_cost D t w : Int) < p.2) : qf_stp D t w p = (100 * (t : Int) + (w : Int), (qf_cost D t w : Int)) := by
  unfold qf_stp
  rw [if_pos h, if_pos h2]
theorem qf_stp_st {t w : Nat} {p : Int × Int} (h : qf_tel D (14 * t + w) ∧ qf_met D w = false) (h2 : ¬ (p.1 < 0 ∨ (qf_cost D t w : Int) < p.2)) : qf_stp D t w p = p := by
  unfold qf_stp
  rw [if_pos h, if_neg h2]
theorem qf_stp_rg (hD : qf_okD D) {t w : Nat} {p : Int × Int} (ht : t < 3) (hw : w < qf_dW D) (h : qf_prg p) : qf_prg (qf_stp D t w p) := by
  have hb := hD.b
  have hc := qf_cost_le hD (t := t) hw
  by_cases z : qf_tel D (14 * t + w) ∧ qf_met D w = false
  · by_cases z2 : p.1 < 0 ∨ (qf_cost D t w : Int) < p.2
    · rw [qf_stp_up z z2]
      exact ⟨Or.inr ⟨by show 0 ≤ 100 * (t : Int) + (w : Int); omega, by show 100 * (t : Int) + (w : Int) ≤ 400; omega⟩, by show (0 : Int) ≤ (qf_cost D t w : Int); omega, by show (qf_cost D t w : Int) ≤ 40000; omega⟩
    · rw [qf_stp_st z z2]
      exact h
  · rw [qf_stp_no z]
    exact h
theorem qf_rwb_rg (hD : qf_okD D) {t : Nat} {p : Int × Int} (ht : t < 3) (h : qf_prg p) : ∀ w, w ≤ qf_dW D → qf_prg (qf_rwb D t p w)
  | 0, _ => h
  | w + 1, hw => qf_stp_rg hD ht (by omega) (qf_rwb_rg hD ht h w (by omega))
theorem qf_nxt_rg (hD : qf_okD D) : ∀ t, t ≤ 3 → qf_prg (qf_nxt D t)
  | 0, _ => ⟨Or.inl rfl, by show (0 : Int) ≤ 0; omega, by show (0 : Int) ≤ 40000; omega⟩
  | t + 1, ht => qf_rwb_rg hD (by omega) (qf_nxt_rg hD t (by omega)) _ (Nat.le_refl _)
theorem qf_nextX (hD : qf_okD D) (hE : qf_okE D) (hX : qf_X D M) (hc : qf_cX D M) (h : ∀ M', qf_fr qf_cL M M' → qf_cX D M' → Q (some (pj_vI (qf_nxt D (qf_dT D)).1)) M') : pj_G L (d + 22) 70 0 [pj_vR 1, pj_vU, pj_vU, pj_vU, pj_vU, pj_vU, pj_vU] [] M Q := by
  have hb14 := hD.b
  refine pj_C70_0 ?_
  refine qf_findStoriesX (d := d) hD hE hX hc (fun M1 hm1 hc1 h3 => pj_C70_12 ?_)
  refine qf_learnX (d := d) (a := 0) (b := (qf_sl D).length) hD hE (hX.keep (qf_kX.of hm1 (by decide))) hc1 h3 (by omega) (Nat.le_refl _) (fun M2 hm2 hc2 h32 hkn _ => pj_C70_15 ?_)
  have hm := hm1.trans hm2 (fun _ q => q)
  have hX2 := hX.keep (qf_kX.of hm (by decide))
  have eT := hX2.T
  have eW := hX2.W
  have outer : ∀ (r t : Nat), t + r = qf_dT D → pj_G L (d + 22) 70 21 [pj_vR 1, pj_vI (qf_nxt D t).1, pj_vI (qf_nxt D t).2, pj_vI (t : Int), pj_vU, pj_vU, pj_vU] [] M2 Q := by
    intro r
    induction r with
    | zero =>
      intro t e
      obtain rfl : t = qf_dT D := by omega
      exact pj_C70_21 (by omega) (by omega) (fun _ => pj_C70_133 (h M2 hm hc2)) (fun c => by omega)
    | succ r ih =>
      intro t e
      refine pj_C70_21 (by omega) (by omega) (fun c => by omega) (fun _ => pj_C70_32 ?_)
      have hn := qf_nxt_rg hD t (by omega)
      have inner : ∀ (q w : Nat), w + q = qf_dW D → pj_G L (d + 22) 70 35 [pj_vR 1, pj_vI (qf_rwb D t (qf_nxt D t) w).1, pj_vI (qf_rwb D t (qf_nxt D t) w).2, pj_vI (t : Int), pj_vI (w : Int), pj_vU, pj_vU] [] M2 Q := by
        intro q
        induction q with
        | zero =>
          intro w ew
          obtain rfl : w = qf_dW D := by omega
          exact pj_C70_35 (by omega) (by omega) (fun _ => pj_C70_127 (ih (t + 1) (by omega))) (fun c => by omega)
        | succ q ih2 =>
          intro w ew
          have hp := qf_rwb_rg hD (t := t) (by omega) hn w (by omega)
          have hcl := qf_cost_le hD (t := t) (w := w) (by omega)
          have go : ∀ p, p = qf_stp D t w (qf_rwb D t (qf_nxt D t) w) → pj_G L (d + 22) 70 121 [pj_vR 1, pj_vI p.1, pj_vI p.2, pj_vI (t : Int), pj_vI (w : Int), pj_vU, pj_vU] [] M2 Q := by
            intro p ep
            subst ep
            exact pj_C70_121 (ih2 (w + 1) (by omega))
          generalize qf_rwb D t (qf_nxt D t) w = p at go hp
          obtain ⟨p1, p2, p3⟩ := hp
          refine pj_C70_35 (by omega) (by omega) (fun c => by omega) (fun _ => pj_C70_47 (qf_isMeteredX hD hX2 (by omega) (fun hm => ?_) (fun hm => ?_)))
          · exact pj_C70_62 (by omega) (fun _ => go p (qf_stp_no (fun z => by rw [hm] at z; exact absurd z.2 (by decide))).symm) (fun z => absurd z (by decide))
          · refine pj_C70_62 (by omega) (fun z => absurd rfl z) (fun _ => pj_C70_65 ?_)
            rw [show (t : Int) * 14 + (w : Int) = ((14 * t + w : Nat) : Int) by omega]
            refine qf_tellsX h32 hkn (by omega) (fun ht => ?_) (fun ht => ?_)
            · refine pj_C70_74 (by omega) (fun z => absurd z (by decide)) (fun _ => pj_C70_77 (qf_worthX h32 hkn (by omega) ?_))
              have ec : (qf_wsum D (14 * t + w) 3 : Int) * M2 5 w = (qf_cost D t w : Int) := by
                rw [hX2.pr w (by omega), ← Int.natCast_mul]
                rfl
              refine pj_C70_86 w rfl (by omega) (by omega) (fun z => ?_) (fun z => ?_)
              · rw [ec]
                have := go _ (qf_stp_up ⟨ht, hm⟩ (Or.inl (by omega))).symm
                exact pj_C70_110 this
              · rw [ec]
                refine pj_C70_104 (by omega) (by omega) (fun y => go p (qf_stp_st ⟨ht, hm⟩ (by omega)).symm) (fun y => ?_)
                have := go _ (qf_stp_up ⟨ht, hm⟩ (Or.inr y)).symm
                exact pj_C70_110 this
            · exact pj_C70_74 (by omega) (fun _ => go p (qf_stp_no (fun z => ht z.1)).symm) (fun z => absurd rfl z)
      exact inner (qf_dW D) 0 (by omega)
  exact outer (qf_dT D) 0 (by omega)
theorem qf_nextY (hD : qf_okD D) (hE : qf_okE D) (hY : qf_Y D M) (hc : qf_cY D M) (h : ∀ M', qf_frF M M' → qf_cY D M' → Q (some (pj_vI (qf_nxt D (qf_dT D)).1)) M') : pj_G L (d + 8) 143 0 [pj_vR 38, pj_vU, pj_vU, pj_vU, pj_vU, pj_vU] [] M Q := by
  have hb14 := hD.b
  refine pj_C143_0 ?_
  refine qf_findY (d := d) hD hE hY hc (fun M2 hm e35 hFY => pj_C143_4 ?_)
  have hY2 : qf_Y D M2 := hY.far (fun a h1 h2 => hm.1 a (by simp only [List.mem_cons, List.not_mem_nil, or_false, not_or]; omega)) (fun k h1 h2 => hm.2 k (by simp only [List.mem_cons, List.not_mem_nil, or_false, not_or]; omega))
  have eT := hY2.T
  have eW := hY2.W
  have outer : ∀ (r t : Nat), t + r = qf_dT D → pj_G L (d + 8) 143 10 [pj_vR 38, pj_vI (qf_nxt D t).1, pj_vI (qf_nxt D t).2, pj_vI (t : Int), pj_vU, pj_vU] [] M2 Q := by
    intro r
    induction r with
    | zero =>
      intro t e
      obtain rfl : t = qf_dT D := by omega
      exact pj_C143_10 (by omega) (by omega) (fun _ => pj_C143_96 (h M2 hm (Or.inr ⟨e35, hFY⟩))) (fun c => by omega)
    | succ r ih =>
      intro t e
      refine pj_C143_10 (by omega) (by omega) (fun c => by omega) (fun _ => pj_C143_18 ?_)
      have hn := qf_nxt_rg hD t (by omega)
      have inner : ∀ (q w : Nat), w + q = qf_dW D → pj_G L (d + 8) 143 21 [pj_vR 38, pj_vI (qf_rwb D t (qf_nxt D t) w).1, pj_vI (qf_rwb D t (qf_nxt D t) w).2, pj_vI (t : Int), pj_vI (w : Int), pj_vU] [] M2 Q := by
        intro q
        induction q with
        | zero =>
          intro w ew
          obtain rfl : w = qf_dW D := by omega
          exact pj_C143_21 (by omega) (by omega) (fun _ => pj_C143_90 (ih (t + 1) (by omega))) (fun c => by omega)
        | succ q ih2 =>
          intro w ew
          have hp := qf_rwb_rg hD (t := t) (by omega) hn w (by omega)
          have hcl := qf_cost_le hD (t := t) (w := w) (by omega)
          have go : ∀ p, p = qf_stp D t w (qf_rwb D t (qf_nxt D t) w) → pj_G L (d + 8) 143 84 [pj_vR 38, pj_vI p.1, pj_vI p.2, pj_vI (t : Int), pj_vI (w : Int), pj_vU] [] M2 Q := by
            intro p ep
            subst ep
            exact pj_C143_84 (ih2 (w + 1) (by omega))
          generalize qf_rwb D t (qf_nxt D t) w = p at go hp
          obtain ⟨p1, p2, p3⟩ := hp
          refine pj_C143_21 (by omega) (by omega) (fun c => by omega) (fun _ => pj_C143_30 (qf_tellsY (d := d + 6) hD hY2 hFY (by omega) (by omega) (fun ht hm => ?_) (fun ht => ?_)))
          · refine pj_C143_37 (by omega) (fun _ => pj_C143_43 (qf_worthY hD hY2 hFY (by omega) (by omega) ?_)) (fun z => absurd z (by decide))
            have ec : (qf_wsum D (14 * t + w) 3 : Int) * M2 41 w = (qf_cost D t w : Int) := by
              rw [hY2.pr w (by omega), ← Int.natCast_mul]
              rfl
            refine pj_C143_50 w rfl (by omega) (by omega) (fun z => ?_) (fun z => ?_)
            · rw [ec]
              have := go _ (qf_stp_up ⟨ht, hm⟩ (Or.inl z)).symm
              exact pj_C143_73 this
            · rw [ec]
              refine pj_C143_64 (by omega) (by omega) (fun y => ?_) (fun y => pj_C143_70 (go p (qf_stp_st ⟨ht, hm⟩ (by omega)).symm))
              have := go _ (qf_stp_up ⟨ht, hm⟩ (Or.inr y)).symm
              exact pj_C143_73 this
          · exact pj_C143_37 (by omega) (fun z => absurd rfl z) (fun _ => pj_C143_40 (go p (qf_stp_no ht).symm))
      exact inner (qf_dW D) 0 (by omega)
  exact outer (qf_dT D) 0 (by omega)
/-- two stories whose values at this place share none -/
def qf_dis (D : qf_D) (i j t w : Nat) : Prop := pj_and (qf_vm D ((qf_sl D).getD i 0) (14 * t + w) : Int) (qf_vm D ((qf_sl D).getD j 0) (14 * t + w) : Int) = 0 ∧ qf_met D w = false
def qf_fst (D : qf_D) (i j t w : Nat) : Prop := t < qf_dT D ∧ w < qf_dW D ∧ qf_dis D i j t w ∧ ∀ t' w', w' < qf_dW D → (t' < t ∨ (t' = t ∧ w' < w)) → ¬ qf_dis D i j t' w'
theorem qf_fst_one {i j t w t' w' : Nat} (h : qf_fst D i j t w) (h' : qf_fst D i j t' w') : t = t' ∧ w = w' := by
  obtain ⟨a1, a2, a3, a4⟩ := h
  obtain ⟨b1, b2, b3, b4⟩ := h'
  have c1 : ¬ (t' < t ∨ (t' = t ∧ w' < w)) := fun z => a4 t' w' b2 z b3
  have c2 : ¬ (t < t' ∨ (t = t' ∧ w < w')) := fun z => b4 t w a2 z a3
  omega
/-- two stories that there are -/
def qf_ij (D : qf_D) (x y : Int) : Prop := (0 ≤ x ∧ x < ((qf_sl D).length : Int)) ∧ (0 ≤ y ∧ y < ((qf_sl D).length : Int))
theorem qf_apartX (hD : qf_okD D) (hE : qf_okE D) (hX : qf_X D M) (hc : qf_cX D M) (hr : -2147483648 ≤ x ∧ x < 2147483648) (hr2 : -2147483648 ≤ y ∧ y < 2147483648)
    (hb : ¬ qf_ij D x y → ∀ M', qf_fr qf_cL M M' → qf_cX D M' → Q (some (pj_vI (-3))) (pj_rfX M' 3))
    (h1 : qf_ij D x y → ∀ t w, qf_fst D x.toNat y.toNat t w → ∀ M', qf_fr qf_cL M M' → qf_cX D M' → Q (some (pj_vI (100 * (t : Int) + (w : Int)))) M')
    (h0 : qf_ij D x y → (∀ t w, t < qf_dT D → w < qf_dW D → ¬ qf_dis D x.toNat y.toNat t w) → ∀ M', qf_fr qf_cL M M' → qf_cX D M' → Q (some (pj_vI (-1))) M') : pj_G L (d + 22) 71 0 [pj_vR 1, pj_vI x, pj_vI y, pj_vU, pj_vU, pj_vU, pj_vU, pj_vU] [] M Q := by
  have hb14 := hD.b
  have hl := qf_sl_len D
  refine pj_C71_0 (qf_findStoriesX (d := d) hD hE hX hc (fun M1 hm1 hc1 h3 => ?_))
  have no : ¬ qf_ij D x y → pj_G L (d + 22) 71 26 [pj_vR 1, pj_vU, pj_vU, pj_vU, pj_vU, pj_vU, pj_vU, pj_vU] [] M1 Q := fun g3 => pj_C71_26 (pj_refuse 3 (by decide) (pj_C71_32 (hb g3 M1 hm1 hc1)))
  refine pj_C71_7 hr (fun z => no (fun g => by have := g.1; omega)) (fun z1 => pj_C71_12 hr (by omega) (fun z => no (fun g => by have := g.1; omega)) (fun z2 => pj_C71_17 hr2 (fun z => no (fun g => by have := g.2; omega)) (fun z3 => pj_C71_21 hr2 (by omega) (fun z4 => ?_) (fun z => no (fun g => by have := g.2; omega)))))
  have hg : qf_ij D x y := ⟨⟨z1, z2⟩, ⟨z3, z4⟩⟩
  have hh1 := h1 hg
  have hh0 := h0 hg
  clear h1 h0 hb no hg
  obtain ⟨i, rfl⟩ : ∃ i : Nat, x = (i : Int) := ⟨x.toNat, by omega⟩
  obtain ⟨j, rfl⟩ : ∃ j : Nat, y = (j : Int) := ⟨y.toNat, by omega⟩
  rw [Int.toNat_natCast, Int.toNat_natCast] at hh0 hh1
  refine pj_C71_33 (qf_learnX (d := d) (a := i) (b := i + 1) hD hE (hX.keep (qf_kX.of hm1 (by decide))) hc1 h3 (by omega) (by omega) (fun M2 hm2 hc2 h32 hkn _ => pj_C71_44 ?_))
  have hm02 := hm1.trans hm2 (fun _ q => q)
  refine qf_learnX (d := d) (a := j) (b := j + 1) hD hE (hX.keep (qf_kX.of hm02 (by decide))) hc2 h32 (by omega) (by omega) (fun M3 hm3 hc3 h33 hkn3 hkp => pj_C71_55 ?_)
  have hm := hm02.trans hm3 (fun _ q => q)
  have hX3 := hX.keep (qf_kX.of hm (by decide))
  have eT := hX3.T
  have eW := hX3.W
  have vi : ∀ k, k < 42 → M3 25 (42 * i + k) = (qf_vm D ((qf_sl D).getD i 0) k : Int) := hkp i (by omega) (hkn i (Nat.le_refl _) (by omega))
  have vj : ∀ k, k < 42 → M3 25 (42 * j + k) = (qf_vm D ((qf_sl D).getD j 0) k : Int) := hkn3 j (Nat.le_refl _) (by omega)
  have outer : ∀ (r t : Nat), t + r = qf_dT D → (∀ t' w', w' < qf_dW D → t' < t → ¬ qf_dis D i j t' w') → pj_G L (d + 22) 71 58 [pj_vR 1, pj_vI (i : Int), pj_vI (j : Int), pj_vU, pj_vI (t : Int), pj_vU, pj_vU, pj_vU] [] M3 Q := by
    intro r
    induction r with
    | zero =>
      intro t e a
      obtain rfl : t = qf_dT D := by omega
      exact pj_C71_58 (by omega) (by omega) (fun _ => pj_C71_163 (hh0 (fun t w ht hw => a t w hw ht) M3 hm hc3)) (fun c => by omega)
    | succ r ih =>
      intro t e a
      refine pj_C71_58 (by omega) (by omega) (fun c => by omega) (fun _ => pj_C71_70 ?_)
      have inner : ∀ (q w : Nat), w + q = qf_dW D → (∀ w', w' < w → ¬ qf_dis D i j t w') → pj_G L (d + 22) 71 73 [pj_vR 1, pj_vI (i : Int), pj_vI (j : Int), pj_vU, pj_vI (t : Int), pj_vI (w : Int), pj_vU, pj_vU] [] M3 Q := by
        intro q
        induction q with
        | zero =>
          intro w ew b
          obtain rfl : w = qf_dW D := by omega
          refine pj_C71_73 (by omega) (by omega) (fun _ => pj_C71_157 (ih (t + 1) (by omega) (fun t' w' hw' ht' => ?_))) (fun c => by omega)
          by_cases et : t' = t
          · rw [et]
            exact b w' hw'
          · exact a t' w' hw' (by omega)
        | succ q ih2 =>
          intro w ew b
          have go : ¬ qf_dis D i j t w → pj_G L (d + 22) 71 151 [pj_vR 1, pj_vI (i : Int), pj_vI (j : Int), pj_vU, pj_vI (t : Int), pj_vI (w : Int), pj_vU, pj_vU] [] M3 Q := by
            intro hn
            refine pj_C71_151 (ih2 (w + 1) (by omega) (fun w' hw' => ?_))
            by_cases e2 : w' = w
            · rw [e2]
              exact hn
            · exact b w' (by omega)
          refine pj_C71_73 (by omega) (by omega) (fun c => by omega) (fun _ => pj_C71_85 (42 * i + (14 * t + w)) (42 * j + (14 * t + w)) (by omega) (by omega) (by omega) (by omega) (fun z => go ?_) (fun z => pj_C71_133 (qf_isMeteredX hD hX3 (by omega) (fun hm' => ?_) (fun hm' => ?_))))
          · rw [vi _ (by omega), vj _ (by omega)] at z
            exact fun y => z y.1
          · exact pj_C71_139 (by omega) (fun _ => go (fun y => absurd (hm'.symm.trans y.2) (by decide))) (fun z => absurd z (by decide))
          · rw [vi _ (by omega), vj _ (by omega)] at z
            refine pj_C71_139 (by omega) (fun z => absurd rfl z) (fun _ => pj_C71_142 (hh1 t w ⟨by omega, by omega, ⟨z, hm'⟩, fun t' w' hw' hlt => ?_⟩ M3 hm hc3))
            rcases hlt with g | ⟨rfl, g⟩
            · exact a t' w' hw' g
            · exact b w' g
      exact inner (qf_dW D) 0 (by omega) (fun w' hw' => absurd hw' (by omega))
  exact outer (qf_dT D) 0 (by omega) (fun t' w' _ ht' => absurd ht' (by omega))
theorem qf_apartY (hD : qf_okD D) (hE : qf_okE D) (hY : qf_Y D M) (hc : qf_cY D M) (hr : -2147483648 ≤ x ∧ x < 2147483648) (hr2 : -2147483648 ≤ y ∧ y < 2147483648)
    (hb : ¬ qf_ij D x y → ∀ M', qf_frF M M' → qf_cY D M' → Q (some (pj_vI (-3))) (pj_rfY M' 3))
    (h1 : qf_ij D x y → ∀ t w, qf_fst D x.toNat y.toNat t w → ∀ M', qf_frF M M' → qf_cY D M' → Q (some (pj_vI (100 * (t : Int) + (w : Int)))) M')
    (h0 : qf_ij D x y → (∀ t w, t < qf_dT D → w < qf_dW D → ¬ qf_dis D x.toNat y.toNat t w) → ∀ M', qf_frF M M' → qf_cY D M' → Q (some (pj_vI (-1))) M') : pj_G L (d + 8) 144 0 [pj_vR 38, pj_vI x, pj_vI y, pj_vU, pj_vU, pj_vU] [] M Q := by
  have hb14 := hD.b
  have hl := qf_sl_len D
  refine pj_C144_0 (qf_findY (d := d) hD hE hY hc (fun M3 hm e35 hFY => ?_))
  have hc3 : qf_cY D M3 := Or.inr ⟨e35, hFY⟩
  have e34 := hFY.1
  have no : ¬ qf_ij D x y → pj_G L (d + 8) 144 36 [pj_vR 38, pj_vU, pj_vU, pj_vU, pj_vU, pj_vU] [] M3 Q := fun g3 => pj_C144_36 (pj_no 3 (by decide) (pj_C144_42 (hb g3 M3 hm hc3)))
  refine pj_C144_4 hr (by omega) (pj_isIn (by omega) (by omega) (by omega) (by omega) (by omega) (by omega) ?_)
  by_cases v : 0 ≤ x ∧ x ≤ M3 38 34 - 1
  · rw [if_pos v]
    refine pj_C144_17 (by omega) (fun z => absurd z (by decide)) (fun _ => pj_C144_20 hr2 (by omega) (pj_isIn (by omega) (by omega) (by omega) (by omega) (by omega) (by omega) ?_))
    by_cases v2 : 0 ≤ y ∧ y ≤ M3 38 34 - 1
    · rw [if_pos v2]
      refine pj_C144_33 (by omega) (fun _ => pj_C144_43 ?_) (fun z => absurd z (by decide))
      have hg : qf_ij D x y := ⟨⟨by omega, by omega⟩, ⟨by omega, by omega⟩⟩
      have hh1 := h1 hg
      have hh0 := h0 hg
      clear h1 h0 hb no hg
      obtain ⟨i, rfl⟩ : ∃ i : Nat, x = (i : Int) := ⟨x.toNat, by omega⟩
      obtain ⟨j, rfl⟩ : ∃ j : Nat, y = (j : Int) := ⟨y.toNat, by omega⟩
      rw [Int.toNat_natCast, Int.toNat_natCast] at hh0 hh1
      have hY3 : qf_Y D M3 := hY.far (fun a h1 h2 => hm.1 a (by simp only [List.mem_cons, List.not_mem_nil, or_false, not_or]; omega)) (fun k h1 h2 => hm.2 k (by simp only [List.mem_cons, List.not_mem_nil, or_false, not_or]; omega))
      have eT := hY3.T
      have eW := hY3.W
      have vi : ∀ k, k < 42 → M3 65 (42 * i + k) = (qf_vm D ((qf_sl D).getD i 0) k : Int) := hFY.2.2 i (by omega)
      have vj : ∀ k, k < 42 → M3 65 (42 * j + k) = (qf_vm D ((qf_sl D).getD j 0) k : Int) := hFY.2.2 j (by omega)
      have outer : ∀ (r t : Nat), t + r = qf_dT D → (∀ t' w', w' < qf_dW D → t' < t → ¬ qf_dis D i j t' w') → pj_G L (d + 8) 144 45 [pj_vR 38, pj_vI (i : Int), pj_vI (j : Int), pj_vI (t : Int), pj_vU, pj_vU] [] M3 Q := by
        intro r
        induction r with
        | zero =>
          intro t e a
          obtain rfl : t = qf_dT D := by omega
          exact pj_C144_45 (by omega) (by omega) (fun _ => pj_C144_136 (hh0 (fun t w ht hw => a t w hw ht) M3 hm hc3)) (fun c => by omega)
        | succ r ih =>
          intro t e a
          refine pj_C144_45 (by omega) (by omega) (fun c => by omega) (fun _ => pj_C144_53 ?_)
          have inner : ∀ (q w : Nat), w + q = qf_dW D → (∀ w', w' < w → ¬ qf_dis D i j t w') → pj_G L (d + 8) 144 56 [pj_vR 38, pj_vI (i : Int), pj_vI (j : Int), pj_vI (t : Int), pj_vI (w : Int), pj_vU] [] M3 Q := by
            intro q
            induction q with
            | zero =>
              intro w ew b
              obtain rfl : w = qf_dW D := by omega
              refine pj_C144_56 (by omega) (by omega) (fun _ => pj_C144_130 (ih (t + 1) (by omega) (fun t' w' hw' ht' => ?_))) (fun c => by omega)
              by_cases et : t' = t
              · rw [et]
                exact b w' hw'
              · exact a t' w' hw' (by omega)
            | succ q ih2 =>
              intro w ew b
              have go : ¬ qf_dis D i j t w → pj_G L (d + 8) 144 124 [pj_vR 38, pj_vI (i : Int), pj_vI (j : Int), pj_vI (t : Int), pj_vI (w : Int), pj_vU] [] M3 Q := by
                intro hn
                refine pj_C144_124 (ih2 (w + 1) (by omega) (fun w' hw' => ?_))
                by_cases e2 : w' = w
                · rw [e2]
                  exact hn
                · exact b w' (by omega)
              refine pj_C144_56 (by omega) (by omega) (fun c => by omega) (fun _ => pj_C144_65 (42 * i + (14 * t + w)) (42 * j + (14 * t + w)) (by omega) (by omega) (by omega) (by omega) (fun z => go ?_) (fun z => pj_C144_107 (qf_isMeterY hD hY3 (by omega) (fun hm' => ?_) (fun hm' => ?_))))
              · rw [vi _ (by omega), vj _ (by omega)] at z
                exact fun y => z y.1
              · exact pj_C144_113 (by omega) (fun _ => go (fun y => absurd (hm'.symm.trans y.2) (by decide))) (fun z => absurd z (by decide))
              · rw [vi _ (by omega), vj _ (by omega)] at z
                refine pj_C144_113 (by omega) (fun z => absurd rfl z) (fun _ => pj_C144_116 (hh1 t w ⟨by omega, by omega, ⟨z, hm'⟩, fun t' w' hw' hlt => ?_⟩ M3 hm hc3))
                rcases hlt with g | ⟨rfl, g⟩
                · exact a t' w' hw' g
                · exact b w' g
          exact inner (qf_dW D) 0 (by omega) (fun w' hw' => absurd hw' (by omega))
      exact outer (qf_dT D) 0 (by omega) (fun t' w' _ ht' => absurd ht' (by omega))
    · rw [if_neg v2]
      exact pj_C144_33 (by omega) (fun z => absurd rfl z) (fun _ => no (fun g => by have := g.2; omega))
  · rw [if_neg v]
    exact pj_C144_17 (by omega) (fun _ => no (fun g => by have := g.1; omega)) (fun z => absurd rfl z)
end QFCG
theorem qf_case_worth : pj_Case qf_I 912 := by
  rintro L d Q M x h0 h5 hL ⟨D, hI⟩ go
  obtain ⟨X, rfl⟩ : ∃ X : Nat, x = (X : Int) := ⟨x.toNat, by omega⟩
  have hr := hI.rng (X + 1) (by omega)
  have hr2 := hI.rng (X + 2) (by omega)
  have e1 : pj_nrm ((X : Int) + 1) = ((X + 1 : Nat) : Int) := pj_nk (by omega) (by omega)
  have e2 : pj_nrm ((X : Int) + 2) = ((X + 2 : Nat) : Int) := pj_nk (by omega) (by omega)
  refine pj_B152_912 ⟨by omega, by omega⟩ ⟨by omega, by omega⟩ ?_
  rw [e1, e2, Int.toNat_natCast, Int.toNat_natCast]
  refine qf_worthCX (d := d + 17) hI.ok hI.E hI.X hI.cX hr hr2 (fun hb => ?_) (fun hg M1 hm1 hc1 => ?_)
  · have hw := hI.rfX 3
    refine pj_B152_926 ⟨by omega, by omega⟩ ⟨by omega, by omega⟩ ?_
    have eX : (pj_rfX M 3) 0 = M 0 := rfl
    rw [e1, e2, Int.toNat_natCast, Int.toNat_natCast, eX]
    exact qf_worthCY (d := d + 31) hw.ok hw.E hw.Y hw.cY hr hr2 (fun _ => pj_B152_940 (fun _ => go _ ⟨D, hw.rfY⟩) (fun c => absurd rfl c)) (fun hg _ _ _ => absurd hg hb)
  · have hI1 := hI.qx hm1 hc1
    refine pj_B152_926 ⟨by omega, by omega⟩ ⟨by omega, by omega⟩ ?_
    have eX : M1 0 = M 0 := hm1 0 (by decide)
    rw [e1, e2, Int.toNat_natCast, Int.toNat_natCast, eX]
    exact qf_worthCY (d := d + 31) hI1.ok hI1.E hI1.Y hI1.cY hr hr2 (fun hb => absurd hg hb) (fun _ M2 hm2 hc2 => pj_B152_940 (fun _ => go _ ⟨D, hI1.qy hm2.y.1 hm2.y.2 hc2⟩) (fun c => absurd rfl c))
theorem qf_case_next : pj_Case qf_I 945 := by
  rintro L d Q M x h0 h5 hL ⟨D, hI⟩ go
  refine pj_B152_945 (qf_nextX (d := d + 17) hI.ok hI.E hI.X hI.cX (fun M1 hm1 hc1 => ?_))
  have hI1 := hI.qx hm1 hc1
  exact pj_B152_949 (qf_nextY (d := d + 31) hI1.ok hI1.E hI1.Y hI1.cY (fun M2 hm2 hc2 => pj_B152_953 (fun _ => go _ ⟨D, hI1.qy hm2.y.1 hm2.y.2 hc2⟩) (fun c => absurd rfl c)))
theorem qf_case_apart : pj_Case qf_I 958 := by
  rintro L d Q M x h0 h5 hL ⟨D, hI⟩ go
  obtain ⟨X, rfl⟩ : ∃ X : Nat, x = (X : Int) := ⟨x.toNat, by omega⟩
  have hr := hI.rng (X + 1) (by omega)
  have hr2 := hI.rng (X + 2) (by omega)
  have e1 : pj_nrm ((X : Int) + 1) = ((X + 1 : Nat) : Int) := pj_nk (by omega) (by omega)
  have e2 : pj_nrm ((X : Int) + 2) = ((X + 2 : Nat) : Int) := pj_nk (by omega) (by omega)
  refine pj_B152_958 ⟨by omega, by omega⟩ ⟨by omega, by omega⟩ ?_
  rw [e1, e2, Int.toNat_natCast, Int.toNat_natCast]
  refine qf_apartX (d := d + 17) hI.ok hI.E hI.X hI.cX hr hr2 (fun hb M1 hm1 hc1 => ?_) (fun hg t w hf M1 hm1 hc1 => ?_) (fun hg hn M1 hm1 hc1 => ?_)
  · have hw := (hI.qx hm1 hc1).rfX 3
    refine pj_B152_972 ⟨by omega, by omega⟩ ⟨by omega, by omega⟩ ?_
    have eX : (pj_rfX M1 3) 0 = M 0 := (show M1 0 = M 0 from hm1 0 (by decide))
    rw [e1, e2, Int.toNat_natCast, Int.toNat_natCast, eX]
    exact qf_apartY (d := d + 31) hw.ok hw.E hw.Y hw.cY hr hr2 (fun _ M2 hm2 hc2 => pj_B152_986 (fun _ => go _ ⟨D, (hw.qy hm2.y.1 hm2.y.2 hc2).rfY⟩) (fun c => absurd rfl c)) (fun hg _ _ _ _ _ _ => absurd hg hb) (fun hg _ _ _ _ => absurd hg hb)
  · have hI1 := hI.qx hm1 hc1
    refine pj_B152_972 ⟨by omega, by omega⟩ ⟨by omega, by omega⟩ ?_
    have eX : M1 0 = M 0 := hm1 0 (by decide)
    rw [e1, e2, Int.toNat_natCast, Int.toNat_natCast, eX]
    refine qf_apartY (d := d + 31) hI1.ok hI1.E hI1.Y hI1.cY hr hr2 (fun hb _ _ _ => absurd hg hb) (fun _ t' w' hf' M2 hm2 hc2 => ?_) (fun _ hn _ _ _ => absurd hf.2.2.1 (hn t w hf.1 hf.2.1))
    obtain ⟨rfl, rfl⟩ := qf_fst_one hf hf'
    exact pj_B152_986 (fun _ => go _ ⟨D, hI1.qy hm2.y.1 hm2.y.2 hc2⟩) (fun c => absurd rfl c)
  · have hI1 := hI.qx hm1 hc1
    refine pj_B152_972 ⟨by omega, by omega⟩ ⟨by omega, by omega⟩ ?_
    have eX : M1 0 = M 0 := hm1 0 (by decide)
    rw [e1, e2, Int.toNat_natCast, Int.toNat_natCast, eX]
    exact qf_apartY (d := d + 31) hI1.ok hI1.E hI1.Y hI1.cY hr hr2 (fun hb _ _ _ => absurd hg hb) (fun _ t w hf _ _ _ => absurd hf.2.2.1 (hn t w hf.1 hf.2.1)) (fun _ _ M2 hm2 hc2 => pj_B152_986 (fun _ => go _ ⟨D, hI1.qy hm2.y.1 hm2.y.2 hc2⟩) (fun c => absurd rfl c))
