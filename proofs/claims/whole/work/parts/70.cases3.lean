/-! judge, agrees. -/
section QFCC
variable {L d : Nat} {Q : Option pj_V → pj_M → Prop} {D : qf_D} {M : pj_M} {set : Nat}
theorem qf_set128 (hD : qf_okD D) {x : Int} (h : 0 ≤ x ∧ x < ((2 ^ qf_dP D : Nat) : Int)) : ∃ s : Nat, x = (s : Int) ∧ s < 128 ∧ ∀ p, s.testBit p = true → p < qf_dP D := by
  have hb := hD.b
  have hP7 : 2 ^ qf_dP D ≤ 128 := (Nat.pow_le_pow_right (show 0 < 2 by omega) (show qf_dP D ≤ 7 by omega) : 2 ^ qf_dP D ≤ 2 ^ 7)
  refine ⟨x.toNat, by omega, by omega, fun p hp => Nat.lt_of_not_le (fun z => ?_)⟩
  rw [Nat.testBit_lt_two_pow (Nat.lt_of_lt_of_le (by omega : x.toNat < 2 ^ qf_dP D) (Nat.pow_le_pow_right (by omega) z))] at hp
  cases hp
theorem qf_judgeX (hD : qf_okD D) (hE : qf_okE D) (hX : qf_X D M) (hc : qf_cX D M) {x : Int} (hr : -2147483648 ≤ x ∧ x < 2147483648)
    (hb : ¬ (0 ≤ x ∧ x < ((2 ^ qf_dP D : Nat) : Int)) → Q (some (pj_vI (-3))) (pj_rfX M 3))
    (hn : ∀ s : Nat, x = (s : Int) → s < 128 → (0 ≤ x ∧ x < ((2 ^ qf_dP D : Nat) : Int)) → (∃ p, p < qf_dP D ∧ s.testBit p = true ∧ qf_kd D p = 4) → Q (some (pj_vI (-7))) (pj_rfX M 7))
    (h : ∀ (s : Nat) (M' : pj_M) (j : Int), x = (s : Int) → s < 128 → (0 ≤ x ∧ x < ((2 ^ qf_dP D : Nat) : Int)) → (¬ ∃ p, p < qf_dP D ∧ s.testBit p = true ∧ qf_kd D p = 4) → qf_fr qf_cL M M' → qf_cX D M' → qf_jud D s j → Q (some (pj_vI j)) M') : pj_G L (d + 22) 67 0 [pj_vR 1, pj_vI x, pj_vU] [] M Q := by
  have hb14 := hD.b
  refine pj_C67_0 (qf_arePartsX hD hX hr (fun hin => ?_) (fun hin => ?_))
  · obtain ⟨s, rfl, hs, hsP⟩ := qf_set128 hD hin
    obtain ⟨mt, t1, t2, t3⟩ := hX.mt
    have hand : pj_and (s : Int) (M 7 13) = 0 ↔ ¬ ∃ p, p < qf_dP D ∧ s.testBit p = true ∧ qf_kd D p = 4 := by
      rw [t1, pj_and0]
      constructor
      · rintro z ⟨p, p1, p2, p3⟩
        have := z p (by omega) (by rw [pj_bt_nat p (by omega)]; exact p2)
        rw [pj_bt_nat p (by omega), t3 p, decide_eq_true ⟨p1, p3⟩] at this
        cases this
      · intro z k hk hbit
        rw [pj_bt_nat k (by omega)] at hbit
        rw [pj_bt_nat k (by omega), t3 k]
        exact decide_eq_false (fun y => z ⟨k, y.1, hbit, y.2⟩)
    refine pj_C67_5 (by omega) (fun _ => pj_C67_15 (fun z => pj_C67_34 ?_) (fun z => pj_C67_27 (pj_refuse 7 (by decide) (pj_C67_33 (hn s rfl hs hin ?_))))) (fun z => absurd z (by decide))
    · have hno := hand.mp z
      refine qf_canBeX hD hE hX hc hs (fun hcb M1 hm1 hc1 => ?_) (fun hcb M1 hm1 hc1 => ?_)
      · exact pj_C67_42 (by omega) (fun y => absurd y (by decide)) (fun _ => pj_C67_45 (h s M1 0 rfl hs hin hno hm1 hc1 (Or.inl ⟨rfl, hcb⟩)))
      · refine pj_C67_42 (by omega) (fun _ => pj_C67_47 ?_) (fun y => absurd rfl y)
        have loop : ∀ (r n : Nat) (M2 : pj_M), n + r = qf_dP D → qf_fr qf_cL M M2 → qf_cX D M2 → (∀ p, p < n → s.testBit p = true → qf_CB D (qf_les s p)) → pj_G L (d + 22) 67 49 [pj_vR 1, pj_vI (s : Int), pj_vI (n : Int)] [] M2 Q := by
          intro r
          induction r with
          | zero =>
            intro n M2 e hm2 hc2 a
            have hP := (hX.keep (qf_kX.of hm2 (by decide)) : qf_X D M2).P
            exact pj_C67_49 (by omega) (by omega) (fun _ => pj_C67_93 (h s M2 2 rfl hs hin hno hm2 hc2 (Or.inr (Or.inr ⟨rfl, hcb, fun p hp => a p (by omega)⟩)))) (fun c => by omega)
          | succ r ih =>
            intro n M2 e hm2 hc2 a
            have hX2 : qf_X D M2 := hX.keep (qf_kX.of hm2 (by decide))
            have hP := hX2.P
            refine pj_C67_49 (by omega) (by omega) (fun c => by omega) (fun _ => pj_C67_60 n rfl (by omega) (fun y => pj_C67_87 (ih (n + 1) M2 (by omega) hm2 hc2 (fun p hp hbit => ?_))) (fun y => pj_C67_68 ?_))
            · rw [pj_bt_nat n (by omega)] at y
              have : p ≠ n := fun w => by rw [w, y] at hbit; cases hbit
              exact a p (by omega) hbit
            · rw [pj_bt_nat n (by omega)] at y
              rw [qf_les_eq hs (by omega)]
              refine qf_canBeX hD hE hX2 hc2 qf_les_lt (fun hcb2 M3 hm3 hc3 => ?_) (fun hcb2 M3 hm3 hc3 => ?_)
              · refine pj_C67_82 (by omega) (fun _ => pj_C67_87 (ih (n + 1) M3 (by omega) (hm2.trans hm3 (fun _ w => w)) hc3 (fun p hp hbit => ?_))) (fun w => absurd w (by decide))
                by_cases w : p = n
                · rw [w]; exact hcb2
                · exact a p (by omega) hbit
              · exact pj_C67_82 (by omega) (fun w => absurd rfl w) (fun _ => pj_C67_85 (h s M3 1 rfl hs hin hno (hm2.trans hm3 (fun _ w => w)) hc3 (Or.inr (Or.inl ⟨rfl, hcb, n, by omega, y, hcb2⟩))))
        exact loop (qf_dP D) 0 M1 (by omega) hm1 hc1 (fun p hp => absurd hp (by omega))
    · exact Classical.byContradiction (fun y => z (hand.mpr y))
  · exact pj_C67_5 (by omega) (fun z => absurd rfl z) (fun _ => pj_C67_8 (pj_refuse 3 (by decide) (pj_C67_14 (hb hin))))
theorem qf_agreesX (hD : qf_okD D) (hE : qf_okE D) (hX : qf_X D M) (hc : qf_cX D M) {x : Int} (hr : -2147483648 ≤ x ∧ x < 2147483648)
    (hb : ¬ (0 ≤ x ∧ x < ((2 ^ qf_dP D : Nat) : Int)) → Q (some (pj_vI (-3))) (pj_rfX M 3))
    (hn : ∀ s : Nat, x = (s : Int) → s < 128 → (0 ≤ x ∧ x < ((2 ^ qf_dP D : Nat) : Int)) → (∃ p, p < qf_dP D ∧ s.testBit p = true ∧ qf_mayc D p = false) → Q (some (pj_vI (-7))) (pj_rfX M 7))
    (h : ∀ (s : Nat) (M' : pj_M) (j : Int), x = (s : Int) → s < 128 → (0 ≤ x ∧ x < ((2 ^ qf_dP D : Nat) : Int)) → (¬ ∃ p, p < qf_dP D ∧ s.testBit p = true ∧ qf_mayc D p = false) → qf_fr qf_cL M M' → qf_cX D M' → ((j = 1 ∧ qf_agr D s) ∨ (j = 0 ∧ ¬ qf_agr D s)) → Q (some (pj_vI j)) M') : pj_G L (d + 22) 61 0 [pj_vR 1, pj_vI x] [] M Q := by
  have hb14 := hD.b
  refine pj_C61_0 (qf_arePartsX hD hX hr (fun hin => ?_) (fun hin => ?_))
  · obtain ⟨s, rfl, hs, hsP⟩ := qf_set128 hD hin
    obtain ⟨mt, t1, t2, t3⟩ := hX.mt
    obtain ⟨sb, b1, b2, b3⟩ := hX.sb
    have hand : pj_and (s : Int) (pj_or (M 7 13) (M 7 14)) = 0 ↔ ¬ ∃ p, p < qf_dP D ∧ s.testBit p = true ∧ qf_mayc D p = false := by
      rw [t1, b1, pj_and0]
      constructor
      · rintro z ⟨p, p1, p2, p3⟩
        have := z p (by omega) (by rw [pj_bt_nat p (by omega)]; exact p2)
        rw [pj_bt_or, pj_bt_nat p (by omega), pj_bt_nat p (by omega), t3 p, b3 p, Bool.or_eq_false_iff] at this
        have h1 := of_decide_eq_false this.1
        have h2 := of_decide_eq_false this.2
        have h3 := of_decide_eq_false p3
        have h4 := hE.2.2.2 p (by omega)
        refine h3 ⟨fun y => h1 ⟨p1, y⟩, ?_⟩
        have : ¬ qf_sn D p = 1 := fun y => h2 ⟨by omega, y⟩
        omega
      · intro z k hk hbit
        rw [pj_bt_nat k (by omega)] at hbit
        have hkP := hsP k hbit
        have hm : qf_mayc D k = true := by
          cases hq : qf_mayc D k with
          | true => rfl
          | false => exact absurd ⟨k, hkP, hbit, hq⟩ z
        have hm' := of_decide_eq_true hm
        rw [pj_bt_or, pj_bt_nat k (by omega), pj_bt_nat k (by omega), t3 k, b3 k, Bool.or_eq_false_iff]
        exact ⟨decide_eq_false (fun y => hm'.1 y.2), decide_eq_false (fun y => by have := hm'.2; omega)⟩
    refine pj_C61_5 (by omega) (fun _ => pj_C61_15 (fun z => pj_C61_42 ?_) (fun z => pj_C61_35 (pj_refuse 7 (by decide) (pj_C61_41 (hn s rfl hs hin ?_))))) (fun z => absurd z (by decide))
    · have hno := hand.mp z
      refine qf_doesAgreeX hD hE hX hc hs (fun p hp hbit k4 => hno ⟨p, hp, hbit, decide_eq_false (fun y => y.1 k4)⟩) (fun hag M1 hm1 hc1 => ?_) (fun hag M1 hm1 hc1 => ?_)
      · exact pj_C61_50 (by omega) (fun y => absurd y (by decide)) (fun _ => pj_C61_53 (pj_C61_58 (h s M1 1 rfl hs hin hno hm1 hc1 (Or.inl ⟨rfl, hag⟩))))
      · exact pj_C61_50 (by omega) (fun _ => pj_C61_57 (pj_C61_58 (h s M1 0 rfl hs hin hno hm1 hc1 (Or.inr ⟨rfl, hag⟩)))) (fun y => absurd rfl y)
    · exact Classical.byContradiction (fun y => z (hand.mpr y))
  · exact pj_C61_5 (by omega) (fun z => absurd rfl z) (fun _ => pj_C61_8 (pj_refuse 3 (by decide) (pj_C61_14 (hb hin))))
theorem qf_agreesY2 (hD : qf_okD D) (hE : qf_okE D) (hY : qf_Y D M) {x : Int} (hr : -2147483648 ≤ x ∧ x < 2147483648)
    (hb : ¬ (0 ≤ x ∧ x < ((2 ^ qf_dP D : Nat) : Int)) → Q (some (pj_vI (-3))) (pj_rfY M 3))
    (hn : ∀ s : Nat, x = (s : Int) → s < 128 → (0 ≤ x ∧ x < ((2 ^ qf_dP D : Nat) : Int)) → (∃ p, p < qf_dP D ∧ s.testBit p = true ∧ qf_mayc D p = false) → Q (some (pj_vI (-7))) (pj_rfY M 7))
    (h : ∀ (s : Nat) (M' : pj_M) (j : Int), x = (s : Int) → s < 128 → (0 ≤ x ∧ x < ((2 ^ qf_dP D : Nat) : Int)) → (¬ ∃ p, p < qf_dP D ∧ s.testBit p = true ∧ qf_mayc D p = false) → qf_frA qf_agL M M' → ((j = 1 ∧ qf_agr D s) ∨ (j = 0 ∧ ¬ qf_agr D s)) → Q (some (pj_vI j)) M') : pj_G L (d + 7) 127 0 [pj_vR 38, pj_vI x, pj_vU] [] M Q := by
  have hb14 := hD.b
  have hP := hY.P
  refine pj_C127_0 (qf_isSetY hD hY hr (fun hin => ?_) (fun hin => ?_))
  · obtain ⟨s, rfl, hs, hsP⟩ := qf_set128 hD hin
    refine pj_C127_5 (by omega) (fun _ => pj_C127_15 ?_) (fun z => absurd z (by decide))
    have loop : ∀ (r n : Nat), n + r = qf_dP D → (∀ p, p < n → s.testBit p = true → qf_mayc D p = true) → pj_G L (d + 7) 127 17 [pj_vR 38, pj_vI (s : Int), pj_vI (n : Int)] [] M Q := by
      intro r
      induction r with
      | zero =>
        intro n e a
        have hno : ¬ ∃ p, p < qf_dP D ∧ s.testBit p = true ∧ qf_mayc D p = false := by
          rintro ⟨p, p1, p2, p3⟩
          rw [a p (by omega) p2] at p3
          cases p3
        refine pj_C127_17 (by omega) (by omega) (fun _ => pj_C127_55 (qf_agreesY hD hE hY hs (fun hag M1 hm1 => ?_) (fun hag M1 hm1 => ?_))) (fun c => by omega)
        · exact pj_C127_60 (by omega) (fun y => absurd y (by decide)) (fun _ => pj_C127_63 (pj_C127_68 (h s M1 1 rfl hs hin hno hm1 (Or.inl ⟨rfl, hag⟩))))
        · exact pj_C127_60 (by omega) (fun _ => pj_C127_67 (pj_C127_68 (h s M1 0 rfl hs hin hno hm1 (Or.inr ⟨rfl, hag⟩)))) (fun y => absurd rfl y)
      | succ r ih =>
        intro n e a
        refine pj_C127_17 (by omega) (by omega) (fun c => by omega) (fun _ => pj_C127_25 n rfl (by omega) (fun y => pj_C127_49 (ih (n + 1) (by omega) (fun p hp hbit => ?_))) (fun y => pj_C127_34 ?_))
        · rw [pj_bt_nat n (by omega)] at y
          have : p ≠ n := fun w => by rw [w, y] at hbit; cases hbit
          exact a p (by omega) hbit
        · rw [pj_bt_nat n (by omega)] at y
          refine qf_mayBreakY hD hE hY (by omega) (fun hm => ?_) (fun hm => ?_)
          · refine pj_C127_39 (by omega) (fun _ => pj_C127_49 (ih (n + 1) (by omega) (fun p hp hbit => ?_))) (fun w => absurd w (by decide))
            by_cases w : p = n
            · rw [w]; exact hm
            · exact a p (by omega) hbit
          · exact pj_C127_39 (by omega) (fun w => absurd rfl w) (fun _ => pj_C127_42 (pj_no 7 (by decide) (pj_C127_48 (hn s rfl hs hin ⟨n, by omega, y, hm⟩))))
    exact loop (qf_dP D) 0 (by omega) (fun p hp => absurd hp (by omega))
  · exact pj_C127_5 (by omega) (fun z => absurd rfl z) (fun _ => pj_C127_8 (pj_no 3 (by decide) (pj_C127_14 (hb hin))))
theorem qf_judgeY (hD : qf_okD D) (hE : qf_okE D) (hY : qf_Y D M) {x : Int} (hr : -2147483648 ≤ x ∧ x < 2147483648)
    (hb : ¬ (0 ≤ x ∧ x < ((2 ^ qf_dP D : Nat) : Int)) → Q (some (pj_vI (-3))) (pj_rfY M 3))
    (hn : ∀ s : Nat, x = (s : Int) → s < 128 → (0 ≤ x ∧ x < ((2 ^ qf_dP D : Nat) : Int)) → (∃ p, p < qf_dP D ∧ s.testBit p = true ∧ qf_kd D p = 4) → Q (some (pj_vI (-7))) (pj_rfY M 7))
    (h : ∀ (s : Nat) (M' : pj_M) (j : Int), x = (s : Int) → s < 128 → (0 ≤ x ∧ x < ((2 ^ qf_dP D : Nat) : Int)) → (¬ ∃ p, p < qf_dP D ∧ s.testBit p = true ∧ qf_kd D p = 4) → qf_frA qf_quL M M' → qf_jud D s j → Q (some (pj_vI j)) M') : pj_G L (d + 8) 137 0 [pj_vR 38, pj_vI x] [] M Q := by
  refine pj_C137_0 (qf_isSetY hD hY hr (fun hin => ?_) (fun hin => ?_))
  · obtain ⟨s, rfl, hs, hsP⟩ := qf_set128 hD hin
    refine pj_C137_5 (by omega) (fun _ => pj_C137_15 (qf_hasMeterY hD hY hs (fun hm => ?_) (fun hm => ?_))) (fun z => absurd z (by decide))
    · exact pj_C137_20 (by omega) (fun z => absurd z (by decide)) (fun _ => pj_C137_23 (pj_no 7 (by decide) (pj_C137_29 (pj_C137_37 (hn s rfl hs hin hm)))))
    · exact pj_C137_20 (by omega) (fun _ => pj_C137_32 (qf_judgedY hD hE hY hs (fun M1 j hm1 hj => pj_C137_37 (h s M1 j rfl hs hin hm hm1 hj)))) (fun z => absurd rfl z)
  · exact pj_C137_5 (by omega) (fun z => absurd rfl z) (fun _ => pj_C137_8 (pj_no 3 (by decide) (pj_C137_14 (hb hin))))
theorem qf_frA.y {l : List Nat} {M M' : pj_M} (h : qf_frA l M M') (hl : ∀ a ∈ l, a ∈ [38, 57, 58, 59, 60, 61]) : qf_fr qf_yL M M' ∧ qf_fs 38 [23, 24, 34, 35, 36] M M' ∧ ∀ D, qf_cY D M → qf_cY D M' := ⟨h.1.wide (fun a ha => by have := hl a ha; simp only [List.mem_cons, List.not_mem_nil, or_false] at this ⊢; omega), fun k hk => h.2 k (by simp only [List.mem_cons, List.not_mem_nil, or_false, not_or] at hk ⊢; omega), fun D hc => hc.far (h.2 34 (by decide)) (h.2 35 (by decide)) (h.1 64 (fun z => absurd (hl 64 z) (by decide))) (h.1 65 (fun z => absurd (hl 65 z) (by decide)))⟩
end QFCC
theorem qf_case_judge : pj_Case qf_I 846 := by
  rintro L d Q M x h0 h5 hL ⟨D, hI⟩ go
  obtain ⟨X, rfl⟩ : ∃ X : Nat, x = (X : Int) := ⟨x.toNat, by omega⟩
  have hr := hI.rng (X + 1) (by omega)
  have e1 : pj_nrm ((X : Int) + 1) = ((X + 1 : Nat) : Int) := pj_nk (by omega) (by omega)
  refine pj_B152_846 ⟨by omega, by omega⟩ ?_
  rw [e1, Int.toNat_natCast]
  refine qf_judgeX (d := d + 17) hI.ok hI.E hI.X hI.cX hr (fun hb => ?_) (fun s es hs hin hm => ?_) (fun s M1 j es hs hin hm hm1 hc1 hj => ?_)
  · have hw := hI.rfX 3
    refine pj_B152_855 ⟨by omega, by omega⟩ ?_
    have e0 : (pj_rfX M 3) 0 (X + 1) = M 0 (X + 1) := rfl
    rw [e1, Int.toNat_natCast, e0]
    refine qf_judgeY (d := d + 31) hw.ok hw.E hw.Y hr (fun _ => pj_B152_864 (fun _ => go _ ⟨D, hw.rfY⟩) (fun c => absurd rfl c)) (fun s es hs hin _ => absurd hin hb) (fun s M1 j es hs hin _ _ _ => absurd hin hb)
  · have hw := hI.rfX 7
    refine pj_B152_855 ⟨by omega, by omega⟩ ?_
    have e0 : (pj_rfX M 7) 0 (X + 1) = M 0 (X + 1) := rfl
    rw [e1, Int.toNat_natCast, e0]
    refine qf_judgeY (d := d + 31) hw.ok hw.E hw.Y hr (fun hb => absurd hin hb) (fun s' _ _ _ _ => pj_B152_864 (fun _ => go _ ⟨D, hw.rfY⟩) (fun c => absurd rfl c)) (fun s' M1 j es' hs' _ hm' _ _ => ?_)
    obtain rfl : s' = s := by omega
    exact absurd hm hm'
  · have hI1 := hI.qx hm1 hc1
    refine pj_B152_855 ⟨by omega, by omega⟩ ?_
    have e0 : M1 0 (X + 1) = M 0 (X + 1) := by rw [hm1 0 (by decide)]
    rw [e1, Int.toNat_natCast, e0]
    refine qf_judgeY (d := d + 31) hI1.ok hI1.E hI1.Y hr (fun hb => absurd hin hb) (fun s' es' hs' _ hm' => ?_) (fun s' M2 j' es' hs' _ hm' hm2 hj' => ?_)
    · obtain rfl : s' = s := by omega
      exact absurd hm' hm
    · obtain rfl : s' = s := by omega
      rw [qf_jud_uni hj' hj]
      obtain ⟨q1, q2, q3⟩ := hm2.y (by decide)
      exact pj_B152_864 (fun _ => go M2 ⟨D, hI1.qy q1 q2 (q3 D hI1.cY)⟩) (fun c => absurd rfl c)
theorem qf_case_agrees : pj_Case qf_I 700 := by
  rintro L d Q M x h0 h5 hL ⟨D, hI⟩ go
  obtain ⟨X, rfl⟩ : ∃ X : Nat, x = (X : Int) := ⟨x.toNat, by omega⟩
  have hr := hI.rng (X + 1) (by omega)
  have e1 : pj_nrm ((X : Int) + 1) = ((X + 1 : Nat) : Int) := pj_nk (by omega) (by omega)
  refine pj_B152_700 ⟨by omega, by omega⟩ ?_
  rw [e1, Int.toNat_natCast]
  refine qf_agreesX (d := d + 17) hI.ok hI.E hI.X hI.cX hr (fun hb => ?_) (fun s es hs hin hm => ?_) (fun s M1 j es hs hin hm hm1 hc1 hj => ?_)
  · have hw := hI.rfX 3
    refine pj_B152_709 ⟨by omega, by omega⟩ ?_
    have e0 : (pj_rfX M 3) 0 (X + 1) = M 0 (X + 1) := rfl
    rw [e1, Int.toNat_natCast, e0]
    refine qf_agreesY2 (d := d + 32) hw.ok hw.E hw.Y hr (fun _ => pj_B152_718 (fun _ => go _ ⟨D, hw.rfY⟩) (fun c => absurd rfl c)) (fun s es hs hin _ => absurd hin hb) (fun s M1 j es hs hin _ _ _ => absurd hin hb)
  · have hw := hI.rfX 7
    refine pj_B152_709 ⟨by omega, by omega⟩ ?_
    have e0 : (pj_rfX M 7) 0 (X + 1) = M 0 (X + 1) := rfl
    rw [e1, Int.toNat_natCast, e0]
    refine qf_agreesY2 (d := d + 32) hw.ok hw.E hw.Y hr (fun hb => absurd hin hb) (fun s' _ _ _ _ => pj_B152_718 (fun _ => go _ ⟨D, hw.rfY⟩) (fun c => absurd rfl c)) (fun s' M1 j es' hs' _ hm' _ _ => ?_)
    obtain rfl : s' = s := by omega
    exact absurd hm hm'
  · have hI1 := hI.qx hm1 hc1
    refine pj_B152_709 ⟨by omega, by omega⟩ ?_
    have e0 : M1 0 (X + 1) = M 0 (X + 1) := by rw [hm1 0 (by decide)]
    rw [e1, Int.toNat_natCast, e0]
    refine qf_agreesY2 (d := d + 32) hI1.ok hI1.E hI1.Y hr (fun hb => absurd hin hb) (fun s' es' hs' _ hm' => ?_) (fun s' M2 j' es' hs' _ hm' hm2 hj' => ?_)
    · obtain rfl : s' = s := by omega
      exact absurd hm' hm
    · obtain rfl : s' = s := by omega
      have ej : j' = j := by
        rcases hj with ⟨a, b⟩ | ⟨a, b⟩ <;> rcases hj' with ⟨a', b'⟩ | ⟨a', b'⟩
        · omega
        · exact absurd b b'
        · exact absurd b' b
        · omega
      rw [ej]
      obtain ⟨q1, q2, q3⟩ := hm2.y (by decide)
      exact pj_B152_718 (fun _ => go M2 ⟨D, hI1.qy q1 q2 (q3 D hI1.cY)⟩) (fun c => absurd rfl c)
