/-! sound. -/
section QFSO
variable {L d : Nat} {Q : Option pj_V → pj_M → Prop} {D : qf_D} {M : pj_M} {x : Int} {b : Nat}
theorem qf_or2 {a b : Nat} (ha : a < 128) (hb : b < 128) : ∃ s : Nat, pj_or (a : Int) (b : Int) = (s : Int) ∧ s < 128 ∧ ∀ k, s.testBit k = (a.testBit k || b.testBit k) := by
  have bits : ∀ k, k < 32 → pj_bt (pj_or (a : Int) (b : Int)) k = (a.testBit k || b.testBit k) := by
    intro k hk
    rw [pj_bt_or, pj_bt_nat k (by omega), pj_bt_nat k (by omega)]
  have hi : ∀ c : Nat, c < 128 → ∀ k, 7 ≤ k → c.testBit k = false := fun c hc k hk => Nat.testBit_lt_two_pow (Nat.lt_of_lt_of_le (by omega : c < 2 ^ 7) (Nat.pow_le_pow_right (by omega) hk))
  obtain ⟨s, s1, s2⟩ := pj_bt_small (n := 7) (by omega) (pj_or_rng _ _).1 (pj_or_rng _ _).2 (fun k h1 h2 => by rw [bits k h2, hi a ha k h1, hi b hb k h1]; rfl)
  refine ⟨s, s1, s2, fun k => ?_⟩
  by_cases hk : k < 32
  · have := bits k hk
    rw [s1, pj_bt_nat k (by omega)] at this
    exact this
  · rw [hi a ha k (by omega), hi b hb k (by omega), hi s s2 k (by omega)]
    rfl
def qf_w_sound (D : qf_D) (x : Int) : Nat := if x < 0 ∨ (qf_dP D : Int) ≤ x then 3 else if qf_kd D x.toNat = 4 then 5 else 0
theorem qf_soundX (hD : qf_okD D) (hE : qf_okE D) (hX : qf_X D M) (hx : -2147483648 ≤ x ∧ x < 2147483648) (hb1 : b ≤ 1)
    (hb : ∀ w : Nat, w ≠ 0 → qf_w_sound D x = w → Q (some (pj_vI (-(w : Int)))) (pj_rfX M w))
    (h : qf_w_sound D x = 0 → ∀ p s : Nat, x = (p : Int) → p < qf_dP D → s < 128 → (∀ k, s.testBit k = decide (k < 7 ∧ qf_ud D 14 p b 14 k = 1)) → Q (some (pj_vI (qf_sn D p : Int))) (qf_fgX (pj_up M 7 14 (s : Int)))) : pj_G L (d + 1) 53 0 [pj_vR 1, pj_vI x, pj_vI (b : Int), pj_vU, pj_vU] [] M Q := by
  have hb14 := hD.b
  refine pj_C53_0 (qf_isPartX hD hX hx (fun p ep hp => pj_C53_5 (by omega) (fun _ => ?_) (fun z => absurd z (by decide))) (fun hno => pj_C53_5 (by omega) (fun z => absurd rfl z) (fun _ => pj_C53_8 (pj_refuse 3 (by decide) (pj_C53_14 (hb 3 (by decide) (if_pos (qf_out hno))))))))
  subst ep
  have ek := hX.kd p hp
  have hpt := hD.pt p hp
  refine pj_C53_15 p rfl (by omega) (by omega) (fun hw => ?_) (fun hw => pj_C53_28 (pj_refuse 5 (by decide) (pj_C53_34 (hb 5 (by decide) ((if_neg (by omega)).trans (if_pos (show qf_kd D p = 4 by omega)))))))
  have e0 : qf_w_sound D (p : Int) = 0 := (if_neg (by omega)).trans (if_neg (show ¬ qf_kd D p = 4 by omega))
  obtain ⟨m, m1, m2, m3⟩ := hX.sb
  have h1 := hE.2.2.2 p (by omega)
  have e : (if decide (p < 7 ∧ qf_sn D p = 1) = true then (1 : Int) else 0) = (qf_sn D p : Int) := by
    by_cases w : qf_sn D p = 1
    · rw [if_pos (decide_eq_true ⟨by omega, w⟩), w]; rfl
    · rw [if_neg (fun v => w (of_decide_eq_true v).2)]; omega
  have h2p : (2 : Nat) ^ p < 128 := Nat.pow_lt_pow_right (m := p) (n := 7) (a := 2) (by omega) (by omega)
  have hi : ∀ c : Nat, c < 128 → ∀ k, 7 ≤ k → c.testBit k = false := fun c hc k hk => Nat.testBit_lt_two_pow (Nat.lt_of_lt_of_le (by omega : c < 2 ^ 7) (Nat.pow_le_pow_right (by omega) hk))
  have lb : ∀ k, k < 7 → k ≠ p → (qf_les m p).testBit k = decide (k < 7 ∧ qf_sn D k = 1) := by
    intro k hk hkp
    rw [qf_les_bit hk, decide_eq_true hkp, Bool.and_true, m3 k]
  have lp : (qf_les m p).testBit p = false := by
    rw [qf_les_bit (by omega), decide_eq_false (fun z => z rfl), Bool.and_false]
  refine pj_C53_35 (by omega) (fun z => pj_C53_79 (pj_C53_81 (qf_forgetX (pj_C53_91 ?_)))) (fun z => pj_C53_70 (pj_C53_81 (qf_forgetX (pj_C53_91 ?_))))
  · rw [m1, pj_bit1 _ rfl (by omega), pj_bt_nat p (by omega), m3 p, e, qf_les_eq m2 (by omega)]
    refine h e0 p (qf_les m p) rfl hp qf_les_lt (fun k => ?_)
    by_cases hk : k < 7
    · by_cases hkp : k = p
      · subst hkp
        rw [lp, qf_ud_same]
        exact (decide_eq_false (by omega)).symm
      · rw [lb k hk hkp, qf_ud_slot hkp]
    · rw [hi _ qf_les_lt k (by omega)]
      exact (decide_eq_false (fun y => hk y.1)).symm
  · rw [m1, pj_bit1 _ rfl (by omega), pj_bt_nat p (by omega), m3 p, e, qf_les_eq m2 (by omega), pj_shl1_nat (by omega)]
    obtain ⟨s, s1, s2, s3⟩ := qf_or2 (a := qf_les m p) qf_les_lt h2p
    rw [s1]
    refine h e0 p s rfl hp s2 (fun k => ?_)
    rw [s3 k, Nat.testBit_two_pow]
    by_cases hk : k < 7
    · by_cases hkp : k = p
      · subst hkp
        rw [decide_eq_true rfl, Bool.or_true, qf_ud_same]
        exact (decide_eq_true ⟨hk, by omega⟩).symm
      · rw [lb k hk hkp, qf_ud_slot hkp, decide_eq_false (show ¬ p = k from fun y => hkp y.symm), Bool.or_false]
    · rw [hi _ qf_les_lt k (by omega), decide_eq_false (show ¬ p = k by omega)]
      exact (decide_eq_false (fun y => hk y.1)).symm
theorem qf_soundY (hD : qf_okD D) (hE : qf_okE D) (hY : qf_Y D M) (hx : -2147483648 ≤ x ∧ x < 2147483648) (hb1 : b ≤ 1)
    (hb : ∀ w : Nat, w ≠ 0 → qf_w_sound D x = w → Q (some (pj_vI (-(w : Int)))) (pj_rfY M w))
    (h : qf_w_sound D x = 0 → ∀ p : Nat, x = (p : Int) → p < qf_dP D → Q (some (pj_vI (qf_sn D p : Int))) (qf_fgY (pj_up M 52 p (b : Int)))) : pj_G L (d + 1) 98 0 [pj_vR 38, pj_vI x, pj_vI (b : Int), pj_vU] [] M Q := by
  have hb14 := hD.b
  refine pj_C98_0 (qf_isPartY hD hY hx (fun p ep hp => pj_C98_5 (by omega) (fun _ => ?_) (fun z => absurd z (by decide))) (fun hno => pj_C98_5 (by omega) (fun z => absurd rfl z) (fun _ => pj_C98_8 (pj_no 3 (by decide) (pj_C98_14 (hb 3 (by decide) (if_pos (qf_out hno))))))))
  subst ep
  have ek := hY.kd p hp
  have hpt := hD.pt p hp
  refine pj_C98_15 p rfl (by omega) (by omega) (fun hw => ?_) (fun hw => pj_C98_25 (pj_no 5 (by decide) (pj_C98_31 (hb 5 (by decide) ((if_neg (by omega)).trans (if_pos (show qf_kd D p = 4 by omega)))))))
  have e0 : qf_w_sound D (p : Int) = 0 := (if_neg (by omega)).trans (if_neg (show ¬ qf_kd D p = 4 by omega))
  have es := hY.sn p (by omega)
  have h1 := hE.2.2.2 p (by omega)
  have ans := h e0 p rfl hp
  refine pj_C98_32 p rfl (by omega) (by omega) (fun z => pj_C98_45 (pj_C98_46 p (by omega) rfl (by omega) ?_)) (fun z => pj_C98_41 (pj_C98_46 p (by omega) rfl (by omega) ?_))
  · rw [show (qf_sn D p : Int) = 0 by omega] at ans
    exact ans
  · rw [show (qf_sn D p : Int) = 1 by omega] at ans
    exact ans
theorem qf_okD.sound (hD : qf_okD D) {p : Nat} (hb1 : b ≤ 1) : qf_okD (qf_ud D 14 p b) := by
  refine ⟨hD.b, hD.rg, hD.dv, fun q hq => ?_, hD.tb, hD.np, hD.st, hD.ts, hD.s2, hD.lk, hD.l2, hD.or, hD.os, hD.oe⟩
  obtain ⟨a1, a2, a3, a4, a5, a6, a7, a8, a9, a10, a11⟩ := hD.pt q hq
  have e : qf_sn (qf_ud D 14 p b) q = if q = p then b else qf_sn D q := qf_ud_if
  refine ⟨a1, a2, a3, a4, a5, a6, a7, a8, a9, a10, ?_⟩
  rw [e]
  split <;> omega
theorem qf_okE.sound (hE : qf_okE D) {p : Nat} (hp : p < qf_dP D) (hb1 : b ≤ 1) : qf_okE (qf_ud D 14 p b) := by
  have e : ∀ q, qf_sn (qf_ud D 14 p b) q = if q = p then b else qf_sn D q := fun q => qf_ud_if
  refine ⟨hE.1, fun q hq hPq => ?_, hE.2.2.1, fun q hq => ?_⟩
  · have hPq' : qf_dP D ≤ q := hPq
    rw [e q, if_neg (by omega)]
    exact hE.2.1 q hq hPq'
  · have := hE.2.2.2 q hq
    rw [e q]
    split <;> omega
theorem qf_X.sound (h : qf_X D M) {p s : Nat} (s2 : s < 128) (s3 : ∀ k, s.testBit k = decide (k < 7 ∧ qf_ud D 14 p b 14 k = 1)) : qf_X (qf_ud D 14 p b) (pj_up M 7 14 (s : Int)) := ⟨h.W, h.P, h.S, h.T, h.K, h.rg, h.dv, h.pr, h.np, h.kd, h.wk, h.wo, h.dx, h.dy, h.tb, h.wy, h.od, h.st, h.md, h.or, h.mt, ⟨s, pj_up_same, s2, s3⟩, h.pl, h.sv, h.no⟩
theorem qf_Y.sound (h : qf_Y D M) {p : Nat} : qf_Y (qf_ud D 14 p b) (pj_up M 52 p (b : Int)) := ⟨h.W, h.P, h.S, h.T, h.K, h.rg, h.dv, h.pr, h.np, h.kd, h.wk, h.wo, h.dx, h.dy, h.tb, h.wy, h.od, h.st, qf_putc h.sn, h.lt, h.lw, h.lv⟩
end QFSO
theorem qf_case_sound : pj_Case qf_I 460 := by
  rintro L d Q M x h0 h5 hL ⟨D, hI⟩ go
  obtain ⟨X, rfl⟩ : ∃ X : Nat, x = (X : Int) := ⟨x.toNat, by omega⟩
  have hr := hI.rng (X + 1) (by omega)
  have hr2 := hI.rng (X + 2) (by omega)
  have main : ∀ b : Nat, (b = 0 ∧ M 0 (X + 2) = 0) ∨ (b = 1 ∧ M 0 (X + 2) ≠ 0) → pj_G L (d + 40) 152 479 [pj_vR 0, pj_vR 1, pj_vR 38, pj_vI (X : Int)] [pj_vI (b : Int), pj_vI (M 0 (X + 1)), pj_vR 1] M Q := by
    intro b hb
    have hb1 : b ≤ 1 := by omega
    have tail : ∀ (M1 : pj_M) (s0 : Int), M1 0 = M 0 → pj_G L (d + 40) 152 501 [pj_vR 0, pj_vR 1, pj_vR 38, pj_vI (X : Int)] [pj_vI (b : Int), pj_vI (M 0 (X + 1)), pj_vR 38, pj_vI s0] M1 Q → pj_G L (d + 40) 152 482 [pj_vR 0, pj_vR 1, pj_vR 38, pj_vI (X : Int)] [pj_vI s0] M1 Q := by
      intro M1 s0 e0 k
      rw [← e0] at k
      refine pj_C152_482 (X + 1) (X + 2) hL (by omega) (by omega) (by omega) (by omega) (by rw [e0]; exact hr2) (fun z => pj_C152_500 ?_) (fun z => pj_C152_496 ?_)
      · rw [e0] at z
        obtain rfl : b = 0 := by omega
        exact k
      · rw [e0] at z
        obtain rfl : b = 1 := by omega
        exact k
    refine pj_C152_479 (qf_soundX (d := d + 38) hI.ok hI.E hI.X hr hb1 (fun w hw0 ew => ?_) (fun e0 p s ep hp s2 s3 => ?_))
    · have hw := hI.rfX w
      refine tail _ _ rfl (pj_C152_501 ?_)
      refine qf_soundY (d := d + 38) hw.ok hw.E hw.Y hr hb1 (fun w' _ ew' => ?_) (fun e0 => absurd (ew.symm.trans e0) hw0)
      obtain rfl : w' = w := ew'.symm.trans ew
      exact pj_B152_504 (fun _ => go _ ⟨D, hw.rfY⟩) (fun c => absurd rfl c)
    · have f1 : ∀ a, a < 2 ∨ 22 < a → (qf_fgX (pj_up M 7 14 (s : Int))) a = M a := fun a ha => (qf_fgX_ne (by omega)).trans (pj_up_ne (by omega))
      have hY1 := hI.Y.offX f1
      refine tail _ _ (f1 0 (by omega)) (pj_C152_501 ?_)
      refine qf_soundY (d := d + 38) hI.ok hI.E hY1 hr hb1 (fun w' hw' ew' => absurd (ew'.symm.trans e0) hw') (fun _ p' ep' _ => ?_)
      obtain rfl : p' = p := by omega
      exact pj_B152_504 (fun _ => go _ ⟨_, hI.new (hI.ok.sound hb1) (hI.E.sound hp hb1) (hI.X.sound s2 s3).fg (hY1.sound (p := p') (b := b)).fg f1 qf_fgX_z (fun a ha => (qf_fgY_ne (by omega)).trans (pj_up_ne (by omega))) (by rw [qf_fgY, pj_up_slot (by decide), pj_up_ne (by decide)]) pj_up_same⟩) (fun c => absurd rfl c)
  exact pj_C152_460 (X + 1) (X + 2) hL (by omega) (by omega) (by omega) (by omega) hr2 (fun z => pj_C152_478 (main 0 (Or.inl ⟨rfl, z⟩))) (fun z => pj_C152_474 (main 1 (Or.inr ⟨rfl, z⟩)))
