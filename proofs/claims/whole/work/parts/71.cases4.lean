/-! look, count, row, status. -/
section QFCD
variable {L d : Nat} {Q : Option pj_V → pj_M → Prop} {D : qf_D} {M : pj_M} {x y : Int}
theorem qf_isPartX (hD : qf_okD D) (hX : qf_X D M) (hr : -2147483648 ≤ x ∧ x < 2147483648) (h1 : ∀ p : Nat, x = (p : Int) → p < qf_dP D → Q (some (pj_vI 1)) M) (h0 : (∀ p : Nat, x = (p : Int) → ¬ p < qf_dP D) → Q (some (pj_vI 0)) M) : pj_G L d 79 0 [pj_vR 1, pj_vI x] [] M Q := by
  have hb := hD.b
  have hc := hX.P
  refine pj_isPartX hr.1 hr.2 (by omega) (by omega) ?_
  by_cases z : 0 ≤ x ∧ x < M 7 0
  · rw [if_pos z]
    exact h1 x.toNat (by omega) (by omega)
  · rw [if_neg z]
    exact h0 (fun p hp hlt => z (by omega))
theorem qf_isWireX (hD : qf_okD D) (hX : qf_X D M) (hr : -2147483648 ≤ x ∧ x < 2147483648) (h1 : ∀ p : Nat, x = (p : Int) → p < qf_dW D → Q (some (pj_vI 1)) M) (h0 : (∀ p : Nat, x = (p : Int) → ¬ p < qf_dW D) → Q (some (pj_vI 0)) M) : pj_G L d 78 0 [pj_vR 1, pj_vI x] [] M Q := by
  have hb := hD.b
  have hc := hX.W
  refine pj_isWireX hr.1 hr.2 (by omega) (by omega) ?_
  by_cases z : 0 ≤ x ∧ x < M 2 0
  · rw [if_pos z]
    exact h1 x.toNat (by omega) (by omega)
  · rw [if_neg z]
    exact h0 (fun p hp hlt => z (by omega))
theorem qf_isTickX (hD : qf_okD D) (hX : qf_X D M) (hr : -2147483648 ≤ x ∧ x < 2147483648) (h1 : ∀ p : Nat, x = (p : Int) → p < qf_dT D → Q (some (pj_vI 1)) M) (h0 : (∀ p : Nat, x = (p : Int) → ¬ p < qf_dT D) → Q (some (pj_vI 0)) M) : pj_G L d 80 0 [pj_vR 1, pj_vI x] [] M Q := by
  have hb := hD.b
  have hc := hX.T
  refine pj_isTickX hr.1 hr.2 (by omega) (by omega) ?_
  by_cases z : 0 ≤ x ∧ x < M 2 1
  · rw [if_pos z]
    exact h1 x.toNat (by omega) (by omega)
  · rw [if_neg z]
    exact h0 (fun p hp hlt => z (by omega))
theorem qf_isPartY (hD : qf_okD D) (hY : qf_Y D M) (hr : -2147483648 ≤ x ∧ x < 2147483648) (h1 : ∀ p : Nat, x = (p : Int) → p < qf_dP D → Q (some (pj_vI 1)) M) (h0 : (∀ p : Nat, x = (p : Int) → ¬ p < qf_dP D) → Q (some (pj_vI 0)) M) : pj_G L d 88 0 [pj_vR 38, pj_vI x] [] M Q := by
  have hb := hD.b
  have hc := hY.P
  refine pj_isPartY hr.1 hr.2 (by omega) (by omega) ?_
  by_cases z : 0 ≤ x ∧ x < M 38 18
  · rw [if_pos z]
    exact h1 x.toNat (by omega) (by omega)
  · rw [if_neg z]
    exact h0 (fun p hp hlt => z (by omega))
theorem qf_isWireY (hD : qf_okD D) (hY : qf_Y D M) (hr : -2147483648 ≤ x ∧ x < 2147483648) (h1 : ∀ p : Nat, x = (p : Int) → p < qf_dW D → Q (some (pj_vI 1)) M) (h0 : (∀ p : Nat, x = (p : Int) → ¬ p < qf_dW D) → Q (some (pj_vI 0)) M) : pj_G L d 87 0 [pj_vR 38, pj_vI x] [] M Q := by
  have hb := hD.b
  have hc := hY.W
  refine pj_isWireY hr.1 hr.2 (by omega) (by omega) ?_
  by_cases z : 0 ≤ x ∧ x < M 38 17
  · rw [if_pos z]
    exact h1 x.toNat (by omega) (by omega)
  · rw [if_neg z]
    exact h0 (fun p hp hlt => z (by omega))
theorem qf_isTickY (hD : qf_okD D) (hY : qf_Y D M) (hr : -2147483648 ≤ x ∧ x < 2147483648) (h1 : ∀ p : Nat, x = (p : Int) → p < qf_dT D → Q (some (pj_vI 1)) M) (h0 : (∀ p : Nat, x = (p : Int) → ¬ p < qf_dT D) → Q (some (pj_vI 0)) M) : pj_G L d 89 0 [pj_vR 38, pj_vI x] [] M Q := by
  have hb := hD.b
  have hc := hY.T
  refine pj_isTickY hr.1 hr.2 (by omega) (by omega) ?_
  by_cases z : 0 ≤ x ∧ x < M 38 20
  · rw [if_pos z]
    exact h1 x.toNat (by omega) (by omega)
  · rw [if_neg z]
    exact h0 (fun p hp hlt => z (by omega))
/-- what look tells -/
def qf_lk (D : qf_D) (p : Nat) (w : Int) : Int := if w = 0 then (qf_kd D p : Int) else if w = 1 then (qf_wk D p : Int) else if w = 2 then (qf_wo D p : Int) else if w = 3 then (if qf_kd D p = 3 then -1 else (qf_dx D p : Int)) else if w = 4 then (if qf_kd D p ≤ 2 then (qf_dy D p : Int) else -1) else if w = 5 then (qf_wy D p : Int) else if w = 6 then (qf_od D p : Int) else (qf_sn D p : Int)
theorem qf_lookX (hD : qf_okD D) (hE : qf_okE D) (hX : qf_X D M) (hr : -2147483648 ≤ x ∧ x < 2147483648) (hr2 : -2147483648 ≤ y ∧ y < 2147483648)
    (hb : (∀ p : Nat, x = (p : Int) → ¬ p < qf_dP D) → Q (some (pj_vI (-3))) (pj_rfX M 3)) (hn : ∀ p : Nat, x = (p : Int) → p < qf_dP D → ¬ (0 ≤ y ∧ y ≤ 7) → Q (some (pj_vI (-7))) (pj_rfX M 7)) (h : ∀ p : Nat, x = (p : Int) → p < qf_dP D → (0 ≤ y ∧ y ≤ 7) → Q (some (pj_vI (qf_lk D p y))) M) : pj_G L (d + 1) 54 0 [pj_vR 1, pj_vI x, pj_vI y] [] M Q := by
  have hb14 := hD.b
  refine pj_C54_0 (qf_isPartX hD hX hr (fun p hp hlt => ?_) (fun hno => pj_C54_5 (by omega) (fun z => absurd rfl z) (fun _ => pj_C54_8 (pj_refuse 3 (by decide) (pj_C54_14 (hb hno))))))
  have ok := h p hp hlt
  refine pj_C54_5 (by omega) (fun _ => pj_C54_15 hr2 (fun z => pj_C54_64 p hp (by omega) (by rw [hX.kd p hlt]; have := ok (by omega); rw [z] at this; exact this)) (fun z => pj_C54_74 p hp (by omega) (by rw [hX.wk p hlt]; have := ok (by omega); rw [z] at this; exact this)) (fun z => pj_C54_84 p hp (by omega) (by rw [hX.wo p hlt]; have := ok (by omega); rw [z] at this; exact this)) (fun z => pj_C54_94 p hp (by omega) (by rw [hX.dx p hlt]; have := ok (by omega); rw [z] at this; exact this)) (fun z => pj_C54_104 p hp (by omega) (by rw [hX.dy p hlt]; have := ok (by omega); rw [z] at this; exact this)) (fun z => pj_C54_114 p hp (by omega) (by rw [hX.wy p hlt]; have := ok (by omega); rw [z] at this; exact this)) (fun z => pj_C54_124 p hp (by omega) (by rw [hX.od p hlt]; have := ok (by omega); rw [z] at this; exact this)) (fun z => pj_C54_134 (by
    have := ok (by omega)
    rw [z] at this
    obtain ⟨m, m1, m2, m3⟩ := hX.sb
    have h1 := hE.2.2.2 p (by omega)
    rw [m1, pj_bit1 _ hp (by omega), pj_bt_nat p (by omega), m3 p]
    have e : (if decide (p < 7 ∧ qf_sn D p = 1) = true then (1 : Int) else 0) = (qf_sn D p : Int) := by
      by_cases w : qf_sn D p = 1
      · rw [if_pos (decide_eq_true ⟨by omega, w⟩), w]; rfl
      · rw [if_neg (fun v => w (of_decide_eq_true v).2)]; omega
    rw [e]
    exact this)) (fun z => pj_C54_146 (pj_refuse 7 (by decide) (pj_C54_152 (hn p hp hlt (by omega)))))) (fun z => absurd z (by decide))
theorem qf_lookY (hD : qf_okD D) (hE : qf_okE D) (hY : qf_Y D M) (hr : -2147483648 ≤ x ∧ x < 2147483648) (hr2 : -2147483648 ≤ y ∧ y < 2147483648)
    (hb : (∀ p : Nat, x = (p : Int) → ¬ p < qf_dP D) → Q (some (pj_vI (-3))) (pj_rfY M 3)) (hn : ∀ p : Nat, x = (p : Int) → p < qf_dP D → ¬ (0 ≤ y ∧ y ≤ 7) → Q (some (pj_vI (-7))) (pj_rfY M 7)) (h : ∀ p : Nat, x = (p : Int) → p < qf_dP D → (0 ≤ y ∧ y ≤ 7) → Q (some (pj_vI (qf_lk D p y))) M) : pj_G L (d + 1) 99 0 [pj_vR 38, pj_vI x, pj_vI y] [] M Q := by
  have hb14 := hD.b
  refine pj_C99_0 (qf_isPartY hD hY hr (fun p hp hlt => ?_) (fun hno => pj_C99_5 (by omega) (fun z => absurd rfl z) (fun _ => pj_C99_8 (pj_no 3 (by decide) (pj_C99_14 (hb hno))))))
  have ok := h p hp hlt
  refine pj_C99_5 (by omega) (fun _ => pj_C99_15 hr2 (fun z => pj_C99_64 p hp (by omega) (by rw [hY.kd p hlt]; have := ok (by omega); rw [z] at this; exact this)) (fun z => pj_C99_71 p hp (by omega) (by rw [hY.wk p hlt]; have := ok (by omega); rw [z] at this; exact this)) (fun z => pj_C99_78 p hp (by omega) (by rw [hY.wo p hlt]; have := ok (by omega); rw [z] at this; exact this)) (fun z => pj_C99_85 p hp (by omega) (by rw [hY.dx p hlt]; have := ok (by omega); rw [z] at this; exact this)) (fun z => pj_C99_92 p hp (by omega) (by rw [hY.dy p hlt]; have := ok (by omega); rw [z] at this; exact this)) (fun z => pj_C99_99 p hp (by omega) (by rw [hY.wy p hlt]; have := ok (by omega); rw [z] at this; exact this)) (fun z => pj_C99_106 p hp (by omega) (by rw [hY.od p hlt]; have := ok (by omega); rw [z] at this; exact this)) (fun z => pj_C99_113 p hp (by omega) (by have := hY.sn p (by omega); have := hE.2.2.2 p (by omega); omega) (fun w => pj_C99_126 (pj_C99_127 (by
    have := ok (by omega)
    rw [z] at this
    have e := hY.sn p (by omega)
    rw [e] at w
    show Q (some (pj_vI 0)) M
    rw [← w]
    exact this))) (fun w => pj_C99_122 (pj_C99_127 (by
    have := ok (by omega)
    rw [z] at this
    have e := hY.sn p (by omega)
    have h1 := hE.2.2.2 p (by omega)
    have e2 : qf_sn D p = 1 := by omega
    have e3 : qf_lk D p 7 = 1 := by show (qf_sn D p : Int) = 1; rw [e2]; rfl
    rw [e3] at this
    exact this)))) (fun z => pj_C99_128 (pj_no 7 (by decide) (pj_C99_134 (hn p hp hlt (by omega)))))) (fun z => absurd z (by decide))
/-- what count tells -/
def qf_ct (D : qf_D) (w : Int) (p : Nat) : Int := if w = 0 then (qf_dW D : Int) else if w = 1 then (qf_dP D : Int) else if w = 2 then (qf_dT D : Int) else if w = 3 then (qf_dK D : Int) else if w = 4 then (qf_dv D p : Int) - 1 else (qf_rg D p : Int)
theorem qf_countX (hD : qf_okD D) (hX : qf_X D M) (hr : -2147483648 ≤ x ∧ x < 2147483648) (hr2 : -2147483648 ≤ y ∧ y < 2147483648)
    (hb : (x = 4 ∨ x = 5) → (∀ p : Nat, y = (p : Int) → ¬ p < qf_dW D) → Q (some (pj_vI (-3))) (pj_rfX M 3)) (hn : ¬ (0 ≤ x ∧ x ≤ 5) → Q (some (pj_vI (-7))) (pj_rfX M 7)) (h : ∀ p : Nat, (0 ≤ x ∧ x ≤ 5) → ((x = 4 ∨ x = 5) → y = (p : Int) ∧ p < qf_dW D) → Q (some (pj_vI (qf_ct D x p))) M) : pj_G L (d + 1) 55 0 [pj_vR 1, pj_vI x, pj_vI y] [] M Q := by
  have hb14 := hD.b
  have tell : ∀ p : Nat, ((x = 4 ∨ x = 5) → y = (p : Int) ∧ p < qf_dW D) → pj_G L (d + 1) 55 25 [pj_vR 1, pj_vI x, pj_vI y] [] M Q := by
    intro p hp
    have ok := h p
    refine pj_C55_25 hr (fun z => pj_C55_64 (by rw [hX.W]; have := ok (by omega) hp; rw [z] at this; exact this)) (fun z => pj_C55_72 (by rw [hX.P]; have := ok (by omega) hp; rw [z] at this; exact this)) (fun z => pj_C55_80 (by rw [hX.T]; have := ok (by omega) hp; rw [z] at this; exact this)) (fun z => pj_C55_88 (by rw [hX.K]; have := ok (by omega) hp; rw [z] at this; exact this)) (fun z => pj_C55_96 p (hp (by omega)).1 (by have := (hp (by omega)).2; omega) (by rw [hX.dv p (hp (by omega)).2]; have := ok (by omega) hp; rw [z] at this; exact this)) (fun z => pj_C55_106 p (hp (by omega)).1 (by have := (hp (by omega)).2; omega) (by rw [hX.rg p (hp (by omega)).2]; have := ok (by omega) hp; rw [z] at this; exact this)) (fun z => pj_C55_116 (pj_refuse 7 (by decide) (pj_C55_122 (hn (by omega)))))
  have ask : (x = 4 ∨ x = 5) → pj_G L (d + 1) 55 10 [pj_vR 1, pj_vI x, pj_vI y] [] M Q := by
    intro hx
    refine pj_C55_10 (qf_isWireX hD hX hr2 (fun p hp hlt => pj_C55_15 (by omega) (fun _ => tell p (fun _ => ⟨hp, hlt⟩)) (fun z => absurd z (by decide))) (fun hno => pj_C55_15 (by omega) (fun z => absurd rfl z) (fun _ => pj_C55_18 (pj_refuse 3 (by decide) (pj_C55_24 (hb hx hno))))))
  exact pj_C55_0 hr (fun z => ask (Or.inl z)) (fun z => pj_C55_5 hr (fun z2 => tell 0 (fun w => by omega)) (fun z2 => ask (Or.inr z2)))
theorem qf_countY (hD : qf_okD D) (hY : qf_Y D M) (hr : -2147483648 ≤ x ∧ x < 2147483648) (hr2 : -2147483648 ≤ y ∧ y < 2147483648)
    (hb : (x = 4 ∨ x = 5) → (∀ p : Nat, y = (p : Int) → ¬ p < qf_dW D) → Q (some (pj_vI (-3))) (pj_rfY M 3)) (hn : ¬ (0 ≤ x ∧ x ≤ 5) → Q (some (pj_vI (-7))) (pj_rfY M 7)) (h : ∀ p : Nat, (0 ≤ x ∧ x ≤ 5) → ((x = 4 ∨ x = 5) → y = (p : Int) ∧ p < qf_dW D) → Q (some (pj_vI (qf_ct D x p))) M) : pj_G L (d + 1) 100 0 [pj_vR 38, pj_vI x, pj_vI y] [] M Q := by
  have hb14 := hD.b
  have tell : ∀ p : Nat, ((x = 4 ∨ x = 5) → y = (p : Int) ∧ p < qf_dW D) → pj_G L (d + 1) 100 25 [pj_vR 38, pj_vI x, pj_vI y] [] M Q := by
    intro p hp
    have ok := h p
    refine pj_C100_25 hr (fun z => pj_C100_64 (by rw [hY.W]; have := ok (by omega) hp; rw [z] at this; exact this)) (fun z => pj_C100_69 (by rw [hY.P]; have := ok (by omega) hp; rw [z] at this; exact this)) (fun z => pj_C100_74 (by rw [hY.T]; have := ok (by omega) hp; rw [z] at this; exact this)) (fun z => pj_C100_79 (by rw [hY.K]; have := ok (by omega) hp; rw [z] at this; exact this)) (fun z => pj_C100_84 p (hp (by omega)).1 (by have := (hp (by omega)).2; omega) (by rw [hY.dv p (hp (by omega)).2]; have := ok (by omega) hp; rw [z] at this; exact this)) (fun z => pj_C100_91 p (hp (by omega)).1 (by have := (hp (by omega)).2; omega) (by rw [hY.rg p (hp (by omega)).2]; have := ok (by omega) hp; rw [z] at this; exact this)) (fun z => pj_C100_98 (pj_no 7 (by decide) (pj_C100_104 (hn (by omega)))))
  have ask : (x = 4 ∨ x = 5) → pj_G L (d + 1) 100 10 [pj_vR 38, pj_vI x, pj_vI y] [] M Q := by
    intro hx
    refine pj_C100_10 (qf_isWireY hD hY hr2 (fun p hp hlt => pj_C100_15 (by omega) (fun _ => tell p (fun _ => ⟨hp, hlt⟩)) (fun z => absurd z (by decide))) (fun hno => pj_C100_15 (by omega) (fun z => absurd rfl z) (fun _ => pj_C100_18 (pj_no 3 (by decide) (pj_C100_24 (hb hx hno))))))
  exact pj_C100_0 hr (fun z => ask (Or.inl z)) (fun z => pj_C100_5 hr (fun z2 => tell 0 (fun w => by omega)) (fun z2 => ask (Or.inr z2)))
end QFCD
theorem qf_case_look : pj_Case qf_I 509 := by
  rintro L d Q M x h0 h5 hL ⟨D, hI⟩ go
  obtain ⟨X, rfl⟩ : ∃ X : Nat, x = (X : Int) := ⟨x.toNat, by omega⟩
  have hr := hI.rng (X + 1) (by omega)
  have hr2 := hI.rng (X + 2) (by omega)
  have e1 : pj_nrm ((X : Int) + 1) = ((X + 1 : Nat) : Int) := pj_nk (by omega) (by omega)
  have e2 : pj_nrm ((X : Int) + 2) = ((X + 2 : Nat) : Int) := pj_nk (by omega) (by omega)
  have eX : ∀ w, (pj_rfX M w) 0 = M 0 := fun w => rfl
  refine pj_B152_509 ⟨by omega, by omega⟩ ⟨by omega, by omega⟩ ?_
  rw [e1, e2, Int.toNat_natCast, Int.toNat_natCast]
  refine qf_lookX (d := d + 38) hI.ok hI.E hI.X hr hr2 (fun hb => ?_) (fun p hp hlt hno => ?_) (fun p hp hlt hin => ?_)
  · have hw := hI.rfX 3
    refine pj_B152_523 ⟨by omega, by omega⟩ ⟨by omega, by omega⟩ ?_
    rw [e1, e2, Int.toNat_natCast, Int.toNat_natCast, eX]
    exact qf_lookY (d := d + 38) hw.ok hw.E hw.Y hr hr2 (fun _ => pj_B152_537 (fun _ => go _ ⟨D, hw.rfY⟩) (fun c => absurd rfl c)) (fun p hp hlt _ => absurd hlt (hb p hp)) (fun p hp hlt _ => absurd hlt (hb p hp))
  · have hw := hI.rfX 7
    refine pj_B152_523 ⟨by omega, by omega⟩ ⟨by omega, by omega⟩ ?_
    rw [e1, e2, Int.toNat_natCast, Int.toNat_natCast, eX]
    exact qf_lookY (d := d + 38) hw.ok hw.E hw.Y hr hr2 (fun hb => absurd hlt (hb p hp)) (fun _ _ _ _ => pj_B152_537 (fun _ => go _ ⟨D, hw.rfY⟩) (fun c => absurd rfl c)) (fun _ _ _ hin => absurd hin hno)
  · refine pj_B152_523 ⟨by omega, by omega⟩ ⟨by omega, by omega⟩ ?_
    rw [e1, e2, Int.toNat_natCast, Int.toNat_natCast]
    refine qf_lookY (d := d + 38) hI.ok hI.E hI.Y hr hr2 (fun hb => absurd hlt (hb p hp)) (fun _ _ _ hno => absurd hin hno) (fun p' hp' _ _ => ?_)
    obtain rfl : p' = p := by omega
    exact pj_B152_537 (fun _ => go _ ⟨D, hI⟩) (fun c => absurd rfl c)
theorem qf_case_count : pj_Case qf_I 542 := by
  rintro L d Q M x h0 h5 hL ⟨D, hI⟩ go
  obtain ⟨X, rfl⟩ : ∃ X : Nat, x = (X : Int) := ⟨x.toNat, by omega⟩
  have hr := hI.rng (X + 1) (by omega)
  have hr2 := hI.rng (X + 2) (by omega)
  have e1 : pj_nrm ((X : Int) + 1) = ((X + 1 : Nat) : Int) := pj_nk (by omega) (by omega)
  have e2 : pj_nrm ((X : Int) + 2) = ((X + 2 : Nat) : Int) := pj_nk (by omega) (by omega)
  have eX : ∀ w, (pj_rfX M w) 0 = M 0 := fun w => rfl
  refine pj_B152_542 ⟨by omega, by omega⟩ ⟨by omega, by omega⟩ ?_
  rw [e1, e2, Int.toNat_natCast, Int.toNat_natCast]
  refine qf_countX (d := d + 38) hI.ok hI.X hr hr2 (fun hx hb => ?_) (fun hno => ?_) (fun p hin hp => ?_)
  · have hw := hI.rfX 3
    refine pj_B152_556 ⟨by omega, by omega⟩ ⟨by omega, by omega⟩ ?_
    rw [e1, e2, Int.toNat_natCast, Int.toNat_natCast, eX]
    exact qf_countY (d := d + 38) hw.ok hw.Y hr hr2 (fun _ _ => pj_B152_570 (fun _ => go _ ⟨D, hw.rfY⟩) (fun c => absurd rfl c)) (fun hno => by omega) (fun p _ hp => absurd (hp hx).2 (hb p (hp hx).1))
  · have hw := hI.rfX 7
    refine pj_B152_556 ⟨by omega, by omega⟩ ⟨by omega, by omega⟩ ?_
    rw [e1, e2, Int.toNat_natCast, Int.toNat_natCast, eX]
    exact qf_countY (d := d + 38) hw.ok hw.Y hr hr2 (fun hx _ => by omega) (fun _ => pj_B152_570 (fun _ => go _ ⟨D, hw.rfY⟩) (fun c => absurd rfl c)) (fun p hin _ => absurd hin hno)
  · refine pj_B152_556 ⟨by omega, by omega⟩ ⟨by omega, by omega⟩ ?_
    rw [e1, e2, Int.toNat_natCast, Int.toNat_natCast]
    refine qf_countY (d := d + 38) hI.ok hI.Y hr hr2 (fun hx hb => absurd (hp hx).2 (hb p (hp hx).1)) (fun hno => absurd hin hno) (fun p' _ hp' => ?_)
    have e : qf_ct D (M 0 (X + 1)) p' = qf_ct D (M 0 (X + 1)) p := by
      by_cases hx : M 0 (X + 1) = 4 ∨ M 0 (X + 1) = 5
      · have := (hp hx).1
        have := (hp' hx).1
        obtain rfl : p' = p := by omega
        rfl
      · unfold qf_ct
        by_cases w0 : M 0 (X + 1) = 0
        · rw [if_pos w0, if_pos w0]
        · rw [if_neg w0, if_neg w0]
          by_cases w1 : M 0 (X + 1) = 1
          · rw [if_pos w1, if_pos w1]
          · rw [if_neg w1, if_neg w1]
            by_cases w2 : M 0 (X + 1) = 2
            · rw [if_pos w2, if_pos w2]
            · rw [if_neg w2, if_neg w2, if_pos (by omega), if_pos (by omega)]
    rw [e]
    exact pj_B152_570 (fun _ => go _ ⟨D, hI⟩) (fun c => absurd rfl c)
theorem qf_case_status : pj_Case qf_I 1093 := by
  rintro L d Q M x h0 h5 hL ⟨D, hI⟩ go
  obtain ⟨X, rfl⟩ : ∃ X : Nat, x = (X : Int) := ⟨x.toNat, by omega⟩
  have hr := hI.rng (X + 1) (by omega)
  have e1 : pj_nrm ((X : Int) + 1) = ((X + 1 : Nat) : Int) := pj_nk (by omega) (by omega)
  refine pj_B152_1093 ⟨by omega, by omega⟩ ?_
  rw [e1, Int.toNat_natCast]
  refine pj_statusX (d := d + 38) hr.1 hr.2 (fun a1 a2 => ?_) (fun hno => ?_)
  · refine pj_B152_1102 ⟨by omega, by omega⟩ ?_
    rw [e1, Int.toNat_natCast]
    refine pj_statusY (d := d + 38) hr.1 hr.2 (fun _ _ => ?_) (fun hno => absurd ⟨a1, a2⟩ hno)
    rw [hI.R.2.2.2.2.1 (-M 0 (X + 1)).toNat (by omega)]
    exact pj_B152_1111 (fun _ => go _ ⟨D, hI⟩) (fun c => absurd rfl c)
  · have hw := hI.rfX 7
    refine pj_B152_1102 ⟨by omega, by omega⟩ ?_
    have e0 : (pj_rfX M 7) 0 (X + 1) = M 0 (X + 1) := rfl
    rw [e1, Int.toNat_natCast, e0]
    exact pj_statusY (d := d + 38) hr.1 hr.2 (fun a1 a2 => absurd ⟨a1, a2⟩ hno) (fun _ => pj_B152_1111 (fun _ => go _ ⟨D, hw.rfY⟩) (fun c => absurd rfl c))
theorem qf_case_row : pj_Case qf_I 1027 := by
  rintro L d Q M x h0 h5 hL ⟨D, hI⟩ go
  obtain ⟨X, rfl⟩ : ∃ X : Nat, x = (X : Int) := ⟨x.toNat, by omega⟩
  have hr := hI.rng (X + 1) (by omega)
  have e1 : pj_nrm ((X : Int) + 1) = ((X + 1 : Nat) : Int) := pj_nk (by omega) (by omega)
  obtain ⟨b1, b2, b3, b4, b5, b6⟩ := hI.R
  refine pj_B152_1027 ⟨by omega, by omega⟩ ?_
  rw [e1, Int.toNat_natCast]
  have eX : ∀ w, (pj_rfX M w) 38 39 = M 38 39 := fun w => rfl
  refine pj_rowX (d := d + 38) hr.1 hr.2 b2 b3 (fun hm => ?_) (fun hm hno => ?_) (fun hm hin => ?_)
  · have hw := hI.rfX 2
    refine pj_B152_1036 ⟨by omega, by omega⟩ ?_
    have e0 : (pj_rfX M 2) 0 (X + 1) = M 0 (X + 1) := rfl
    rw [e1, Int.toNat_natCast, e0]
    exact pj_rowY (d := d + 38) hr.1 hr.2 (by rw [eX]; omega) (by rw [eX]; omega) (fun _ => pj_B152_1045 (fun _ => go _ ⟨D, hw.rfY⟩) (fun c => absurd rfl c)) (fun z _ => by rw [eX] at z; omega) (fun z _ => by rw [eX] at z; omega)
  · have hw := hI.rfX 3
    refine pj_B152_1036 ⟨by omega, by omega⟩ ?_
    have e0 : (pj_rfX M 3) 0 (X + 1) = M 0 (X + 1) := rfl
    rw [e1, Int.toNat_natCast, e0]
    exact pj_rowY (d := d + 38) hr.1 hr.2 (by rw [eX]; omega) (by rw [eX]; omega) (fun z => by rw [eX] at z; omega) (fun _ _ => pj_B152_1045 (fun _ => go _ ⟨D, hw.rfY⟩) (fun c => absurd rfl c)) (fun _ z => by rw [eX] at z; omega)
  · refine pj_B152_1036 ⟨by omega, by omega⟩ ?_
    rw [e1, Int.toNat_natCast]
    refine pj_rowY (d := d + 38) hr.1 hr.2 (by omega) (by omega) (fun z => by omega) (fun _ z => by omega) (fun _ _ => ?_)
    rw [b4 (M 0 (X + 1)).toNat (by omega)]
    exact pj_B152_1045 (fun _ => go _ ⟨D, hI⟩) (fun c => absurd rfl c)
