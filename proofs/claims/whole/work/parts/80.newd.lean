/-! A NEW MACHINE: a number of the table changes; ways, set. -/
def qf_ud (D : qf_D) (a k v : Nat) : qf_D := fun b j => if b = a ∧ j = k then v else D b j
def qf_fgX (M : pj_M) : pj_M := pj_up (pj_up (pj_up M 22 8 0) 22 3 (-1)) 22 5 (-1)
def qf_fgY (M : pj_M) : pj_M := pj_up M 38 35 0
section QFUD
variable {L d : Nat} {Q : Option pj_V → pj_M → Prop} {D D' : qf_D} {M M1 M2 : pj_M} {a k v b j : Nat}
theorem qf_ud_same : qf_ud D a k v a k = v := if_pos ⟨rfl, rfl⟩
theorem qf_ud_slot (h : j ≠ k) : qf_ud D a k v a j = D a j := if_neg (fun z => h z.2)
theorem qf_ud_else (h : b ≠ a) : qf_ud D a k v b j = D b j := if_neg (fun z => h z.1)
theorem qf_putc {c n p : Nat} (h : ∀ q, q < n → M a q = (D c q : Int)) : ∀ q, q < n → pj_up M a p (v : Int) a q = (qf_ud D c p v c q : Int) := by
  intro q hq
  by_cases e : q = p
  · subst e
    rw [pj_up_same, qf_ud_same]
  · rw [pj_up_slot e, qf_ud_slot e, h q hq]
theorem qf_fgX_ne (h : a ≠ 22) : qf_fgX M a = M a := by
  unfold qf_fgX
  rw [pj_up_ne h, pj_up_ne h, pj_up_ne h]
theorem qf_fgY_ne (h : a ≠ 38) : qf_fgY M a = M a := pj_up_ne h
theorem qf_fgX_z : qf_fgX M 22 8 = 0 ∧ qf_fgX M 22 3 = -1 ∧ qf_fgX M 22 5 = -1 := by
  unfold qf_fgX
  refine ⟨?_, ?_, pj_up_same⟩
  · rw [pj_up_slot (by decide), pj_up_slot (by decide), pj_up_same]
  · rw [pj_up_slot (by decide), pj_up_same]
theorem qf_forgetX (h : Q none (qf_fgX M)) : pj_G L d 1 0 [pj_vR 22] [] M Q := pj_C1_0 h
theorem qf_out {x : Int} {n : Nat} (h : ∀ p : Nat, x = (p : Int) → ¬ p < n) : x < 0 ∨ (n : Int) ≤ x := by
  by_cases z : x < 0
  · exact Or.inl z
  · have := h x.toNat (by omega)
    omega
theorem qf_isInY {v lo hi : Int} (hv : -2147483648 ≤ v ∧ v < 2147483648) (hl : -2147483648 ≤ lo ∧ lo < 2147483648) (hh : -2147483648 ≤ hi ∧ hi < 2147483648) (h1 : lo ≤ v → v ≤ hi → Q (some (pj_vI 1)) M) (h0 : ¬ (lo ≤ v ∧ v ≤ hi) → Q (some (pj_vI 0)) M) : pj_G L d 85 0 [pj_vL v, pj_vU, pj_vL lo, pj_vU, pj_vL hi, pj_vU] [] M Q := by
  refine pj_isIn (by omega) (by omega) (by omega) (by omega) (by omega) (by omega) ?_
  by_cases z : lo ≤ v ∧ v ≤ hi
  · rw [if_pos z]
    exact h1 z.1 z.2
  · rw [if_neg z]
    exact h0 z
/-- the new invariant: the class has M1, then the reference M2; all findings are forgotten -/
theorem qf_IP.new (h : qf_IP D L M) (h1 : qf_okD D') (h2 : qf_okE D') (hX : qf_X D' M1) (hY : qf_Y D' M2) (f1 : ∀ a, a < 2 ∨ 22 < a → M1 a = M a) (z : M1 22 8 = 0 ∧ M1 22 3 = -1 ∧ M1 22 5 = -1) (f2 : ∀ a, a < 38 ∨ 55 < a → M2 a = M1 a) (f3 : M2 38 39 = M1 38 39) (z35 : M2 38 35 = 0) : qf_IP D' L M2 := by
  obtain ⟨a1, a2, a3, a4, a5, a6, b1, b2, b3, b4, b5, b6⟩ := h
  have g : ∀ a, a < 2 ∨ (22 < a ∧ a < 38) ∨ 55 < a → M2 a = M a := fun a ha => (f2 a (by omega)).trans (f1 a (by omega))
  have g39 : M2 38 39 = M 38 39 := f3.trans (by rw [f1 38 (by omega)])
  refine ⟨h1, h2, hX.keep (fun a h1 h2 => f2 a (by omega)), ⟨by rw [g 28 (by omega)]; exact a4.1, by rw [g 31 (by omega)]; exact a4.2.1, Or.inl ?_, Or.inl ?_, Or.inl ?_⟩, hY, Or.inl z35, ?_⟩
  · rw [f2 22 (by omega)]; exact z.1
  · rw [f2 22 (by omega)]; exact z.2.1
  · rw [f2 22 (by omega)]; exact z.2.2
  · unfold qf_R
    rw [g39, g 1 (by omega), g 36 (by omega), g 66 (by omega), g 37 (by omega), g 56 (by omega), g 0 (by omega)]
    exact ⟨b1, b2, b3, b4, b5, b6⟩
theorem qf_Y.offX (h : qf_Y D M) (f1 : ∀ a, a < 2 ∨ 22 < a → M1 a = M a) : qf_Y D M1 := h.far (fun a h1 h2 => f1 a (by omega)) (fun k h1 h2 => by rw [f1 38 (by omega)])
theorem qf_Y.fg (h : qf_Y D M) : qf_Y D (qf_fgY M) := h.far (fun a h1 h2 => qf_fgY_ne (by omega)) (fun k h1 h2 => pj_up_slot (by omega))
theorem qf_X.fg (h : qf_X D M) : qf_X D (qf_fgX M) := h.keep (fun a h1 h2 => qf_fgX_ne (by omega))
/-! ways -/
def qf_w_ways (D : qf_D) (x y : Int) : Nat := if x < 0 ∨ (qf_dP D : Int) ≤ x then 3 else if qf_wy D x.toNat = 0 then 5 else if y < 1 ∨ 15 < y then 7 else 0
variable {x y z : Int}
theorem qf_waysX (hD : qf_okD D) (hX : qf_X D M) (hx : -2147483648 ≤ x ∧ x < 2147483648) (hy : -2147483648 ≤ y ∧ y < 2147483648)
    (hb : ∀ w : Nat, w ≠ 0 → qf_w_ways D x y = w → Q (some (pj_vI (-(w : Int)))) (pj_rfX M w))
    (h : qf_w_ways D x y = 0 → ∀ p v : Nat, x = (p : Int) → y = (v : Int) → p < qf_dP D → qf_wy D p ≠ 0 → 1 ≤ v → v ≤ 15 → Q (some (pj_vI (qf_wy D p : Int))) (qf_fgX (pj_up M 13 p (v : Int)))) : pj_G L (d + 1) 48 0 [pj_vR 1, pj_vI x, pj_vI y, pj_vU] [] M Q := by
  have hb14 := hD.b
  refine pj_C48_0 (qf_isPartX hD hX hx (fun p ep hp => pj_C48_5 (by omega) (fun _ => pj_C48_15 ?_) (fun z => absurd z (by decide))) (fun hno => pj_C48_5 (by omega) (fun z => absurd rfl z) (fun _ => pj_C48_8 (pj_refuse 3 (by decide) (pj_C48_14 (hb 3 (by decide) (if_pos (qf_out hno))))))))
  subst ep
  refine qf_hasWaysX hD hX hp (fun hw => pj_C48_23 (by omega) (fun _ => ?_) (fun z => absurd z (by decide))) (fun hw => pj_C48_23 (by omega) (fun z => absurd rfl z) (fun _ => pj_C48_26 (pj_refuse 5 (by decide) (pj_C48_32 (hb 5 (by decide) ((if_neg (by omega)).trans (if_pos hw)))))))
  have no : y < 1 ∨ 15 < y → pj_G L (d + 1) 48 44 [pj_vR 1, pj_vU, pj_vU, pj_vU] [] M Q := fun z => pj_C48_44 (pj_refuse 7 (by decide) (pj_C48_50 (hb 7 (by decide) ((if_neg (by omega)).trans ((if_neg hw).trans (if_pos z))))))
  refine pj_C48_33 hy (fun z => no (by omega)) (fun z1 => pj_C48_38 hy (fun z2 => ?_) (fun z => no (by omega)))
  obtain ⟨v, rfl⟩ : ∃ v : Nat, y = (v : Int) := ⟨y.toNat, by omega⟩
  refine pj_C48_51 p rfl (by omega) (qf_forgetX (pj_C48_78 ?_))
  rw [hX.wy p hp]
  exact h ((if_neg (by omega)).trans ((if_neg hw).trans (if_neg (by omega)))) p v rfl rfl hp hw (by omega) (by omega)
theorem qf_waysY (hD : qf_okD D) (hY : qf_Y D M) (hx : -2147483648 ≤ x ∧ x < 2147483648) (hy : -2147483648 ≤ y ∧ y < 2147483648)
    (hb : ∀ w : Nat, w ≠ 0 → qf_w_ways D x y = w → Q (some (pj_vI (-(w : Int)))) (pj_rfY M w))
    (h : qf_w_ways D x y = 0 → ∀ p v : Nat, x = (p : Int) → y = (v : Int) → p < qf_dP D → qf_wy D p ≠ 0 → 1 ≤ v → v ≤ 15 → Q (some (pj_vI (qf_wy D p : Int))) (qf_fgY (pj_up M 49 p (v : Int)))) : pj_G L (d + 1) 93 0 [pj_vR 38, pj_vI x, pj_vI y, pj_vU] [] M Q := by
  have hb14 := hD.b
  refine pj_C93_0 (qf_isPartY hD hY hx (fun p ep hp => pj_C93_5 (by omega) (fun _ => ?_) (fun z => absurd z (by decide))) (fun hno => pj_C93_5 (by omega) (fun z => absurd rfl z) (fun _ => pj_C93_8 (pj_no 3 (by decide) (pj_C93_14 (hb 3 (by decide) (if_pos (qf_out hno))))))))
  subst ep
  have e := hY.wy p hp
  have hpt := hD.pt p hp
  refine pj_C93_15 p rfl (by omega) (by omega) (fun hw => pj_C93_31 hy (qf_isInY hy (by omega) (by omega) (fun g1 g2 => pj_C93_40 (by omega) (fun _ => ?_) (fun z => absurd z (by decide))) (fun g => pj_C93_40 (by omega) (fun z => absurd rfl z) (fun _ => pj_C93_43 (pj_no 7 (by decide) (pj_C93_49 (hb 7 (by decide) ((if_neg (by omega)).trans ((if_neg (show ¬ qf_wy D p = 0 by omega)).trans (if_pos (by omega))))))))))) (fun hw => pj_C93_24 (pj_no 5 (by decide) (pj_C93_30 (hb 5 (by decide) ((if_neg (by omega)).trans (if_pos (show qf_wy D p = 0 by omega)))))))
  obtain ⟨v, rfl⟩ : ∃ v : Nat, y = (v : Int) := ⟨y.toNat, by omega⟩
  refine pj_C93_50 p rfl (by omega) ?_
  rw [e]
  exact h ((if_neg (by omega)).trans ((if_neg (show ¬ qf_wy D p = 0 by omega)).trans (if_neg (by omega)))) p v rfl rfl hp (by omega) (by omega) (by omega)
theorem qf_okD.ways (hD : qf_okD D) {p : Nat} (hw : qf_wy D p ≠ 0) (h1 : 1 ≤ v) (h2 : v ≤ 15) : qf_okD (qf_ud D 10 p v) := by
  refine ⟨hD.b, hD.rg, hD.dv, fun q hq => ?_, hD.tb, hD.np, hD.st, hD.ts, hD.s2, hD.lk, hD.l2, hD.or, hD.os, hD.oe⟩
  obtain ⟨a1, a2, a3, a4, a5, a6, a7, a8, a9, a10, a11⟩ := hD.pt q hq
  have e : qf_wy (qf_ud D 10 p v) q = if q = p then v else qf_wy D q := by
    by_cases z : q = p
    · subst z
      rw [if_pos rfl]
      exact qf_ud_same
    · rw [if_neg z]
      exact qf_ud_slot z
  refine ⟨a1, a2, a3, a4, a5, a6, ?_, ?_, a9, a10, a11⟩
  · rw [e]
    split <;> omega
  · rw [e]
    by_cases z : q = p
    · subst z
      rw [if_pos rfl]
      exact ⟨fun _ => a8.mp hw, fun _ => by omega⟩
    · rw [if_neg z]
      exact a8
theorem qf_X.ways (h : qf_X D M) {p : Nat} : qf_X (qf_ud D 10 p v) (pj_up M 13 p (v : Int)) := ⟨h.W, h.P, h.S, h.T, h.K, h.rg, h.dv, h.pr, h.np, h.kd, h.wk, h.wo, h.dx, h.dy, h.tb, qf_putc h.wy, h.od, h.st, h.md, h.or, h.mt, h.sb, h.pl, h.sv, h.no⟩
theorem qf_Y.ways (h : qf_Y D M) {p : Nat} : qf_Y (qf_ud D 10 p v) (pj_up M 49 p (v : Int)) := ⟨h.W, h.P, h.S, h.T, h.K, h.rg, h.dv, h.pr, h.np, h.kd, h.wk, h.wo, h.dx, h.dy, h.tb, qf_putc h.wy, h.od, h.st, h.sn, h.lt, h.lw, h.lv⟩
/-! set -/
def qf_w_set (D : qf_D) (x y z : Int) : Nat := if x < 0 ∨ (qf_dT D : Int) ≤ x ∨ y < 0 ∨ (qf_dW D : Int) ≤ y then 3 else if qf_dv D y.toNat ≠ 0 then 5 else if z < 0 ∨ (qf_rg D y.toNat : Int) ≤ z then 7 else 0
theorem qf_setX (hD : qf_okD D) (hX : qf_X D M) (hx : -2147483648 ≤ x ∧ x < 2147483648) (hy : -2147483648 ≤ y ∧ y < 2147483648) (hz : -2147483648 ≤ z ∧ z < 2147483648)
    (hb : ∀ w : Nat, w ≠ 0 → qf_w_set D x y z = w → Q (some (pj_vI (-(w : Int)))) (pj_rfX M w))
    (h : qf_w_set D x y z = 0 → ∀ t w v : Nat, x = (t : Int) → y = (w : Int) → z = (v : Int) → t < qf_dT D → w < qf_dW D → qf_dv D w = 0 → v < qf_rg D w → Q (some (pj_vI (qf_np0 D (14 * t + w) : Int))) (qf_fgX (pj_up M 6 (14 * t + w) (v : Int)))) : pj_G L (d + 1) 52 0 [pj_vR 1, pj_vI x, pj_vI y, pj_vI z, pj_vU, pj_vU] [] M Q := by
  have hb14 := hD.b
  have no : (x < 0 ∨ (qf_dT D : Int) ≤ x) ∨ (y < 0 ∨ (qf_dW D : Int) ≤ y) → pj_G L (d + 1) 52 16 [pj_vR 1, pj_vU, pj_vU, pj_vU, pj_vU, pj_vU] [] M Q := fun g => pj_C52_16 (pj_refuse 3 (by decide) (pj_C52_22 (hb 3 (by decide) (if_pos (by omega)))))
  refine pj_C52_0 (qf_isTickX hD hX hx (fun t et ht => pj_C52_5 (by omega) (fun z => absurd z (by decide)) (fun _ => pj_C52_8 ?_)) (fun hno => pj_C52_5 (by omega) (fun _ => no (Or.inl (qf_out hno))) (fun z => absurd rfl z)))
  refine qf_isWireX hD hX hy (fun w ew hw => pj_C52_13 (by omega) (fun _ => ?_) (fun z => absurd z (by decide))) (fun hno => pj_C52_13 (by omega) (fun z => absurd rfl z) (fun _ => no (Or.inr (qf_out hno))))
  subst et ew
  have e := hX.dv w hw
  have er := hX.rg w hw
  have hrg := hD.rg w hw
  have hdv := hD.dv w hw
  refine pj_C52_23 w rfl (by omega) (by omega) (fun g => ?_) (fun g => pj_C52_36 (pj_refuse 5 (by decide) (pj_C52_42 (hb 5 (by decide) ((if_neg (by omega)).trans (if_pos (show qf_dv D w ≠ 0 by omega)))))))
  have g0 : ¬ qf_dv D w ≠ 0 := by omega
  have no7 : z < 0 ∨ (qf_rg D w : Int) ≤ z → pj_G L (d + 1) 52 60 [pj_vR 1, pj_vU, pj_vU, pj_vU, pj_vU, pj_vU] [] M Q := fun g => pj_C52_60 (pj_refuse 7 (by decide) (pj_C52_66 (hb 7 (by decide) ((if_neg (by omega)).trans ((if_neg g0).trans (if_pos g))))))
  refine pj_C52_43 hz (fun g => no7 (by omega)) (fun g1 => pj_C52_47 w rfl (by omega) hz (by omega) (fun g2 => ?_) (fun g => no7 (by omega)))
  obtain ⟨v, rfl⟩ : ∃ v : Nat, z = (v : Int) := ⟨z.toNat, by omega⟩
  refine pj_C52_67 (14 * t + w) (by omega) (by omega) (qf_forgetX (pj_C52_105 ?_))
  rw [hX.np _ (by omega)]
  have g3 : ¬ ((v : Int) < 0 ∨ (qf_rg D w : Int) ≤ (v : Int)) := by omega
  exact h ((if_neg (by omega)).trans ((if_neg g0).trans (if_neg g3))) t w v rfl rfl rfl ht hw (by omega) (by omega)
theorem qf_setY (hD : qf_okD D) (hY : qf_Y D M) (hx : -2147483648 ≤ x ∧ x < 2147483648) (hy : -2147483648 ≤ y ∧ y < 2147483648) (hz : -2147483648 ≤ z ∧ z < 2147483648)
    (hb : ∀ w : Nat, w ≠ 0 → qf_w_set D x y z = w → Q (some (pj_vI (-(w : Int)))) (pj_rfY M w))
    (h : qf_w_set D x y z = 0 → ∀ t w v : Nat, x = (t : Int) → y = (w : Int) → z = (v : Int) → t < qf_dT D → w < qf_dW D → qf_dv D w = 0 → v < qf_rg D w → Q (some (pj_vI (qf_np0 D (14 * t + w) : Int))) (qf_fgY (pj_up M 42 (14 * t + w) (v : Int)))) : pj_G L (d + 1) 97 0 [pj_vR 38, pj_vI x, pj_vI y, pj_vI z, pj_vU] [] M Q := by
  have hb14 := hD.b
  have no : (x < 0 ∨ (qf_dT D : Int) ≤ x) ∨ (y < 0 ∨ (qf_dW D : Int) ≤ y) → pj_G L (d + 1) 97 16 [pj_vR 38, pj_vU, pj_vU, pj_vU, pj_vU] [] M Q := fun g => pj_C97_16 (pj_no 3 (by decide) (pj_C97_22 (hb 3 (by decide) (if_pos (by omega)))))
  refine pj_C97_0 (qf_isTickY hD hY hx (fun t et ht => pj_C97_5 (by omega) (fun z => absurd z (by decide)) (fun _ => pj_C97_8 ?_)) (fun hno => pj_C97_5 (by omega) (fun _ => no (Or.inl (qf_out hno))) (fun z => absurd rfl z)))
  refine qf_isWireY hD hY hy (fun w ew hw => pj_C97_13 (by omega) (fun _ => ?_) (fun z => absurd z (by decide))) (fun hno => pj_C97_13 (by omega) (fun z => absurd rfl z) (fun _ => no (Or.inr (qf_out hno))))
  subst et ew
  have e := hY.dv w hw
  have er := hY.rg w hw
  have hrg := hD.rg w hw
  have hdv := hD.dv w hw
  refine pj_C97_23 w rfl (by omega) (by omega) (fun g => ?_) (fun g => pj_C97_32 (pj_no 5 (by decide) (pj_C97_38 (hb 5 (by decide) ((if_neg (by omega)).trans (if_pos (show qf_dv D w ≠ 0 by omega)))))))
  have g0 : ¬ qf_dv D w ≠ 0 := by omega
  refine pj_C97_39 w hz rfl (by omega) (by omega) (qf_isInY hz (by omega) (by omega) (fun g1 g2 => pj_C97_54 (by omega) (fun _ => ?_) (fun z => absurd z (by decide))) (fun g => pj_C97_54 (by omega) (fun z => absurd rfl z) (fun _ => pj_C97_57 (pj_no 7 (by decide) (pj_C97_63 (hb 7 (by decide) ((if_neg (by omega)).trans ((if_neg g0).trans (if_pos (show z < 0 ∨ (qf_rg D w : Int) ≤ z by omega))))))))))
  obtain ⟨v, rfl⟩ : ∃ v : Nat, z = (v : Int) := ⟨z.toNat, by omega⟩
  refine pj_C97_64 (14 * t + w) (by omega) (by omega) ?_
  rw [hY.np _ (by omega)]
  have g3 : ¬ ((v : Int) < 0 ∨ (qf_rg D w : Int) ≤ (v : Int)) := by omega
  exact h ((if_neg (by omega)).trans ((if_neg g0).trans (if_neg g3))) t w v rfl rfl rfl ht hw (by omega) (by omega)
theorem qf_ud_if : qf_ud D a k v a j = if j = k then v else D a j := by
  by_cases z : j = k
  · rw [if_pos z, z]
    exact qf_ud_same
  · rw [if_neg z]
    exact qf_ud_slot z
theorem qf_okD.set (hD : qf_okD D) {t w : Nat} (hw : w < qf_dW D) (hv : v < qf_rg D w) : qf_okD (qf_ud D 4 (14 * t + w) v) := by
  have hb := hD.b
  refine ⟨hD.b, hD.rg, hD.dv, hD.pt, hD.tb, fun t' w' ht' hw' => ?_, hD.st, hD.ts, hD.s2, hD.lk, hD.l2, hD.or, hD.os, hD.oe⟩
  have hw2 : w' < qf_dW D := hw'
  have h1 := hD.np t' w' ht' hw2
  show qf_ud D 4 (14 * t + w) v 4 (14 * t' + w') < qf_rg D w'
  rw [qf_ud_if]
  by_cases z : 14 * t' + w' = 14 * t + w
  · rw [if_pos z]
    obtain rfl : w' = w := by omega
    exact hv
  · rw [if_neg z]
    exact h1
theorem qf_okE.set (hD : qf_okD D) (hE : qf_okE D) {t w : Nat} (hw : w < qf_dW D) : qf_okE (qf_ud D 4 (14 * t + w) v) := by
  have hb := hD.b
  refine ⟨hE.1, hE.2.1, ⟨hE.2.2.1.1, fun t' w' ht' hw' h14 => ?_⟩, hE.2.2.2⟩
  have hw2 : qf_dW D ≤ w' := hw'
  have h1 := hE.2.2.1.2 t' w' ht' hw2 h14
  show qf_ud D 4 (14 * t + w) v 4 (14 * t' + w') = 0
  rw [qf_ud_slot (by omega)]
  exact h1
theorem qf_X.set (h : qf_X D M) : qf_X (qf_ud D 4 k v) (pj_up M 6 k (v : Int)) := ⟨h.W, h.P, h.S, h.T, h.K, h.rg, h.dv, h.pr, qf_putc h.np, h.kd, h.wk, h.wo, h.dx, h.dy, h.tb, h.wy, h.od, h.st, h.md, h.or, h.mt, h.sb, h.pl, h.sv, h.no⟩
theorem qf_Y.set (h : qf_Y D M) : qf_Y (qf_ud D 4 k v) (pj_up M 42 k (v : Int)) := ⟨h.W, h.P, h.S, h.T, h.K, h.rg, h.dv, h.pr, qf_putc h.np, h.kd, h.wk, h.wo, h.dx, h.dy, h.tb, h.wy, h.od, h.st, h.sn, h.lt, h.lw, h.lv⟩
end QFUD
theorem qf_case_ways : pj_Case qf_I 295 := by
  rintro L d Q M x h0 h5 hL ⟨D, hI⟩ go
  obtain ⟨X, rfl⟩ : ∃ X : Nat, x = (X : Int) := ⟨x.toNat, by omega⟩
  have hr1 := hI.rng (X + 1) (by omega)
  have hr2 := hI.rng (X + 2) (by omega)
  have eZ : ∀ w, (pj_rfX M w) 0 = M 0 := fun w => rfl
  refine pj_C152_295 (X + 1) (X + 2) hL (by omega) (by omega) (by omega) (by omega) (qf_waysX (d := d + 38) hI.ok hI.X hr1 hr2 (fun w hw0 ew => ?_) (fun e0 p v ep ev hp hw g1 g2 => ?_))
  · have hw := hI.rfX w
    refine pj_C152_309 (X + 1) (X + 2) hL (by omega) (by omega) (by omega) (by omega) ?_
    rw [eZ w]
    refine qf_waysY (d := d + 38) hw.ok hw.Y hr1 hr2 (fun w' _ ew' => ?_) (fun e0 => absurd (ew.symm.trans e0) hw0)
    obtain rfl : w' = w := ew'.symm.trans ew
    exact pj_B152_323 (fun _ => go _ ⟨D, hw.rfY⟩) (fun c => absurd rfl c)
  · have f1 : ∀ a, a < 2 ∨ 22 < a → (qf_fgX (pj_up M 13 (p) (v : Int))) a = M a := fun a ha => (qf_fgX_ne (by omega)).trans (pj_up_ne (by omega))
    have hY1 := hI.Y.offX f1
    refine pj_C152_309 (X + 1) (X + 2) hL (by omega) (by omega) (by omega) (by omega) ?_
    rw [f1 0 (by omega)]
    refine qf_waysY (d := d + 38) hI.ok hY1 hr1 hr2 (fun w' hw' ew' => absurd (ew'.symm.trans e0) hw') (fun _ p' v' ep' ev' _ _ _ _ => ?_)
    obtain rfl : p' = p := by omega
    obtain rfl : v' = v := by omega
    have hY2 := hY1.ways (p := p') (v := v')
    refine pj_B152_323 (fun _ => go _ ⟨_, hI.new (hI.ok.ways hw g1 g2) hI.E hI.X.ways.fg hY2.fg f1 qf_fgX_z (fun a ha => (qf_fgY_ne (by omega)).trans (pj_up_ne (by omega))) (by rw [qf_fgY, pj_up_slot (by decide), pj_up_ne (by decide)]) pj_up_same⟩) (fun c => absurd rfl c)
theorem qf_case_set : pj_Case qf_I 417 := by
  rintro L d Q M x h0 h5 hL ⟨D, hI⟩ go
  obtain ⟨X, rfl⟩ : ∃ X : Nat, x = (X : Int) := ⟨x.toNat, by omega⟩
  have hr1 := hI.rng (X + 1) (by omega)
  have hr2 := hI.rng (X + 2) (by omega)
  have hr3 := hI.rng (X + 3) (by omega)
  have eZ : ∀ w, (pj_rfX M w) 0 = M 0 := fun w => rfl
  refine pj_C152_417 (X + 1) (X + 2) (X + 3) hL (by omega) (by omega) (by omega) (by omega) (by omega) (by omega) (qf_setX (d := d + 38) hI.ok hI.X hr1 hr2 hr3 (fun w hw0 ew => ?_) (fun e0 t w v et ew ev ht hw hd hv => ?_))
  · have hw := hI.rfX w
    refine pj_C152_436 (X + 1) (X + 2) (X + 3) hL (by omega) (by omega) (by omega) (by omega) (by omega) (by omega) ?_
    rw [eZ w]
    refine qf_setY (d := d + 38) hw.ok hw.Y hr1 hr2 hr3 (fun w' _ ew' => ?_) (fun e0 => absurd (ew.symm.trans e0) hw0)
    obtain rfl : w' = w := ew'.symm.trans ew
    exact pj_B152_455 (fun _ => go _ ⟨D, hw.rfY⟩) (fun c => absurd rfl c)
  · have f1 : ∀ a, a < 2 ∨ 22 < a → (qf_fgX (pj_up M 6 (14 * t + w) (v : Int))) a = M a := fun a ha => (qf_fgX_ne (by omega)).trans (pj_up_ne (by omega))
    have hY1 := hI.Y.offX f1
    refine pj_C152_436 (X + 1) (X + 2) (X + 3) hL (by omega) (by omega) (by omega) (by omega) (by omega) (by omega) ?_
    rw [f1 0 (by omega)]
    refine qf_setY (d := d + 38) hI.ok hY1 hr1 hr2 hr3 (fun w' hw' ew' => absurd (ew'.symm.trans e0) hw') (fun _ t' w2 v' et' ew2 ev' _ _ _ _ => ?_)
    obtain rfl : t' = t := by omega
    obtain rfl : w2 = w := by omega
    obtain rfl : v' = v := by omega
    have hY2 := hY1.set (k := 14 * t' + w2) (v := v')
    refine pj_B152_455 (fun _ => go _ ⟨_, hI.new (hI.ok.set hw hv) (hI.E.set hI.ok hw) hI.X.set.fg hY2.fg f1 qf_fgX_z (fun a ha => (qf_fgY_ne (by omega)).trans (pj_up_ne (by omega))) (by rw [qf_fgY, pj_up_slot (by decide), pj_up_ne (by decide)]) pj_up_same⟩) (fun c => absurd rfl c)
