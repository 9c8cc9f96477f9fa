/-! HOW THE MEMORY HOLDS A MACHINE: qf_X the class, qf_Y the reference. -/
def qf_Y (D : qf_D) (M : pj_M) : Prop :=
  (M 38 17 = (qf_dW D : Int)) ∧
  (M 38 18 = (qf_dP D : Int)) ∧
  (M 38 19 = (qf_dS D : Int)) ∧
  (M 38 20 = (qf_dT D : Int)) ∧
  (M 38 21 = (qf_dK D : Int)) ∧
  (∀ w, w < qf_dW D → M 39 w = (qf_rg D w : Int)) ∧
  (∀ w, w < qf_dW D → M 40 w = (qf_dv D w : Int) - 1) ∧
  (∀ w, w < qf_dW D → M 41 w = (qf_pr D w : Int)) ∧
  (∀ k, k < 42 → M 42 k = (qf_np0 D k : Int)) ∧
  (∀ p, p < qf_dP D → M 43 p = (qf_kd D p : Int)) ∧
  (∀ p, p < qf_dP D → M 44 p = (qf_wk D p : Int)) ∧
  (∀ p, p < qf_dP D → M 45 p = (qf_wo D p : Int)) ∧
  (∀ p, p < qf_dP D → M 46 p = if qf_kd D p = 3 then -1 else (qf_dx D p : Int)) ∧
  (∀ p, p < qf_dP D → M 47 p = if qf_kd D p ≤ 2 then (qf_dy D p : Int) else -1) ∧
  (∀ k, k < 63 → M 48 k = (qf_tb D k : Int)) ∧
  (∀ p, p < qf_dP D → M 49 p = (qf_wy D p : Int)) ∧
  (∀ p, p < qf_dP D → M 50 p = (qf_od D p : Int)) ∧
  (∀ k, k < 2 → M 51 k = (qf_st D k : Int)) ∧
  (∀ p, p < 7 → M 52 p = (qf_sn D p : Int)) ∧
  (∀ k, k < qf_dK D → M 53 k = (qf_lt D k : Int)) ∧
  (∀ k, k < qf_dK D → M 54 k = (qf_lw D k : Int)) ∧
  (∀ k, k < qf_dK D → M 55 k = (qf_lv D k : Int))
theorem qf_Y.W {D : qf_D} {M : pj_M} (h : qf_Y D M) : M 38 17 = (qf_dW D : Int) := h.1
theorem qf_Y.P {D : qf_D} {M : pj_M} (h : qf_Y D M) : M 38 18 = (qf_dP D : Int) := h.2.1
theorem qf_Y.S {D : qf_D} {M : pj_M} (h : qf_Y D M) : M 38 19 = (qf_dS D : Int) := h.2.2.1
theorem qf_Y.T {D : qf_D} {M : pj_M} (h : qf_Y D M) : M 38 20 = (qf_dT D : Int) := h.2.2.2.1
theorem qf_Y.K {D : qf_D} {M : pj_M} (h : qf_Y D M) : M 38 21 = (qf_dK D : Int) := h.2.2.2.2.1
theorem qf_Y.rg {D : qf_D} {M : pj_M} (h : qf_Y D M) : ∀ w, w < qf_dW D → M 39 w = (qf_rg D w : Int) := h.2.2.2.2.2.1
theorem qf_Y.dv {D : qf_D} {M : pj_M} (h : qf_Y D M) : ∀ w, w < qf_dW D → M 40 w = (qf_dv D w : Int) - 1 := h.2.2.2.2.2.2.1
theorem qf_Y.pr {D : qf_D} {M : pj_M} (h : qf_Y D M) : ∀ w, w < qf_dW D → M 41 w = (qf_pr D w : Int) := h.2.2.2.2.2.2.2.1
theorem qf_Y.np {D : qf_D} {M : pj_M} (h : qf_Y D M) : ∀ k, k < 42 → M 42 k = (qf_np0 D k : Int) := h.2.2.2.2.2.2.2.2.1
theorem qf_Y.kd {D : qf_D} {M : pj_M} (h : qf_Y D M) : ∀ p, p < qf_dP D → M 43 p = (qf_kd D p : Int) := h.2.2.2.2.2.2.2.2.2.1
theorem qf_Y.wk {D : qf_D} {M : pj_M} (h : qf_Y D M) : ∀ p, p < qf_dP D → M 44 p = (qf_wk D p : Int) := h.2.2.2.2.2.2.2.2.2.2.1
theorem qf_Y.wo {D : qf_D} {M : pj_M} (h : qf_Y D M) : ∀ p, p < qf_dP D → M 45 p = (qf_wo D p : Int) := h.2.2.2.2.2.2.2.2.2.2.2.1
theorem qf_Y.dx {D : qf_D} {M : pj_M} (h : qf_Y D M) : ∀ p, p < qf_dP D → M 46 p = if qf_kd D p = 3 then -1 else (qf_dx D p : Int) := h.2.2.2.2.2.2.2.2.2.2.2.2.1
theorem qf_Y.dy {D : qf_D} {M : pj_M} (h : qf_Y D M) : ∀ p, p < qf_dP D → M 47 p = if qf_kd D p ≤ 2 then (qf_dy D p : Int) else -1 := h.2.2.2.2.2.2.2.2.2.2.2.2.2.1
theorem qf_Y.tb {D : qf_D} {M : pj_M} (h : qf_Y D M) : ∀ k, k < 63 → M 48 k = (qf_tb D k : Int) := h.2.2.2.2.2.2.2.2.2.2.2.2.2.2.1
theorem qf_Y.wy {D : qf_D} {M : pj_M} (h : qf_Y D M) : ∀ p, p < qf_dP D → M 49 p = (qf_wy D p : Int) := h.2.2.2.2.2.2.2.2.2.2.2.2.2.2.2.1
theorem qf_Y.od {D : qf_D} {M : pj_M} (h : qf_Y D M) : ∀ p, p < qf_dP D → M 50 p = (qf_od D p : Int) := h.2.2.2.2.2.2.2.2.2.2.2.2.2.2.2.2.1
theorem qf_Y.st {D : qf_D} {M : pj_M} (h : qf_Y D M) : ∀ k, k < 2 → M 51 k = (qf_st D k : Int) := h.2.2.2.2.2.2.2.2.2.2.2.2.2.2.2.2.2.1
theorem qf_Y.sn {D : qf_D} {M : pj_M} (h : qf_Y D M) : ∀ p, p < 7 → M 52 p = (qf_sn D p : Int) := h.2.2.2.2.2.2.2.2.2.2.2.2.2.2.2.2.2.2.1
theorem qf_Y.lt {D : qf_D} {M : pj_M} (h : qf_Y D M) : ∀ k, k < qf_dK D → M 53 k = (qf_lt D k : Int) := h.2.2.2.2.2.2.2.2.2.2.2.2.2.2.2.2.2.2.2.1
theorem qf_Y.lw {D : qf_D} {M : pj_M} (h : qf_Y D M) : ∀ k, k < qf_dK D → M 54 k = (qf_lw D k : Int) := h.2.2.2.2.2.2.2.2.2.2.2.2.2.2.2.2.2.2.2.2.1
theorem qf_Y.lv {D : qf_D} {M : pj_M} (h : qf_Y D M) : ∀ k, k < qf_dK D → M 55 k = (qf_lv D k : Int) := h.2.2.2.2.2.2.2.2.2.2.2.2.2.2.2.2.2.2.2.2.2
def qf_X (D : qf_D) (M : pj_M) : Prop :=
  (M 2 0 = (qf_dW D : Int)) ∧
  (M 7 0 = (qf_dP D : Int)) ∧
  (M 7 12 = (qf_dS D : Int)) ∧
  (M 2 1 = (qf_dT D : Int)) ∧
  (M 19 0 = (qf_dK D : Int)) ∧
  (∀ w, w < qf_dW D → M 3 w = (qf_rg D w : Int)) ∧
  (∀ w, w < qf_dW D → M 4 w = (qf_dv D w : Int) - 1) ∧
  (∀ w, w < qf_dW D → M 5 w = (qf_pr D w : Int)) ∧
  (∀ k, k < 42 → M 6 k = (qf_np0 D k : Int)) ∧
  (∀ p, p < qf_dP D → M 8 p = (qf_kd D p : Int)) ∧
  (∀ p, p < qf_dP D → M 9 p = (qf_wk D p : Int)) ∧
  (∀ p, p < qf_dP D → M 10 p = (qf_wo D p : Int)) ∧
  (∀ p, p < qf_dP D → M 11 p = if qf_kd D p = 3 then -1 else (qf_dx D p : Int)) ∧
  (∀ p, p < qf_dP D → M 12 p = if qf_kd D p ≤ 2 then (qf_dy D p : Int) else -1) ∧
  (∀ k, k < 63 → M 15 k = (qf_tb D k : Int)) ∧
  (∀ p, p < qf_dP D → M 13 p = (qf_wy D p : Int)) ∧
  (∀ p, p < qf_dP D → M 14 p = (qf_od D p : Int)) ∧
  (∀ k, k < 2 → M 18 k = (qf_st D k : Int)) ∧
  (∀ p a b, p < qf_dP D → a < 3 → b < 3 → M 16 (9 * p + 3 * a + b) = (qf_wks D p a b : Int)) ∧
  (∀ i, i < qf_dP D → M 17 i = (qf_or0 D i : Int)) ∧
  (∃ m : Nat, M 7 13 = (m : Int) ∧ m < 128 ∧ ∀ p, m.testBit p = decide (p < qf_dP D ∧ qf_kd D p = 4)) ∧
  (∃ m : Nat, M 7 14 = (m : Int) ∧ m < 128 ∧ ∀ p, m.testBit p = decide (p < 7 ∧ qf_sn D p = 1)) ∧
  (∀ k, k < qf_dK D → M 20 k = ((14 * qf_lt D k + qf_lw D k : Nat) : Int)) ∧
  (∀ k, k < qf_dK D → M 21 (14 * qf_lt D k + qf_lw D k) = (qf_lv D k : Int)) ∧
  (∀ l, l < 42 → (∀ k, k < qf_dK D → 14 * qf_lt D k + qf_lw D k ≠ l) → M 21 l = -1)
theorem qf_X.W {D : qf_D} {M : pj_M} (h : qf_X D M) : M 2 0 = (qf_dW D : Int) := h.1
theorem qf_X.P {D : qf_D} {M : pj_M} (h : qf_X D M) : M 7 0 = (qf_dP D : Int) := h.2.1
theorem qf_X.S {D : qf_D} {M : pj_M} (h : qf_X D M) : M 7 12 = (qf_dS D : Int) := h.2.2.1
theorem qf_X.T {D : qf_D} {M : pj_M} (h : qf_X D M) : M 2 1 = (qf_dT D : Int) := h.2.2.2.1
theorem qf_X.K {D : qf_D} {M : pj_M} (h : qf_X D M) : M 19 0 = (qf_dK D : Int) := h.2.2.2.2.1
theorem qf_X.rg {D : qf_D} {M : pj_M} (h : qf_X D M) : ∀ w, w < qf_dW D → M 3 w = (qf_rg D w : Int) := h.2.2.2.2.2.1
theorem qf_X.dv {D : qf_D} {M : pj_M} (h : qf_X D M) : ∀ w, w < qf_dW D → M 4 w = (qf_dv D w : Int) - 1 := h.2.2.2.2.2.2.1
theorem qf_X.pr {D : qf_D} {M : pj_M} (h : qf_X D M) : ∀ w, w < qf_dW D → M 5 w = (qf_pr D w : Int) := h.2.2.2.2.2.2.2.1
theorem qf_X.np {D : qf_D} {M : pj_M} (h : qf_X D M) : ∀ k, k < 42 → M 6 k = (qf_np0 D k : Int) := h.2.2.2.2.2.2.2.2.1
theorem qf_X.kd {D : qf_D} {M : pj_M} (h : qf_X D M) : ∀ p, p < qf_dP D → M 8 p = (qf_kd D p : Int) := h.2.2.2.2.2.2.2.2.2.1
theorem qf_X.wk {D : qf_D} {M : pj_M} (h : qf_X D M) : ∀ p, p < qf_dP D → M 9 p = (qf_wk D p : Int) := h.2.2.2.2.2.2.2.2.2.2.1
theorem qf_X.wo {D : qf_D} {M : pj_M} (h : qf_X D M) : ∀ p, p < qf_dP D → M 10 p = (qf_wo D p : Int) := h.2.2.2.2.2.2.2.2.2.2.2.1
theorem qf_X.dx {D : qf_D} {M : pj_M} (h : qf_X D M) : ∀ p, p < qf_dP D → M 11 p = if qf_kd D p = 3 then -1 else (qf_dx D p : Int) := h.2.2.2.2.2.2.2.2.2.2.2.2.1
theorem qf_X.dy {D : qf_D} {M : pj_M} (h : qf_X D M) : ∀ p, p < qf_dP D → M 12 p = if qf_kd D p ≤ 2 then (qf_dy D p : Int) else -1 := h.2.2.2.2.2.2.2.2.2.2.2.2.2.1
theorem qf_X.tb {D : qf_D} {M : pj_M} (h : qf_X D M) : ∀ k, k < 63 → M 15 k = (qf_tb D k : Int) := h.2.2.2.2.2.2.2.2.2.2.2.2.2.2.1
theorem qf_X.wy {D : qf_D} {M : pj_M} (h : qf_X D M) : ∀ p, p < qf_dP D → M 13 p = (qf_wy D p : Int) := h.2.2.2.2.2.2.2.2.2.2.2.2.2.2.2.1
theorem qf_X.od {D : qf_D} {M : pj_M} (h : qf_X D M) : ∀ p, p < qf_dP D → M 14 p = (qf_od D p : Int) := h.2.2.2.2.2.2.2.2.2.2.2.2.2.2.2.2.1
theorem qf_X.st {D : qf_D} {M : pj_M} (h : qf_X D M) : ∀ k, k < 2 → M 18 k = (qf_st D k : Int) := h.2.2.2.2.2.2.2.2.2.2.2.2.2.2.2.2.2.1
theorem qf_X.md {D : qf_D} {M : pj_M} (h : qf_X D M) : ∀ p a b, p < qf_dP D → a < 3 → b < 3 → M 16 (9 * p + 3 * a + b) = (qf_wks D p a b : Int) := h.2.2.2.2.2.2.2.2.2.2.2.2.2.2.2.2.2.2.1
theorem qf_X.or {D : qf_D} {M : pj_M} (h : qf_X D M) : ∀ i, i < qf_dP D → M 17 i = (qf_or0 D i : Int) := h.2.2.2.2.2.2.2.2.2.2.2.2.2.2.2.2.2.2.2.1
theorem qf_X.mt {D : qf_D} {M : pj_M} (h : qf_X D M) : ∃ m : Nat, M 7 13 = (m : Int) ∧ m < 128 ∧ ∀ p, m.testBit p = decide (p < qf_dP D ∧ qf_kd D p = 4) := h.2.2.2.2.2.2.2.2.2.2.2.2.2.2.2.2.2.2.2.2.1
theorem qf_X.sb {D : qf_D} {M : pj_M} (h : qf_X D M) : ∃ m : Nat, M 7 14 = (m : Int) ∧ m < 128 ∧ ∀ p, m.testBit p = decide (p < 7 ∧ qf_sn D p = 1) := h.2.2.2.2.2.2.2.2.2.2.2.2.2.2.2.2.2.2.2.2.2.1
theorem qf_X.pl {D : qf_D} {M : pj_M} (h : qf_X D M) : ∀ k, k < qf_dK D → M 20 k = ((14 * qf_lt D k + qf_lw D k : Nat) : Int) := h.2.2.2.2.2.2.2.2.2.2.2.2.2.2.2.2.2.2.2.2.2.2.1
theorem qf_X.sv {D : qf_D} {M : pj_M} (h : qf_X D M) : ∀ k, k < qf_dK D → M 21 (14 * qf_lt D k + qf_lw D k) = (qf_lv D k : Int) := h.2.2.2.2.2.2.2.2.2.2.2.2.2.2.2.2.2.2.2.2.2.2.2.1
theorem qf_X.no {D : qf_D} {M : pj_M} (h : qf_X D M) : ∀ l, l < 42 → (∀ k, k < qf_dK D → 14 * qf_lt D k + qf_lw D k ≠ l) → M 21 l = -1 := h.2.2.2.2.2.2.2.2.2.2.2.2.2.2.2.2.2.2.2.2.2.2.2.2
theorem qf_okD.b {D : qf_D} (h : qf_okD D) : qf_dW D ≤ 14 ∧ qf_dP D ≤ 7 ∧ 1 ≤ qf_dT D ∧ qf_dT D ≤ 3 ∧ qf_dK D ≤ 16 ∧ qf_dS D ≤ 2 := h.1
theorem qf_okD.rg {D : qf_D} (h : qf_okD D) : ∀ w, w < qf_dW D → 2 ≤ qf_rg D w ∧ qf_rg D w ≤ 3 ∧ 1 ≤ qf_pr D w ∧ qf_pr D w ≤ 9 := h.2.1
theorem qf_okD.dv {D : qf_D} (h : qf_okD D) : ∀ w, w < qf_dW D → qf_dv D w ≠ 0 → qf_dv D w - 1 < qf_dP D ∧ qf_wo D (qf_dv D w - 1) = w := h.2.2.1
theorem qf_okD.pt {D : qf_D} (h : qf_okD D) : ∀ p, p < qf_dP D → qf_wo D p < qf_dW D ∧ qf_dv D (qf_wo D p) = p + 1 ∧ qf_kd D p ≤ 4 ∧ qf_wk D p ≤ 5 ∧ (qf_kd D p ≠ 3 → qf_dx D p < qf_wo D p) ∧ (qf_kd D p ≤ 2 → qf_dy D p < qf_wo D p) ∧ qf_wy D p ≤ 15 ∧ (qf_wy D p ≠ 0 ↔ qf_kd D p = 1 ∨ qf_kd D p = 2) ∧ 1 ≤ qf_od D p ∧ qf_od D p ≤ 9 ∧ qf_sn D p ≤ 1 := h.2.2.2.1
theorem qf_okD.tb {D : qf_D} (h : qf_okD D) : ∀ k, k < 63 → qf_tb D k ≤ 2 := h.2.2.2.2.1
theorem qf_okD.np {D : qf_D} (h : qf_okD D) : ∀ t w, t < 3 → w < qf_dW D → qf_np0 D (14 * t + w) < qf_rg D w := h.2.2.2.2.2.1
theorem qf_okD.st {D : qf_D} (h : qf_okD D) : ∀ k, k < qf_dS D → qf_st D k < qf_dP D ∧ qf_kd D (qf_st D k) = 2 := h.2.2.2.2.2.2.1
theorem qf_okD.ts {D : qf_D} (h : qf_okD D) : ∀ p, p < qf_dP D → qf_kd D p = 2 → ∃ k, k < qf_dS D ∧ qf_st D k = p := h.2.2.2.2.2.2.2.1
theorem qf_okD.s2 {D : qf_D} (h : qf_okD D) : qf_dS D = 2 → qf_st D 0 ≠ qf_st D 1 := h.2.2.2.2.2.2.2.2.1
theorem qf_okD.lk {D : qf_D} (h : qf_okD D) : ∀ k, k < qf_dK D → qf_lt D k < qf_dT D ∧ qf_lw D k < qf_dW D ∧ qf_lv D k < qf_rg D (qf_lw D k) := h.2.2.2.2.2.2.2.2.2.1
theorem qf_okD.l2 {D : qf_D} (h : qf_okD D) : ∀ j k, j < k → k < qf_dK D → ¬ (qf_lt D j = qf_lt D k ∧ qf_lw D j = qf_lw D k) := h.2.2.2.2.2.2.2.2.2.2.1
theorem qf_okD.or {D : qf_D} (h : qf_okD D) : ∀ i, i < qf_dP D → qf_or0 D i < qf_dP D := h.2.2.2.2.2.2.2.2.2.2.2.1
theorem qf_okD.os {D : qf_D} (h : qf_okD D) : ∀ i j, i < j → j < qf_dP D → qf_wo D (qf_or0 D i) < qf_wo D (qf_or0 D j) := h.2.2.2.2.2.2.2.2.2.2.2.2.1
theorem qf_okD.oe {D : qf_D} (h : qf_okD D) : ∀ p, p < qf_dP D → ∃ i, i < qf_dP D ∧ qf_or0 D i = p := h.2.2.2.2.2.2.2.2.2.2.2.2.2
/-- what lies beyond the counts -/
def qf_okE (D : qf_D) : Prop := (∀ k, k < 2 → qf_st D k < 7) ∧ (∀ p, p < 7 → qf_dP D ≤ p → qf_sn D p = 0) ∧ ((∀ k, qf_dS D ≤ k → k < 2 → qf_st D k = 0) ∧ ∀ t w, t < 3 → qf_dW D ≤ w → w < 14 → qf_np0 D (14 * t + w) = 0) ∧ (∀ p, p < 7 → qf_sn D p ≤ 1)
/-- all places but some are as before -/
def qf_fr (l : List Nat) (M M' : pj_M) : Prop := ∀ a, a ∉ l → M' a = M a
/-- all slots of a place but some are as before -/
def qf_fs (a : Nat) (l : List Nat) (M M' : pj_M) : Prop := ∀ k, k ∉ l → M' a k = M a k
theorem qf_fr.refl {l : List Nat} {M : pj_M} : qf_fr l M M := fun _ _ => rfl
theorem qf_fs.refl {a : Nat} {l : List Nat} {M : pj_M} : qf_fs a l M M := fun _ _ => rfl
theorem qf_fr.trans {l l' : List Nat} {M M' M'' : pj_M} (h : qf_fr l M M') (h' : qf_fr l' M' M'') (hl : ∀ a ∈ l', a ∈ l) : qf_fr l M M'' := fun a ha => (h' a (fun z => ha (hl a z))).trans (h a ha)
theorem qf_fr.wide {l l' : List Nat} {M M' : pj_M} (h : qf_fr l M M') (hl : ∀ a ∈ l, a ∈ l') : qf_fr l' M M' := fun a ha => h a (fun z => ha (hl a z))
theorem qf_fs.trans {b : Nat} {l l' : List Nat} {M M' M'' : pj_M} (h : qf_fs b l M M') (h' : qf_fs b l' M' M'') (hl : ∀ a ∈ l', a ∈ l) : qf_fs b l M M'' := fun a ha => (h' a (fun z => ha (hl a z))).trans (h a ha)
theorem qf_fr.up {l : List Nat} {M M' : pj_M} {a j : Nat} {x : Int} (h : qf_fr l M M') (ha : a ∈ l) : qf_fr l M (pj_up M' a j x) := by
  intro b hb
  rw [← h b hb]
  funext k
  exact pj_up_else (fun e => hb (e ▸ ha))
theorem qf_fs.up {b : Nat} {l : List Nat} {M M' : pj_M} {j : Nat} {x : Int} (h : qf_fs b l M M') (hj : j ∈ l) : qf_fs b l M (pj_up M' b j x) := by
  intro k hk
  rw [← h k hk]
  exact pj_up_slot (fun e => hk (e ▸ hj))
theorem qf_fs.else {b a : Nat} {l : List Nat} {M M' : pj_M} {j : Nat} {x : Int} (h : qf_fs b l M M') (hb : b ≠ a) : qf_fs b l M (pj_up M' a j x) := by
  intro k hk
  rw [← h k hk]
  exact pj_up_else hb
/-- the reference's machine is left as it was -/
def qf_kY (M M' : pj_M) : Prop := (∀ a, 39 ≤ a → a ≤ 56 → M' a = M a) ∧ ∀ k, 17 ≤ k → k ≤ 22 → M' 38 k = M 38 k
/-- the class's machine is left as it was -/
def qf_kX (M M' : pj_M) : Prop := ∀ a, 2 ≤ a → a ≤ 21 → M' a = M a
theorem qf_kY.refl {M : pj_M} : qf_kY M M := ⟨fun _ _ _ => rfl, fun _ _ _ => rfl⟩
theorem qf_kX.refl {M : pj_M} : qf_kX M M := fun _ _ _ => rfl
theorem qf_kY.trans {M M' M'' : pj_M} (h : qf_kY M M') (h' : qf_kY M' M'') : qf_kY M M'' := ⟨fun a h1 h2 => (h'.1 a h1 h2).trans (h.1 a h1 h2), fun a h1 h2 => (h'.2 a h1 h2).trans (h.2 a h1 h2)⟩
theorem qf_kX.trans {M M' M'' : pj_M} (h : qf_kX M M') (h' : qf_kX M' M'') : qf_kX M M'' := fun a h1 h2 => (h' a h1 h2).trans (h a h1 h2)
theorem qf_kY.up {M M' : pj_M} {a j : Nat} {x : Int} (h : qf_kY M M') (ha : (a < 38 ∨ 56 < a) ∨ (a = 38 ∧ (j < 17 ∨ 22 < j))) : qf_kY M (pj_up M' a j x) := by
  refine ⟨fun b h1 h2 => ?_, fun k h1 h2 => ?_⟩
  · rw [← h.1 b h1 h2]
    funext k
    exact pj_up_else (by omega)
  · rw [← h.2 k h1 h2]
    by_cases e : (38 : Nat) = a
    · subst e
      exact pj_up_slot (by omega)
    · exact pj_up_else e
theorem qf_kX.up {M M' : pj_M} {a j : Nat} {x : Int} (h : qf_kX M M') (ha : a < 2 ∨ 21 < a) : qf_kX M (pj_up M' a j x) := by
  intro b h1 h2
  rw [← h b h1 h2]
  funext k
  exact pj_up_else (by omega)
theorem qf_kY.of {l : List Nat} {M M' : pj_M} (h : qf_fr l M M') (hl : ∀ a ∈ l, a < 38 ∨ 56 < a) : qf_kY M M' := by
  refine ⟨fun a h1 h2 => h a (fun z => ?_), fun k _ _ => ?_⟩
  · have := hl a z
    omega
  · rw [h 38 (fun z => by have := hl 38 z; omega)]
theorem qf_kX.of {l : List Nat} {M M' : pj_M} (h : qf_fr l M M') (hl : ∀ a ∈ l, a < 2 ∨ 21 < a) : qf_kX M M' := by
  intro a h1 h2
  exact h a (fun z => by have := hl a z; omega)
theorem qf_Y.keep {D : qf_D} {M M' : pj_M} (h : qf_Y D M) (k : qf_kY M M') : qf_Y D M' := ⟨(k.2 17 (by omega) (by omega)).trans h.W, (k.2 18 (by omega) (by omega)).trans h.P, (k.2 19 (by omega) (by omega)).trans h.S, (k.2 20 (by omega) (by omega)).trans h.T, (k.2 21 (by omega) (by omega)).trans h.K, by rw [k.1 39 (by omega) (by omega)]; exact h.rg, by rw [k.1 40 (by omega) (by omega)]; exact h.dv, by rw [k.1 41 (by omega) (by omega)]; exact h.pr, by rw [k.1 42 (by omega) (by omega)]; exact h.np, by rw [k.1 43 (by omega) (by omega)]; exact h.kd, by rw [k.1 44 (by omega) (by omega)]; exact h.wk, by rw [k.1 45 (by omega) (by omega)]; exact h.wo, by rw [k.1 46 (by omega) (by omega)]; exact h.dx, by rw [k.1 47 (by omega) (by omega)]; exact h.dy, by rw [k.1 48 (by omega) (by omega)]; exact h.tb, by rw [k.1 49 (by omega) (by omega)]; exact h.wy, by rw [k.1 50 (by omega) (by omega)]; exact h.od, by rw [k.1 51 (by omega) (by omega)]; exact h.st, by rw [k.1 52 (by omega) (by omega)]; exact h.sn, by rw [k.1 53 (by omega) (by omega)]; exact h.lt, by rw [k.1 54 (by omega) (by omega)]; exact h.lw, by rw [k.1 55 (by omega) (by omega)]; exact h.lv⟩
theorem qf_X.keep {D : qf_D} {M M' : pj_M} (h : qf_X D M) (k : qf_kX M M') : qf_X D M' := ⟨by rw [k 2 (by omega) (by omega)]; exact h.W, by rw [k 7 (by omega) (by omega)]; exact h.P, by rw [k 7 (by omega) (by omega)]; exact h.S, by rw [k 2 (by omega) (by omega)]; exact h.T, by rw [k 19 (by omega) (by omega)]; exact h.K, by rw [k 3 (by omega) (by omega)]; exact h.rg, by rw [k 4 (by omega) (by omega)]; exact h.dv, by rw [k 5 (by omega) (by omega)]; exact h.pr, by rw [k 6 (by omega) (by omega)]; exact h.np, by rw [k 8 (by omega) (by omega)]; exact h.kd, by rw [k 9 (by omega) (by omega)]; exact h.wk, by rw [k 10 (by omega) (by omega)]; exact h.wo, by rw [k 11 (by omega) (by omega)]; exact h.dx, by rw [k 12 (by omega) (by omega)]; exact h.dy, by rw [k 15 (by omega) (by omega)]; exact h.tb, by rw [k 13 (by omega) (by omega)]; exact h.wy, by rw [k 14 (by omega) (by omega)]; exact h.od, by rw [k 18 (by omega) (by omega)]; exact h.st, by rw [k 16 (by omega) (by omega)]; exact h.md, by rw [k 17 (by omega) (by omega)]; exact h.or, by rw [k 7 (by omega) (by omega)]; exact h.mt, by rw [k 7 (by omega) (by omega)]; exact h.sb, by rw [k 20 (by omega) (by omega)]; exact h.pl, by rw [k 21 (by omega) (by omega)]; exact h.sv, by rw [k 21 (by omega) (by omega)]; exact h.no⟩
