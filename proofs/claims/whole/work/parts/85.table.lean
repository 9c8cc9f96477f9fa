/-! layWork; table. -/
section QFTA
variable {L d : Nat} {Q : Option pj_V → pj_M → Prop} {D : qf_D} {M : pj_M} {x y z : Int} {p v c : Nat}
theorem qf_wk0_lt (hp : p < 7) (ht : ∀ k, k < 63 → qf_tb D k ≤ 2) {a b : Nat} (ha : a < 3) (hb : b < 3) : qf_wk0 D p a b < 10 := by
  have h1 := ht (9 * p) (by omega)
  have h2 := ht (9 * p + 3 * a + b) (by omega)
  have h3 := Nat.mul_le_mul (show a ≤ 2 by omega) (show b ≤ 2 by omega)
  unfold qf_wk0
  repeat' split
  all_goals omega
theorem qf_workOnX (hp : p < 7) {a b : Nat} (ha : a < 3) (hb : b < 3) (e8 : M 8 p = (qf_kd D p : Int)) (k4 : qf_kd D p ≤ 4) (e9 : M 9 p = (qf_wk D p : Int)) (w5 : qf_wk D p ≤ 5) (et : ∀ k, k < 63 → M 15 k = (qf_tb D k : Int)) (h : Q (some (pj_vI (qf_wk0 D p a b : Int))) M) : pj_G L d 29 0 [pj_vR 7, pj_vI (p : Int), pj_vI (a : Int), pj_vI (b : Int)] [] M Q := by
  unfold qf_wk0 at h
  refine pj_C29_0 p rfl hp (by omega) (fun n4 => pj_C29_12 p rfl hp (by omega) (fun n3 => ?_) (fun n3 => pj_C29_22 (9 * p) (by omega) (by omega) ?_)) (fun n4 => pj_C29_10 ?_)
  · rw [if_neg (show ¬ qf_kd D p = 4 by omega), if_neg (show ¬ qf_kd D p = 3 by omega)] at h
    refine pj_C29_32 p rfl hp (by omega) (fun k => pj_C29_72 ?_) (fun k => pj_C29_76 ?_) (fun k => ?_) (fun k => ?_) (fun k => ?_) (fun k => pj_C29_113 (9 * p + 3 * a + b) (by omega) (by omega) ?_)
    · rw [if_pos (show qf_wk D p = 0 by omega), Int.natCast_add] at h
      exact h
    · rw [if_neg (show ¬ qf_wk D p = 0 by omega), if_pos (show qf_wk D p = 1 by omega), Int.natCast_mul] at h
      exact h
    · rw [if_neg (show ¬ qf_wk D p = 0 by omega), if_neg (show ¬ qf_wk D p = 1 by omega), if_pos (show qf_wk D p = 2 by omega)] at h
      refine pj_C29_80 (by omega) (by omega) (fun g => pj_C29_89 (pj_C29_90 ?_)) (fun g => pj_C29_85 (pj_C29_90 ?_))
      · rw [if_neg (by omega)] at h
        exact h
      · rw [if_pos (by omega)] at h
        exact h
    · rw [if_neg (show ¬ qf_wk D p = 0 by omega), if_neg (show ¬ qf_wk D p = 1 by omega), if_neg (show ¬ qf_wk D p = 2 by omega), if_pos (show qf_wk D p = 3 by omega)] at h
      refine pj_C29_91 (by omega) (by omega) (fun g => pj_C29_100 (pj_C29_101 ?_)) (fun g => pj_C29_96 (pj_C29_101 ?_))
      · rw [if_neg (by omega)] at h
        exact h
      · rw [if_pos (by omega)] at h
        exact h
    · rw [if_neg (show ¬ qf_wk D p = 0 by omega), if_neg (show ¬ qf_wk D p = 1 by omega), if_neg (show ¬ qf_wk D p = 2 by omega), if_neg (show ¬ qf_wk D p = 3 by omega), if_pos (show qf_wk D p = 4 by omega)] at h
      refine pj_C29_102 (by omega) (by omega) (fun g => pj_C29_111 (pj_C29_112 ?_)) (fun g => pj_C29_107 (pj_C29_112 ?_))
      · rw [if_neg (by omega)] at h
        exact h
      · rw [if_pos (by omega)] at h
        exact h
    · rw [if_neg (show ¬ qf_wk D p = 0 by omega), if_neg (show ¬ qf_wk D p = 1 by omega), if_neg (show ¬ qf_wk D p = 2 by omega), if_neg (show ¬ qf_wk D p = 3 by omega), if_neg (show ¬ qf_wk D p = 4 by omega), ← et _ (by omega)] at h
      exact h
  · rw [if_neg (show ¬ qf_kd D p = 4 by omega), if_pos (show qf_kd D p = 3 by omega), ← et _ (by omega)] at h
    exact h
  · rw [if_pos (show qf_kd D p = 4 by omega)] at h
    exact h
theorem qf_layWorkX (hp : p < 7) {r : Nat} (hr : 2 ≤ r ∧ r ≤ 3) (e8 : M 8 p = (qf_kd D p : Int)) (k4 : qf_kd D p ≤ 4) (e9 : M 9 p = (qf_wk D p : Int)) (w5 : qf_wk D p ≤ 5) (et : ∀ k, k < 63 → M 15 k = (qf_tb D k : Int)) (ht : ∀ k, k < 63 → qf_tb D k ≤ 2)
    (h : ∀ M', qf_fr [16] M M' → (∀ a b, a < 3 → b < 3 → M' 16 (9 * p + 3 * a + b) = ((qf_wk0 D p a b % r : Nat) : Int)) → (∀ l, l < 9 * p ∨ 9 * p + 9 ≤ l → M' 16 l = M 16 l) → Q none M') : pj_G L (d + 1) 28 0 [pj_vR 7, pj_vI (p : Int), pj_vI (r : Int), pj_vU, pj_vU] [] M Q := by
  have key : ∀ M1, qf_fr [16] M M1 → M1 8 p = (qf_kd D p : Int) ∧ M1 9 p = (qf_wk D p : Int) ∧ ∀ k, k < 63 → M1 15 k = (qf_tb D k : Int) := fun M1 f => ⟨by rw [f 8 (by decide)]; exact e8, by rw [f 9 (by decide)]; exact e9, fun k hk => by rw [f 15 (by decide)]; exact et k hk⟩
  have outer : ∀ (q a : Nat) (M1 : pj_M), a + q = 3 → qf_fr [16] M M1 → (∀ n, n < 3 * a → M1 16 (9 * p + n) = ((qf_wk0 D p (n / 3) (n % 3) % r : Nat) : Int)) → (∀ l, l < 9 * p ∨ 9 * p + 9 ≤ l → M1 16 l = M 16 l) → pj_G L (d + 1) 28 8 [pj_vR 7, pj_vI (p : Int), pj_vI (r : Int), pj_vI (a : Int), pj_vU] [] M1 Q := by
    intro q
    induction q with
    | zero =>
      intro a M1 ea f1 f2 f3
      obtain rfl : a = 3 := by omega
      refine pj_C28_8 (by omega) (fun _ => pj_C28_60 (h M1 f1 (fun a b ha hb => ?_) f3)) (fun g => by omega)
      have := f2 (3 * a + b) (by omega)
      rw [show (3 * a + b) / 3 = a by omega, show (3 * a + b) % 3 = b by omega, ← Nat.add_assoc] at this
      exact this
    | succ q ih =>
      intro a M1 ea f1 f2 f3
      have inner : ∀ (s b : Nat) (M2 : pj_M), b + s = 3 → qf_fr [16] M M2 → (∀ n, n < 3 * a + b → M2 16 (9 * p + n) = ((qf_wk0 D p (n / 3) (n % 3) % r : Nat) : Int)) → (∀ l, l < 9 * p ∨ 9 * p + 9 ≤ l → M2 16 l = M 16 l) → pj_G L (d + 1) 28 16 [pj_vR 7, pj_vI (p : Int), pj_vI (r : Int), pj_vI (a : Int), pj_vI (b : Int)] [] M2 Q := by
        intro s
        induction s with
        | zero =>
          intro b M2 eb g1 g2 g3
          obtain rfl : b = 3 := by omega
          exact pj_C28_16 (by omega) (fun _ => pj_C28_54 (ih (a + 1) M2 (by omega) g1 (fun n hn => g2 n (by omega)) g3)) (fun g => by omega)
        | succ s ih2 =>
          intro b M2 eb g1 g2 g3
          obtain ⟨k1, k2, k3⟩ := key M2 g1
          have hlt := qf_wk0_lt hp ht (a := a) (b := b) (by omega) (by omega)
          refine pj_C28_16 (by omega) (fun g => by omega) (fun _ => pj_C28_22 (qf_workOnX hp (by omega) (by omega) k1 k4 k2 w5 k3 (pj_C28_45 (9 * p + (3 * a + b)) (qf_nrm_ne rfl (by omega) (by omega)) (by omega) (by omega) ?_)))
          rw [pj_rem_nat (by omega) (by omega) (by omega)]
          refine ih2 (b + 1) _ (by omega) (g1.up (by decide)) (fun n hn => ?_) (fun l hl => ?_)
          · by_cases e : n = 3 * a + b
            · rw [e, pj_up_same, show (3 * a + b) / 3 = a by omega, show (3 * a + b) % 3 = b by omega]
            · rw [pj_up_slot (by omega)]
              exact g2 n (by omega)
          · rw [pj_up_slot (by omega)]
            exact g3 l hl
      exact pj_C28_8 (by omega) (fun g => by omega) (fun _ => pj_C28_13 (inner 3 0 M1 (by omega) f1 (fun n hn => f2 n (by omega)) f3))
  exact pj_C28_0 (by omega) (fun _ => pj_C28_6 (outer 3 0 M (by omega) qf_fr.refl (fun n hn => by omega) (fun l _ => rfl))) (fun g => by omega)
def qf_w_table (D : qf_D) (x y z : Int) : Nat := if x < 0 ∨ (qf_dP D : Int) ≤ x ∨ y < 0 ∨ 9 ≤ y then 3 else if qf_kd D x.toNat = 4 then 5 else if z < 0 ∨ 2 < z then 7 else 0
theorem qf_okD.table (hD : qf_okD D) {k : Nat} (h2 : v ≤ 2) : qf_okD (qf_ud D 12 k v) := by
  refine ⟨hD.b, hD.rg, hD.dv, hD.pt, fun q hq => ?_, hD.np, hD.st, hD.ts, hD.s2, hD.lk, hD.l2, hD.or, hD.os, hD.oe⟩
  have h1 := hD.tb q hq
  have e : qf_tb (qf_ud D 12 k v) q = if q = k then v else qf_tb D q := qf_ud_if
  rw [e]
  split <;> omega
theorem qf_wk0_ud {q a b : Nat} (hq : q ≠ p) (hc : c < 9) (ha : a < 3) (hb : b < 3) : qf_wk0 (qf_ud D 12 (9 * p + c) v) q a b = qf_wk0 D q a b := by
  have e1 : qf_tb (qf_ud D 12 (9 * p + c) v) (9 * q) = qf_tb D (9 * q) := qf_ud_slot (by omega)
  have e2 : qf_tb (qf_ud D 12 (9 * p + c) v) (9 * q + 3 * a + b) = qf_tb D (9 * q + 3 * a + b) := qf_ud_slot (by omega)
  unfold qf_wk0
  rw [e1, e2]
  rfl
theorem qf_X.table (hD : qf_okD D) (h : qf_X D M) (hp : p < qf_dP D) (hc : c < 9) {M' : pj_M} (f : qf_fr [16] (pj_up M 15 (9 * p + c) (v : Int)) M') (f2 : ∀ a b, a < 3 → b < 3 → M' 16 (9 * p + 3 * a + b) = ((qf_wk0 (qf_ud D 12 (9 * p + c) v) p a b % qf_rg D (qf_wo D p) : Nat) : Int)) (f3 : ∀ l, l < 9 * p ∨ 9 * p + 9 ≤ l → M' 16 l = M 16 l) : qf_X (qf_ud D 12 (9 * p + c) v) M' := by
  have e : ∀ a, a ≠ 15 → a ≠ 16 → M' a = M a := fun a h1 h2 => (f a (by simp only [List.mem_cons, List.not_mem_nil, or_false]; exact h2)).trans (pj_up_ne h1)
  have e2 := e 2 (by decide) (by decide)
  have e7 := e 7 (by decide) (by decide)
  have e19 := e 19 (by decide) (by decide)
  refine ⟨by rw [e2]; exact h.W, by rw [e7]; exact h.P, by rw [e7]; exact h.S, by rw [e2]; exact h.T, by rw [e19]; exact h.K, by rw [e 3 (by decide) (by decide)]; exact h.rg, by rw [e 4 (by decide) (by decide)]; exact h.dv, by rw [e 5 (by decide) (by decide)]; exact h.pr, by rw [e 6 (by decide) (by decide)]; exact h.np, by rw [e 8 (by decide) (by decide)]; exact h.kd, by rw [e 9 (by decide) (by decide)]; exact h.wk, by rw [e 10 (by decide) (by decide)]; exact h.wo, by rw [e 11 (by decide) (by decide)]; exact h.dx, by rw [e 12 (by decide) (by decide)]; exact h.dy, ?_, by rw [e 13 (by decide) (by decide)]; exact h.wy, by rw [e 14 (by decide) (by decide)]; exact h.od, by rw [e 18 (by decide) (by decide)]; exact h.st, fun q a b hq ha hb => ?_, by rw [e 17 (by decide) (by decide)]; exact h.or, by rw [e7]; exact h.mt, by rw [e7]; exact h.sb, by rw [e 20 (by decide) (by decide)]; exact h.pl, by rw [e 21 (by decide) (by decide)]; exact h.sv, by rw [e 21 (by decide) (by decide)]; exact h.no⟩
  · rw [f 15 (by decide)]
    exact qf_putc h.tb
  · by_cases z : q = p
    · subst z
      exact f2 a b ha hb
    · have h1 := h.md q a b hq ha hb
      rw [f3 (9 * q + 3 * a + b) (by omega), h1]
      show ((qf_wk0 D q a b % qf_rg D (qf_wo D q) : Nat) : Int) = ((qf_wk0 (qf_ud D 12 (9 * p + c) v) q a b % qf_rg D (qf_wo D q) : Nat) : Int)
      rw [qf_wk0_ud z hc ha hb]
theorem qf_Y.table (h : qf_Y D M) {k : Nat} : qf_Y (qf_ud D 12 k v) (pj_up M 48 k (v : Int)) := ⟨h.W, h.P, h.S, h.T, h.K, h.rg, h.dv, h.pr, h.np, h.kd, h.wk, h.wo, h.dx, h.dy, qf_putc h.tb, h.wy, h.od, h.st, h.sn, h.lt, h.lw, h.lv⟩
theorem qf_tableX (hD : qf_okD D) (hX : qf_X D M) (hx : -2147483648 ≤ x ∧ x < 2147483648) (hy : -2147483648 ≤ y ∧ y < 2147483648) (hz : -2147483648 ≤ z ∧ z < 2147483648)
    (hb : ∀ w : Nat, w ≠ 0 → qf_w_table D x y z = w → Q (some (pj_vI (-(w : Int)))) (pj_rfX M w))
    (h : qf_w_table D x y z = 0 → ∀ (p c v : Nat) (M' : pj_M), x = (p : Int) → y = (c : Int) → z = (v : Int) → p < qf_dP D → c < 9 → v ≤ 2 → qf_X (qf_ud D 12 (9 * p + c) v) M' → (∀ a, a < 2 ∨ 22 < a → M' a = M a) → (M' 22 8 = 0 ∧ M' 22 3 = -1 ∧ M' 22 5 = -1) → Q (some (pj_vI (qf_tb D (9 * p + c) : Int))) M') : pj_G L (d + 2) 47 0 [pj_vR 1, pj_vI x, pj_vI y, pj_vI z, pj_vU] [] M Q := by
  have hb14 := hD.b
  have no : (x < 0 ∨ (qf_dP D : Int) ≤ x) ∨ (y < 0 ∨ 9 ≤ y) → pj_G L (d + 2) 47 18 [pj_vR 1, pj_vU, pj_vU, pj_vU, pj_vU] [] M Q := fun g => pj_C47_18 (pj_refuse 3 (by decide) (pj_C47_24 (hb 3 (by decide) (if_pos (by omega)))))
  refine pj_C47_0 (qf_isPartX hD hX hx (fun p ep hp => pj_C47_5 (by omega) (fun z => absurd z (by decide)) (fun _ => ?_)) (fun hno => pj_C47_5 (by omega) (fun _ => no (Or.inl (qf_out hno))) (fun z => absurd rfl z)))
  subst ep
  refine pj_C47_8 hy (fun g => no (by omega)) (fun y0 => pj_C47_12 hy (fun y9 => ?_) (fun g => no (by omega)))
  obtain ⟨c, rfl⟩ : ∃ c : Nat, y = (c : Int) := ⟨y.toNat, by omega⟩
  have ek := hX.kd p hp
  have hpt := hD.pt p hp
  have hrp := qf_rgp hD hp
  refine pj_C47_25 p rfl (by omega) (by omega) (fun k => ?_) (fun k => pj_C47_38 (pj_refuse 5 (by decide) (pj_C47_44 (hb 5 (by decide) ((if_neg (by omega)).trans (if_pos (show qf_kd D p = 4 by omega)))))))
  have c5 : ¬ qf_kd D p = 4 := by omega
  have no7 : z < 0 ∨ 2 < z → pj_G L (d + 2) 47 54 [pj_vR 1, pj_vU, pj_vU, pj_vU, pj_vU] [] M Q := fun g => pj_C47_54 (pj_refuse 7 (by decide) (pj_C47_60 (hb 7 (by decide) ((if_neg (by omega)).trans ((if_neg c5).trans (if_pos g))))))
  refine pj_C47_45 hz (fun g => no7 (by omega)) (fun z0 => pj_C47_49 hz (fun z2 => ?_) (fun g => no7 (by omega)))
  obtain ⟨v, rfl⟩ : ∃ v : Nat, z = (v : Int) := ⟨z.toNat, by omega⟩
  have e0 : qf_w_table D (p : Int) (c : Int) (v : Int) = 0 := (if_neg (by omega)).trans ((if_neg c5).trans (if_neg (by omega)))
  refine pj_C47_61 (9 * p + c) p (qf_wo D p) (by omega) (by omega) rfl (by omega) (hX.wo p hp) (by omega) ?_
  rw [hX.rg _ hpt.1]
  refine qf_layWorkX (D := qf_ud D 12 (9 * p + c) v) (by omega) ⟨hrp.1, hrp.2.1⟩ (hX.kd p hp) hpt.2.2.1 (hX.wk p hp) hpt.2.2.2.1 (qf_putc hX.tb) (hD.table (by omega)).tb (fun M' f f2 f3 => pj_C47_117 (qf_forgetX (pj_C47_124 ?_)))
  rw [hX.tb _ (by omega)]
  have f3' : ∀ l, l < 9 * p ∨ 9 * p + 9 ≤ l → M' 16 l = M 16 l := f3
  exact h e0 p c v _ rfl rfl rfl hp (by omega) (by omega) (hX.table hD hp (by omega) f f2 f3').fg (fun a ha => (qf_fgX_ne (by omega)).trans ((f a (by simp only [List.mem_cons, List.not_mem_nil, or_false]; omega)).trans (pj_up_ne (by omega)))) qf_fgX_z
theorem qf_tableY (hD : qf_okD D) (hY : qf_Y D M) (hx : -2147483648 ≤ x ∧ x < 2147483648) (hy : -2147483648 ≤ y ∧ y < 2147483648) (hz : -2147483648 ≤ z ∧ z < 2147483648)
    (hb : ∀ w : Nat, w ≠ 0 → qf_w_table D x y z = w → Q (some (pj_vI (-(w : Int)))) (pj_rfY M w))
    (h : qf_w_table D x y z = 0 → ∀ p c v : Nat, x = (p : Int) → y = (c : Int) → z = (v : Int) → p < qf_dP D → c < 9 → v ≤ 2 → Q (some (pj_vI (qf_tb D (9 * p + c) : Int))) (qf_fgY (pj_up M 48 (9 * p + c) (v : Int)))) : pj_G L (d + 1) 92 0 [pj_vR 38, pj_vI x, pj_vI y, pj_vI z, pj_vU] [] M Q := by
  have hb14 := hD.b
  have no : (x < 0 ∨ (qf_dP D : Int) ≤ x) ∨ (y < 0 ∨ 9 ≤ y) → pj_G L (d + 1) 92 20 [pj_vR 38, pj_vU, pj_vU, pj_vU, pj_vU] [] M Q := fun g => pj_C92_20 (pj_no 3 (by decide) (pj_C92_26 (hb 3 (by decide) (if_pos (by omega)))))
  refine pj_C92_0 (qf_isPartY hD hY hx (fun p ep hp => pj_C92_5 (by omega) (fun z => absurd z (by decide)) (fun _ => ?_)) (fun hno => pj_C92_5 (by omega) (fun _ => no (Or.inl (qf_out hno))) (fun z => absurd rfl z)))
  subst ep
  refine pj_C92_8 hy (qf_isInY hy (by omega) (by omega) (fun y0 y9 => pj_C92_17 (by omega) (fun _ => ?_) (fun z => absurd z (by decide))) (fun g => pj_C92_17 (by omega) (fun z => absurd rfl z) (fun _ => no (by omega))))
  obtain ⟨c, rfl⟩ : ∃ c : Nat, y = (c : Int) := ⟨y.toNat, by omega⟩
  have ek := hY.kd p hp
  have hpt := hD.pt p hp
  refine pj_C92_27 p rfl (by omega) (by omega) (fun k => ?_) (fun k => pj_C92_37 (pj_no 5 (by decide) (pj_C92_43 (hb 5 (by decide) ((if_neg (by omega)).trans (if_pos (show qf_kd D p = 4 by omega)))))))
  have c5 : ¬ qf_kd D p = 4 := by omega
  refine pj_C92_44 hz (qf_isInY hz (by omega) (by omega) (fun z0 z2 => pj_C92_53 (by omega) (fun _ => ?_) (fun z => absurd z (by decide))) (fun g => pj_C92_53 (by omega) (fun z => absurd rfl z) (fun _ => pj_C92_56 (pj_no 7 (by decide) (pj_C92_62 (hb 7 (by decide) ((if_neg (by omega)).trans ((if_neg c5).trans (if_pos (by omega))))))))))
  obtain ⟨v, rfl⟩ : ∃ v : Nat, z = (v : Int) := ⟨z.toNat, by omega⟩
  refine pj_C92_63 (9 * p + c) (by omega) (by omega) ?_
  rw [hY.tb _ (by omega)]
  exact h ((if_neg (by omega)).trans ((if_neg c5).trans (if_neg (by omega)))) p c v rfl rfl rfl hp (by omega) (by omega)
end QFTA
theorem qf_case_table : pj_Case qf_I 252 := by
  rintro L d Q M x h0 h5 hL ⟨D, hI⟩ go
  obtain ⟨X, rfl⟩ : ∃ X : Nat, x = (X : Int) := ⟨x.toNat, by omega⟩
  have hr1 := hI.rng (X + 1) (by omega)
  have hr2 := hI.rng (X + 2) (by omega)
  have hr3 := hI.rng (X + 3) (by omega)
  have eZ : ∀ w, (pj_rfX M w) 0 = M 0 := fun w => rfl
  refine pj_C152_252 (X + 1) (X + 2) (X + 3) hL (by omega) (by omega) (by omega) (by omega) (by omega) (by omega) (qf_tableX (d := d + 37) hI.ok hI.X hr1 hr2 hr3 (fun w hw0 ew => ?_) (fun e0 p c v M1 ep ec ev hp hc hv hX1 f1 zz => ?_))
  · have hw := hI.rfX w
    refine pj_C152_271 (X + 1) (X + 2) (X + 3) hL (by omega) (by omega) (by omega) (by omega) (by omega) (by omega) ?_
    rw [eZ w]
    refine qf_tableY (d := d + 38) hw.ok hw.Y hr1 hr2 hr3 (fun w' _ ew' => ?_) (fun e0 => absurd (ew.symm.trans e0) hw0)
    obtain rfl : w' = w := ew'.symm.trans ew
    exact pj_B152_290 (fun _ => go _ ⟨D, hw.rfY⟩) (fun c => absurd rfl c)
  · have hY1 := hI.Y.offX f1
    refine pj_C152_271 (X + 1) (X + 2) (X + 3) hL (by omega) (by omega) (by omega) (by omega) (by omega) (by omega) ?_
    rw [f1 0 (by omega)]
    refine qf_tableY (d := d + 38) hI.ok hY1 hr1 hr2 hr3 (fun w' hw' ew' => absurd (ew'.symm.trans e0) hw') (fun _ p' c' v' ep' ec' ev' _ _ _ => ?_)
    obtain rfl : p' = p := by omega
    obtain rfl : c' = c := by omega
    obtain rfl : v' = v := by omega
    exact pj_B152_290 (fun _ => go _ ⟨_, hI.new (hI.ok.table hv) hI.E hX1 (hY1.table (k := 9 * p' + c') (v := v')).fg f1 zz (fun a ha => (qf_fgY_ne (by omega)).trans (pj_up_ne (by omega))) (by rw [qf_fgY, pj_up_slot (by decide), pj_up_ne (by decide)]) pj_up_same⟩) (fun c => absurd rfl c)
