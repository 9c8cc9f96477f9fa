/-! see, unsee. -/
section QFSE
variable {L d : Nat} {Q : Option pj_V → pj_M → Prop} {D : qf_D} {M : pj_M} {x y z : Int} {t w v : Nat}
/-- there is a look there -/
def qf_hl (D : qf_D) (t w : Nat) : Prop := ∃ k, k < qf_dK D ∧ qf_lt D k = t ∧ qf_lw D k = w
noncomputable def qf_w_see (D : qf_D) (x y z : Int) : Nat := if x < 0 ∨ (qf_dT D : Int) ≤ x ∨ y < 0 ∨ (qf_dW D : Int) ≤ y then 3 else @ite Nat (z < 0 ∨ (qf_rg D y.toNat : Int) ≤ z ∨ qf_hl D x.toNat y.toNat) (Classical.propDecidable _) 7 (if 16 ≤ qf_dK D then 8 else 0)
def qf_seX (M : pj_M) (n t w v : Nat) : pj_M := pj_up (pj_up (pj_up M 20 n ((14 * t + w : Nat) : Int)) 21 (14 * t + w) (v : Int)) 19 0 ((n : Int) + 1)
def qf_seY (M : pj_M) (n t w v : Nat) : pj_M := pj_up (pj_up (pj_up (pj_up M 53 n (t : Int)) 54 n (w : Int)) 55 n (v : Int)) 38 21 ((n : Int) + 1)
def qf_seD (D : qf_D) (n t w v : Nat) : qf_D := qf_ud (qf_ud (qf_ud (qf_ud D 15 n t) 16 n w) 17 n v) 0 3 (n + 1)
theorem qf_seenP (hD : qf_okD D) (hX : qf_X D M) (hw : w < qf_dW D) (ht : t < qf_dT D) : (M 21 (14 * t + w) = -1 ↔ ¬ qf_hl D t w) ∧ -1 ≤ M 21 (14 * t + w) ∧ M 21 (14 * t + w) ≤ 2 := by
  have hb := hD.b
  by_cases g : qf_hl D t w
  · obtain ⟨k, k1, k2, k3⟩ := g
    have e := hX.sv k k1
    have hl := hD.lk k k1
    have hrg := hD.rg w hw
    subst k2 k3
    refine ⟨⟨fun z => by omega, fun z => absurd ⟨k, k1, rfl, rfl⟩ z⟩, by omega, by omega⟩
  · have e := hX.no (14 * t + w) (by omega) (fun k hk z => g ⟨k, hk, by have := hD.lk k hk; omega, by have := hD.lk k hk; omega⟩)
    exact ⟨⟨fun _ => g, fun _ => e⟩, by omega, by omega⟩
theorem qf_seeX (hD : qf_okD D) (hX : qf_X D M) (hx : -2147483648 ≤ x ∧ x < 2147483648) (hy : -2147483648 ≤ y ∧ y < 2147483648) (hz : -2147483648 ≤ z ∧ z < 2147483648)
    (hb : ∀ w : Nat, w ≠ 0 → qf_w_see D x y z = w → Q (some (pj_vI (-(w : Int)))) (pj_rfX M w))
    (h : qf_w_see D x y z = 0 → ∀ t w v : Nat, x = (t : Int) → y = (w : Int) → z = (v : Int) → t < qf_dT D → w < qf_dW D → v < qf_rg D w → ¬ qf_hl D t w → qf_dK D < 16 → Q (some (pj_vI ((qf_dK D : Int) + 1))) (qf_fgX (qf_seX M (qf_dK D) t w v))) : pj_G L (d + 1) 56 0 [pj_vR 1, pj_vI x, pj_vI y, pj_vI z, pj_vU] [] M Q := by
  have hb14 := hD.b
  have no : (x < 0 ∨ (qf_dT D : Int) ≤ x) ∨ (y < 0 ∨ (qf_dW D : Int) ≤ y) → pj_G L (d + 1) 56 16 [pj_vR 1, pj_vU, pj_vU, pj_vU, pj_vU] [] M Q := fun g => pj_C56_16 (pj_refuse 3 (by decide) (pj_C56_22 (hb 3 (by decide) (if_pos (by omega)))))
  refine pj_C56_0 (qf_isTickX hD hX hx (fun t et ht => pj_C56_5 (by omega) (fun z => absurd z (by decide)) (fun _ => pj_C56_8 ?_)) (fun hno => pj_C56_5 (by omega) (fun _ => no (Or.inl (qf_out hno))) (fun z => absurd rfl z)))
  refine qf_isWireX hD hX hy (fun w ew hw => pj_C56_13 (by omega) (fun _ => ?_) (fun z => absurd z (by decide))) (fun hno => pj_C56_13 (by omega) (fun z => absurd rfl z) (fun _ => no (Or.inr (qf_out hno))))
  subst et ew
  have er := hX.rg w hw
  have hrg := hD.rg w hw
  have hs := qf_seenP hD hX hw ht
  have eK := hX.K
  have no7 : z < 0 ∨ (qf_rg D w : Int) ≤ z ∨ qf_hl D t w → pj_G L (d + 1) 56 62 [pj_vR 1, pj_vU, pj_vU, pj_vU, pj_vU] [] M Q := fun g => pj_C56_62 (pj_refuse 7 (by decide) (pj_C56_68 (hb 7 (by decide) ((if_neg (by omega)).trans (if_pos g)))))
  refine pj_C56_23 hz (fun g => no7 (Or.inl g)) (fun g1 => pj_C56_35 w rfl (by omega) hz (by omega) (fun g => no7 (Or.inr (Or.inl (by omega)))) (fun g2 => pj_C56_48 (14 * t + w) (by omega) (by omega) (by omega) (fun g3 => ?_) (fun g => no7 (Or.inr (Or.inr (Classical.byContradiction (fun q => g (hs.1.mpr q))))))))
  have g3' := hs.1.mp g3
  have c7 : ¬ (z < 0 ∨ (qf_rg D w : Int) ≤ z ∨ qf_hl D t w) := fun q => by
    rcases q with q | q | q
    · omega
    · omega
    · exact g3' q
  refine pj_C56_69 (by omega) (fun g4 => pj_C56_88 (pj_C13_0 (qf_dK D) (14 * t + w) eK (by omega) (by omega) (by omega) (pj_C56_98 (qf_forgetX (pj_C56_105 ?_))))) (fun g => pj_C56_81 (pj_refuse 8 (by decide) (pj_C56_87 (hb 8 (by decide) ((if_neg (by omega)).trans ((if_neg c7).trans (if_pos (by omega))))))))
  obtain ⟨v, rfl⟩ : ∃ v : Nat, z = (v : Int) := ⟨z.toNat, by omega⟩
  rw [qf_fgX_ne (by decide), pj_up_same, eK, show (t : Int) * 14 + (w : Int) = ((14 * t + w : Nat) : Int) by omega]
  exact h ((if_neg (by omega)).trans ((if_neg c7).trans (if_neg (by omega)))) t w v rfl rfl rfl ht hw (by omega) g3' (by omega)
theorem qf_hasLookY (hD : qf_okD D) (hY : qf_Y D M) (ht : t < qf_dT D) (hw : w < qf_dW D) (h1 : qf_hl D t w → Q (some (pj_vI 1)) M) (h0 : ¬ qf_hl D t w → Q (some (pj_vI 0)) M) : pj_G L d 101 0 [pj_vR 38, pj_vI (t : Int), pj_vI (w : Int), pj_vU, pj_vU] [] M Q := by
  have hb := hD.b
  have eK := hY.K
  have loop : ∀ (q n : Nat) (s : Int), n + q = qf_dK D → (s = 1 ∧ (∃ k, k < n ∧ qf_lt D k = t ∧ qf_lw D k = w)) ∨ (s = 0 ∧ ¬ ∃ k, k < n ∧ qf_lt D k = t ∧ qf_lw D k = w) → pj_G L d 101 5 [pj_vR 38, pj_vI (t : Int), pj_vI (w : Int), pj_vI s, pj_vI (n : Int)] [] M Q := by
    intro q
    induction q with
    | zero =>
      intro n s e hs
      obtain rfl : n = qf_dK D := by omega
      refine pj_C101_5 (by omega) (by omega) (fun _ => pj_C101_52 (by omega) ?_) (fun c => by omega)
      rcases hs with ⟨rfl, g⟩ | ⟨rfl, g⟩
      · exact h1 g
      · exact h0 g
    | succ q ih =>
      intro n s e hs
      have hl := hD.lk n (by omega)
      have e1 := hY.lt n (by omega)
      have e2 := hY.lw n (by omega)
      have yes : (∃ k, k < n + 1 ∧ qf_lt D k = t ∧ qf_lw D k = w) → pj_G L d 101 40 [pj_vR 38, pj_vI (t : Int), pj_vI (w : Int), pj_vU, pj_vI (n : Int)] [] M Q := fun g => pj_C101_40 (pj_C101_45 (ih (n + 1) 1 (by omega) (Or.inl ⟨rfl, g⟩)))
      have nay : (¬ ∃ k, k < n + 1 ∧ qf_lt D k = t ∧ qf_lw D k = w) → pj_G L d 101 44 [pj_vR 38, pj_vI (t : Int), pj_vI (w : Int), pj_vU, pj_vI (n : Int)] [] M Q := fun g => pj_C101_44 (pj_C101_45 (ih (n + 1) 0 (by omega) (Or.inr ⟨rfl, g⟩)))
      have split : (∃ k, k < n + 1 ∧ qf_lt D k = t ∧ qf_lw D k = w) → (∃ k, k < n ∧ qf_lt D k = t ∧ qf_lw D k = w) ∨ (qf_lt D n = t ∧ qf_lw D n = w) := by
        rintro ⟨k, k1, k2, k3⟩
        by_cases z : k = n
        · subst z
          exact Or.inr ⟨k2, k3⟩
        · exact Or.inl ⟨k, by omega, k2, k3⟩
      have rs : -2147483648 ≤ s ∧ s < 2147483648 := by
        rcases hs with ⟨hs, -⟩ | ⟨hs, -⟩
        · rw [hs]; decide
        · rw [hs]; decide
      refine pj_C101_5 (by omega) (by omega) (fun c => by omega) (fun _ => pj_C101_14 rs (fun g => ?_) (fun g => ?_))
      · rcases hs with ⟨-, k, k1, k2⟩ | ⟨hs, -⟩
        · exact yes ⟨k, by omega, k2⟩
        · exact absurd hs g
      · rcases hs with ⟨hs, -⟩ | ⟨-, hs⟩
        · omega
        · refine pj_C101_18 n rfl (by omega) (by omega) (by omega) (fun c => nay (fun z => ?_)) (fun c => pj_C101_29 n rfl (by omega) (by omega) (by omega) (fun c2 => nay (fun z => ?_)) (fun c2 => yes ⟨n, by omega, by omega, by omega⟩))
          · rcases split z with z | z
            · exact hs z
            · omega
          · rcases split z with z | z
            · exact hs z
            · omega
  exact pj_C101_0 (loop (qf_dK D) 0 0 (by omega) (Or.inr ⟨rfl, fun ⟨k, k1, _⟩ => by omega⟩))
theorem qf_seeY (hD : qf_okD D) (hY : qf_Y D M) (hx : -2147483648 ≤ x ∧ x < 2147483648) (hy : -2147483648 ≤ y ∧ y < 2147483648) (hz : -2147483648 ≤ z ∧ z < 2147483648)
    (hb : ∀ w : Nat, w ≠ 0 → qf_w_see D x y z = w → Q (some (pj_vI (-(w : Int)))) (pj_rfY M w))
    (h : qf_w_see D x y z = 0 → ∀ t w v : Nat, x = (t : Int) → y = (w : Int) → z = (v : Int) → t < qf_dT D → w < qf_dW D → v < qf_rg D w → ¬ qf_hl D t w → qf_dK D < 16 → Q (some (pj_vI ((qf_dK D : Int) + 1))) (qf_fgY (qf_seY M (qf_dK D) t w v))) : pj_G L (d + 1) 102 0 [pj_vR 38, pj_vI x, pj_vI y, pj_vI z] [] M Q := by
  have hb14 := hD.b
  have no : (x < 0 ∨ (qf_dT D : Int) ≤ x) ∨ (y < 0 ∨ (qf_dW D : Int) ≤ y) → pj_G L (d + 1) 102 16 [pj_vR 38, pj_vU, pj_vU, pj_vU] [] M Q := fun g => pj_C102_16 (pj_no 3 (by decide) (pj_C102_22 (hb 3 (by decide) (if_pos (by omega)))))
  refine pj_C102_0 (qf_isTickY hD hY hx (fun t et ht => pj_C102_5 (by omega) (fun z => absurd z (by decide)) (fun _ => pj_C102_8 ?_)) (fun hno => pj_C102_5 (by omega) (fun _ => no (Or.inl (qf_out hno))) (fun z => absurd rfl z)))
  refine qf_isWireY hD hY hy (fun w ew hw => pj_C102_13 (by omega) (fun _ => ?_) (fun z => absurd z (by decide))) (fun hno => pj_C102_13 (by omega) (fun z => absurd rfl z) (fun _ => no (Or.inr (qf_out hno))))
  subst et ew
  have er := hY.rg w hw
  have hrg := hD.rg w hw
  have eK := hY.K
  have no7 : z < 0 ∨ (qf_rg D w : Int) ≤ z ∨ qf_hl D t w → pj_G L (d + 1) 102 50 [pj_vR 38, pj_vU, pj_vU, pj_vU] [] M Q := fun g => pj_C102_50 (pj_no 7 (by decide) (pj_C102_56 (hb 7 (by decide) ((if_neg (by omega)).trans (if_pos g)))))
  refine pj_C102_23 w hz rfl (by omega) (by omega) (qf_isInY hz (by omega) (by omega) (fun g1 g2 => pj_C102_38 (by omega) (fun z => absurd z (by decide)) (fun _ => pj_C102_41 (qf_hasLookY hD hY ht hw (fun g => pj_C102_47 (by omega) (fun z => absurd z (by decide)) (fun _ => no7 (Or.inr (Or.inr g)))) (fun g3' => pj_C102_47 (by omega) (fun _ => ?_) (fun z => absurd rfl z))))) (fun g => pj_C102_38 (by omega) (fun _ => no7 (by omega)) (fun z => absurd rfl z)))
  have c7 : ¬ (z < 0 ∨ (qf_rg D w : Int) ≤ z ∨ qf_hl D t w) := fun q => by
    rcases q with q | q | q
    · omega
    · omega
    · exact g3' q
  refine pj_C102_57 (by omega) (fun g4 => pj_C102_73 (qf_dK D) eK (by omega) ?_) (fun g => pj_C102_66 (pj_no 8 (by decide) (pj_C102_72 (hb 8 (by decide) ((if_neg (by omega)).trans ((if_neg c7).trans (if_pos (by omega))))))))
  obtain ⟨v, rfl⟩ : ∃ v : Nat, z = (v : Int) := ⟨z.toNat, by omega⟩
  rw [eK]
  exact h ((if_neg (by omega)).trans ((if_neg c7).trans (if_neg (by omega)))) t w v rfl rfl rfl ht hw (by omega) g3' (by omega)
theorem qf_seD_lt {n k : Nat} : qf_lt (qf_seD D n t w v) k = if k = n then t else qf_lt D k := qf_ud_if (D := D) (a := 15) (k := n) (v := t)
theorem qf_seD_lw {n k : Nat} : qf_lw (qf_seD D n t w v) k = if k = n then w else qf_lw D k := qf_ud_if (D := D) (a := 16) (k := n) (v := w)
theorem qf_seD_lv {n k : Nat} : qf_lv (qf_seD D n t w v) k = if k = n then v else qf_lv D k := qf_ud_if (D := D) (a := 17) (k := n) (v := v)
theorem qf_seD_K {n : Nat} : qf_dK (qf_seD D n t w v) = n + 1 := qf_ud_same
theorem qf_okD.see (hD : qf_okD D) (ht : t < qf_dT D) (hw : w < qf_dW D) (hv : v < qf_rg D w) (hn : ¬ qf_hl D t w) (h16 : qf_dK D < 16) : qf_okD (qf_seD D (qf_dK D) t w v) := by
  have hb := hD.b
  have eK := qf_seD_K (D := D) (n := qf_dK D) (t := t) (w := w) (v := v)
  refine ⟨⟨hb.1, hb.2.1, hb.2.2.1, hb.2.2.2.1, by rw [eK]; omega, hb.2.2.2.2.2⟩, hD.rg, hD.dv, hD.pt, hD.tb, hD.np, hD.st, hD.ts, hD.s2, fun k hk => ?_, fun j k hjk hk => ?_, hD.or, hD.os, hD.oe⟩
  · rw [eK] at hk
    rw [qf_seD_lt, qf_seD_lw, qf_seD_lv]
    by_cases z : k = qf_dK D
    · rw [if_pos z, if_pos z, if_pos z]
      exact ⟨ht, hw, hv⟩
    · rw [if_neg z, if_neg z, if_neg z]
      exact hD.lk k (by omega)
  · rw [eK] at hk
    rw [qf_seD_lt, qf_seD_lt, qf_seD_lw, qf_seD_lw, if_neg (show ¬ j = qf_dK D by omega), if_neg (show ¬ j = qf_dK D by omega)]
    by_cases z : k = qf_dK D
    · rw [if_pos z, if_pos z]
      exact fun q => hn ⟨j, by omega, q.1, q.2⟩
    · rw [if_neg z, if_neg z]
      exact hD.l2 j k hjk (by omega)
theorem qf_X.see (hD : qf_okD D) (h : qf_X D M) (ht : t < qf_dT D) (hw : w < qf_dW D) (hn : ¬ qf_hl D t w) : qf_X (qf_seD D (qf_dK D) t w v) (qf_seX M (qf_dK D) t w v) := by
  have hb := hD.b
  have eK := qf_seD_K (D := D) (n := qf_dK D) (t := t) (w := w) (v := v)
  have e20 : ∀ k, qf_seX M (qf_dK D) t w v 20 k = pj_up M 20 (qf_dK D) ((14 * t + w : Nat) : Int) 20 k := fun k => rfl
  have e21 : ∀ k, qf_seX M (qf_dK D) t w v 21 k = pj_up (pj_up M 20 (qf_dK D) ((14 * t + w : Nat) : Int)) 21 (14 * t + w) (v : Int) 21 k := fun k => rfl
  refine ⟨h.W, h.P, h.S, h.T, ?_, h.rg, h.dv, h.pr, h.np, h.kd, h.wk, h.wo, h.dx, h.dy, h.tb, h.wy, h.od, h.st, h.md, h.or, h.mt, h.sb, fun k hk => ?_, fun k hk => ?_, fun l hl hno => ?_⟩
  · rw [eK]
    exact pj_up_same
  · rw [eK] at hk
    rw [qf_seD_lt, qf_seD_lw, e20]
    by_cases z : k = qf_dK D
    · rw [if_pos z, if_pos z, z, pj_up_same]
    · rw [if_neg z, if_neg z, pj_up_slot z]
      exact h.pl k (by omega)
  · rw [eK] at hk
    rw [qf_seD_lt, qf_seD_lw, qf_seD_lv, e21]
    by_cases z : k = qf_dK D
    · rw [if_pos z, if_pos z, if_pos z, pj_up_same]
    · have hl := hD.lk k (by omega)
      rw [if_neg z, if_neg z, if_neg z, pj_up_slot (fun q => hn ⟨k, by omega, by omega, by omega⟩), pj_up_else (by decide)]
      exact h.sv k (by omega)
  · have h1 := hno (qf_dK D) (by rw [eK]; omega)
    rw [qf_seD_lt, qf_seD_lw, if_pos rfl, if_pos rfl] at h1
    rw [e21, pj_up_slot (fun q => h1 q.symm), pj_up_else (by decide)]
    refine h.no l hl (fun k hk => ?_)
    have h2 := hno k (by rw [eK]; omega)
    rw [qf_seD_lt, qf_seD_lw, if_neg (by omega), if_neg (by omega)] at h2
    exact h2
theorem qf_Y.see (h : qf_Y D M) : qf_Y (qf_seD D (qf_dK D) t w v) (qf_seY M (qf_dK D) t w v) := by
  have eK := qf_seD_K (D := D) (n := qf_dK D) (t := t) (w := w) (v := v)
  refine ⟨h.W, h.P, h.S, h.T, ?_, h.rg, h.dv, h.pr, h.np, h.kd, h.wk, h.wo, h.dx, h.dy, h.tb, h.wy, h.od, h.st, h.sn, fun k hk => ?_, fun k hk => ?_, fun k hk => ?_⟩
  · rw [eK]
    exact pj_up_same
  · rw [eK] at hk
    rw [qf_seD_lt]
    show pj_up M 53 (qf_dK D) (t : Int) 53 k = _
    by_cases z : k = qf_dK D
    · rw [if_pos z, z, pj_up_same]
    · rw [if_neg z, pj_up_slot z]
      exact h.lt k (by omega)
  · rw [eK] at hk
    rw [qf_seD_lw]
    show pj_up (pj_up M 53 (qf_dK D) (t : Int)) 54 (qf_dK D) (w : Int) 54 k = _
    by_cases z : k = qf_dK D
    · rw [if_pos z, z, pj_up_same]
    · rw [if_neg z, pj_up_slot z, pj_up_else (by decide)]
      exact h.lw k (by omega)
  · rw [eK] at hk
    rw [qf_seD_lv]
    show pj_up (pj_up (pj_up M 53 (qf_dK D) (t : Int)) 54 (qf_dK D) (w : Int)) 55 (qf_dK D) (v : Int) 55 k = _
    by_cases z : k = qf_dK D
    · rw [if_pos z, z, pj_up_same]
    · rw [if_neg z, pj_up_slot z, pj_up_else (by decide), pj_up_else (by decide)]
      exact h.lv k (by omega)
/-! unsee -/
def qf_w_unsee (D : qf_D) : Nat := if qf_dK D = 0 then 2 else 0
theorem qf_unseeX (hD : qf_okD D) (hX : qf_X D M)
    (hb : ∀ w : Nat, w ≠ 0 → qf_w_unsee D = w → Q (some (pj_vI (-(w : Int)))) (pj_rfX M w))
    (h : qf_w_unsee D = 0 → ∀ n : Nat, qf_dK D = n + 1 → Q (some (pj_vI (n : Int))) (qf_fgX (pj_up (pj_up M 19 0 (n : Int)) 21 (14 * qf_lt D n + qf_lw D n) (-1)))) : pj_G L (d + 1) 57 0 [pj_vR 1] [] M Q := by
  have hb14 := hD.b
  have eK := hX.K
  refine pj_C57_0 (by omega) (fun g => pj_C57_18 ?_) (fun g => pj_C57_11 (pj_refuse 2 (by decide) (pj_C57_17 (hb 2 (by decide) (if_pos (by omega))))))
  obtain ⟨n, hn⟩ : ∃ n, qf_dK D = n + 1 := ⟨qf_dK D - 1, by omega⟩
  have hl := hD.lk n (by omega)
  have hpl := hX.pl n (by omega)
  refine pj_C14_0 n (14 * qf_lt D n + qf_lw D n) (by omega) (by omega) hpl (by omega) (pj_C57_25 (qf_forgetX (pj_C57_32 ?_)))
  rw [qf_fgX_ne (by decide), pj_up_else (by decide), pj_up_same, show M 19 0 - 1 = (n : Int) by omega]
  exact h (if_neg (by omega)) n hn
theorem qf_unseeY (hD : qf_okD D) (hY : qf_Y D M)
    (hb : ∀ w : Nat, w ≠ 0 → qf_w_unsee D = w → Q (some (pj_vI (-(w : Int)))) (pj_rfY M w))
    (h : qf_w_unsee D = 0 → ∀ n : Nat, qf_dK D = n + 1 → Q (some (pj_vI (n : Int))) (qf_fgY (pj_up M 38 21 (n : Int)))) : pj_G L (d + 1) 103 0 [pj_vR 38] [] M Q := by
  have hb14 := hD.b
  have eK := hY.K
  refine pj_C103_0 (by omega) (fun g => pj_C103_14 ?_) (fun g => pj_C103_7 (pj_no 2 (by decide) (pj_C103_13 (hb 2 (by decide) (if_pos (by omega))))))
  obtain ⟨n, hn⟩ : ∃ n, qf_dK D = n + 1 := ⟨qf_dK D - 1, by omega⟩
  rw [show M 38 21 - 1 = (n : Int) by omega]
  exact h (if_neg (by omega)) n hn
theorem qf_okD.unsee (hD : qf_okD D) {n : Nat} (hn : qf_dK D = n + 1) : qf_okD (qf_ud D 0 3 n) := by
  have hb := hD.b
  have eK : qf_dK (qf_ud D 0 3 n) = n := qf_ud_same
  exact ⟨⟨hb.1, hb.2.1, hb.2.2.1, hb.2.2.2.1, by rw [eK]; omega, hb.2.2.2.2.2⟩, hD.rg, hD.dv, hD.pt, hD.tb, hD.np, hD.st, hD.ts, hD.s2, fun k hk => hD.lk k (by rw [eK] at hk; omega), fun j k hjk hk => hD.l2 j k hjk (by rw [eK] at hk; omega), hD.or, hD.os, hD.oe⟩
theorem qf_X.unsee (hD : qf_okD D) (h : qf_X D M) {n : Nat} (hn : qf_dK D = n + 1) : qf_X (qf_ud D 0 3 n) (pj_up (pj_up M 19 0 (n : Int)) 21 (14 * qf_lt D n + qf_lw D n) (-1)) := by
  have hb := hD.b
  have eK : qf_dK (qf_ud D 0 3 n) = n := qf_ud_same
  have e21 : ∀ k, k ≠ 14 * qf_lt D n + qf_lw D n → pj_up (pj_up M 19 0 (n : Int)) 21 (14 * qf_lt D n + qf_lw D n) (-1) 21 k = M 21 k := fun k hk => by rw [pj_up_slot hk, pj_up_else (by decide)]
  have hln := hD.lk n (by omega)
  refine ⟨h.W, h.P, h.S, h.T, ?_, h.rg, h.dv, h.pr, h.np, h.kd, h.wk, h.wo, h.dx, h.dy, h.tb, h.wy, h.od, h.st, h.md, h.or, h.mt, h.sb, fun k hk => ?_, fun k hk => ?_, fun l hl hno => ?_⟩
  · rw [eK, pj_up_else (by decide), pj_up_same]
  · rw [eK] at hk
    exact h.pl k (by omega)
  · rw [eK] at hk
    have hlk := hD.lk k (by omega)
    have h2 := hD.l2 k n hk (by omega)
    have := h.sv k (by omega)
    rw [← e21 (14 * qf_lt D k + qf_lw D k) (fun q => h2 ⟨by omega, by omega⟩)] at this
    exact this
  · by_cases z : l = 14 * qf_lt D n + qf_lw D n
    · rw [z, pj_up_same]
    · rw [e21 l z]
      refine h.no l hl (fun k hk => ?_)
      by_cases y : k = n
      · rw [y]
        exact fun q => z q.symm
      · exact hno k (by rw [eK]; omega)
theorem qf_Y.unsee (h : qf_Y D M) {n : Nat} (hn : qf_dK D = n + 1) : qf_Y (qf_ud D 0 3 n) (pj_up M 38 21 (n : Int)) := by
  have eK : qf_dK (qf_ud D 0 3 n) = n := qf_ud_same
  exact ⟨h.W, h.P, h.S, h.T, by rw [eK, pj_up_same], h.rg, h.dv, h.pr, h.np, h.kd, h.wk, h.wo, h.dx, h.dy, h.tb, h.wy, h.od, h.st, h.sn, fun k hk => h.lt k (by rw [eK] at hk; omega), fun k hk => h.lw k (by rw [eK] at hk; omega), fun k hk => h.lv k (by rw [eK] at hk; omega)⟩
end QFSE
theorem qf_case_see : pj_Case qf_I 575 := by
  rintro L d Q M x h0 h5 hL ⟨D, hI⟩ go
  obtain ⟨X, rfl⟩ : ∃ X : Nat, x = (X : Int) := ⟨x.toNat, by omega⟩
  have hr1 := hI.rng (X + 1) (by omega)
  have hr2 := hI.rng (X + 2) (by omega)
  have hr3 := hI.rng (X + 3) (by omega)
  have eZ : ∀ w, (pj_rfX M w) 0 = M 0 := fun w => rfl
  refine pj_C152_575 (X + 1) (X + 2) (X + 3) hL (by omega) (by omega) (by omega) (by omega) (by omega) (by omega) (qf_seeX (d := d + 38) hI.ok hI.X hr1 hr2 hr3 (fun w hw0 ew => ?_) (fun e0 t w v et ew ev ht hw hv hn h16 => ?_))
  · have hw := hI.rfX w
    refine pj_C152_594 (X + 1) (X + 2) (X + 3) hL (by omega) (by omega) (by omega) (by omega) (by omega) (by omega) ?_
    rw [eZ w]
    refine qf_seeY (d := d + 38) hw.ok hw.Y hr1 hr2 hr3 (fun w' _ ew' => ?_) (fun e0 => absurd (ew.symm.trans e0) hw0)
    obtain rfl : w' = w := ew'.symm.trans ew
    exact pj_B152_613 (fun _ => go _ ⟨D, hw.rfY⟩) (fun c => absurd rfl c)
  · have f1 : ∀ a, a < 2 ∨ 22 < a → (qf_fgX (qf_seX M (qf_dK D) t w v)) a = M a := fun a ha => by
      rw [qf_fgX_ne (by omega)]
      unfold qf_seX
      rw [pj_up_ne (by omega), pj_up_ne (by omega), pj_up_ne (by omega)]
    have hY1 := hI.Y.offX f1
    refine pj_C152_594 (X + 1) (X + 2) (X + 3) hL (by omega) (by omega) (by omega) (by omega) (by omega) (by omega) ?_
    rw [f1 0 (by omega)]
    refine qf_seeY (d := d + 38) hI.ok hY1 hr1 hr2 hr3 (fun w' hw' ew' => absurd (ew'.symm.trans e0) hw') (fun _ t' w2 v' et' ew2 ev' _ _ _ _ _ => ?_)
    obtain rfl : t' = t := by omega
    obtain rfl : w2 = w := by omega
    obtain rfl : v' = v := by omega
    refine pj_B152_613 (fun _ => go _ ⟨_, hI.new (hI.ok.see ht hw hv hn h16) hI.E (hI.X.see hI.ok ht hw hn).fg (hY1.see (t := t') (w := w2) (v := v')).fg f1 qf_fgX_z (fun a ha => ?_) ?_ pj_up_same⟩) (fun c => absurd rfl c)
    · rw [qf_fgY_ne (by omega)]
      unfold qf_seY
      rw [pj_up_ne (by omega), pj_up_ne (by omega), pj_up_ne (by omega), pj_up_ne (by omega)]
    · rw [qf_fgY, pj_up_slot (by decide)]
      unfold qf_seY
      rw [pj_up_slot (by decide), pj_up_else (by decide), pj_up_else (by decide), pj_up_else (by decide)]
theorem qf_case_unsee : pj_Case qf_I 618 := by
  rintro L d Q M x h0 h5 hL ⟨D, hI⟩ go
  obtain ⟨X, rfl⟩ : ∃ X : Nat, x = (X : Int) := ⟨x.toNat, by omega⟩
  have eZ : ∀ w, (pj_rfX M w) 0 = M 0 := fun w => rfl
  refine pj_C152_618 (qf_unseeX (d := d + 38) hI.ok hI.X  (fun w hw0 ew => ?_) (fun e0 n hn => ?_))
  · have hw := hI.rfX w
    refine pj_C152_622 ?_
    refine qf_unseeY (d := d + 38) hw.ok hw.Y  (fun w' _ ew' => ?_) (fun e0 => absurd (ew.symm.trans e0) hw0)
    obtain rfl : w' = w := ew'.symm.trans ew
    exact pj_B152_626 (fun _ => go _ ⟨D, hw.rfY⟩) (fun c => absurd rfl c)
  · have f1 : ∀ a, a < 2 ∨ 22 < a → (qf_fgX (pj_up (pj_up M 19 0 (n : Int)) 21 (14 * qf_lt D n + qf_lw D n) (-1))) a = M a := fun a ha => by
      rw [qf_fgX_ne (by omega), pj_up_ne (by omega), pj_up_ne (by omega)]
    have hY1 := hI.Y.offX f1
    refine pj_C152_622 ?_
    refine qf_unseeY (d := d + 38) hI.ok hY1  (fun w' hw' ew' => absurd (ew'.symm.trans e0) hw') (fun _ n' hn' => ?_)
    obtain rfl : n' = n := by omega
    refine pj_B152_626 (fun _ => go _ ⟨_, hI.new (hI.ok.unsee hn) hI.E (hI.X.unsee hI.ok hn).fg (hY1.unsee hn).fg f1 qf_fgX_z (fun a ha => ?_) ?_ pj_up_same⟩) (fun c => absurd rfl c)
    · rw [qf_fgY_ne (by omega), pj_up_ne (by omega)]
    · rw [qf_fgY, pj_up_slot (by decide), pj_up_slot (by decide)]
