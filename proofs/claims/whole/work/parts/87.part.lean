/-! part: the new machine. -/
/-- the place of a new part in the order -/
def qf_ps (D : qf_D) (w : Nat) : Nat → Nat
  | 0 => 0
  | n + 1 => if w < qf_wo D (qf_or0 D n) then qf_ps D w n else n + 1
def qf_paD (D : qf_D) (k wk w a b : Nat) : qf_D := fun c i =>
  if c = 0 then (if i = 1 then qf_dP D + 1 else if i = 4 then qf_dS D + (if k = 2 then 1 else 0) else D 0 i)
  else if c = 2 then (if i = w then qf_dP D + 1 else D 2 i)
  else if c = 5 then (if i = qf_dP D then k else D 5 i)
  else if c = 6 then (if i = qf_dP D then wk else D 6 i)
  else if c = 7 then (if i = qf_dP D then w else D 7 i)
  else if c = 8 then (if i = qf_dP D then a else D 8 i)
  else if c = 9 then (if i = qf_dP D then b else D 9 i)
  else if c = 10 then (if i = qf_dP D then (if k = 1 ∨ k = 2 then 1 else 0) else D 10 i)
  else if c = 11 then (if i = qf_dP D then 1 else D 11 i)
  else if c = 13 then (if k = 2 ∧ i = qf_dS D then qf_dP D else D 13 i)
  else if c = 18 then (if i < qf_ps D w (qf_dP D) then D 18 i else if i = qf_ps D w (qf_dP D) then qf_dP D else D 18 (i - 1))
  else D c i
def qf_pP (D : qf_D) (x1 x2 x3 x4 : Int) (k wk w a b : Nat) : Prop := k ≤ 4 ∧ wk ≤ 5 ∧ w < qf_dW D ∧ qf_dv D w = 0 ∧ x2 = (w : Int) ∧ 0 ≤ x1 ∧ x1 / 10 = (k : Int) ∧ (k ≤ 2 → x1 % 10 = (wk : Int)) ∧ (2 < k → wk = 0) ∧ (k ≠ 3 → x3 = (a : Int) ∧ a < w) ∧ (k = 3 → a = 0) ∧ (k ≤ 2 → x4 = (b : Int) ∧ b < w) ∧ (2 < k → b = 0) ∧ qf_dP D < 7 ∧ (k = 2 → qf_dS D < 2)
section QFPA
variable {L d : Nat} {Q : Option pj_V → pj_M → Prop} {D : qf_D} {M : pj_M} {x1 x2 x3 x4 : Int} {k wk w a b : Nat}
theorem qf_ps_le : ∀ n, qf_ps D w n ≤ n
  | 0 => Nat.le_refl _
  | n + 1 => by
    have := qf_ps_le n
    rw [qf_ps]
    split <;> omega
theorem qf_ps_hi : ∀ n i, qf_ps D w n ≤ i → i < n → w < qf_wo D (qf_or0 D i)
  | 0, i, _, h => absurd h (Nat.not_lt_zero i)
  | n + 1, i, h1, h2 => by
    rw [qf_ps] at h1
    by_cases z : w < qf_wo D (qf_or0 D n)
    · rw [if_pos z] at h1
      by_cases y : i = n
      · rw [y]; exact z
      · exact qf_ps_hi n i h1 (by omega)
    · rw [if_neg z] at h1
      omega
theorem qf_ps_lo (hD : qf_okD D) (hv : qf_dv D w = 0) : ∀ n, n ≤ qf_dP D → ∀ i, i < qf_ps D w n → qf_wo D (qf_or0 D i) < w
  | 0, _, i, h => absurd h (Nat.not_lt_zero i)
  | n + 1, hn, i, h => by
    rw [qf_ps] at h
    by_cases z : w < qf_wo D (qf_or0 D n)
    · rw [if_pos z] at h
      exact qf_ps_lo hD hv n (by omega) i h
    · rw [if_neg z] at h
      have hi := hD.or i (by omega)
      have hpt := hD.pt _ hi
      have hne : qf_wo D (qf_or0 D i) ≠ w := by
        intro e
        rw [e, hv] at hpt
        omega
      by_cases y : i = n
      · rw [y] at hne ⊢
        omega
      · have := hD.os i n (by omega) (by omega)
        omega
theorem qf_paD_P : qf_dP (qf_paD D k wk w a b) = qf_dP D + 1 := rfl
theorem qf_paD_S : qf_dS (qf_paD D k wk w a b) = qf_dS D + if k = 2 then 1 else 0 := rfl
theorem qf_paD_dv {i : Nat} : qf_dv (qf_paD D k wk w a b) i = if i = w then qf_dP D + 1 else qf_dv D i := rfl
theorem qf_paD_kd {i : Nat} : qf_kd (qf_paD D k wk w a b) i = if i = qf_dP D then k else qf_kd D i := rfl
theorem qf_paD_wk {i : Nat} : qf_wk (qf_paD D k wk w a b) i = if i = qf_dP D then wk else qf_wk D i := rfl
theorem qf_paD_wo {i : Nat} : qf_wo (qf_paD D k wk w a b) i = if i = qf_dP D then w else qf_wo D i := rfl
theorem qf_paD_dx {i : Nat} : qf_dx (qf_paD D k wk w a b) i = if i = qf_dP D then a else qf_dx D i := rfl
theorem qf_paD_dy {i : Nat} : qf_dy (qf_paD D k wk w a b) i = if i = qf_dP D then b else qf_dy D i := rfl
theorem qf_paD_wy {i : Nat} : qf_wy (qf_paD D k wk w a b) i = if i = qf_dP D then (if k = 1 ∨ k = 2 then 1 else 0) else qf_wy D i := rfl
theorem qf_paD_od {i : Nat} : qf_od (qf_paD D k wk w a b) i = if i = qf_dP D then 1 else qf_od D i := rfl
theorem qf_paD_st {i : Nat} : qf_st (qf_paD D k wk w a b) i = if k = 2 ∧ i = qf_dS D then qf_dP D else qf_st D i := rfl
theorem qf_paD_or {i : Nat} : qf_or0 (qf_paD D k wk w a b) i = if i < qf_ps D w (qf_dP D) then qf_or0 D i else if i = qf_ps D w (qf_dP D) then qf_dP D else qf_or0 D (i - 1) := rfl
theorem qf_okD.part (hD : qf_okD D) (hE : qf_okE D) (hP : qf_pP D x1 x2 x3 x4 k wk w a b) : qf_okD (qf_paD D k wk w a b) := by
  have hb := hD.b
  obtain ⟨c1, c2, c3, c4, c5, c6, c7, c8, c9, c10, c11, c12, c13, c14, c15⟩ := hP
  have hps := qf_ps_le (D := D) (w := w) (qf_dP D)
  have hhi := qf_ps_hi (D := D) (w := w) (qf_dP D)
  have hlo := qf_ps_lo hD c4 (qf_dP D) (Nat.le_refl _)
  have hne : ∀ q, q < qf_dP D → qf_wo D q ≠ w := by
    intro q hq e
    have := (hD.pt q hq).2.1
    rw [e, c4] at this
    omega
  refine ⟨⟨hb.1, by rw [qf_paD_P]; omega, hb.2.2.1, hb.2.2.2.1, hb.2.2.2.2.1, ?_⟩, hD.rg, fun v hv hdv => ?_, fun q hq => ?_, hD.tb, hD.np, fun j hj => ?_, fun q hq hk2 => ?_, fun hs => ?_, hD.lk, hD.l2, fun i hi => ?_, fun i j hij hj => ?_, fun q hq => ?_⟩
  · rw [qf_paD_S]
    by_cases z : k = 2
    · rw [if_pos z]
      have := c15 z
      omega
    · rw [if_neg z]
      omega
  · rw [qf_paD_P]
    rw [qf_paD_dv] at hdv ⊢
    rw [qf_paD_wo]
    by_cases z : v = w
    · rw [if_pos z, Nat.add_sub_cancel, if_pos rfl]
      exact ⟨by omega, z.symm⟩
    · rw [if_neg z] at hdv ⊢
      have := hD.dv v hv hdv
      rw [if_neg (by omega)]
      exact ⟨by omega, this.2⟩
  · rw [qf_paD_P] at hq
    have hsn := hE.2.2.2 q (by omega)
    by_cases z : q = qf_dP D
    · subst z
      rw [qf_paD_kd, qf_paD_wk, qf_paD_wo, qf_paD_dx, qf_paD_dy, qf_paD_wy, qf_paD_od, if_pos rfl, if_pos rfl, if_pos rfl, if_pos rfl, if_pos rfl, if_pos rfl, if_pos rfl, qf_paD_dv, if_pos rfl]
      refine ⟨c3, rfl, c1, c2, fun y => (c10 y).2, fun y => (c12 y).2, ?_, ?_, Nat.le_refl _, by omega, hsn⟩
      · split <;> omega
      · constructor
        · intro y
          by_cases u : k = 1 ∨ k = 2
          · exact u
          · rw [if_neg u] at y
            exact absurd rfl y
        · intro y
          rw [if_pos y]
          omega
    · have hpt := hD.pt q (by omega)
      rw [qf_paD_kd, qf_paD_wk, qf_paD_wo, qf_paD_dx, qf_paD_dy, qf_paD_wy, qf_paD_od, if_neg z, if_neg z, if_neg z, if_neg z, if_neg z, if_neg z, if_neg z, qf_paD_dv, if_neg (hne q (by omega))]
      exact hpt
  · rw [qf_paD_S] at hj
    rw [qf_paD_P, qf_paD_st]
    by_cases z : k = 2 ∧ j = qf_dS D
    · rw [if_pos z, qf_paD_kd, if_pos rfl]
      exact ⟨by omega, z.1⟩
    · rw [if_neg z]
      have hj2 : j < qf_dS D := by
        by_cases y : k = 2
        · rw [if_pos y] at hj
          have : j ≠ qf_dS D := fun u => z ⟨y, u⟩
          omega
        · rw [if_neg y] at hj
          omega
      have := hD.st j hj2
      rw [qf_paD_kd, if_neg (by omega)]
      exact ⟨by omega, this.2⟩
  · rw [qf_paD_P] at hq
    rw [qf_paD_kd] at hk2
    by_cases z : q = qf_dP D
    · rw [if_pos z] at hk2
      refine ⟨qf_dS D, ?_, ?_⟩
      · rw [qf_paD_S, if_pos hk2]
        omega
      · rw [qf_paD_st, if_pos ⟨hk2, rfl⟩, z]
    · rw [if_neg z] at hk2
      obtain ⟨j, j1, j2⟩ := hD.ts q (by omega) hk2
      refine ⟨j, ?_, ?_⟩
      · rw [qf_paD_S]
        split <;> omega
      · rw [qf_paD_st, if_neg (by omega)]
        exact j2
  · rw [qf_paD_S] at hs
    rw [qf_paD_st, qf_paD_st]
    by_cases z : k = 2
    · rw [if_pos z] at hs
      have h1 : qf_dS D = 1 := by omega
      have h0 := hD.st 0 (by omega)
      rw [if_neg (by omega), if_pos ⟨z, h1.symm⟩]
      omega
    · rw [if_neg z] at hs
      rw [if_neg (fun y => z y.1), if_neg (fun y => z y.1)]
      exact hD.s2 (by omega)
  · rw [qf_paD_P] at hi ⊢
    rw [qf_paD_or]
    split
    · have := hD.or i (by omega)
      omega
    · split
      · omega
      · have := hD.or (i - 1) (by omega)
        omega
  · rw [qf_paD_P] at hj
    have ho : ∀ m, m < qf_dP D → qf_wo (qf_paD D k wk w a b) (qf_or0 D m) = qf_wo D (qf_or0 D m) := by
      intro m hm
      have := hD.or m hm
      rw [qf_paD_wo, if_neg (by omega)]
    have hp : qf_wo (qf_paD D k wk w a b) (qf_dP D) = w := by rw [qf_paD_wo, if_pos rfl]
    rw [qf_paD_or, qf_paD_or]
    by_cases z1 : i < qf_ps D w (qf_dP D)
    · rw [if_pos z1, ho i (by omega)]
      have l1 := hlo i z1
      by_cases z2 : j < qf_ps D w (qf_dP D)
      · rw [if_pos z2, ho j (by omega)]
        exact hD.os i j hij (by omega)
      · rw [if_neg z2]
        by_cases z3 : j = qf_ps D w (qf_dP D)
        · rw [if_pos z3, hp]
          exact l1
        · rw [if_neg z3, ho (j - 1) (by omega)]
          have := hhi (j - 1) (by omega) (by omega)
          omega
    · rw [if_neg z1]
      have z2 : ¬ j < qf_ps D w (qf_dP D) := by omega
      have z3 : ¬ j = qf_ps D w (qf_dP D) := by omega
      rw [if_neg z2, if_neg z3, ho (j - 1) (by omega)]
      by_cases z4 : i = qf_ps D w (qf_dP D)
      · rw [if_pos z4, hp]
        exact hhi (j - 1) (by omega) (by omega)
      · rw [if_neg z4, ho (i - 1) (by omega)]
        exact hD.os (i - 1) (j - 1) (by omega) (by omega)
  · rw [qf_paD_P] at hq ⊢
    by_cases z : q = qf_dP D
    · refine ⟨qf_ps D w (qf_dP D), by omega, ?_⟩
      rw [qf_paD_or, if_neg (Nat.lt_irrefl _), if_pos rfl, z]
    · obtain ⟨i, i1, i2⟩ := hD.oe q (by omega)
      by_cases y : i < qf_ps D w (qf_dP D)
      · exact ⟨i, by omega, by rw [qf_paD_or, if_pos y]; exact i2⟩
      · exact ⟨i + 1, by omega, by rw [qf_paD_or, if_neg (by omega), if_neg (by omega)]; exact i2⟩
theorem qf_okE.part (hE : qf_okE D) (h7 : qf_dP D < 7) : qf_okE (qf_paD D k wk w a b) := by
  refine ⟨fun j hj => ?_, fun q hq hPq => ?_, ⟨fun j h1 h2 => ?_, hE.2.2.1.2⟩, hE.2.2.2⟩
  · have := hE.1 j hj
    rw [qf_paD_st]
    split <;> omega
  · rw [qf_paD_P] at hPq
    exact hE.2.1 q hq (by omega)
  · rw [qf_paD_S] at h1
    rw [qf_paD_st]
    by_cases z : k = 2
    · rw [if_pos z] at h1
      rw [if_neg (by omega)]
      exact hE.2.2.1.1 j (by omega) h2
    · rw [if_neg z] at h1
      rw [if_neg (fun y => z y.1)]
      exact hE.2.2.1.1 j (by omega) h2
theorem qf_wk0_pa {q y z : Nat} (hq : q ≠ qf_dP D) : qf_wk0 (qf_paD D k wk w a b) q y z = qf_wk0 D q y z := by
  unfold qf_wk0
  rw [qf_paD_kd, qf_paD_wk, if_neg hq, if_neg hq]
  rfl
theorem qf_wks_pa {q y z : Nat} (hq : q ≠ qf_dP D) : qf_wks (qf_paD D k wk w a b) q y z = qf_wks D q y z := by
  unfold qf_wks
  rw [qf_wk0_pa hq, qf_paD_wo, if_neg hq]
  rfl
/-- what add leaves behind, but for the order and the count -/
def qf_ad (D : qf_D) (M : pj_M) (k wk w : Nat) (xa yb : Int) (M2 : pj_M) : Prop :=
  (∀ q, M2 8 q = if q = qf_dP D then (k : Int) else M 8 q) ∧ (∀ q, M2 9 q = if q = qf_dP D then (wk : Int) else M 9 q) ∧ (∀ q, M2 10 q = if q = qf_dP D then (w : Int) else M 10 q) ∧ (∀ q, M2 11 q = if q = qf_dP D then xa else M 11 q) ∧ (∀ q, M2 12 q = if q = qf_dP D then yb else M 12 q) ∧ (∀ q, M2 13 q = if q = qf_dP D then (if k = 1 ∨ k = 2 then 1 else 0) else M 13 q) ∧ (∀ q, M2 14 q = if q = qf_dP D then 1 else M 14 q) ∧ (∀ q, M2 18 q = if k = 2 ∧ q = qf_dS D then (qf_dP D : Int) else M 18 q) ∧ M2 7 12 = ((qf_dS D + if k = 2 then 1 else 0 : Nat) : Int) ∧ (∃ m : Nat, M2 7 13 = (m : Int) ∧ m < 128 ∧ ∀ q, m.testBit q = decide ((q < qf_dP D ∧ qf_kd D q = 4) ∨ (q = qf_dP D ∧ k = 4))) ∧ qf_fs 7 [0, 12, 13] M M2 ∧ qf_fr [7, 8, 9, 10, 11, 12, 13, 14, 17, 18] M M2
theorem qf_ad.up17 {xa yb : Int} {M2 : pj_M} (h : qf_ad D M k wk w xa yb M2) {j : Nat} {x : Int} : qf_ad D M k wk w xa yb (pj_up M2 17 j x) := by
  obtain ⟨a1, a2, a3, a4, a5, a6, a7, a8, a9, a10, a11, a12⟩ := h
  exact ⟨a1, a2, a3, a4, a5, a6, a7, a8, a9, a10, a11, a12.up (by decide)⟩
theorem qf_ad.up70 {xa yb : Int} {M2 : pj_M} (h : qf_ad D M k wk w xa yb M2) {x : Int} : qf_ad D M k wk w xa yb (pj_up M2 7 0 x) := by
  obtain ⟨a1, a2, a3, a4, a5, a6, a7, a8, a9, a10, a11, a12⟩ := h
  exact ⟨a1, a2, a3, a4, a5, a6, a7, a8, a9, a10, a11.up (by decide), a12.up (by decide)⟩
theorem qf_upi {M : pj_M} {c p q : Nat} {x : Int} : pj_up M c p x c q = if q = p then x else M c q := by
  by_cases z : q = p
  · rw [if_pos z, z, pj_up_same]
  · rw [if_neg z, pj_up_slot z]
theorem qf_hasWaysR {p : Nat} (hp : p < 7) (e : M 8 p = (k : Int)) (hk : k ≤ 4) (h : Q (some (pj_vI (if k = 1 ∨ k = 2 then 1 else 0))) M) : pj_G L d 27 0 [pj_vR 7, pj_vI (p : Int)] [] M Q := by
  refine pj_C27_0 p rfl hp (by omega) (fun z => pj_C27_20 (pj_C27_25 (Or.inr rfl) ?_)) (fun z => pj_C27_10 p rfl hp (by omega) (fun y => pj_C27_24 (pj_C27_25 (Or.inl rfl) ?_)) (fun y => pj_C27_20 (pj_C27_25 (Or.inr rfl) ?_)))
  · rw [if_pos (by omega)] at h
    exact h
  · rw [if_neg (by omega)] at h
    exact h
  · rw [if_pos (by omega)] at h
    exact h
theorem qf_addX (hD : qf_okD D) (hX : qf_X D M) {xa yb : Int} (hk : k ≤ 4) (h7 : qf_dP D < 7) (hS : k = 2 → qf_dS D < 2) (hw : w < 14)
    (h : ∀ M', qf_ad D M k wk w xa yb M' → M' 7 0 = (qf_dP D : Int) + 1 → (∀ i, i < qf_dP D + 1 → M' 17 i = ((if i < qf_ps D w (qf_dP D) then qf_or0 D i else if i = qf_ps D w (qf_dP D) then qf_dP D else qf_or0 D (i - 1) : Nat) : Int)) → Q (some (pj_vI (qf_dP D : Int))) M') : pj_G L (d + 1) 26 0 [pj_vR 7, pj_vI (k : Int), pj_vI (wk : Int), pj_vI (w : Int), pj_vI xa, pj_vI yb, pj_vU, pj_vU] [] M Q := by
  have hb := hD.b
  have eP := hX.P
  have hps := qf_ps_le (D := D) (w := w) (qf_dP D)
  have fin : ∀ (M1 : pj_M), qf_ad D M k wk w xa yb M1 → M1 7 0 = (qf_dP D : Int) → (∀ i, i < qf_ps D w (qf_dP D) → M1 17 i = (qf_or0 D i : Int)) → (∀ i, qf_ps D w (qf_dP D) < i → i < qf_dP D + 1 → M1 17 i = (qf_or0 D (i - 1) : Int)) → pj_G L (d + 1) 26 172 [pj_vR 7, pj_vU, pj_vU, pj_vU, pj_vU, pj_vU, pj_vI (qf_dP D : Int), pj_vI (qf_ps D w (qf_dP D) : Int)] [] M1 Q := by
    intro M1 ha e0 f1 f2
    refine pj_C26_172 (qf_ps D w (qf_dP D)) rfl (by omega) (h _ ha.up17.up70 (by rw [pj_up_same, e0]) (fun i hi => ?_))
    rw [pj_up_else (by decide), qf_upi]
    by_cases z : i < qf_ps D w (qf_dP D)
    · rw [if_neg (by omega), if_pos z]
      exact f1 i z
    · rw [if_neg z]
      by_cases y : i = qf_ps D w (qf_dP D)
      · rw [if_pos y, if_pos y]
      · rw [if_neg y, if_neg y]
        exact f2 i (by omega) hi
  have loop : ∀ (n : Nat) (M1 : pj_M), n ≤ qf_dP D → qf_ps D w n = qf_ps D w (qf_dP D) → qf_ad D M k wk w xa yb M1 → M1 7 0 = (qf_dP D : Int) → (∀ i, i < n → M1 17 i = (qf_or0 D i : Int)) → (∀ i, n < i → i < qf_dP D + 1 → M1 17 i = (qf_or0 D (i - 1) : Int)) → pj_G L (d + 1) 26 127 [pj_vR 7, pj_vU, pj_vU, pj_vI (w : Int), pj_vU, pj_vU, pj_vI (qf_dP D : Int), pj_vI (n : Int)] [] M1 Q := by
    intro n
    induction n with
    | zero =>
      intro M1 hn en ha e0 f1 f2
      have e : qf_ps D w (qf_dP D) = 0 := by rw [← en]; rfl
      have := fin M1 ha e0 (by rw [e]; exact f1) (by rw [e]; exact f2)
      rw [e] at this
      exact pj_C26_127 (by omega) (fun _ => this) (fun c => by omega)
    | succ n ih =>
      intro M1 hn en ha e0 f1 f2
      have ho := hD.or n (by omega)
      have hpt := hD.pt _ ho
      have e17 := f1 n (by omega)
      have e10 : M1 10 (qf_or0 D n) = (qf_wo D (qf_or0 D n) : Int) := by
        rw [ha.2.2.1 _, if_neg (by omega)]
        exact hX.wo _ ho
      refine pj_C26_127 (by omega) (fun c => by omega) (fun _ => pj_C26_132 n (qf_or0 D n) (by omega) (by omega) e17 (by omega) (by omega) (by omega) (fun g => ?_) (fun g => ?_))
      · have e : qf_ps D w (qf_dP D) = n + 1 := by rw [← en, qf_ps, if_neg (by omega)]
        have := fin M1 ha e0 (by rw [e]; exact f1) (by rw [e]; exact f2)
        rw [e] at this
        exact this
      · refine pj_C26_150 n (n + 1) (by omega) (by omega) rfl (by omega) ?_
        rw [show ((n + 1 : Nat) : Int) + -1 = (n : Int) by omega]
        refine ih _ (by omega) ?_ ha.up17 (by rw [pj_up_else (by decide)]; exact e0) (fun i hi => ?_) (fun i h1 h2 => ?_)
        · rw [← en, qf_ps, if_pos (by omega)]
        · rw [pj_up_slot (by omega)]
          exact f1 i (by omega)
        · rw [qf_upi]
          by_cases z : i = n + 1
          · rw [if_pos z, z, Nat.add_sub_cancel]
            exact e17
          · rw [if_neg z]
            exact f2 i (by omega) h2
  have at121 : ∀ (M2 : pj_M), qf_ad D M k wk w xa yb M2 → M2 7 0 = (qf_dP D : Int) → M2 17 = M 17 → pj_G L (d + 1) 26 121 [pj_vR 7, pj_vU, pj_vU, pj_vI (w : Int), pj_vU, pj_vU, pj_vI (qf_dP D : Int), pj_vU] [] M2 Q := by
    intro M2 ha e0 e17
    refine pj_C26_121 ?_
    rw [e0]
    refine loop (qf_dP D) M2 (Nat.le_refl _) rfl ha e0 (fun i hi => ?_) (fun i h1 h2 => by omega)
    rw [e17]
    exact hX.or i hi
  obtain ⟨m, m1, m2, m3⟩ := hX.mt
  have h2p : (2 : Nat) ^ qf_dP D < 128 := Nat.pow_lt_pow_right (m := qf_dP D) (n := 7) (a := 2) (by omega) (by omega)
  have s18 : k ≠ 2 → ∀ q, M 18 q = if k = 2 ∧ q = qf_dS D then (qf_dP D : Int) else M 18 q := fun z q => by rw [if_neg (fun y => z y.1)]
  have s12 : k ≠ 2 → M 7 12 = ((qf_dS D + if k = 2 then 1 else 0 : Nat) : Int) := fun z => by
    rw [if_neg z]
    exact hX.S
  have s13 : k ≠ 4 → ∀ q, m.testBit q = decide ((q < qf_dP D ∧ qf_kd D q = 4) ∨ (q = qf_dP D ∧ k = 4)) := fun z q => by
    rw [m3 q]
    exact decide_eq_decide.mpr ⟨fun y => Or.inl y, fun y => by
      rcases y with y | y
      · exact y
      · exact absurd y.2 z⟩
  refine pj_C26_0 (qf_dP D) eP h7 ?_
  rw [eP]
  refine qf_hasWaysR (k := k) h7 (by rw [pj_up_else (by decide), pj_up_else (by decide), pj_up_else (by decide), pj_up_else (by decide), pj_up_else (by decide), pj_up_same]) hk ?_
  have at76 : ∀ s : Int, s = (if k = 1 ∨ k = 2 then 1 else 0) → pj_G L (d + 1) 26 76 [pj_vR 7, pj_vI (k : Int), pj_vU, pj_vI (w : Int), pj_vU, pj_vU, pj_vI (qf_dP D : Int), pj_vU] [pj_vI s, pj_vI (qf_dP D : Int), pj_vR 13] (pj_up (pj_up (pj_up (pj_up (pj_up (pj_up M 8 (qf_dP D) (k : Int)) 9 (qf_dP D) (wk : Int)) 10 (qf_dP D) (w : Int)) 11 (qf_dP D) xa) 12 (qf_dP D) yb) 14 (qf_dP D) 1) Q := by
    intro s hs
    rw [hs]
    have base : ∀ N : pj_M, N = pj_up (pj_up (pj_up (pj_up (pj_up (pj_up (pj_up M 8 (qf_dP D) (k : Int)) 9 (qf_dP D) (wk : Int)) 10 (qf_dP D) (w : Int)) 11 (qf_dP D) xa) 12 (qf_dP D) yb) 14 (qf_dP D) 1) 13 (qf_dP D) (if k = 1 ∨ k = 2 then 1 else 0) → (∀ q, N 8 q = if q = qf_dP D then (k : Int) else M 8 q) ∧ (∀ q, N 9 q = if q = qf_dP D then (wk : Int) else M 9 q) ∧ (∀ q, N 10 q = if q = qf_dP D then (w : Int) else M 10 q) ∧ (∀ q, N 11 q = if q = qf_dP D then xa else M 11 q) ∧ (∀ q, N 12 q = if q = qf_dP D then yb else M 12 q) ∧ (∀ q, N 13 q = if q = qf_dP D then (if k = 1 ∨ k = 2 then 1 else 0) else M 13 q) ∧ (∀ q, N 14 q = if q = qf_dP D then 1 else M 14 q) ∧ (∀ a, a ∉ [8, 9, 10, 11, 12, 13, 14] → N a = M a) := by
      intro N hN
      subst hN
      refine ⟨fun q => qf_upi (M := M) (c := 8), fun q => qf_upi (M := M) (c := 9), fun q => qf_upi (M := M) (c := 10), fun q => qf_upi (M := M) (c := 11), fun q => qf_upi (M := M) (c := 12), fun q => qf_upi (M := M) (c := 13), fun q => qf_upi (M := M) (c := 14), fun a ha => ?_⟩
      simp only [List.mem_cons, List.not_mem_nil, or_false, not_or] at ha
      rw [pj_up_ne (by omega), pj_up_ne (by omega), pj_up_ne (by omega), pj_up_ne (by omega), pj_up_ne (by omega), pj_up_ne (by omega), pj_up_ne (by omega)]
    obtain ⟨b1, b2, b3, b4, b5, b6, b7, b8⟩ := base _ rfl
    refine pj_C26_76 (qf_dP D) rfl h7 (by omega) (fun n4 => pj_C26_95 (by omega) (fun n2 => at121 _ ?_ ?_ (b8 17 (by decide))) (fun n2 => ?_)) (fun n4 => pj_C26_82 (pj_C26_95 (by omega) (fun n2 => at121 _ ?_ ?_ ?_) (fun n2 => by omega)))
    · refine ⟨b1, b2, b3, b4, b5, b6, b7, ?_, ?_, ⟨m, ?_, m2, s13 (by omega)⟩, fun q _ => ?_, fun a ha => b8 a ?_⟩
      · rw [b8 18 (by decide)]
        exact s18 (by omega)
      · rw [b8 7 (by decide)]
        exact s12 (by omega)
      · rw [b8 7 (by decide)]
        exact m1
      · rw [b8 7 (by decide)]
      · simp only [List.mem_cons, List.not_mem_nil, or_false, not_or] at ha ⊢
        omega
    · rw [b8 7 (by decide)]
      exact eP
    · have hk2 : k = 2 := by omega
      have hs2 := hS hk2
      have e12 := b8 7 (by decide)
      refine pj_C26_100 (qf_dS D) (by rw [e12]; exact hX.S) hs2 (at121 _ ?_ ?_ ?_)
      · refine ⟨b1, b2, b3, b4, b5, b6, b7, fun q => ?_, ?_, ⟨m, ?_, m2, s13 (by omega)⟩, fun q hq => ?_, fun a ha => ?_⟩
        · rw [pj_up_else (by decide), qf_upi, b8 18 (by decide)]
          by_cases z : q = qf_dS D
          · rw [if_pos z, if_pos ⟨hk2, z⟩]
          · rw [if_neg z, if_neg (fun y => z y.2)]
        · rw [pj_up_same, e12, hX.S, if_pos hk2]
          rfl
        · rw [pj_up_slot (by decide), pj_up_else (by decide), e12]
          exact m1
        · simp only [List.mem_cons, List.not_mem_nil, or_false, not_or] at hq
          rw [pj_up_slot hq.2.1, pj_up_else (by decide), e12]
        · simp only [List.mem_cons, List.not_mem_nil, or_false, not_or] at ha
          rw [pj_up_ne (by omega), pj_up_ne (by omega)]
          refine b8 a ?_
          simp only [List.mem_cons, List.not_mem_nil, or_false, not_or]
          omega
      · rw [pj_up_slot (by decide), pj_up_else (by decide), e12]
        exact eP
      · rw [pj_up_ne (by decide), pj_up_ne (by decide)]
        exact b8 17 (by decide)
    · have e7 := b8 7 (by decide)
      obtain ⟨s, s1, s2, s3⟩ := qf_or2 m2 h2p
      refine ⟨b1, b2, b3, b4, b5, b6, b7, fun q => ?_, ?_, ⟨s, ?_, s2, fun q => ?_⟩, fun q hq => ?_, fun a ha => ?_⟩
      · rw [pj_up_else (by decide), b8 18 (by decide)]
        exact s18 (by omega) q
      · rw [pj_up_slot (by decide), e7]
        exact s12 (by omega)
      · rw [pj_up_same, e7, m1, pj_shl1_nat (by omega), s1]
      · rw [s3 q, m3 q, Nat.testBit_two_pow]
        by_cases z : q = qf_dP D
        · rw [decide_eq_true z.symm, Bool.or_true]
          exact (decide_eq_true (Or.inr ⟨z, by omega⟩)).symm
        · rw [decide_eq_false (show ¬ qf_dP D = q from fun y => z y.symm), Bool.or_false]
          exact decide_eq_decide.mpr ⟨fun y => Or.inl y, fun y => by
            rcases y with y | y
            · exact y
            · exact absurd y.1 z⟩
      · simp only [List.mem_cons, List.not_mem_nil, or_false, not_or] at hq
        rw [pj_up_slot hq.2.2, e7]
      · simp only [List.mem_cons, List.not_mem_nil, or_false, not_or] at ha
        rw [pj_up_ne (by omega)]
        refine b8 a ?_
        simp only [List.mem_cons, List.not_mem_nil, or_false, not_or]
        omega
    · rw [pj_up_slot (by decide), b8 7 (by decide)]
      exact eP
    · rw [pj_up_ne (by decide)]
      exact b8 17 (by decide)
  by_cases z : k = 1 ∨ k = 2
  · rw [if_pos z]
    exact pj_C26_68 (by omega) (fun y => absurd y (by decide)) (fun _ => pj_C26_71 (at76 1 (by rw [if_pos z])))
  · rw [if_neg z]
    exact pj_C26_68 (by omega) (fun _ => pj_C26_75 (at76 0 (by rw [if_neg z]))) (fun y => absurd rfl y)
end QFPA
