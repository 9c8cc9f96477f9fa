/-! ticks. -/
/-- how many of the first looks are kept; which they are -/
def qf_kc (D : qf_D) (t : Nat) : Nat → Nat
  | 0 => 0
  | n + 1 => qf_kc D t n + if qf_lt D n < t then 1 else 0
def qf_ki (D : qf_D) (t : Nat) : Nat → Nat → Nat
  | 0 => fun _ => 0
  | n + 1 => fun j => if qf_lt D n < t ∧ j = qf_kc D t n then n else qf_ki D t n j
def qf_tiD (D : qf_D) (t : Nat) : qf_D := fun a k => if a = 0 ∧ k = 2 then t else if a = 0 ∧ k = 3 then qf_kc D t (qf_dK D) else if a = 4 then (if 14 * t ≤ k then 0 else D 4 k) else if a = 15 ∨ a = 16 ∨ a = 17 then D a (qf_ki D t (qf_dK D) k) else D a k
section QFTI
variable {L d : Nat} {Q : Option pj_V → pj_M → Prop} {D : qf_D} {M : pj_M} {x : Int} {t : Nat}
theorem qf_kc_s1 {n : Nat} (h : qf_lt D n < t) : qf_kc D t (n + 1) = qf_kc D t n + 1 := by rw [qf_kc, if_pos h]
theorem qf_kc_s0 {n : Nat} (h : ¬ qf_lt D n < t) : qf_kc D t (n + 1) = qf_kc D t n := by rw [qf_kc, if_neg h, Nat.add_zero]
theorem qf_ki_s1 {n j : Nat} (h : qf_lt D n < t) : qf_ki D t (n + 1) j = if j = qf_kc D t n then n else qf_ki D t n j := by
  show (if qf_lt D n < t ∧ j = qf_kc D t n then n else qf_ki D t n j) = _
  by_cases z : j = qf_kc D t n
  · rw [if_pos ⟨h, z⟩, if_pos z]
  · rw [if_neg (fun y => z y.2), if_neg z]
theorem qf_ki_s0 {n j : Nat} (h : ¬ qf_lt D n < t) : qf_ki D t (n + 1) j = qf_ki D t n j := by
  show (if qf_lt D n < t ∧ j = qf_kc D t n then n else qf_ki D t n j) = _
  rw [if_neg (fun y => h y.1)]
theorem qf_ki_ok : ∀ n, qf_kc D t n ≤ n ∧ (∀ j, j < qf_kc D t n → qf_ki D t n j < n ∧ qf_lt D (qf_ki D t n j) < t) ∧ (∀ i j, i < j → j < qf_kc D t n → qf_ki D t n i < qf_ki D t n j) ∧ (∀ k, k < n → qf_lt D k < t → ∃ j, j < qf_kc D t n ∧ qf_ki D t n j = k)
  | 0 => ⟨Nat.le_refl _, fun j hj => absurd hj (Nat.not_lt_zero j), fun i j _ hj => absurd hj (Nat.not_lt_zero j), fun k hk => absurd hk (Nat.not_lt_zero k)⟩
  | n + 1 => by
    obtain ⟨a1, a2, a3, a4⟩ := qf_ki_ok n
    by_cases h : qf_lt D n < t
    · rw [qf_kc_s1 h]
      refine ⟨by omega, fun j hj => ?_, fun i j hij hj => ?_, fun k hk hk2 => ?_⟩
      · rw [qf_ki_s1 h]
        by_cases z : j = qf_kc D t n
        · rw [if_pos z]
          exact ⟨by omega, h⟩
        · rw [if_neg z]
          have := a2 j (by omega)
          exact ⟨by omega, this.2⟩
      · rw [qf_ki_s1 h, qf_ki_s1 h, if_neg (show ¬ i = qf_kc D t n by omega)]
        have hi := (a2 i (by omega)).1
        by_cases z : j = qf_kc D t n
        · rw [if_pos z]
          exact hi
        · rw [if_neg z]
          exact a3 i j hij (by omega)
      · by_cases z : k = n
        · exact ⟨qf_kc D t n, by omega, by rw [qf_ki_s1 h, if_pos rfl, z]⟩
        · obtain ⟨j, j1, j2⟩ := a4 k (by omega) hk2
          exact ⟨j, by omega, by rw [qf_ki_s1 h, if_neg (by omega)]; exact j2⟩
    · rw [qf_kc_s0 h]
      refine ⟨by omega, fun j hj => ?_, fun i j hij hj => ?_, fun k hk hk2 => ?_⟩
      · rw [qf_ki_s0 h]
        have := a2 j hj
        exact ⟨by omega, this.2⟩
      · rw [qf_ki_s0 h, qf_ki_s0 h]
        exact a3 i j hij hj
      · by_cases z : k = n
        · subst z
          exact absurd hk2 h
        · obtain ⟨j, j1, j2⟩ := a4 k (by omega) hk2
          exact ⟨j, j1, by rw [qf_ki_s0 h]; exact j2⟩
theorem qf_tiD_T : qf_dT (qf_tiD D t) = t := rfl
theorem qf_tiD_K : qf_dK (qf_tiD D t) = qf_kc D t (qf_dK D) := rfl
theorem qf_tiD_np {k : Nat} : qf_np0 (qf_tiD D t) k = if 14 * t ≤ k then 0 else qf_np0 D k := rfl
theorem qf_tiD_lt {k : Nat} : qf_lt (qf_tiD D t) k = qf_lt D (qf_ki D t (qf_dK D) k) := rfl
theorem qf_tiD_lw {k : Nat} : qf_lw (qf_tiD D t) k = qf_lw D (qf_ki D t (qf_dK D) k) := rfl
theorem qf_tiD_lv {k : Nat} : qf_lv (qf_tiD D t) k = qf_lv D (qf_ki D t (qf_dK D) k) := rfl
theorem qf_okD.ticks (hD : qf_okD D) (h1 : 1 ≤ t) (h3 : t ≤ 3) : qf_okD (qf_tiD D t) := by
  have hb := hD.b
  obtain ⟨a1, a2, a3, a4⟩ := qf_ki_ok (D := D) (t := t) (qf_dK D)
  refine ⟨⟨hb.1, hb.2.1, by rw [qf_tiD_T]; exact h1, by rw [qf_tiD_T]; exact h3, by rw [qf_tiD_K]; omega, hb.2.2.2.2.2⟩, hD.rg, hD.dv, hD.pt, hD.tb, fun s w hs hw => ?_, hD.st, hD.ts, hD.s2, fun k hk => ?_, fun j k hjk hk => ?_, hD.or, hD.os, hD.oe⟩
  · have h := hD.np s w hs hw
    have hr := hD.rg w hw
    rw [qf_tiD_np]
    show (if 14 * t ≤ 14 * s + w then 0 else qf_np0 D (14 * s + w)) < qf_rg D w
    split
    · omega
    · exact h
  · rw [qf_tiD_K] at hk
    rw [qf_tiD_T, qf_tiD_lt, qf_tiD_lw, qf_tiD_lv]
    have h := a2 k hk
    have h2 := hD.lk _ h.1
    exact ⟨h.2, h2.2⟩
  · rw [qf_tiD_K] at hk
    rw [qf_tiD_lt, qf_tiD_lt, qf_tiD_lw, qf_tiD_lw]
    exact hD.l2 _ _ (a3 j k hjk hk) (a2 k hk).1
theorem qf_okE.ticks (hE : qf_okE D) : qf_okE (qf_tiD D t) := by
  refine ⟨hE.1, hE.2.1, ⟨hE.2.2.1.1, fun s w hs hw h14 => ?_⟩, hE.2.2.2⟩
  have h := hE.2.2.1.2 s w hs hw h14
  rw [qf_tiD_np]
  split
  · rfl
  · exact h
theorem qf_keepWX (h1 : 1 ≤ t) (h3 : t ≤ 3) (h : ∀ M', qf_fr [2, 6] M M' → qf_fs 2 [1] M M' → M' 2 1 = (t : Int) → (∀ l, M' 6 l = if 14 * t ≤ l ∧ l < 42 then 0 else M 6 l) → Q none M') : pj_G L d 43 0 [pj_vR 2, pj_vI (t : Int), pj_vU] [] M Q := by
  have loop : ∀ (q k : Nat) (M1 : pj_M), k + q = 42 → qf_fr [2, 6] M M1 → qf_fs 2 [1] M M1 → M1 2 1 = (t : Int) → (∀ l, M1 6 l = if 14 * t ≤ l ∧ l < k then 0 else M 6 l) → 14 * t ≤ k → pj_G L d 43 10 [pj_vR 2, pj_vU, pj_vI (k : Int)] [] M1 Q := by
    intro q
    induction q with
    | zero =>
      intro k M1 e f1 f2 f3 f4 _
      obtain rfl : k = 42 := by omega
      exact pj_C43_10 (by omega) (fun _ => pj_C43_29 (h M1 f1 f2 f3 f4)) (fun c => by omega)
    | succ q ih =>
      intro k M1 e f1 f2 f3 f4 f5
      refine pj_C43_10 (by omega) (fun c => by omega) (fun _ => pj_C43_16 k rfl (by omega) (ih (k + 1) _ (by omega) (f1.up (by decide)) (f2.else (by decide)) (by rw [pj_up_else (by decide)]; exact f3) (fun l => ?_) (by omega)))
      by_cases z : l = k
      · rw [z, pj_up_same, if_pos (by omega)]
      · rw [pj_up_slot z, f4 l]
        by_cases y : 14 * t ≤ l ∧ l < k
        · rw [if_pos y, if_pos (by omega)]
        · rw [if_neg y, if_neg (by omega)]
  refine pj_C43_0 ?_
  rw [show (t : Int) * 14 = ((14 * t : Nat) : Int) by omega]
  exact loop (42 - 14 * t) (14 * t) _ (by omega) (qf_fr.refl.up (by decide)) (qf_fs.refl.up (by decide)) pj_up_same (fun l => by rw [pj_up_else (by decide), if_neg (by omega)]) (Nat.le_refl _)
theorem qf_keepLX (hD : qf_okD D) (h3 : t ≤ 3) (hK : M 19 0 = (qf_dK D : Int)) (hpl : ∀ k, k < qf_dK D → M 20 k = ((14 * qf_lt D k + qf_lw D k : Nat) : Int))
    (h : ∀ M', qf_fr [19, 20, 21] M M' → M' 19 0 = (qf_kc D t (qf_dK D) : Int) → (∀ j, j < qf_kc D t (qf_dK D) → M' 20 j = ((14 * qf_lt D (qf_ki D t (qf_dK D) j) + qf_lw D (qf_ki D t (qf_dK D) j) : Nat) : Int)) → (∀ k, k < qf_dK D → ¬ qf_lt D k < t → M' 21 (14 * qf_lt D k + qf_lw D k) = -1) → (∀ l, (∀ k, k < qf_dK D → ¬ qf_lt D k < t → 14 * qf_lt D k + qf_lw D k ≠ l) → M' 21 l = M 21 l) → Q none M') : pj_G L d 15 0 [pj_vR 19, pj_vI (t : Int), pj_vU, pj_vU] [] M Q := by
  have hb := hD.b
  have loop : ∀ (q k : Nat) (M1 : pj_M), k + q = qf_dK D → qf_fr [20, 21] M M1 → (∀ j, j < qf_kc D t k → M1 20 j = ((14 * qf_lt D (qf_ki D t k j) + qf_lw D (qf_ki D t k j) : Nat) : Int)) → (∀ j, qf_kc D t k ≤ j → M1 20 j = M 20 j) → (∀ k', k' < k → ¬ qf_lt D k' < t → M1 21 (14 * qf_lt D k' + qf_lw D k') = -1) → (∀ l, (∀ k', k' < k → ¬ qf_lt D k' < t → 14 * qf_lt D k' + qf_lw D k' ≠ l) → M1 21 l = M 21 l) → pj_G L d 15 4 [pj_vR 19, pj_vI (t : Int), pj_vI (qf_kc D t k : Int), pj_vI (k : Int)] [] M1 Q := by
    intro q
    induction q with
    | zero =>
      intro k M1 e f1 f2 f3 f4 f5
      obtain rfl : k = qf_dK D := by omega
      have e19 : M1 19 0 = (qf_dK D : Int) := by rw [f1 19 (by decide)]; exact hK
      refine pj_C15_4 (by omega) (by omega) (fun _ => pj_C15_61 (h _ ((f1.wide (by decide)).up (by decide)) pj_up_same (fun j hj => ?_) (fun k' h1 h2 => ?_) (fun l hl => ?_))) (fun c => by omega)
      · rw [pj_up_else (by decide)]
        exact f2 j hj
      · rw [pj_up_else (by decide)]
        exact f4 k' h1 h2
      · rw [pj_up_else (by decide)]
        exact f5 l hl
    | succ q ih =>
      intro k M1 e f1 f2 f3 f4 f5
      have e19 : M1 19 0 = (qf_dK D : Int) := by rw [f1 19 (by decide)]; exact hK
      have hkc := (qf_ki_ok (D := D) (t := t) k).1
      have e20 : M1 20 k = ((14 * qf_lt D k + qf_lw D k : Nat) : Int) := (f3 k hkc).trans (hpl k (by omega))
      have hl := hD.lk k (by omega)
      refine pj_C15_4 (by omega) (by omega) (fun c => by omega) (fun _ => pj_C15_12 k rfl (by omega) (by omega) (by omega) (fun g => ?_) (fun g => ?_))
      · have hk : ¬ qf_lt D k < t := by omega
        refine pj_C15_43 k (14 * qf_lt D k + qf_lw D k) rfl (by omega) e20 (by omega) (pj_C15_55 ?_)
        have nx := ih (k + 1) (pj_up M1 21 (14 * qf_lt D k + qf_lw D k) (-1)) (by omega) (f1.up (by decide))
        rw [qf_kc_s0 hk] at nx
        refine nx (fun j hj => ?_) (fun j hj => ?_) (fun k' h1 h2 => ?_) (fun l hl' => ?_)
        · rw [pj_up_else (by decide), qf_ki_s0 hk]
          exact f2 j hj
        · rw [pj_up_else (by decide)]
          exact f3 j hj
        · by_cases z : 14 * qf_lt D k' + qf_lw D k' = 14 * qf_lt D k + qf_lw D k
          · rw [z, pj_up_same]
          · rw [pj_up_slot z]
            by_cases y : k' = k
            · subst y
              exact absurd rfl z
            · exact f4 k' (by omega) h2
        · rw [pj_up_slot (fun y => hl' k (by omega) hk y.symm)]
          exact f5 l (fun k' h1 h2 => hl' k' (by omega) h2)
      · have hk : qf_lt D k < t := by omega
        refine pj_C15_25 k (qf_kc D t k) rfl (by omega) rfl (by omega) (pj_C15_55 ?_)
        have nx := ih (k + 1) (pj_up M1 20 (qf_kc D t k) (M1 20 k)) (by omega) (f1.up (by decide))
        rw [qf_kc_s1 hk] at nx
        refine nx (fun j hj => ?_) (fun j hj => ?_) (fun k' h1 h2 => ?_) (fun l hl' => ?_)
        · rw [qf_ki_s1 hk]
          by_cases z : j = qf_kc D t k
          · rw [if_pos z, z, pj_up_same]
            exact e20
          · rw [if_neg z, pj_up_slot z]
            exact f2 j (by omega)
        · rw [pj_up_slot (by omega)]
          exact f3 j (by omega)
        · rw [pj_up_else (by decide)]
          by_cases y : k' = k
          · subst y
            exact absurd hk h2
          · exact f4 k' (by omega) h2
        · rw [pj_up_else (by decide)]
          exact f5 l (fun k' h1 h2 => hl' k' (by omega) h2)
  exact pj_C15_0 (loop (qf_dK D) 0 M (by omega) qf_fr.refl (fun j hj => absurd hj (Nat.not_lt_zero j)) (fun j _ => rfl) (fun k' hk' => absurd hk' (Nat.not_lt_zero k')) (fun l _ => rfl))
theorem qf_X.ticks (hD : qf_okD D) (h : qf_X D M) {M' : pj_M} (h3 : t ≤ 3) (f : qf_fr [2, 6, 19, 20, 21] M M') (fs : qf_fs 2 [1] M M') (eT : M' 2 1 = (t : Int)) (eN : ∀ l, M' 6 l = if 14 * t ≤ l ∧ l < 42 then 0 else M 6 l) (eK : M' 19 0 = (qf_kc D t (qf_dK D) : Int)) (e20 : ∀ j, j < qf_kc D t (qf_dK D) → M' 20 j = ((14 * qf_lt D (qf_ki D t (qf_dK D) j) + qf_lw D (qf_ki D t (qf_dK D) j) : Nat) : Int)) (e21 : ∀ k, k < qf_dK D → ¬ qf_lt D k < t → M' 21 (14 * qf_lt D k + qf_lw D k) = -1) (o21 : ∀ l, (∀ k, k < qf_dK D → ¬ qf_lt D k < t → 14 * qf_lt D k + qf_lw D k ≠ l) → M' 21 l = M 21 l) : qf_X (qf_tiD D t) M' := by
  have hb := hD.b
  obtain ⟨a1, a2, a3, a4⟩ := qf_ki_ok (D := D) (t := t) (qf_dK D)
  have e7 := f 7 (by decide)
  refine ⟨by rw [fs 0 (by decide)]; exact h.W, by rw [e7]; exact h.P, by rw [e7]; exact h.S, eT, eK, by rw [f 3 (by decide)]; exact h.rg, by rw [f 4 (by decide)]; exact h.dv, by rw [f 5 (by decide)]; exact h.pr, fun k hk => ?_, by rw [f 8 (by decide)]; exact h.kd, by rw [f 9 (by decide)]; exact h.wk, by rw [f 10 (by decide)]; exact h.wo, by rw [f 11 (by decide)]; exact h.dx, by rw [f 12 (by decide)]; exact h.dy, by rw [f 15 (by decide)]; exact h.tb, by rw [f 13 (by decide)]; exact h.wy, by rw [f 14 (by decide)]; exact h.od, by rw [f 18 (by decide)]; exact h.st, by rw [f 16 (by decide)]; exact h.md, by rw [f 17 (by decide)]; exact h.or, by rw [e7]; exact h.mt, by rw [e7]; exact h.sb, fun k hk => ?_, fun k hk => ?_, fun l hl hno => ?_⟩
  · rw [eN k, qf_tiD_np]
    by_cases z : 14 * t ≤ k
    · rw [if_pos ⟨z, hk⟩, if_pos z]
      rfl
    · rw [if_neg (fun y => z y.1), if_neg z]
      exact h.np k hk
  · rw [qf_tiD_K] at hk
    rw [qf_tiD_lt, qf_tiD_lw]
    exact e20 k hk
  · rw [qf_tiD_K] at hk
    rw [qf_tiD_lt, qf_tiD_lw, qf_tiD_lv]
    have hk2 := a2 k hk
    have hl := hD.lk _ hk2.1
    rw [o21 _ (fun k' h1 h2 h4 => by
      have := hD.lk k' h1
      omega)]
    exact h.sv _ hk2.1
  · by_cases z : ∃ k, k < qf_dK D ∧ ¬ qf_lt D k < t ∧ 14 * qf_lt D k + qf_lw D k = l
    · obtain ⟨k, k1, k2, k3⟩ := z
      rw [← k3]
      exact e21 k k1 k2
    · rw [o21 l (fun k k1 k2 k3 => z ⟨k, k1, k2, k3⟩)]
      refine h.no l hl (fun k hk k3 => ?_)
      by_cases y : qf_lt D k < t
      · obtain ⟨j, j1, j2⟩ := a4 k hk y
        have := hno j (by rw [qf_tiD_K]; exact j1)
        rw [qf_tiD_lt, qf_tiD_lw, j2] at this
        exact this k3
      · exact z ⟨k, hk, y, k3⟩
def qf_w_ticks (x : Int) : Nat := if x < 1 ∨ 3 < x then 7 else 0
theorem qf_ticksX (hD : qf_okD D) (hX : qf_X D M) (hx : -2147483648 ≤ x ∧ x < 2147483648)
    (hb : ∀ w : Nat, w ≠ 0 → qf_w_ticks x = w → Q (some (pj_vI (-(w : Int)))) (pj_rfX M w))
    (h : qf_w_ticks x = 0 → ∀ (t : Nat) (M' : pj_M), x = (t : Int) → 1 ≤ t → t ≤ 3 → qf_X (qf_tiD D t) M' → (∀ a, a < 2 ∨ 22 < a → M' a = M a) → (M' 22 8 = 0 ∧ M' 22 3 = -1 ∧ M' 22 5 = -1) → Q (some (pj_vI (qf_dT D : Int))) M') : pj_G L (d + 1) 51 0 [pj_vR 1, pj_vI x, pj_vU] [] M Q := by
  have hb14 := hD.b
  have no : x < 1 ∨ 3 < x → pj_G L (d + 1) 51 10 [pj_vR 1, pj_vU, pj_vU] [] M Q := fun g => pj_C51_10 (pj_refuse 7 (by decide) (pj_C51_16 (hb 7 (by decide) (if_pos g))))
  refine pj_C51_0 hx (fun g => no (by omega)) (fun g1 => pj_C51_5 hx (fun g3 => pj_C51_17 ?_) (fun g => no (by omega)))
  obtain ⟨t, rfl⟩ : ∃ t : Nat, x = (t : Int) := ⟨x.toNat, by omega⟩
  refine qf_keepWX (by omega) (by omega) (fun Ma f1 f2 f3 f4 => pj_C51_33 ?_)
  refine qf_keepLX (D := D) hD (by omega) (by rw [f1 19 (by decide)]; exact hX.K) (by rw [f1 20 (by decide)]; exact hX.pl) (fun Mb k1 k2 k3 k4 k5 => pj_C51_41 (qf_forgetX (pj_C51_48 ?_)))
  rw [hX.T]
  have k5' : ∀ l, (∀ k, k < qf_dK D → ¬ qf_lt D k < t → 14 * qf_lt D k + qf_lw D k ≠ l) → Mb 21 l = M 21 l := fun l hl => by rw [k5 l hl, f1 21 (by decide)]
  have fr : qf_fr [2, 6, 19, 20, 21] M Mb := (f1.wide (by decide)).trans k1 (by decide)
  have hX' := hX.ticks (t := t) hD (by omega) fr (fun k hk => by rw [k1 2 (by decide)]; exact f2 k hk) (by rw [k1 2 (by decide)]; exact f3) (fun l => by rw [k1 6 (by decide)]; exact f4 l) k2 k3 k4 k5'
  exact h (if_neg (by omega)) t _ rfl (by omega) (by omega) hX'.fg (fun a ha => (qf_fgX_ne (by omega)).trans (fr a (by simp only [List.mem_cons, List.not_mem_nil, or_false, not_or]; omega))) qf_fgX_z
theorem qf_ticksY (hD : qf_okD D) (hY : qf_Y D M) (hx : -2147483648 ≤ x ∧ x < 2147483648)
    (hb : ∀ w : Nat, w ≠ 0 → qf_w_ticks x = w → Q (some (pj_vI (-(w : Int)))) (pj_rfY M w))
    (h : qf_w_ticks x = 0 → ∀ (t : Nat) (M' : pj_M), x = (t : Int) → 1 ≤ t → t ≤ 3 → qf_Y (qf_tiD D t) M' → (∀ a, a < 38 ∨ 55 < a → M' a = M a) → M' 38 39 = M 38 39 → M' 38 35 = 0 → Q (some (pj_vI (qf_dT D : Int))) M') : pj_G L (d + 1) 96 0 [pj_vR 38, pj_vI x, pj_vU, pj_vU, pj_vU] [] M Q := by
  have hb14 := hD.b
  refine pj_C96_0 hx (qf_isInY hx (by omega) (by omega) (fun g1 g2 => pj_C96_9 (by omega) (fun _ => pj_C96_19 ?_) (fun z => absurd z (by decide))) (fun g => pj_C96_9 (by omega) (fun z => absurd rfl z) (fun _ => pj_C96_12 (pj_no 7 (by decide) (pj_C96_18 (hb 7 (by decide) (if_pos (by omega))))))))
  obtain ⟨t, rfl⟩ : ∃ t : Nat, x = (t : Int) := ⟨x.toNat, by omega⟩
  have loopB : ∀ (q k : Nat) (M1 : pj_M), k + q = qf_dK D → qf_fr [38, 42, 53, 54, 55] M M1 → qf_fs 38 [20] M M1 → M1 38 20 = (t : Int) → (∀ l, M1 42 l = if 14 * t ≤ l ∧ l < 42 then 0 else M 42 l) → (∀ j, j < qf_kc D t k → M1 53 j = (qf_lt D (qf_ki D t k j) : Int) ∧ M1 54 j = (qf_lw D (qf_ki D t k j) : Int) ∧ M1 55 j = (qf_lv D (qf_ki D t k j) : Int)) → (∀ j, qf_kc D t k ≤ j → M1 53 j = M 53 j ∧ M1 54 j = M 54 j ∧ M1 55 j = M 55 j) → pj_G L (d + 1) 96 58 [pj_vR 38, pj_vI (t : Int), pj_vI (M 38 20), pj_vI (qf_kc D t k : Int), pj_vI (k : Int)] [] M1 Q := by
    intro q
    induction q with
    | zero =>
      intro k M1 e f1 f2 f3 f4 f5 f6
      obtain rfl : k = qf_dK D := by omega
      have eK : M1 38 21 = (qf_dK D : Int) := by rw [f2 21 (by decide)]; exact hY.K
      refine pj_C96_58 (by omega) (by omega) (fun _ => pj_C96_129 ?_) (fun c => by omega)
      have e38 : ∀ k, k ≠ 20 → k ≠ 21 → k ≠ 35 → pj_up (pj_up M1 38 21 (qf_kc D t (qf_dK D) : Int)) 38 35 0 38 k = M 38 k := fun k h1 h2 h3 => by rw [pj_up_slot h3, pj_up_slot h2, f2 k (by simp only [List.mem_cons, List.not_mem_nil, or_false]; exact h1)]
      have ea : ∀ a, a ≠ 38 → pj_up (pj_up M1 38 21 (qf_kc D t (qf_dK D) : Int)) 38 35 0 a = M1 a := fun a ha => (pj_up_ne ha).trans (pj_up_ne ha)
      have er : ∀ a, a ≠ 38 → a ≠ 42 → a ≠ 53 → a ≠ 54 → a ≠ 55 → pj_up (pj_up M1 38 21 (qf_kc D t (qf_dK D) : Int)) 38 35 0 a = M a := fun a h1 h2 h3 h4 h5 => (ea a h1).trans (f1 a (by simp only [List.mem_cons, List.not_mem_nil, or_false, not_or]; exact ⟨h1, h2, h3, h4, h5⟩))
      rw [hY.T]
      have hg := er 39 (by decide) (by decide) (by decide) (by decide) (by decide)
      refine h (if_neg (by omega)) t _ rfl (by omega) (by omega) ⟨?_, ?_, ?_, ?_, ?_, ?_, ?_, ?_, fun k hk => ?_, ?_, ?_, ?_, ?_, ?_, ?_, ?_, ?_, ?_, ?_, fun k hk => ?_, fun k hk => ?_, fun k hk => ?_⟩ (fun a ha => er a (by omega) (by omega) (by omega) (by omega) (by omega)) (e38 39 (by decide) (by decide) (by decide)) pj_up_same
      · rw [e38 17 (by decide) (by decide) (by decide)]; exact hY.W
      · rw [e38 18 (by decide) (by decide) (by decide)]; exact hY.P
      · rw [e38 19 (by decide) (by decide) (by decide)]; exact hY.S
      · rw [pj_up_slot (by decide), pj_up_slot (by decide)]; exact f3
      · rw [pj_up_slot (by decide), pj_up_same]; rfl
      · rw [hg]; exact hY.rg
      · rw [er 40 (by decide) (by decide) (by decide) (by decide) (by decide)]; exact hY.dv
      · rw [er 41 (by decide) (by decide) (by decide) (by decide) (by decide)]; exact hY.pr
      · rw [ea 42 (by decide), f4 k, qf_tiD_np]
        by_cases z : 14 * t ≤ k
        · rw [if_pos ⟨z, hk⟩, if_pos z]
          rfl
        · rw [if_neg (fun y => z y.1), if_neg z]
          exact hY.np k hk
      · rw [er 43 (by decide) (by decide) (by decide) (by decide) (by decide)]; exact hY.kd
      · rw [er 44 (by decide) (by decide) (by decide) (by decide) (by decide)]; exact hY.wk
      · rw [er 45 (by decide) (by decide) (by decide) (by decide) (by decide)]; exact hY.wo
      · rw [er 46 (by decide) (by decide) (by decide) (by decide) (by decide)]; exact hY.dx
      · rw [er 47 (by decide) (by decide) (by decide) (by decide) (by decide)]; exact hY.dy
      · rw [er 48 (by decide) (by decide) (by decide) (by decide) (by decide)]; exact hY.tb
      · rw [er 49 (by decide) (by decide) (by decide) (by decide) (by decide)]; exact hY.wy
      · rw [er 50 (by decide) (by decide) (by decide) (by decide) (by decide)]; exact hY.od
      · rw [er 51 (by decide) (by decide) (by decide) (by decide) (by decide)]; exact hY.st
      · rw [er 52 (by decide) (by decide) (by decide) (by decide) (by decide)]; exact hY.sn
      · rw [qf_tiD_K] at hk
        rw [ea 53 (by decide), qf_tiD_lt]
        exact (f5 k hk).1
      · rw [qf_tiD_K] at hk
        rw [ea 54 (by decide), qf_tiD_lw]
        exact (f5 k hk).2.1
      · rw [qf_tiD_K] at hk
        rw [ea 55 (by decide), qf_tiD_lv]
        exact (f5 k hk).2.2
    | succ q ih =>
      intro k M1 e f1 f2 f3 f4 f5 f6
      have eK : M1 38 21 = (qf_dK D : Int) := by rw [f2 21 (by decide)]; exact hY.K
      have hkc := (qf_ki_ok (D := D) (t := t) k).1
      have hl := hD.lk k (by omega)
      have h6 := f6 k hkc
      have e53 : M1 53 k = (qf_lt D k : Int) := h6.1.trans (hY.lt k (by omega))
      have e54 : M1 54 k = (qf_lw D k : Int) := h6.2.1.trans (hY.lw k (by omega))
      have e55 : M1 55 k = (qf_lv D k : Int) := h6.2.2.trans (hY.lv k (by omega))
      refine pj_C96_58 (by omega) (by omega) (fun c => by omega) (fun _ => pj_C96_67 k rfl (by omega) (by omega) (by omega) (fun g => ?_) (fun g => ?_))
      · have hk : qf_lt D k < t := by omega
        refine pj_C96_81 k (qf_kc D t k) rfl (by omega) rfl (by omega) (pj_C96_123 ?_)
        have nx := ih (k + 1) (pj_up (pj_up (pj_up M1 53 (qf_kc D t k) (M1 53 k)) 54 (qf_kc D t k) (M1 54 k)) 55 (qf_kc D t k) (M1 55 k)) (by omega) (((f1.up (by decide)).up (by decide)).up (by decide)) (((f2.else (by decide)).else (by decide)).else (by decide)) (by rw [pj_up_else (by decide), pj_up_else (by decide), pj_up_else (by decide)]; exact f3) (fun l => by rw [pj_up_else (by decide), pj_up_else (by decide), pj_up_else (by decide)]; exact f4 l)
        rw [qf_kc_s1 hk] at nx
        have u53 : ∀ j, (pj_up (pj_up (pj_up M1 53 (qf_kc D t k) (M1 53 k)) 54 (qf_kc D t k) (M1 54 k)) 55 (qf_kc D t k) (M1 55 k)) 53 j = pj_up M1 53 (qf_kc D t k) (M1 53 k) 53 j := fun j => by rw [pj_up_else (by decide), pj_up_else (by decide)]
        have u54 : ∀ j, (pj_up (pj_up (pj_up M1 53 (qf_kc D t k) (M1 53 k)) 54 (qf_kc D t k) (M1 54 k)) 55 (qf_kc D t k) (M1 55 k)) 54 j = pj_up (pj_up M1 53 (qf_kc D t k) (M1 53 k)) 54 (qf_kc D t k) (M1 54 k) 54 j := fun j => by rw [pj_up_else (by decide)]
        refine nx (fun j hj => ?_) (fun j hj => ?_)
        · rw [qf_ki_s1 hk, u53, u54]
          by_cases z : j = qf_kc D t k
          · rw [if_pos z, z, pj_up_same, pj_up_same, pj_up_same]
            exact ⟨e53, e54, e55⟩
          · rw [if_neg z, pj_up_slot z, pj_up_slot z, pj_up_slot z, pj_up_else (b := 54) (a := 53) (by decide), pj_up_else (b := 55) (a := 54) (by decide), pj_up_else (b := 55) (a := 53) (by decide)]
            exact f5 j (by omega)
        · have z : ¬ j = qf_kc D t k := by omega
          rw [u53, u54, pj_up_slot z, pj_up_slot z, pj_up_slot z, pj_up_else (b := 54) (a := 53) (by decide), pj_up_else (b := 55) (a := 54) (by decide), pj_up_else (b := 55) (a := 53) (by decide)]
          exact f6 j (by omega)
      · have hk : ¬ qf_lt D k < t := by omega
        refine pj_C96_78 (pj_C96_123 ?_)
        have nx := ih (k + 1) M1 (by omega) f1 f2 f3 f4
        rw [qf_kc_s0 hk] at nx
        refine nx (fun j hj => ?_) f6
        rw [qf_ki_s0 hk]
        exact f5 j hj
  have loopA : ∀ (q k : Nat) (M1 : pj_M), k + q = 42 → qf_fr [38, 42] M M1 → qf_fs 38 [20] M M1 → M1 38 20 = (t : Int) → (∀ l, M1 42 l = if 14 * t ≤ l ∧ l < k then 0 else M 42 l) → 14 * t ≤ k → pj_G L (d + 1) 96 34 [pj_vR 38, pj_vI (t : Int), pj_vI (M 38 20), pj_vI (k : Int), pj_vU] [] M1 Q := by
    intro q
    induction q with
    | zero =>
      intro k M1 e f1 f2 f3 f4 _
      obtain rfl : k = 42 := by omega
      exact pj_C96_34 (by omega) (fun _ => pj_C96_53 (loopB (qf_dK D) 0 M1 (by omega) (f1.wide (by decide)) f2 f3 f4 (fun j hj => absurd hj (Nat.not_lt_zero j)) (fun j _ => ⟨by rw [f1 53 (by decide)], by rw [f1 54 (by decide)], by rw [f1 55 (by decide)]⟩))) (fun c => by omega)
    | succ q ih =>
      intro k M1 e f1 f2 f3 f4 f5
      refine pj_C96_34 (by omega) (fun c => by omega) (fun _ => pj_C96_40 k rfl (by omega) (ih (k + 1) _ (by omega) (f1.up (by decide)) (f2.else (by decide)) (by rw [pj_up_else (by decide)]; exact f3) (fun l => ?_) (by omega)))
      by_cases z : l = k
      · rw [z, pj_up_same, if_pos (by omega)]
      · rw [pj_up_slot z, f4 l]
        by_cases y : 14 * t ≤ l ∧ l < k
        · rw [if_pos y, if_pos (by omega)]
        · rw [if_neg y, if_neg (by omega)]
  rw [show 14 * (t : Int) = ((14 * t : Nat) : Int) by omega]
  exact loopA (42 - 14 * t) (14 * t) _ (by omega) (qf_fr.refl.up (by decide)) (qf_fs.refl.up (by decide)) pj_up_same (fun l => by rw [pj_up_else (by decide), if_neg (by omega)]) (Nat.le_refl _)
end QFTI
theorem qf_case_ticks : pj_Case qf_I 394 := by
  rintro L d Q M x h0 h5 hL ⟨D, hI⟩ go
  obtain ⟨X, rfl⟩ : ∃ X : Nat, x = (X : Int) := ⟨x.toNat, by omega⟩
  have hr1 := hI.rng (X + 1) (by omega)
  have eZ : ∀ w, (pj_rfX M w) 0 = M 0 := fun w => rfl
  refine pj_C152_394 (X + 1) hL (by omega) (by omega) (qf_ticksX (d := d + 38) hI.ok hI.X hr1 (fun w hw0 ew => ?_) (fun e0 t M1 et g1 g3 hX1 f1 zz => ?_))
  · have hw := hI.rfX w
    refine pj_C152_403 (X + 1) hL (by omega) (by omega) ?_
    rw [eZ w]
    refine qf_ticksY (d := d + 38) hw.ok hw.Y hr1 (fun w' _ ew' => ?_) (fun e0 => absurd (ew.symm.trans e0) hw0)
    obtain rfl : w' = w := ew'.symm.trans ew
    exact pj_B152_412 (fun _ => go _ ⟨D, hw.rfY⟩) (fun c => absurd rfl c)
  · have hY1 := hI.Y.offX f1
    refine pj_C152_403 (X + 1) hL (by omega) (by omega) ?_
    rw [f1 0 (by omega)]
    refine qf_ticksY (d := d + 38) hI.ok hY1 hr1 (fun w' hw' ew' => absurd (ew'.symm.trans e0) hw') (fun _ t' M2 et' _ _ hY2 f2 f39 z35 => ?_)
    obtain rfl : t' = t := by omega
    exact pj_B152_412 (fun _ => go _ ⟨_, hI.new (hI.ok.ticks g1 g3) hI.E.ticks hX1 hY2 f1 zz f2 f39 z35⟩) (fun c => absurd rfl c)
