/-! THE CLASS: needsOf, prepare. -/
section QFXI
variable {L d : Nat} {Q : Option pj_V → pj_M → Prop} {D : qf_D} {M : pj_M}
theorem qf_readByX (hD : qf_okD D) (hX : qf_X D M) {p : Nat} (hp : p < qf_dP D) (h : ∀ R, (∀ w, w < 32 → (pj_bt R w = true ↔ (qf_kd D p ≠ 3 ∧ w = qf_dx D p) ∨ (qf_kd D p ≤ 2 ∧ w = qf_dy D p))) → Q (some (pj_vI R)) M) : pj_G L d 34 0 [pj_vR 26, pj_vI (p : Int), pj_vU] [] M Q := by
  have hb := hD.b
  have hpt := hD.pt p hp
  have ex := hX.dx p hp
  have ey := hX.dy p hp
  by_cases k3 : qf_kd D p = 3
  · rw [if_pos k3] at ex
    rw [if_neg (by omega)] at ey
    refine pj_C34_0 p rfl (by omega) (by omega) (fun z => absurd ex z) (fun _ => pj_C34_13 (pj_C34_28 p rfl (by omega) (by omega) (fun z => absurd ey z) (fun _ => pj_C34_42 (pj_C34_59 (h 0 (fun w hw => ?_))))))
    rw [pj_bt_0]
    constructor
    · intro z
      cases z
    · intro z
      omega
  · rw [if_neg k3] at ex
    have lx := hpt.2.2.2.2.1 k3
    refine pj_C34_0 p rfl (by omega) (by omega) (fun _ => pj_C34_17 p rfl (by omega) ?_) (fun z => by omega)
    rw [ex]
    by_cases k2 : qf_kd D p ≤ 2
    · rw [if_pos k2] at ey
      have ly := hpt.2.2.2.2.2.1 k2
      refine pj_C34_28 p rfl (by omega) (by omega) (fun _ => pj_C34_46 p rfl (by omega) ?_) (fun z => by omega)
      rw [ey]
      refine pj_C34_59 (h _ (fun w hw => ?_))
      rw [qf_bt_or1 _ (by omega) hw, pj_bt_shl1 (by omega) hw, Bool.or_eq_true, decide_eq_true_iff, decide_eq_true_iff]
      constructor
      · rintro (z | z)
        · exact Or.inl ⟨k3, z⟩
        · exact Or.inr ⟨k2, z⟩
      · rintro (z | z)
        · exact Or.inl z.2
        · exact Or.inr z.2
    · rw [if_neg k2] at ey
      refine pj_C34_28 p rfl (by omega) (by omega) (fun z => absurd ey z) (fun _ => pj_C34_42 (pj_C34_59 (h _ (fun w hw => ?_))))
      rw [pj_bt_shl1 (by omega) hw, decide_eq_true_iff]
      constructor
      · exact fun z => Or.inl ⟨k3, z⟩
      · rintro (z | z)
        · exact z.2
        · exact absurd z.1 k2
theorem qf_needsX (hD : qf_okD D) (hX : qf_X D M) {t : Nat} (ht : t < 3) {lat : Int} (h : ∀ R, (-2147483648 ≤ R ∧ R < 2147483648) → (∀ k, k < qf_dK D → qf_lt D k = t → pj_bt R (qf_lw D k) = true) → (∀ k, k < qf_dS D → pj_bt lat (qf_wo D (qf_st D k)) = true → pj_bt R (qf_dx D (qf_st D k)) = true ∧ pj_bt R (qf_dy D (qf_st D k)) = true) → (∀ p, p < qf_dP D → pj_bt R (qf_wo D p) = true → (qf_kd D p ≠ 3 → pj_bt R (qf_dx D p) = true) ∧ (qf_kd D p ≤ 2 → pj_bt R (qf_dy D p) = true)) → Q (some (pj_vI R)) M) : pj_G L (d + 1) 33 0 [pj_vR 26, pj_vI (t : Int), pj_vI lat, pj_vU, pj_vU, pj_vU] [] M Q := by
  have hb := hD.b
  have hW := hX.W
  have hS := hX.S
  have hP := hX.P
  have bor : ∀ {x y : Int} {w : Nat}, pj_bt x w = true → pj_bt (pj_or x y) w = true := by
    intro x y w hx
    rw [pj_bt_or, hx, Bool.true_or]
  -- the parts, from the last on
  have parts : ∀ (q : Nat) (R : Int), q ≤ qf_dP D → (-2147483648 ≤ R ∧ R < 2147483648) → (∀ k, k < qf_dK D → qf_lt D k = t → pj_bt R (qf_lw D k) = true) → (∀ k, k < qf_dS D → pj_bt lat (qf_wo D (qf_st D k)) = true → pj_bt R (qf_dx D (qf_st D k)) = true ∧ pj_bt R (qf_dy D (qf_st D k)) = true) → (∀ i, q ≤ i → i < qf_dP D → pj_bt R (qf_wo D (qf_or0 D i)) = true → (qf_kd D (qf_or0 D i) ≠ 3 → pj_bt R (qf_dx D (qf_or0 D i)) = true) ∧ (qf_kd D (qf_or0 D i) ≤ 2 → pj_bt R (qf_dy D (qf_or0 D i)) = true)) → pj_G L (d + 1) 33 138 [pj_vR 26, pj_vU, pj_vU, pj_vI R, pj_vI ((q : Int) - 1), pj_vU] [] M Q := by
    intro q
    induction q with
    | zero =>
      intro R hq hr a1 a2 a3
      refine pj_C33_138 (by omega) (fun _ => pj_C33_187 (h R hr a1 a2 (fun p hp hw => ?_))) (fun c => by omega)
      obtain ⟨i, hi1, hi2⟩ := hD.oe p hp
      have := a3 i (by omega) hi1
      rw [hi2] at this
      exact this hw
    | succ a ih =>
      intro R hq hr a1 a2 a3
      have ea : ((a + 1 : Nat) : Int) - 1 = (a : Int) := by omega
      rw [ea]
      have hp := hD.or a (by omega)
      have hpt := hD.pt _ hp
      have eo := hX.or a (by omega)
      refine pj_C33_138 (by omega) (fun c => by omega) (fun _ => ?_)
      refine pj_C33_143 a (qf_or0 D a) (qf_wo D (qf_or0 D a)) rfl (by omega) eo (by omega) (hX.wo _ hp) (by omega) (fun z => pj_C33_181 ?_) (fun z => pj_C33_172 ?_)
      · refine ih R (by omega) hr a1 a2 (fun i h1 h2 h3 => ?_)
        by_cases ei : i = a
        · rw [ei, z] at h3
          cases h3
        · exact a3 i (by omega) h2 h3
      · rw [eo]
        refine qf_readByX hD hX hp (fun R2 hR2 => pj_C33_179 (pj_C33_181 (ih _ (by omega) (pj_or_rng _ _) (fun k hk hl => bor (a1 k hk hl)) (fun k hk hl => ⟨bor (a2 k hk hl).1, bor (a2 k hk hl).2⟩) (fun i h1 h2 h3 => ?_))))
        have hpi := hD.or i h2
        have hpti := hD.pt _ hpi
        by_cases ei : i = a
        · rw [ei]
          constructor
          · intro hk
            have := hpt.2.2.2.2.1 hk
            rw [pj_bt_or, (hR2 _ (by omega)).mpr (Or.inl ⟨hk, rfl⟩), Bool.or_true]
          · intro hk
            have := hpt.2.2.2.2.2.1 hk
            rw [pj_bt_or, (hR2 _ (by omega)).mpr (Or.inr ⟨hk, rfl⟩), Bool.or_true]
        · have hos := hD.os a i (by omega) h2
          have h3' : pj_bt R (qf_wo D (qf_or0 D i)) = true := by
            rw [pj_bt_or, Bool.or_eq_true] at h3
            rcases h3 with y | y
            · exact y
            · rcases (hR2 _ (by omega)).mp y with ⟨y1, y2⟩ | ⟨y1, y2⟩
              · have := hpt.2.2.2.2.1 y1
                omega
              · have := hpt.2.2.2.2.2.1 y1
                omega
          have := a3 i (by omega) h2 h3'
          exact ⟨fun hk => bor (this.1 hk), fun hk => bor (this.2 hk)⟩
  -- the streams
  have streams : ∀ (q n : Nat) (R : Int), n + q = qf_dS D → (-2147483648 ≤ R ∧ R < 2147483648) → (∀ k, k < qf_dK D → qf_lt D k = t → pj_bt R (qf_lw D k) = true) → (∀ k, k < n → pj_bt lat (qf_wo D (qf_st D k)) = true → pj_bt R (qf_dx D (qf_st D k)) = true ∧ pj_bt R (qf_dy D (qf_st D k)) = true) → pj_G L (d + 1) 33 52 [pj_vR 26, pj_vU, pj_vI lat, pj_vI R, pj_vI (n : Int), pj_vU] [] M Q := by
    intro q
    induction q with
    | zero =>
      intro n R en hr a1 a2
      refine pj_C33_52 (by omega) (by omega) (fun _ => pj_C33_127 ?_) (fun c => by omega)
      rw [hP]
      exact parts (qf_dP D) R (Nat.le_refl _) hr a1 (fun k hk => a2 k (by omega)) (fun i h1 h2 => absurd h2 (by omega))
    | succ q ih =>
      intro n R en hr a1 a2
      have h1 := hD.st n (by omega)
      have hpt := hD.pt _ h1.1
      have lx := hpt.2.2.2.2.1 (by omega)
      have ly := hpt.2.2.2.2.2.1 (by omega)
      have ex := hX.dx _ h1.1
      have ey := hX.dy _ h1.1
      rw [if_neg (by omega)] at ex
      rw [if_pos (by omega)] at ey
      have es := hX.st n (by omega)
      refine pj_C33_52 (by omega) (by omega) (fun c => by omega) (fun _ => ?_)
      refine pj_C33_64 n (qf_st D n) (qf_wo D (qf_st D n)) rfl (by omega) es (by omega) (hX.wo _ h1.1) (by omega) (fun z => pj_C33_121 ?_) (fun z => pj_C33_93 (qf_st D n) es (by omega) (pj_C33_121 ?_))
      · refine ih (n + 1) R (by omega) hr a1 (fun k hk hl => ?_)
        by_cases ek : k = n
        · rw [ek, z] at hl
          cases hl
        · exact a2 k (by omega) hl
      · rw [ex, ey]
        refine ih (n + 1) _ (by omega) (pj_or_rng _ _) (fun k hk hl => bor (a1 k hk hl)) (fun k hk hl => ?_)
        by_cases ek : k = n
        · rw [ek]
          constructor
          · rw [pj_bt_or, pj_bt_or, pj_bt_shl1 (by omega) (by omega), decide_eq_true (rfl : qf_dx D (qf_st D n) = qf_dx D (qf_st D n)), Bool.true_or, Bool.or_true]
          · rw [pj_bt_or, pj_bt_or, pj_bt_shl1 (k := qf_dy D (qf_st D n)) (j := qf_dy D (qf_st D n)) (by omega) (by omega), decide_eq_true (rfl : qf_dy D (qf_st D n) = qf_dy D (qf_st D n)), Bool.or_true, Bool.or_true]
        · exact ⟨bor (a2 k (by omega) hl).1, bor (a2 k (by omega) hl).2⟩
  -- the looks
  have looks : ∀ (q n : Nat) (R : Int), n + q = qf_dW D → (-2147483648 ≤ R ∧ R < 2147483648) → (∀ k, k < qf_dK D → qf_lt D k = t → qf_lw D k < n → pj_bt R (qf_lw D k) = true) → pj_G L (d + 1) 33 5 [pj_vR 26, pj_vI (t : Int), pj_vI lat, pj_vI R, pj_vI (n : Int), pj_vU] [] M Q := by
    intro q
    induction q with
    | zero =>
      intro n R en hr a1
      refine pj_C33_5 (by omega) (by omega) (fun _ => pj_C33_49 (streams (qf_dS D) 0 R (by omega) hr (fun k hk hl => a1 k hk hl (by have := (hD.lk k hk).2.1; omega)) (fun k hk => absurd hk (by omega)))) (fun c => by omega)
    | succ q ih =>
      intro n R en hr a1
      refine pj_C33_5 (by omega) (by omega) (fun c => by omega) (fun _ => ?_)
      rcases qf_seenX hD hX ht (show n < 14 by omega) with ⟨h1, -⟩ | ⟨s, h1, h2, h3, h4⟩
      · refine pj_C33_17 (14 * t + n) (by omega) (by omega) (by omega) (fun _ => pj_C33_43 (ih (n + 1) R (by omega) hr (fun k hk hl hw => ?_))) (fun z => absurd h1 z)
        have : qf_lw D k ≠ n := by
          intro z
          have := hX.sv k hk
          rw [hl, z, h1] at this
          omega
        exact a1 k hk hl (by omega)
      · have hrn := hD.rg n h3
        refine pj_C33_17 (14 * t + n) (by omega) (by omega) (by omega) (fun z => by omega) (fun _ => pj_C33_36 (pj_C33_43 (ih (n + 1) _ (by omega) (pj_or_rng _ _) (fun k hk hl hw => ?_))))
        by_cases z : qf_lw D k = n
        · rw [z, qf_bt_or1 _ (by omega) (by omega), decide_eq_true (rfl : n = n), Bool.or_true]
        · exact bor (a1 k hk hl (by omega))
  exact pj_C33_0 (looks (qf_dW D) 0 0 (by omega) (by omega) (fun k _ _ hw => absurd hw (by omega)))
/-- the trial has taken the machine as it is -/
def qf_pp (D : qf_D) (N : Nat → Nat → Bool) (M : pj_M) : Prop := (∀ t, t < qf_dT D → (-2147483648 ≤ M 27 t ∧ M 27 t < 2147483648) ∧ ∀ w, w < 14 → pj_bt (M 27 t) w = N t w) ∧ qf_clo D N ∧ (M 26 12 = 0 ∨ M 26 12 = 1) ∧ (M 26 12 = 1 ↔ qf_infit D) ∧ (∃ cn : Nat, M 26 10 = (cn : Int) ∧ cn < 128 ∧ (∀ p, p < qf_dP D → ∀ t, t < qf_dT D → N t (qf_wo D p) = true → cn.testBit p = true) ∧ ∀ k, cn.testBit k = true → k < qf_dP D) ∧ qf_inX D M
theorem qf_prepareX (hD : qf_okD D) {M0 : pj_M} (hX : qf_X D M0) (h : ∀ M' N, qf_fr [26, 27, 33] M0 M' → qf_fs 26 [10, 12] M0 M' → qf_pp D N M' → Q none M') : pj_G L (d + 2) 32 0 [pj_vR 26, pj_vU, pj_vU, pj_vU] [] M0 Q := by
  have hb := hD.b
  have fr0 : qf_fr [26, 27, 33] M0 (pj_up (pj_cpy M0 6 33 0 0 42) 26 12 1) := by
    intro a ha
    funext k
    simp only [List.mem_cons, List.not_mem_nil, or_false, not_or] at ha
    rw [pj_up_else (by omega)]
    unfold pj_cpy
    rw [if_neg (by omega)]
  have fs0 : qf_fs 26 [10, 12] M0 (pj_up (pj_cpy M0 6 33 0 0 42) 26 12 1) := by
    intro k hk
    simp only [List.mem_cons, List.not_mem_nil, or_false, not_or] at hk
    rw [pj_up_slot (by omega)]
    unfold pj_cpy
    rw [if_neg (by omega)]
  have in0 : qf_inX D (pj_up (pj_cpy M0 6 33 0 0 42) 26 12 1) := by
    intro t w ht hw _
    rw [pj_up_else (by decide)]
    unfold pj_cpy
    rw [if_pos ⟨rfl, by omega, by omega⟩, Nat.zero_add, Nat.sub_zero]
    exact hX.np _ (by omega)
  refine pj_C32_0 (by omega) (by omega) (pj_C32_21 ?_)
  -- the parts on which looks depend
  have conc : ∀ (N : Nat → Nat → Bool) (ev : Int) (Ma : pj_M), qf_fr [26, 27, 33] M0 Ma → qf_fs 26 [10, 12] M0 Ma → (∀ t, t < qf_dT D → (-2147483648 ≤ Ma 27 t ∧ Ma 27 t < 2147483648) ∧ ∀ w, w < 14 → pj_bt (Ma 27 t) w = N t w) → qf_clo D N → (Ma 26 12 = 0 ∨ Ma 26 12 = 1) → (Ma 26 12 = 1 ↔ qf_infit D) → qf_inX D Ma → (∀ t, t < qf_dT D → ∀ w, w < 14 → N t w = true → pj_bt ev w = true) → ∀ (q n : Nat) (M1 : pj_M), n + q = qf_dP D → qf_fr [26] Ma M1 → qf_fs 26 [10] Ma M1 → (∃ cn : Nat, M1 26 10 = (cn : Int) ∧ cn < 128 ∧ (∀ p, p < n → ∀ t, t < qf_dT D → N t (qf_wo D p) = true → cn.testBit p = true) ∧ ∀ k, cn.testBit k = true → k < n) → pj_G L (d + 2) 32 146 [pj_vR 26, pj_vU, pj_vI ev, pj_vI (n : Int)] [] M1 Q := by
    intro N ev Ma hma hsa hN hclo h12 hfit hin hev q
    induction q with
    | zero =>
      intro n M1 en hm1 hs1 hcn
      have hX1 : qf_X D M1 := (hX.keep (qf_kX.of hma (by decide))).keep (qf_kX.of hm1 (by decide))
      have hP := hX1.P
      obtain ⟨cn, c1, c2, c3, c4⟩ := hcn
      refine pj_C32_146 (by omega) (by omega) (fun _ => pj_C32_187 (h M1 N (hma.trans hm1 (by decide)) (hsa.trans hs1 (by decide)) ⟨by rw [hm1 27 (by decide)]; exact hN, hclo, by rw [hs1 12 (by decide)]; exact h12, by rw [hs1 12 (by decide)]; exact hfit, ⟨cn, c1, c2, fun p hp => c3 p (by omega), fun k hk => by have := c4 k hk; omega⟩, hin.same (hm1 33 (by decide))⟩)) (fun c => by omega)
    | succ q ih =>
      intro n M1 en hm1 hs1 hcn
      have hX1 : qf_X D M1 := (hX.keep (qf_kX.of hma (by decide))).keep (qf_kX.of hm1 (by decide))
      have hP := hX1.P
      obtain ⟨cn, c1, c2, c3, c4⟩ := hcn
      have hpt := hD.pt n (by omega)
      refine pj_C32_146 (by omega) (by omega) (fun c => by omega) (fun _ => pj_C32_157 n rfl (by omega) ?_)
      rw [hX1.wo n (by omega), pj_bit1 ev rfl (by omega), c1]
      refine ih (n + 1) _ (by omega) (hm1.up (by decide)) (hs1.up (by decide)) ?_
      cases hbit : pj_bt ev (qf_wo D n) with
      | true =>
        rw [if_pos rfl, pj_shl1_nat (by omega), qf_or_nat (by omega) (Nat.lt_of_le_of_lt (Nat.pow_le_pow_right (show 0 < 2 by omega) (show n ≤ 7 by omega) : 2 ^ n ≤ 2 ^ 7) (by omega)), pj_up_same]
        refine ⟨cn ||| 2 ^ n, rfl, Nat.or_lt_two_pow (n := 7) (by omega) (Nat.pow_lt_pow_right (by omega) (by omega)), fun p hp t ht hn => ?_, fun k hk => ?_⟩
        · rw [Nat.testBit_or, Nat.testBit_two_pow]
          by_cases z : p = n
          · rw [decide_eq_true z.symm, Bool.or_true]
          · rw [c3 p (by omega) t ht hn, Bool.true_or]
        · rw [Nat.testBit_or, Nat.testBit_two_pow, Bool.or_eq_true, decide_eq_true_iff] at hk
          rcases hk with y | y
          · have := c4 k y
            omega
          · omega
      | false =>
        rw [if_neg (by decide), pj_up_same]
        have e1 : pj_or (cn : Int) (pj_shl 0 (n : Int)) = (cn : Int) := by
          have e0 : pj_shl 0 (n : Int) = ((0 : Nat) : Int) := by
            have : ∀ k : Fin 7, pj_shl 0 (k.val : Int) = ((0 : Nat) : Int) := by decide +kernel
            exact this ⟨n, by omega⟩
          rw [e0, qf_or_nat (by omega) (by omega), Nat.or_zero]
        rw [e1]
        refine ⟨cn, rfl, c2, fun p hp t ht hn => ?_, fun k hk => by have := c4 k hk; omega⟩
        by_cases z : p = n
        · rw [z] at hn
          rw [hev t ht _ (by omega) hn] at hbit
          cases hbit
        · exact c3 p (by omega) t ht hn
  -- the needed wires, tick by tick from the last
  have needs : ∀ (q : Nat) (lat ev : Int) (M1 : pj_M), q ≤ qf_dT D → qf_fr [26, 27, 33] M0 M1 → qf_fs 26 [10, 12] M0 M1 → (M1 26 12 = 0 ∨ M1 26 12 = 1) → (M1 26 12 = 1 ↔ qf_infit D) → qf_inX D M1 → (q < qf_dT D → lat = M1 27 q) → (q = qf_dT D → lat = 0) → (∀ t, q ≤ t → t < qf_dT D → (-2147483648 ≤ M1 27 t ∧ M1 27 t < 2147483648) ∧ (∀ w, pj_bt (M1 27 t) w = true → pj_bt ev w = true) ∧ (∀ k, k < qf_dK D → qf_lt D k = t → pj_bt (M1 27 t) (qf_lw D k) = true) ∧ (∀ p, p < qf_dP D → pj_bt (M1 27 t) (qf_wo D p) = true → (qf_kd D p ≠ 3 → pj_bt (M1 27 t) (qf_dx D p) = true) ∧ (qf_kd D p ≤ 2 → pj_bt (M1 27 t) (qf_dy D p) = true)) ∧ (t + 1 < qf_dT D → ∀ k, k < qf_dS D → pj_bt (M1 27 (t + 1)) (qf_wo D (qf_st D k)) = true → pj_bt (M1 27 t) (qf_dx D (qf_st D k)) = true ∧ pj_bt (M1 27 t) (qf_dy D (qf_st D k)) = true)) → pj_G L (d + 2) 32 111 [pj_vR 26, pj_vI lat, pj_vI ev, pj_vI ((q : Int) - 1)] [] M1 Q := by
    intro q
    induction q with
    | zero =>
      intro lat ev M1 hq hm1 hs1 h12 hfit hin e1 e2 a
      refine pj_C32_111 (by omega) (fun _ => pj_C32_139 ?_) (fun c => by omega)
      have hclo : qf_clo D (fun t w => pj_bt (M1 27 t) w) := by
        refine ⟨fun k hk => ?_, fun t p ht hp hn => ?_, fun t p ht hp hk hn => ?_⟩
        · exact (a _ (by omega) (hD.lk k hk).1).2.2.1 k hk rfl
        · exact (a t (by omega) ht).2.2.2.1 p hp hn
        · obtain ⟨k, k1, k2⟩ := hD.ts p hp hk
          have := (a t (by omega) (by omega)).2.2.2.2 ht k k1
          rw [k2] at this
          exact this hn
      refine conc (fun t w => pj_bt (M1 27 t) w) ev (pj_up M1 26 10 0) (hm1.up (by decide)) (hs1.up (by decide)) (fun t ht => ?_) hclo ?_ ?_ (hin.same (by funext k; exact pj_up_else (by decide))) (fun t ht w hw hn => (a t (by omega) ht).2.1 w hn) (qf_dP D) 0 _ (by omega) qf_fr.refl qf_fs.refl ⟨0, pj_up_same, by omega, fun p hp => absurd hp (by omega), fun k hk => by rw [Nat.zero_testBit] at hk; cases hk⟩
      · rw [pj_up_else (by decide)]
        exact ⟨(a t (by omega) ht).1, fun w hw => rfl⟩
      · rw [pj_up_slot (by decide)]; exact h12
      · rw [pj_up_slot (by decide)]; exact hfit
    | succ t ih =>
      intro lat ev M1 hq hm1 hs1 h12 hfit hin e1 e2 a
      have et : ((t + 1 : Nat) : Int) - 1 = (t : Int) := by omega
      rw [et]
      have hX1 : qf_X D M1 := hX.keep (qf_kX.of hm1 (by decide))
      refine pj_C32_111 (by omega) (fun c => by omega) (fun _ => pj_C32_115 ?_)
      refine qf_needsX hD hX1 (by omega) (fun R hr b1 b2 b3 => pj_C32_121 t rfl (by omega) ?_)
      refine ih R (pj_or ev R) _ (by omega) (hm1.up (by decide)) (hs1.else (by decide)) (by rw [pj_up_else (by decide)]; exact h12) (by rw [pj_up_else (by decide)]; exact hfit) (hin.same (by funext k; exact pj_up_else (by decide))) (fun _ => pj_up_same.symm) (fun z => by omega) (fun t' h1 h2 => ?_)
      by_cases z : t' = t
      · subst z
        rw [pj_up_same]
        refine ⟨hr, fun w hw => by rw [pj_bt_or, hw, Bool.or_true], b1, b3, fun h3 k hk hl => ?_⟩
        rw [pj_up_slot (by omega)] at hl
        rw [e1 (by omega)] at b2
        exact b2 k hk hl
      · have := a t' (by omega) h2
        rw [pj_up_slot z, pj_up_slot (by omega)]
        exact ⟨this.1, fun w hw => by rw [pj_bt_or, this.2.1 w hw, Bool.true_or], this.2.2.1, this.2.2.2.1, this.2.2.2.2⟩
  -- looks at inputs
  have fit : ∀ (q n : Nat) (M1 : pj_M), n + q = qf_dK D → qf_fr [26, 27, 33] M0 M1 → qf_fs 26 [10, 12] M0 M1 → (M1 26 12 = 0 ∨ M1 26 12 = 1) → (M1 26 12 = 1 ↔ ∀ k, k < n → qf_dv D (qf_lw D k) = 0 → qf_lv D k = qf_np0 D (14 * qf_lt D k + qf_lw D k)) → qf_inX D M1 → pj_G L (d + 2) 32 28 [pj_vR 26, pj_vI (n : Int), pj_vU, pj_vU] [] M1 Q := by
    intro q
    induction q with
    | zero =>
      intro n M1 en hm1 hs1 h12 hfit hin
      have hX1 : qf_X D M1 := hX.keep (qf_kX.of hm1 (by decide))
      have hK := hX1.K
      obtain rfl : n = qf_dK D := by omega
      refine pj_C32_28 (by omega) (by omega) (fun _ => pj_C32_97 ?_) (fun c => by omega)
      rw [hX1.T]
      exact needs (qf_dT D) 0 0 M1 (Nat.le_refl _) hm1 hs1 h12 hfit hin (fun z => by omega) (fun _ => rfl) (fun t h1 h2 => absurd h2 (by omega))
    | succ q ih =>
      intro n M1 en hm1 hs1 h12 hfit hin
      have hX1 : qf_X D M1 := hX.keep (qf_kX.of hm1 (by decide))
      have hK := hX1.K
      have hl := hD.lk n (by omega)
      have epl := hX1.pl n (by omega)
      have esv := hX1.sv n (by omega)
      have edv := hX1.dv _ hl.2.1
      have enp := hX1.np (14 * qf_lt D n + qf_lw D n) (by omega)
      have hrg := hD.rg _ hl.2.1
      have hnp := hD.np (qf_lt D n) (qf_lw D n) (by omega) hl.2.1
      have dvle : qf_dv D (qf_lw D n) ≤ 7 := by
        by_cases h0 : qf_dv D (qf_lw D n) = 0
        · omega
        · have := hD.dv _ hl.2.1 h0
          omega
      have erem : pj_rem (M1 20 n) 14 = ((qf_lw D n : Nat) : Int) := by
        rw [epl]
        have := pj_rem_nat (a := 14 * qf_lt D n + qf_lw D n) (b := 14) (by omega) (by omega) (by omega)
        rw [show (14 * qf_lt D n + qf_lw D n) % 14 = qf_lw D n by omega] at this
        exact this
      have go : ∀ (M2 : pj_M), qf_fr [26, 27, 33] M0 M2 → qf_fs 26 [10, 12] M0 M2 → (M2 26 12 = 0 ∨ M2 26 12 = 1) → (M2 26 12 = 1 ↔ ∀ k, k < n + 1 → qf_dv D (qf_lw D k) = 0 → qf_lv D k = qf_np0 D (14 * qf_lt D k + qf_lw D k)) → qf_inX D M2 → pj_G L (d + 2) 32 91 [pj_vR 26, pj_vI (n : Int), pj_vU, pj_vU] [] M2 Q := fun M2 g1 g2 g3 g4 g5 => pj_C32_91 (ih (n + 1) M2 (by omega) g1 g2 g3 g4 g5)
      have keep : (qf_dv D (qf_lw D n) = 0 → qf_lv D n = qf_np0 D (14 * qf_lt D n + qf_lw D n)) → pj_G L (d + 2) 32 91 [pj_vR 26, pj_vI (n : Int), pj_vU, pj_vU] [] M1 Q := by
        intro hk
        refine go M1 hm1 hs1 h12 ?_ hin
        rw [hfit]
        constructor
        · intro z k hk' hd
          by_cases ek : k = n
          · subst ek; exact hk hd
          · exact z k (by omega) hd
        · exact fun z k hk' => z k (by omega)
      refine pj_C32_28 (by omega) (by omega) (fun c => by omega) (fun _ => ?_)
      refine pj_C32_39 n (qf_lw D n) rfl (by omega) erem (by omega) (by omega) (fun z => keep (fun y => by omega)) (fun z => ?_)
      refine pj_C32_65 (14 * qf_lt D n + qf_lw D n) epl (by omega) (by omega) (by omega) (fun y => keep (fun _ => by omega)) (fun y => pj_C32_86 (go _ (hm1.up (by decide)) (hs1.up (by decide)) (Or.inl pj_up_same) ?_ (hin.same (by funext k; exact pj_up_else (by decide)))))
      rw [pj_up_same]
      constructor
      · intro w
        exact absurd w (by decide)
      · intro w
        have := w n (by omega) (by omega)
        omega
  exact fit (qf_dK D) 0 _ (by omega) fr0 fs0 (Or.inr pj_up_same) ⟨fun _ k hk => absurd hk (by omega), fun _ => pj_up_same⟩ in0
end QFXI
