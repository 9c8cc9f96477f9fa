/-! SETS told as numbers; the reference's quarrels. -/
theorem qf_bt_ushr (x : Int) {j k : Nat} (hj : j < 8) (hk : k < 32) : pj_bt (pj_ushr x (j : Int)) k = (if j + k < 32 then pj_bt x (j + k) else false) := by
  unfold pj_ushr
  rw [pj_bt_toInt]
  have e : ((Int32.ofInt x).toUInt32 >>> ((Int32.ofInt (j : Int)).toUInt32 &&& Int32.toUInt32 31)).toInt32.toBitVec = (Int32.ofInt x).toBitVec >>> j := by
    show (Int32.ofInt x).toBitVec >>> (((Int32.ofInt (j : Int)).toUInt32 &&& Int32.toUInt32 31).toBitVec % 32#32) = _
    have h : ∀ j : Fin 8, ((((Int32.ofInt (j.val : Int)).toUInt32 &&& Int32.toUInt32 31).toBitVec % 32#32)).toNat = j.val := by decide +kernel
    have h2 := h ⟨j, hj⟩
    dsimp only at h2
    rw [BitVec.ushiftRight_eq', h2]
  rw [e, BitVec.getLsbD_ushiftRight]
  split
  · rfl
  · exact BitVec.getLsbD_of_ge _ _ (by omega)
theorem qf_ushr0 {x : Int} (h1 : -2147483648 ≤ x) (h2 : x < 2147483648) {j : Nat} (hj : j < 8) : pj_ushr x (j : Int) = 0 ↔ 0 ≤ x ∧ x < ((2 ^ j : Nat) : Int) := by
  have hp : (2 : Nat) ^ j ≤ 2 ^ 7 := Nat.pow_le_pow_right (by omega) (by omega)
  constructor
  · intro h
    obtain ⟨m, m1, m2⟩ := pj_bt_small (n := j) (by omega) h1 h2 (fun k hk1 hk2 => by
      have := qf_bt_ushr x hj (k := k - j) (by omega)
      rw [h, pj_bt_0, if_pos (by omega), show j + (k - j) = k by omega] at this
      exact this.symm)
    omega
  · rintro ⟨h3, h4⟩
    refine pj_bt_ext (pj_op_rng _).1 (pj_op_rng _).2 (by omega) (by omega) (fun k hk => ?_)
    rw [qf_bt_ushr x hj hk, pj_bt_0]
    split
    · obtain ⟨m, rfl⟩ : ∃ m : Nat, x = (m : Int) := ⟨x.toNat, by omega⟩
      rw [pj_bt_nat _ (by omega)]
      exact Nat.testBit_lt_two_pow (Nat.lt_of_lt_of_le (by omega : m < 2 ^ j) (Nat.pow_le_pow_right (by omega) (by omega)))
    · rfl
/-- a set less one part -/
def qf_les (s p : Nat) : Nat := qf_msk (fun k => s.testBit k && decide (k ≠ p)) 7
theorem qf_les_bit {s p k : Nat} (hk : k < 7) : (qf_les s p).testBit k = (s.testBit k && decide (k ≠ p)) := by
  unfold qf_les
  rw [qf_msk_bit]
  cases h : (s.testBit k && decide (k ≠ p)) with
  | true => exact decide_eq_true ⟨hk, rfl⟩
  | false => exact decide_eq_false (fun z => by cases z.2)
theorem qf_les_lt {s p : Nat} : qf_les s p < 128 := qf_msk_lt7 _ (by omega)
theorem qf_les_eq {s p : Nat} (hs : s < 128) (hp : p < 7) : pj_and (s : Int) (pj_xor (pj_shl 1 (p : Int)) (-1)) = (qf_les s p : Int) := by
  have h2 : (2 : Nat) ^ p < 128 := Nat.pow_lt_pow_right (m := p) (n := 7) (a := 2) (by omega) hp
  obtain ⟨t, t1, t2, t3⟩ := qf_mask2 hs h2
  rw [pj_shl1_nat (by omega), t1]
  have : t = qf_les s p := pj_nat_ext t2 qf_les_lt (fun k hk => by
    rw [t3 k, qf_les_bit hk, Nat.testBit_two_pow]
    congr 1
    by_cases z : p = k
    · rw [decide_eq_true z, decide_eq_false (show ¬ k ≠ p from fun y => y z.symm)]; rfl
    · rw [decide_eq_false z, decide_eq_true (show k ≠ p from fun y => z y.symm)]; rfl)
  rw [this]
section QFQU
variable {L d : Nat} {Q : Option pj_V → pj_M → Prop} {D : qf_D} {M : pj_M} {set : Nat}
theorem qf_CB_mono (hD : qf_okD D) {s s' : Nat} (h : qf_sub s' s) (hc : qf_CB D s) : qf_CB D s' := by
  have hb := hD.b
  have h127 : ∀ p : Fin 7, (127 : Nat).testBit p.val = true := by decide +kernel
  refine qf_CB_cn (N := qf_all0) (cn := 127) hD qf_clo_all (fun p hp _ _ _ => h127 ⟨p, by omega⟩) (fun p hp _ _ hb' => h p (by omega) hb') hc
/-- a quarrel: no part can be left out -/
theorem qf_qua_min (hD : qf_okD D) {s : Nat} (hs : s < 128) (hn : qf_sub s (qf_nm D)) : qf_min (qf_qua D) (qf_nm D) s ↔ ¬ qf_CB D s ∧ ∀ p, p < qf_dP D → s.testBit p = true → qf_CB D (qf_les s p) := by
  have hb := hD.b
  constructor
  · rintro ⟨-, -, h1, h2⟩
    refine ⟨h1, fun p hp hbit => Classical.byContradiction (fun hc => h2 _ qf_les_lt (fun k hk hh => ?_) (fun e => ?_) hc)⟩
    · rw [qf_les_bit hk, Bool.and_eq_true] at hh
      exact hh.1
    · have := qf_les_bit (s := s) (p := p) (k := p) (by omega)
      rw [e, hbit, decide_eq_false (fun y => y rfl)] at this
      cases this
  · rintro ⟨h1, h2⟩
    refine ⟨hs, hn, h1, fun s' a1 a2 a3 a4 => ?_⟩
    have : ∃ p, p < 7 ∧ s.testBit p = true ∧ s'.testBit p = false := by
      refine Classical.byContradiction (fun hc => a3 (qf_sub_anti a1 hs a2 (fun p hp hbit => ?_)))
      cases hq : s'.testBit p with
      | true => rfl
      | false => exact absurd ⟨p, hp, hbit, hq⟩ hc
    obtain ⟨p, p1, p2, p3⟩ := this
    have hpP : p < qf_dP D := by
      have := hn p p1 p2
      rw [qf_nm_bit, decide_eq_true_iff] at this
      exact this.1
    refine a4 (qf_CB_mono hD (fun k hk hbit => ?_) (h2 p hpP p2))
    rw [qf_les_bit hk, a2 k hk hbit, Bool.true_and]
    exact decide_eq_true (fun e => by rw [e, p3] at hbit; cases hbit)
theorem qf_isSetY (hD : qf_okD D) (hY : qf_Y D M) {x : Int} (hr : -2147483648 ≤ x ∧ x < 2147483648) (h1 : (0 ≤ x ∧ x < ((2 ^ qf_dP D : Nat) : Int)) → Q (some (pj_vI 1)) M) (h0 : ¬ (0 ≤ x ∧ x < ((2 ^ qf_dP D : Nat) : Int)) → Q (some (pj_vI 0)) M) : pj_G L d 125 0 [pj_vR 38, pj_vI x] [] M Q := by
  have hs := (qf_shl_P hD hY).1
  refine pj_C125_0 hr (fun z => pj_C125_18 (pj_C125_19 (Or.inl rfl) (h0 (by omega)))) (fun z => pj_C125_4 hr (fun y => pj_C125_18 (pj_C125_19 (Or.inl rfl) (h0 (by rw [hs] at y; omega)))) (fun y => pj_C125_14 (pj_C125_19 (Or.inr rfl) (h1 (by rw [hs] at y; omega)))))
theorem qf_hasMeterY (hD : qf_okD D) (hY : qf_Y D M) (hset : set < 128) (h1 : (∃ p, p < qf_dP D ∧ set.testBit p = true ∧ qf_kd D p = 4) → Q (some (pj_vI 1)) M) (h0 : (¬ ∃ p, p < qf_dP D ∧ set.testBit p = true ∧ qf_kd D p = 4) → Q (some (pj_vI 0)) M) : pj_G L d 126 0 [pj_vR 38, pj_vI (set : Int), pj_vU, pj_vU] [] M Q := by
  have hb := hD.b
  have hP := hY.P
  have loop : ∀ (r n : Nat) (x : Int), n + r = qf_dP D → (x = 0 ∨ x = 1) → (x = 1 ↔ ∃ p, p < n ∧ set.testBit p = true ∧ qf_kd D p = 4) → pj_G L d 126 4 [pj_vR 38, pj_vI (set : Int), pj_vI x, pj_vI (n : Int)] [] M Q := by
    intro r
    induction r with
    | zero =>
      intro n x e hx1 hx2
      obtain rfl : n = qf_dP D := by omega
      refine pj_C126_4 (by omega) (by omega) (fun _ => pj_C126_47 hx1 ?_) (fun c => by omega)
      rcases hx1 with rfl | rfl
      · exact h0 (fun z => absurd (hx2.mpr z) (by decide))
      · exact h1 (hx2.mp rfl)
    | succ r ih =>
      intro n x e hx1 hx2
      have ek := hY.kd n (by omega)
      have hk4 := (hD.pt n (by omega)).2.2.1
      have yes : (∃ p, p < n + 1 ∧ set.testBit p = true ∧ qf_kd D p = 4) → pj_G L d 126 35 [pj_vR 38, pj_vI (set : Int), pj_vU, pj_vI (n : Int)] [] M Q := fun z => pj_C126_35 (pj_C126_40 (ih (n + 1) 1 (by omega) (Or.inr rfl) ⟨fun _ => z, fun _ => rfl⟩))
      have nos : x = 0 → ¬ (set.testBit n = true ∧ qf_kd D n = 4) → pj_G L d 126 39 [pj_vR 38, pj_vI (set : Int), pj_vU, pj_vI (n : Int)] [] M Q := by
        intro hx0 hno
        refine pj_C126_39 (pj_C126_40 (ih (n + 1) 0 (by omega) (Or.inl rfl) ⟨fun w => absurd w (by decide), ?_⟩))
        rintro ⟨p, p1, p2⟩
        by_cases z : p = n
        · rw [z] at p2; exact absurd p2 hno
        · have := hx2.mpr ⟨p, by omega, p2⟩
          omega
      refine pj_C126_4 (by omega) (by omega) (fun c => by omega) (fun _ => pj_C126_12 (by omega) (fun z => yes ?_) (fun z => ?_))
      · obtain ⟨p, p1, p2⟩ := hx2.mp (by omega)
        exact ⟨p, by omega, p2⟩
      · refine pj_C126_16 n rfl (by omega) (fun y => nos z (fun w => ?_)) (fun y => ?_)
        · rw [pj_bt_nat n (by omega), w.1] at y; cases y
        · rw [pj_bt_nat n (by omega)] at y
          exact pj_C126_25 n rfl (by omega) (by omega) (fun w => nos z (fun w2 => w (by omega))) (fun w => yes ⟨n, by omega, y, by omega⟩)
  exact pj_C126_0 (loop (qf_dP D) 0 0 (by omega) (Or.inl rfl) ⟨fun z => absurd z (by decide), fun ⟨p, p1, _⟩ => absurd p1 (by omega)⟩)
abbrev qf_quL : List Nat := [38, 57, 59, 60, 61]
theorem qf_isQuarrelY (hD : qf_okD D) (hE : qf_okE D) {M0 : pj_M} (hY : qf_Y D M0) (hset : set < 128) (h1 : ¬ qf_CB D set → ∀ M', qf_frA qf_quL M0 M' → Q (some (pj_vI 1)) M') (h0 : qf_CB D set → ∀ M', qf_frA qf_quL M0 M' → Q (some (pj_vI 0)) M') : pj_G L (d + 6) 132 0 [pj_vR 38, pj_vI (set : Int), pj_vU] [] M0 Q := by
  have hb := hD.b
  have loop : ∀ (r n : Nat) (M : pj_M), n + r = qf_dP D → qf_frA qf_quL M0 M → (∀ k, k < 32 → pj_bt (M 38 23) k = decide (k < n ∧ qf_kd D k ≠ 4 ∧ set.testBit k = false)) → M 38 24 = 0 → pj_G L (d + 6) 132 12 [pj_vR 38, pj_vI (set : Int), pj_vI (n : Int)] [] M Q := by
    intro r
    induction r with
    | zero =>
      intro n M e hm a1 a2
      have hY' : qf_Y D M := hY.keep (hm.keep (by decide))
      have hP := hY'.P
      have hR : qf_roY D M (qf_roS D set) := by
        intro p hp
        have hroS : qf_roS D set p = 16 ↔ ¬ (qf_kd D p = 4 ∨ set.testBit p = true) := by
          unfold qf_roS
          split
          next z => exact ⟨fun y => absurd y (by decide), fun y => absurd z y⟩
          next z => exact ⟨fun _ => z, fun _ => rfl⟩
        have hro0 : qf_roS D set p ≠ 16 → qf_roS D set p = 0 := by
          unfold qf_roS
          split
          · exact fun _ => rfl
          · exact fun y => absurd rfl y
        refine ⟨?_, fun y => ?_, fun y1 y2 => absurd (hro0 y1) y2, ?_⟩
        · rw [a1 p (by omega)]
          refine decide_eq_decide.mpr ⟨fun y => hroS.mpr (fun w => ?_), fun y => ⟨by omega, fun w => (hroS.mp y) (Or.inl w), ?_⟩⟩
          · rcases w with w | w
            · exact y.2.1 w
            · rw [y.2.2] at w; cases w
          · cases hq : set.testBit p with
            | false => rfl
            | true => exact absurd (Or.inr hq) (hroS.mp y)
        · rw [a2, pj_bt_0, hro0 y]; rfl
        · by_cases w : qf_roS D set p = 16
          · omega
          · have := hro0 w
            omega
      refine pj_C132_12 (by omega) (by omega) (fun _ => pj_C132_60 ?_) (fun c => by omega)
      refine qf_canBeY hD hE hY' hR (fun hex M1 hm1 _ => ?_) (fun hex M1 hm1 _ => ?_)
      · exact pj_C132_64 (by omega) (fun _ => pj_C132_71 (pj_C132_72 (Or.inl rfl) (h0 hex M1 (hm.ofr hm1 (by decide) (by decide))))) (fun z => absurd z (by decide))
      · exact pj_C132_64 (by omega) (fun z => absurd rfl z) (fun _ => pj_C132_67 (pj_C132_72 (Or.inr rfl) (h1 hex M1 (hm.ofr hm1 (by decide) (by decide)))))
    | succ r ih =>
      intro n M e hm a1 a2
      have hY' : qf_Y D M := hY.keep (hm.keep (by decide))
      have hP := hY'.P
      have ek := hY'.kd n (by omega)
      have hk4 := (hD.pt n (by omega)).2.2.1
      have next : ∀ s2 : Int, (∀ k, k < 32 → pj_bt s2 k = decide (k = n ∧ qf_kd D n ≠ 4 ∧ set.testBit n = false)) → pj_G L (d + 6) 132 50 [pj_vR 38, pj_vI (set : Int), pj_vI (n : Int)] [pj_vI s2, pj_vI (M 38 23), pj_vR 38] M Q := by
        intro s2 hs2
        refine pj_C132_50 (ih (n + 1) _ (by omega) ⟨hm.1.up (by decide), hm.2.up (by decide)⟩ (fun k hk => ?_) (by rw [pj_up_slot (by decide)]; exact a2))
        rw [pj_up_same, pj_bt_or, a1 k hk, hs2 k hk]
        by_cases z : k = n
        · subst z
          rw [decide_eq_false (show ¬ (k < k ∧ qf_kd D k ≠ 4 ∧ set.testBit k = false) from fun y => absurd y.1 (by omega)), Bool.false_or]
          exact decide_eq_decide.mpr ⟨fun y => ⟨by omega, y.2⟩, fun y => ⟨rfl, y.2⟩⟩
        · rw [decide_eq_false (show ¬ (k = n ∧ qf_kd D n ≠ 4 ∧ set.testBit n = false) from fun y => z y.1), Bool.or_false]
          exact decide_eq_decide.mpr ⟨fun y => ⟨by omega, y.2⟩, fun y => ⟨by omega, y.2⟩⟩
      have zero : ¬ (qf_kd D n ≠ 4 ∧ set.testBit n = false) → pj_G L (d + 6) 132 49 [pj_vR 38, pj_vI (set : Int), pj_vI (n : Int)] [pj_vI (M 38 23), pj_vR 38] M Q := fun hno => pj_C132_49 (next 0 (fun k hk => by rw [pj_bt_0]; exact (decide_eq_false (fun y => hno y.2)).symm))
      refine pj_C132_12 (by omega) (by omega) (fun c => by omega) (fun _ => pj_C132_20 n rfl (by omega) (by omega) (fun z => zero (fun y => y.1 (by omega))) (fun z => ?_))
      refine pj_C132_35 n rfl (by omega) (fun y => zero (fun w => ?_)) (fun y => pj_C132_43 (next _ (fun k hk => ?_)))
      · rw [pj_bt_nat n (by omega), w.2] at y; cases y
      · rw [pj_bt_nat n (by omega)] at y
        rw [pj_bt_shl1 (by omega) hk]
        exact decide_eq_decide.mpr ⟨fun w => ⟨w, fun w2 => z (by omega), y⟩, fun w => w.1⟩
  refine pj_C132_0 (loop (qf_dP D) 0 _ (by omega) ⟨(qf_fr.refl.up (by decide)).up (by decide), (qf_fs.refl.up (by decide)).up (by decide)⟩ (fun k hk => ?_) pj_up_same)
  rw [pj_up_slot (by decide), pj_up_same, pj_bt_0]
  exact (decide_eq_false (fun y => absurd y.1 (by omega))).symm
theorem qf_frA.trans {l : List Nat} {M1 M2 M3 : pj_M} (h : qf_frA l M1 M2) (h' : qf_frA l M2 M3) : qf_frA l M1 M3 := ⟨h.1.trans h'.1 (fun _ z => z), h.2.trans h'.2 (fun _ z => z)⟩
/-- what is judged -/
def qf_jud (D : qf_D) (s : Nat) (j : Int) : Prop := (j = 0 ∧ qf_CB D s) ∨ (j = 1 ∧ ¬ qf_CB D s ∧ ∃ p, p < qf_dP D ∧ s.testBit p = true ∧ ¬ qf_CB D (qf_les s p)) ∨ (j = 2 ∧ ¬ qf_CB D s ∧ ∀ p, p < qf_dP D → s.testBit p = true → qf_CB D (qf_les s p))
theorem qf_jud_uni {s : Nat} {i j : Int} (hi : qf_jud D s i) (hj : qf_jud D s j) : i = j := by
  rcases hi with ⟨i1, i2⟩ | ⟨i1, i2, p, i3, i4, i5⟩ | ⟨i1, i2, i3⟩ <;> rcases hj with ⟨j1, j2⟩ | ⟨j1, j2, q, j3, j4, j5⟩ | ⟨j1, j2, j3⟩
  · omega
  · exact absurd i2 j2
  · exact absurd i2 j2
  · exact absurd j2 i2
  · omega
  · exact absurd (j3 p i3 i4) i5
  · exact absurd j2 i2
  · exact absurd (i3 q j3 j4) j5
  · omega
theorem qf_judgedY (hD : qf_okD D) (hE : qf_okE D) {M0 : pj_M} (hY : qf_Y D M0) (hset : set < 128) (h : ∀ M' j, qf_frA qf_quL M0 M' → qf_jud D set j → Q (some (pj_vI j)) M') : pj_G L (d + 7) 133 0 [pj_vR 38, pj_vI (set : Int), pj_vU] [] M0 Q := by
  have hb := hD.b
  refine pj_C133_0 (qf_isQuarrelY hD hE hY hset (fun hq M1 hm1 => ?_) (fun hq M1 hm1 => ?_))
  · refine pj_C133_5 (by omega) (fun _ => pj_C133_10 ?_) (fun z => absurd z (by decide))
    have loop : ∀ (r n : Nat) (M : pj_M), n + r = qf_dP D → qf_frA qf_quL M0 M → (∀ p, p < n → set.testBit p = true → qf_CB D (qf_les set p)) → pj_G L (d + 7) 133 12 [pj_vR 38, pj_vI (set : Int), pj_vI (n : Int)] [] M Q := by
      intro r
      induction r with
      | zero =>
        intro n M e hm a
        have hP := (hY.keep (hm.keep (by decide)) : qf_Y D M).P
        exact pj_C133_12 (by omega) (by omega) (fun _ => pj_C133_51 (h M 2 hm (Or.inr (Or.inr ⟨rfl, hq, fun p hp => a p (by omega)⟩)))) (fun c => by omega)
      | succ r ih =>
        intro n M e hm a
        have hY' : qf_Y D M := hY.keep (hm.keep (by decide))
        have hP := hY'.P
        refine pj_C133_12 (by omega) (by omega) (fun c => by omega) (fun _ => pj_C133_20 n rfl (by omega) (fun z => pj_C133_45 (ih (n + 1) M (by omega) hm (fun p hp hbit => ?_))) (fun z => pj_C133_29 ?_))
        · rw [pj_bt_nat n (by omega)] at z
          have : p ≠ n := fun y => by rw [y, z] at hbit; cases hbit
          exact a p (by omega) hbit
        · rw [pj_bt_nat n (by omega)] at z
          rw [qf_les_eq hset (by omega)]
          refine qf_isQuarrelY hD hE hY' qf_les_lt (fun hq2 M2 hm2 => ?_) (fun hq2 M2 hm2 => ?_)
          · exact pj_C133_40 (by omega) (fun y => absurd y (by decide)) (fun _ => pj_C133_43 (h M2 1 (hm.trans hm2) (Or.inr (Or.inl ⟨rfl, hq, n, by omega, z, hq2⟩))))
          · refine pj_C133_40 (by omega) (fun _ => pj_C133_45 (ih (n + 1) M2 (by omega) (hm.trans hm2) (fun p hp hbit => ?_))) (fun y => absurd rfl y)
            by_cases y : p = n
            · rw [y]; exact hq2
            · exact a p (by omega) hbit
    exact loop (qf_dP D) 0 M1 (by omega) hm1 (fun p hp => absurd hp (by omega))
  · exact pj_C133_5 (by omega) (fun z => absurd rfl z) (fun _ => pj_C133_8 (h M1 0 hm1 (Or.inl ⟨rfl, hq⟩)))
end QFQU
