/-! THE CLASS: takeStory, takeSound; what a search tells. -/
section QFXJ
variable {L d : Nat} {Q : Option pj_V → pj_M → Prop} {D : qf_D} {M : pj_M} {N : Nat → Nat → Bool}
theorem qf_hasWaysX (hD : qf_okD D) (hX : qf_X D M) {p : Nat} (hp : p < qf_dP D) (h1 : qf_wy D p ≠ 0 → Q (some (pj_vI 1)) M) (h0 : qf_wy D p = 0 → Q (some (pj_vI 0)) M) : pj_G L d 27 0 [pj_vR 7, pj_vI (p : Int)] [] M Q := by
  have hb := hD.b
  have hpt := hD.pt p hp
  have ek := hX.kd p hp
  have hw := hpt.2.2.2.2.2.2.2.1
  refine pj_C27_0 p rfl (by omega) (by omega) (fun z => pj_C27_20 (pj_C27_25 (Or.inr rfl) (h1 (hw.mpr (by omega))))) (fun z => ?_)
  refine pj_C27_10 p rfl (by omega) (by omega) (fun z2 => pj_C27_24 (pj_C27_25 (Or.inl rfl) (h0 ?_))) (fun z2 => pj_C27_20 (pj_C27_25 (Or.inr rfl) (h1 (hw.mpr (by omega)))))
  by_cases y : qf_wy D p = 0
  · exact y
  · have := hw.mp y
    omega
/-- the roles with which a story is begun -/
def qf_ro0 (D : qf_D) (ch p : Nat) : Nat := if ch.testBit p then (if qf_wy D p = 0 then 16 else 0) else 0
/-- a story has been taken -/
def qf_ts (D : qf_D) (ch : Nat) (M : pj_M) : Prop := (∀ p, p < qf_dP D → M 32 p = (qf_ro0 D ch p : Int)) ∧ ∀ p, p < qf_dP D → pj_bt (M 26 9) p = decide (ch.testBit p = true ∧ qf_wy D p ≠ 0)
theorem qf_takeStoryX_in (hD : qf_okD D) {M0 : pj_M} (hX : qf_X D M0) {ch : Nat} (hch : ch < 128) (h : ∀ M', qf_fr [26, 32] M0 M' → qf_fs 26 [9] M0 M' → qf_ts D ch M' → Q none M') : ∀ (q n : Nat) (M1 : pj_M), n + q = qf_dP D → qf_fr [26, 32] M0 M1 → qf_fs 26 [9] M0 M1 → (∀ p, p < n → M1 32 p = (qf_ro0 D ch p : Int)) → (∀ p, p < 32 → pj_bt (M1 26 9) p = decide (p < n ∧ ch.testBit p = true ∧ qf_wy D p ≠ 0)) → pj_G L (d + 1) 35 47 [pj_vR 26, pj_vU, pj_vU, pj_vI (ch : Int), pj_vI (n : Int)] [] M1 Q := by
  intro q
  have hb := hD.b
  induction q with
  | zero =>
    intro n M1 en hm hs a1 a2
    have hP := (hX.keep (qf_kX.of hm (by decide)) : qf_X D M1).P
    refine pj_C35_47 (by omega) (by omega) (fun _ => pj_C35_125 (h M1 hm hs ⟨fun p hp => a1 p (by omega), fun p hp => ?_⟩)) (fun c => by omega)
    rw [a2 p (by omega)]
    exact decide_eq_decide.mpr ⟨fun z => z.2, fun z => ⟨by omega, z⟩⟩
  | succ q ih =>
    intro n M1 en hm hs a1 a2
    have hX1 : qf_X D M1 := hX.keep (qf_kX.of hm (by decide))
    have hP := hX1.P
    -- on with the next part
    have next : ∀ (M2 : pj_M), qf_fr [26, 32] M0 M2 → qf_fs 26 [9] M0 M2 → (∀ p, p < n → M2 32 p = M1 32 p) → M2 32 n = (qf_ro0 D ch n : Int) → (∀ p, p < 32 → pj_bt (M2 26 9) p = (pj_bt (M1 26 9) p || decide (p = n ∧ ch.testBit n = true ∧ qf_wy D n ≠ 0))) → pj_G L (d + 1) 35 119 [pj_vR 26, pj_vU, pj_vU, pj_vI (ch : Int), pj_vI (n : Int)] [] M2 Q := by
      intro M2 g1 g2 g3 g4 g5
      refine pj_C35_119 (ih (n + 1) M2 (by omega) g1 g2 (fun p hp => ?_) (fun p hp => ?_))
      · by_cases z : p = n
        · rw [z]; exact g4
        · rw [g3 p (by omega)]
          exact a1 p (by omega)
      · rw [g5 p hp, a2 p hp]
        by_cases z : p = n
        · subst z
          rw [decide_eq_false (show ¬ (p < p ∧ ch.testBit p = true ∧ qf_wy D p ≠ 0) from fun y => absurd y.1 (by omega)), Bool.false_or]
          exact decide_eq_decide.mpr ⟨fun y => ⟨by omega, y.2⟩, fun y => ⟨rfl, y.2⟩⟩
        · rw [decide_eq_false (show ¬ (p = n ∧ ch.testBit n = true ∧ qf_wy D n ≠ 0) from fun y => z y.1), Bool.or_false]
          exact decide_eq_decide.mpr ⟨fun y => ⟨by omega, y.2⟩, fun y => ⟨by omega, y.2⟩⟩
    have e26 : (pj_up M1 32 n 0) 26 = M1 26 := by funext k; exact pj_up_else (by decide)
    have hm0 : qf_fr [26, 32] M0 (pj_up M1 32 n 0) := hm.up (by decide)
    refine pj_C35_47 (by omega) (by omega) (fun c => by omega) (fun _ => pj_C35_59 n rfl (by omega) (fun z => ?_) (fun z => pj_C35_79 ?_))
    · rw [pj_bt_nat n (by omega)] at z
      refine next _ hm0 (hs.else (by decide)) (fun p hp => pj_up_slot (by omega)) ?_ (fun p hp => ?_)
      · rw [pj_up_same]
        unfold qf_ro0
        rw [z, if_neg (by decide)]
        rfl
      · rw [e26, decide_eq_false (show ¬ (p = n ∧ ch.testBit n = true ∧ qf_wy D n ≠ 0) from fun y => by rw [z] at y; exact absurd y.2.1 (by decide)), Bool.or_false]
    · rw [pj_bt_nat n (by omega)] at z
      refine qf_hasWaysX hD (hX.keep (qf_kX.of hm0 (by decide))) (by omega) (fun hw => ?_) (fun hw => ?_)
      · refine pj_C35_88 (by omega) (fun y => absurd y (by decide)) (fun _ => pj_C35_91 (next _ (hm0.up (by decide)) ((hs.else (by decide)).up (by decide)) (fun p hp => ?_) ?_ (fun p hp => ?_)))
        · rw [pj_up_else (by decide), pj_up_slot (by omega)]
        · rw [pj_up_else (by decide), pj_up_same]
          unfold qf_ro0
          rw [if_pos z, if_neg hw]
          rfl
        · rw [pj_up_same, qf_bt_or1 _ (by omega) hp, e26]
          congr 1
          exact decide_eq_decide.mpr ⟨fun y => ⟨y, z, hw⟩, fun y => y.1⟩
      · refine pj_C35_88 (by omega) (fun _ => pj_C35_107 n rfl (by omega) (next _ (hm0.up (by decide)) ((hs.else (by decide)).else (by decide)) (fun p hp => ?_) ?_ (fun p hp => ?_))) (fun y => absurd rfl y)
        · rw [pj_up_slot (by omega), pj_up_slot (by omega)]
        · rw [pj_up_same]
          unfold qf_ro0
          rw [if_pos z, if_pos hw]
          rfl
        · rw [pj_up_else (by decide), e26, decide_eq_false (show ¬ (p = n ∧ ch.testBit n = true ∧ qf_wy D n ≠ 0) from fun y => y.2.2 hw), Bool.or_false]
theorem qf_takeStoryX0 (hD : qf_okD D) {M0 : pj_M} (hX : qf_X D M0) {set cn : Nat} (hset : set < 128) (hcn : cn < 128) (e10 : M0 26 10 = (cn : Int)) (h : ∀ M', qf_fr [26, 32] M0 M' → qf_fs 26 [6, 9, 11] M0 M' → M' 26 6 = 27 → M' 26 11 = 0 → qf_ts D (set &&& cn) M' → Q none M') : pj_G L (d + 1) 35 0 [pj_vR 26, pj_vI (set : Int), pj_vI 0, pj_vU, pj_vU] [] M0 Q := by
  have hlt : set &&& cn < 128 := Nat.lt_of_le_of_lt Nat.and_le_left hset
  refine pj_C35_0 (Or.inl rfl) (by omega) (fun _ => pj_C35_17 (pj_C35_21v1 (by omega) (fun _ => pj_C35_32 (pj_C35_38 ?_)) (fun z => absurd rfl z))) (fun z => absurd rfl z)
  have ec : pj_and (set : Int) ((pj_up (pj_up M0 26 11 0) 26 6 27) 26 10) = ((set &&& cn : Nat) : Int) := by
    rw [pj_up_slot (by decide), pj_up_slot (by decide), e10, qf_and_nat (by omega) (by omega)]
  rw [ec]
  have hm : qf_fr [26, 32] M0 (pj_up (pj_up (pj_up M0 26 11 0) 26 6 27) 26 9 0) := ((qf_fr.refl.up (by decide)).up (by decide)).up (by decide)
  refine qf_takeStoryX_in (M0 := pj_up (pj_up (pj_up M0 26 11 0) 26 6 27) 26 9 0) hD (hX.keep (qf_kX.of hm (by decide))) hlt (fun M' hm' hs' hts => h M' (hm.trans hm' (fun _ z => z)) (fun k hk => ?_) ?_ ?_ hts) (qf_dP D) 0 _ (by omega) qf_fr.refl qf_fs.refl (fun p hp => absurd hp (by omega)) (fun p hp => ?_)
  · simp only [List.mem_cons, List.not_mem_nil, or_false, not_or] at hk
    rw [hs' k (by simp only [List.mem_cons, List.not_mem_nil, or_false]; omega), pj_up_slot (by omega), pj_up_slot (by omega), pj_up_slot (by omega)]
  · rw [hs' 6 (by decide), pj_up_slot (by decide), pj_up_same]
  · rw [hs' 11 (by decide), pj_up_slot (by decide), pj_up_slot (by decide), pj_up_same]
  · rw [pj_up_same, pj_bt_0]
    exact (decide_eq_false (fun z => absurd z.1 (by omega))).symm
theorem qf_takeStoryX1 (hD : qf_okD D) {M0 : pj_M} (hX : qf_X D M0) {set : Nat} (hset : set < 128) (h : ∀ M', qf_fr [26, 32] M0 M' → qf_fs 26 [6, 9, 11] M0 M' → M' 26 6 = 28 → M' 26 11 = 1 → qf_ts D set M' → Q none M') : pj_G L (d + 1) 35 0 [pj_vR 26, pj_vI (set : Int), pj_vI 1, pj_vU, pj_vU] [] M0 Q := by
  refine pj_C35_0 (Or.inr rfl) (by omega) (fun z => absurd z (by decide)) (fun _ => pj_C35_10 (pj_C35_21 (by omega) (fun z => absurd z (by decide)) (fun _ => pj_C35_28 (pj_C35_38 ?_))))
  have hm : qf_fr [26, 32] M0 (pj_up (pj_up (pj_up M0 26 11 1) 26 6 28) 26 9 0) := ((qf_fr.refl.up (by decide)).up (by decide)).up (by decide)
  refine qf_takeStoryX_in (M0 := pj_up (pj_up (pj_up M0 26 11 1) 26 6 28) 26 9 0) hD (hX.keep (qf_kX.of hm (by decide))) hset (fun M' hm' hs' hts => h M' (hm.trans hm' (fun _ z => z)) (fun k hk => ?_) ?_ ?_ hts) (qf_dP D) 0 _ (by omega) qf_fr.refl qf_fs.refl (fun p hp => absurd hp (by omega)) (fun p hp => ?_)
  · simp only [List.mem_cons, List.not_mem_nil, or_false, not_or] at hk
    rw [hs' k (by simp only [List.mem_cons, List.not_mem_nil, or_false]; omega), pj_up_slot (by omega), pj_up_slot (by omega), pj_up_slot (by omega)]
  · rw [hs' 6 (by decide), pj_up_slot (by decide), pj_up_same]
  · rw [hs' 11 (by decide), pj_up_slot (by decide), pj_up_slot (by decide), pj_up_same]
  · rw [pj_up_same, pj_bt_0]
    exact (decide_eq_false (fun z => absurd z.1 (by omega))).symm
/-- the roles of a set taken as sound -/
def qf_roS (D : qf_D) (set p : Nat) : Nat := if qf_kd D p = 4 ∨ set.testBit p = true then 0 else 16
/-- can the looks be, if a set is sound -/
def qf_CB (D : qf_D) (set : Nat) : Prop := ∃ v, qf_run D (qf_roS D set) v
theorem qf_takeSoundX (hD : qf_okD D) {M0 : pj_M} (hX : qf_X D M0) {set : Nat} (hset : set < 128) (h : ∀ M', qf_fr [26, 32] M0 M' → qf_fs 26 [6, 9, 11] M0 M' → M' 26 6 = 27 → M' 26 11 = 0 → M' 26 9 = 0 → (∀ p, p < qf_dP D → M' 32 p = (qf_roS D set p : Int)) → Q none M') : pj_G L d 36 0 [pj_vR 26, pj_vI (set : Int), pj_vU] [] M0 Q := by
  have hb := hD.b
  have hm : qf_fr [26, 32] M0 (pj_up (pj_up (pj_up M0 26 11 0) 26 6 27) 26 9 0) := ((qf_fr.refl.up (by decide)).up (by decide)).up (by decide)
  have hs : qf_fs 26 [6, 9, 11] M0 (pj_up (pj_up (pj_up M0 26 11 0) 26 6 27) 26 9 0) := ((qf_fs.refl.up (by decide)).up (by decide)).up (by decide)
  have hX0 := (hX.keep (qf_kX.of hm (by decide)) : qf_X D (pj_up (pj_up (pj_up M0 26 11 0) 26 6 27) 26 9 0))
  have loop : ∀ (q n : Nat) (M1 : pj_M), n + q = qf_dP D → qf_fr [32] (pj_up (pj_up (pj_up M0 26 11 0) 26 6 27) 26 9 0) M1 → (∀ p, p < n → M1 32 p = (qf_roS D set p : Int)) → pj_G L d 36 20 [pj_vR 26, pj_vI (set : Int), pj_vI (n : Int)] [] M1 Q := by
    intro q
    induction q with
    | zero =>
      intro n M1 en hm1 a1
      have hP := (hX0.keep (qf_kX.of hm1 (by decide)) : qf_X D M1).P
      have e26 := hm1 26 (by decide)
      refine pj_C36_20 (by omega) (by omega) (fun _ => pj_C36_68 (h M1 (hm.trans hm1 (by decide)) (fun k hk => by rw [e26]; exact hs k hk) ?_ ?_ ?_ (fun p hp => a1 p (by omega)))) (fun c => by omega)
      · rw [e26, pj_up_slot (by decide), pj_up_same]
      · rw [e26, pj_up_slot (by decide), pj_up_slot (by decide), pj_up_same]
      · rw [e26, pj_up_same]
    | succ q ih =>
      intro n M1 en hm1 a1
      have hX1 := (hX0.keep (qf_kX.of hm1 (by decide)) : qf_X D M1)
      have hP := hX1.P
      obtain ⟨m, m1, m2, m3⟩ := hX1.mt
      have hbit : pj_bt (pj_or (set : Int) (M1 7 13)) n = (set.testBit n || decide (qf_kd D n = 4)) := by
        rw [m1, pj_bt_or, pj_bt_nat n (by omega), pj_bt_nat n (by omega), m3 n]
        congr 1
        exact decide_eq_decide.mpr ⟨fun z => z.2, fun z => ⟨by omega, z⟩⟩
      have next : ∀ x : Int, x = (qf_roS D set n : Int) → pj_G L d 36 61 [pj_vR 26, pj_vI (set : Int), pj_vI (n : Int)] [pj_vI x, pj_vI (n : Int), pj_vR 32] M1 Q := by
        intro x hx
        refine pj_C36_61 n rfl (by omega) (ih (n + 1) _ (by omega) (hm1.up (by decide)) (fun p hp => ?_))
        by_cases z : p = n
        · rw [z, pj_up_same, hx]
        · rw [pj_up_slot z]
          exact a1 p (by omega)
      refine pj_C36_20 (by omega) (by omega) (fun c => by omega) (fun _ => pj_C36_31 n rfl (by omega) (fun z => pj_C36_59 (next 16 ?_)) (fun z => pj_C36_55 (next 0 ?_)))
      · rw [hbit, Bool.or_eq_false_iff] at z
        unfold qf_roS
        rw [if_neg (fun y => ?_)]
        · rfl
        · rcases y with y | y
          · exact absurd y (of_decide_eq_false z.2)
          · rw [z.1] at y; cases y
      · rw [hbit, Bool.or_eq_true, decide_eq_true_iff] at z
        unfold qf_roS
        rw [if_pos z.symm]
        rfl
  exact pj_C36_0 (loop (qf_dP D) 0 _ (by omega) qf_fr.refl (fun p hp => absurd hp (by omega)))
/-- what a story asks for only of the parts on which looks depend -/
theorem qf_agr_cn (hD : qf_okD D) {cn : Nat} (hc : qf_clo D N) (hcn : ∀ p, p < qf_dP D → ∀ t, t < qf_dT D → N t (qf_wo D p) = true → cn.testBit p = true) (s : Nat) : qf_agr D s ↔ qf_agr D (s &&& cn) := by
  have move : ∀ (ro ro' : Nat → Nat), (∀ p, p < qf_dP D → cn.testBit p = true → ro p = ro' p) → (∃ v, qf_run D ro v) → ∃ v, qf_run D ro' v := by
    rintro ro ro' h ⟨v, hv⟩
    have h1 := qf_run_prun (N := N) hD (Nat.le_refl _) hv
    have h2 : qf_prun D ro' N (qf_dP D) v := qf_prun_ro (fun i hi t ht hn => h _ (hD.or i hi) (hcn _ (hD.or i hi) t ht hn)) h1
    exact qf_prun_run hD (qf_run_infit hD hv) hc h2
  have tb : ∀ p, (s &&& cn).testBit p = (s.testBit p && cn.testBit p) := fun p => Nat.testBit_and ..
  constructor
  · rintro ⟨ro, h1, h2⟩
    refine ⟨fun p => if cn.testBit p then ro p else 0, fun p hp => ?_, move ro _ (fun p hp hb => by rw [if_pos hb]) h2⟩
    dsimp only
    cases hb : cn.testBit p with
    | true =>
      have := h1 p hp
      rw [tb p, hb, Bool.and_true, if_pos rfl]
      exact this
    | false =>
      rw [tb p, hb, Bool.and_false, if_neg (by decide)]
      exact ⟨fun z => absurd z (by decide), fun _ => rfl⟩
  · rintro ⟨ro, h1, h2⟩
    refine ⟨fun p => if cn.testBit p then ro p else if s.testBit p then (if qf_wy D p = 0 then 16 else 2 ^ qf_upw (qf_wy D p) 0) else 0, fun p hp => ?_, move ro _ (fun p hp hb => by rw [if_pos hb]) h2⟩
    dsimp only
    cases hb : cn.testBit p with
    | true =>
      have := h1 p hp
      rw [tb p, hb, Bool.and_true] at this
      rw [if_pos rfl]
      exact this
    | false =>
      rw [if_neg (by decide)]
      refine ⟨fun z => ?_, fun z => by rw [z, if_neg (by decide)]⟩
      rw [if_pos z]
      refine ⟨fun y => by rw [if_pos y], fun y => ?_⟩
      rw [if_neg y]
      have hpt := hD.pt p hp
      have := qf_upw_0 ⟨qf_wy D p, by omega⟩ y
      exact ⟨_, this.1, this.2.1, rfl⟩
/-- and so a set of sound parts -/
theorem qf_CB_cn (hD : qf_okD D) {cn : Nat} (hc : qf_clo D N) (hcn : ∀ p, p < qf_dP D → ∀ t, t < qf_dT D → N t (qf_wo D p) = true → cn.testBit p = true) {s s' : Nat} (hs : ∀ p, p < qf_dP D → qf_kd D p ≠ 4 → cn.testBit p = true → s'.testBit p = true → s.testBit p = true) (h : qf_CB D s) : qf_CB D s' := by
  obtain ⟨v, hv⟩ := h
  have h1 := qf_run_prun (N := N) hD (Nat.le_refl _) hv
  have h2 : qf_prun D (qf_roS D s') N (qf_dP D) v := by
    intro t ht
    refine ⟨(h1 t ht).1, fun i hi hn => ⟨?_, ((h1 t ht).2 i hi hn).2⟩⟩
    have hg := ((h1 t ht).2 i hi hn).1
    have hp := hD.or i hi
    have hr := qf_rgp hD hp
    have hlt := qf_gz_lt (D := D) (by omega) (fun hk => qf_ow_lt hD t _ _ hp hk) hg
    unfold qf_gz at hg ⊢
    by_cases h16 : qf_roS D s' (qf_or0 D i) = 16
    · rw [if_pos h16]
      exact hlt
    · have hor : qf_kd D (qf_or0 D i) = 4 ∨ s'.testBit (qf_or0 D i) = true := by
        unfold qf_roS at h16
        by_cases y : qf_kd D (qf_or0 D i) = 4 ∨ s'.testBit (qf_or0 D i) = true
        · exact y
        · rw [if_neg y] at h16
          exact absurd rfl h16
      have e1 : qf_roS D s (qf_or0 D i) = 0 := by
        unfold qf_roS
        rw [if_pos]
        rcases hor with y | y
        · exact Or.inl y
        · by_cases k4 : qf_kd D (qf_or0 D i) = 4
          · exact Or.inl k4
          · exact Or.inr (hs _ hp k4 (hcn _ hp t ht hn) y)
      have e2 : qf_roS D s' (qf_or0 D i) = 0 := by
        unfold qf_roS
        rw [if_pos hor]
      rw [if_neg (by omega), e2]
      rw [if_neg (by omega), e1] at hg
      exact hg
  exact qf_prun_run hD (qf_run_infit hD hv) hc h2
/-- choices from a story's beginning are its roles -/
theorem qf_Ch_rs (hD : qf_okD D) {ch : Nat} {tc : Nat → Bool} (htc : ∀ p, p < qf_dP D → tc p = decide (ch.testBit p = true ∧ qf_wy D p ≠ 0)) (r : Nat → Nat) : qf_Ch D tc 0 (qf_ro0 D ch) r ↔ qf_rs D ch r := by
  constructor
  · intro h p hp
    obtain ⟨i, hi1, hi2⟩ := hD.oe p hp
    have := h i hi1
    rw [hi2, htc p hp, decide_eq_true_iff] at this
    refine ⟨fun z => ⟨fun y => ?_, fun y => this.1 ⟨Nat.zero_le _, z, y⟩⟩, fun z => ?_⟩
    · rw [this.2 (fun w => w.2.2 y)]
      unfold qf_ro0
      rw [if_pos z, if_pos y]
    · rw [this.2 (fun w => by rw [z] at w; exact absurd w.2.1 (by decide))]
      unfold qf_ro0
      rw [z, if_neg (by decide)]
  · intro h i hi
    have hp := hD.or i hi
    have := h _ hp
    rw [htc _ hp, decide_eq_true_iff]
    refine ⟨fun z => (this.1 z.2.1).2 z.2.2, fun z => ?_⟩
    unfold qf_ro0
    cases hb : ch.testBit (qf_or0 D i) with
    | true =>
      have hw : qf_wy D (qf_or0 D i) = 0 := by
        refine Classical.byContradiction (fun y => z ⟨Nat.zero_le _, hb, y⟩)
      rw [if_pos rfl, if_pos hw]
      exact (this.1 hb).1 hw
    | false =>
      rw [if_neg (by decide)]
      exact this.2 hb
end QFXJ
