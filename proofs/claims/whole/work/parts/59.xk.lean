/-! THE CLASS: what a search tells of a story, of sound parts, of values. -/
section QFXK
variable {L d : Nat} {Q : Option pj_V → pj_M → Prop} {D : qf_D} {N : Nat → Nat → Bool}
/-- what a search leaves -/
def qf_frT (M M' : pj_M) : Prop := qf_fr [29, 30, 31, 32, 33, 34, 35] M M' ∧ M' 31 7 = 0
theorem qf_pp.keep {M M' : pj_M} (h : qf_pp D N M) (h27 : M' 27 = M 27) (h12 : M' 26 12 = M 26 12) (h10 : M' 26 10 = M 26 10) (hin : qf_inX D M') : qf_pp D N M' := by
  obtain ⟨a1, a2, a3, a4, a5, -⟩ := h
  exact ⟨by rw [h27]; exact a1, a2, by rw [h12]; exact a3, by rw [h12]; exact a4, by rw [h10]; exact a5, hin⟩
/-- a search without gathering: is there a run -/
theorem qf_searchX0 (hD : qf_okD D) (hE : qf_okE D) {M : pj_M} (hX : qf_X D M) (hp : qf_pp D N M) (h7 : M 31 7 = 0) (h6 : M 26 6 = 27) (h11 : M 26 11 = 0) {tc : Nat → Bool} (htcb : ∀ p, p < qf_dP D → pj_bt (M 26 9) p = tc p) (htc : ∀ p, p < qf_dP D → tc p = true → qf_wy D p ≠ 0) {ro : Nat → Nat} (hr : qf_rX D ro M)
    (h1 : (∃ r, qf_Ch D tc 0 ro r ∧ ∃ v, qf_run D r v) → ∀ M', qf_frT M M' → qf_inX D M' → Q (some (pj_vI 1)) M')
    (h0 : (¬ ∃ r, qf_Ch D tc 0 ro r ∧ ∃ v, qf_run D r v) → ∀ M', qf_frT M M' → qf_inX D M' → Q (some (pj_vI 0)) M') : pj_G L (d + 20) 37 0 [pj_vR 26, pj_vI 0, pj_vU, pj_vU, pj_vU] [] M Q := by
  have hb := hD.b
  obtain ⟨p1, p2, p3, p4, p5, p6⟩ := hp
  have hnd : qf_nd D N M := ⟨27, Or.inl rfl, h6, p1⟩
  rcases p3 with z | z
  · -- looks at inputs that don't fit
    have hno : ¬ ∃ r, qf_Ch D tc 0 ro r ∧ ∃ v, qf_run D r v := by
      rintro ⟨r, -, v, hv⟩
      have := p4.mpr (qf_run_infit hD hv)
      omega
    have hP := hX.P
    refine pj_C37_0 ?_
    have loop : ∀ (q n : Nat), n + q = qf_dP D → pj_G L (d + 20) 37 2 [pj_vR 26, pj_vU, pj_vI (n : Int), pj_vU, pj_vU] [] M Q := by
      intro q
      have fin : ∀ x : Int, pj_G L (d + 20) 37 38 [pj_vR 26, pj_vU, pj_vI x, pj_vU, pj_vU] [] M Q := fun x => pj_C37_38 (by omega) (fun _ => pj_C37_53 (h0 hno M ⟨qf_fr.refl, h7⟩ p6)) (fun y => absurd z y)
      induction q with
      | zero =>
        intro n en
        exact pj_C37_2 (by omega) (by omega) (fun _ => fin _) (fun c => by omega)
      | succ q ih =>
        intro n en
        have hp' := hD.or n (by omega)
        refine pj_C37_2 (by omega) (by omega) (fun c => by omega) (fun _ => ?_)
        exact pj_C37_13 n (qf_or0 D n) rfl (by omega) (hX.or n (by omega)) (by omega) (fun _ => fin _) (fun _ => pj_C37_32 (ih (n + 1) (by omega)))
    exact loop (qf_dP D) 0 (by omega)
  · have hfit := p4.mp z
    have hsx : qf_sx D N tc M := ⟨hX, hnd, p6, h7, z, htcb⟩
    have hrun : ∀ r, (∃ v, qf_prun D r N (qf_dP D) v) → ∃ v, qf_run D r v := by
      rintro r ⟨v, hv⟩
      exact qf_prun_run hD hfit p2 hv
    have key := qf_searchX (L := L) (one := True) (J := fun S M' => M' 26 11 = 0 ∧ ∀ r, S r → ¬ ∃ v, qf_prun D r N (qf_dP D) v) hD hE p2 htc ?_ ?_ ?_ ?_ (qf_dP D) 0 (d + 7 - qf_dP D) M ro (fun _ => False) Q (by omega) ⟨h11, fun _ z => absurd z id⟩ hsx hr (fun M' x hx hf hJ hy ho => ?_)
    · rw [show d + 7 - qf_dP D + qf_dP D + 13 = d + 20 by omega] at key
      exact pj_C37_0 key
    · rintro S Ma Mb ⟨j0, j1⟩ hm
      exact ⟨by rw [hm 26 (by decide)]; exact j0, j1⟩
    · rintro S S' Ma hss ⟨j0, j1⟩
      exact ⟨j0, fun r hr' => j1 r ((hss r).mpr hr')⟩
    · rintro S X' Ma ⟨j0, j1⟩ hx
      exact ⟨j0, fun r hr' => hr'.elim (j1 r) (hx r)⟩
    · rintro S Ma ro' d' Q' ⟨j0, j1⟩ hsx' hr' hex hbg hfo hq'
      refine pj_C37_66 (by omega) (fun _ => pj_C37_77 (by omega) (fun y => absurd j0 y) (fun _ => pj_C37_84 (pj_C37_89 (Or.inr rfl) (hq' Ma 1 (Or.inr rfl) qf_fr.refl qf_fs.refl hsx'.2.2.2.1 hsx'.2.2.1 (fun y => absurd y (by decide)) (fun _ => trivial))))) (fun y => absurd j0 y)
    · obtain ⟨f1, f2, f3, f4, -⟩ := hf
      rcases hx with rfl | rfl
      · refine h0 ?_ M' ⟨f1, f3⟩ f4
        rintro ⟨r, hr1, v, hv⟩
        exact (hJ rfl).2 r (Or.inr hr1) ⟨v, qf_run_prun hD (Nat.le_refl _) hv⟩
      · obtain ⟨r, hr1, hr2⟩ := hy rfl
        exact h1 ⟨r, hr1, hrun r hr2⟩ M' ⟨f1, f3⟩ f4
/-- does a story agree -/
theorem qf_searchAgr (hD : qf_okD D) (hE : qf_okE D) {M : pj_M} (hX : qf_X D M) (hp : qf_pp D N M) (h7 : M 31 7 = 0) (h6 : M 26 6 = 27) (h11 : M 26 11 = 0) {set cn : Nat} (hcn : ∀ p, p < qf_dP D → ∀ t, t < qf_dT D → N t (qf_wo D p) = true → cn.testBit p = true) (hnm : ∀ p, p < qf_dP D → set.testBit p = true → qf_kd D p ≠ 4) (hts : qf_ts D (set &&& cn) M)
    (h1 : qf_agr D set → ∀ M', qf_frT M M' → qf_inX D M' → Q (some (pj_vI 1)) M')
    (h0 : ¬ qf_agr D set → ∀ M', qf_frT M M' → qf_inX D M' → Q (some (pj_vI 0)) M') : pj_G L (d + 20) 37 0 [pj_vR 26, pj_vI 0, pj_vU, pj_vU, pj_vU] [] M Q := by
  have hr : qf_rX D (qf_ro0 D (set &&& cn)) M := by
    refine ⟨hts.1, fun p hp' => ?_, fun p hp' h16 => ?_⟩
    · unfold qf_ro0
      split
      · split <;> omega
      · omega
    · unfold qf_ro0 at h16
      cases hb : (set &&& cn).testBit p with
      | true =>
        rw [Nat.testBit_and, Bool.and_eq_true] at hb
        exact hnm p hp' hb.1
      | false => rw [hb, if_neg (by decide)] at h16; omega
  have hiff : (∃ r, qf_Ch D (fun p => decide ((set &&& cn).testBit p = true ∧ qf_wy D p ≠ 0)) 0 (qf_ro0 D (set &&& cn)) r ∧ ∃ v, qf_run D r v) ↔ qf_agr D set := by
    rw [qf_agr_cn hD hp.2.1 hcn set]
    constructor
    · rintro ⟨r, a, b⟩
      exact ⟨r, (qf_Ch_rs hD (fun p _ => rfl) r).mp a, b⟩
    · rintro ⟨r, a, b⟩
      exact ⟨r, (qf_Ch_rs hD (fun p _ => rfl) r).mpr a, b⟩
  exact qf_searchX0 hD hE hX hp h7 h6 h11 (tc := fun p => decide ((set &&& cn).testBit p = true ∧ qf_wy D p ≠ 0)) hts.2 (fun p _ z => (of_decide_eq_true z).2) hr (fun z => h1 (hiff.mp z)) (fun z => h0 (fun y => z (hiff.mpr y)))
/-- can the looks be -/
theorem qf_searchCB (hD : qf_okD D) (hE : qf_okE D) {M : pj_M} (hX : qf_X D M) (hp : qf_pp D N M) (h7 : M 31 7 = 0) (h6 : M 26 6 = 27) (h11 : M 26 11 = 0) (h9 : M 26 9 = 0) {set : Nat} (hro : ∀ p, p < qf_dP D → M 32 p = (qf_roS D set p : Int))
    (h1 : qf_CB D set → ∀ M', qf_frT M M' → qf_inX D M' → Q (some (pj_vI 1)) M')
    (h0 : ¬ qf_CB D set → ∀ M', qf_frT M M' → qf_inX D M' → Q (some (pj_vI 0)) M') : pj_G L (d + 20) 37 0 [pj_vR 26, pj_vI 0, pj_vU, pj_vU, pj_vU] [] M Q := by
  have hr : qf_rX D (qf_roS D set) M := by
    refine ⟨hro, fun p _ => ?_, fun p _ h16 h4 => ?_⟩
    · unfold qf_roS
      split <;> omega
    · unfold qf_roS at h16
      rw [if_pos (Or.inl h4)] at h16
      omega
  have hiff : (∃ r, qf_Ch D (fun _ => false) 0 (qf_roS D set) r ∧ ∃ v, qf_run D r v) ↔ qf_CB D set := by
    constructor
    · rintro ⟨r, a, v, hv⟩
      refine ⟨v, qf_run_congr hD (fun p hp' => ?_) hv⟩
      obtain ⟨i, hi1, hi2⟩ := hD.oe p hp'
      have := (a i hi1).2 (fun z => Bool.false_ne_true z.2)
      rw [hi2] at this
      exact this
    · rintro ⟨v, hv⟩
      exact ⟨_, fun i hi => ⟨fun z => absurd z.2 Bool.false_ne_true, fun _ => rfl⟩, v, hv⟩
  refine qf_searchX0 hD hE hX hp h7 h6 h11 (tc := fun _ => false) (fun p _ => by rw [h9, pj_bt_0]) (fun p _ z => absurd z (by decide)) hr (fun z => h1 (hiff.mp z)) (fun z => h0 (fun y => z (hiff.mpr y)))
/-- the values of a story -/
theorem qf_searchVal (hD : qf_okD D) (hE : qf_okE D) {M : pj_M} (hX : qf_X D M) (hin : qf_inX D M) (h28 : ∀ t, t < 3 → M 28 t = -1) (h7 : M 31 7 = 0) (h6 : M 26 6 = 28) (h11 : M 26 11 = 1) (h12 : M 26 12 = 1) (hfit : qf_infit D) {set : Nat} (hnm : ∀ p, p < qf_dP D → set.testBit p = true → qf_kd D p ≠ 4) (hts : qf_ts D set M) (hz : ∀ l, l < 42 → M 35 l = 0)
    (h : ∀ M' x, (x = 0 ∨ x = 1) → qf_frT M M' → qf_inX D M' → (∀ k, k < 42 → M' 35 k = (qf_vm D set k : Int)) → Q (some (pj_vI x)) M') : pj_G L (d + 20) 37 0 [pj_vR 26, pj_vI 0, pj_vU, pj_vU, pj_vU] [] M Q := by
  have hb := hD.b
  have hr : qf_rX D (qf_ro0 D set) M := by
    refine ⟨hts.1, fun p hp' => ?_, fun p hp' h16 => ?_⟩
    · unfold qf_ro0
      split
      · split <;> omega
      · omega
    · unfold qf_ro0 at h16
      cases hb' : set.testBit p with
      | true => exact hnm p hp' hb'
      | false => rw [hb', if_neg (by decide)] at h16; omega
  have hnd : qf_nd D qf_all0 M := ⟨28, Or.inr rfl, h6, fun t ht => by rw [h28 t (by omega)]; exact ⟨by omega, fun w hw => pj_bt_m1 (by omega)⟩⟩
  have hsx : qf_sx D qf_all0 (fun p => decide (set.testBit p = true ∧ qf_wy D p ≠ 0)) M := ⟨hX, hnd, hin, h7, h12, hts.2⟩
  have key := qf_searchX (L := L) (one := False) (J := fun S M' => M' 26 11 = 1 ∧ ∃ m1 : Nat → Nat, qf_fnd M' 35 m1 ∧ (∀ t w, t < qf_dT D → w < qf_dW D → ∀ j, ((m1 (14 * t + w)).testBit j = true ↔ ∃ r, S r ∧ ∃ v, qf_prun D r qf_all0 (qf_dP D) v ∧ v t w = j)) ∧ ∀ l, l < 42 → (∀ t w, t < qf_dT D → w < qf_dW D → l ≠ 14 * t + w) → m1 l = 0) hD hE qf_clo_all (tc := fun p => decide (set.testBit p = true ∧ qf_wy D p ≠ 0)) (fun p _ z => (of_decide_eq_true z).2) ?_ ?_ ?_ ?_ (qf_dP D) 0 (d + 7 - qf_dP D) M (qf_ro0 D set) (fun _ => False) Q (by omega) ⟨h11, fun _ => 0, fun l hl => ⟨hz l hl, show 0 < 8 by omega⟩, fun t w _ _ j => ?_, fun _ _ _ => rfl⟩ hsx hr (fun M' x hx hf hJ hy ho => ?_)
  · rw [show d + 7 - qf_dP D + qf_dP D + 13 = d + 20 by omega] at key
    exact pj_C37_0 key
  · rintro S Ma Mb ⟨j0, m1, j1, j2, j3⟩ hm
    exact ⟨by rw [hm 26 (by decide)]; exact j0, m1, fun l hl => by rw [hm 35 (by decide)]; exact j1 l hl, j2, j3⟩
  · rintro S S' Ma hss ⟨j0, m1, j1, j2, j3⟩
    refine ⟨j0, m1, j1, fun t w ht hw j => ?_, j3⟩
    rw [j2 t w ht hw j]
    constructor
    · rintro ⟨r, y1, y2⟩
      exact ⟨r, (hss r).mp y1, y2⟩
    · rintro ⟨r, y1, y2⟩
      exact ⟨r, (hss r).mpr y1, y2⟩
  · rintro S X' Ma ⟨j0, m1, j1, j2, j3⟩ hx
    refine ⟨j0, m1, j1, fun t w ht hw j => ?_, j3⟩
    rw [j2 t w ht hw j]
    constructor
    · rintro ⟨r, y1, y2⟩
      exact ⟨r, Or.inl y1, y2⟩
    · rintro ⟨r, y1 | y1, v, y2, y3⟩
      · exact ⟨r, y1, v, y2, y3⟩
      · exact absurd ⟨v, y2⟩ (hx r y1)
  · rintro S Ma ro' d' Q' ⟨j0, m1, j1, j2, j3⟩ hsx' hr' hex hbg hfo hq'
    refine pj_C37_66 (by omega) (fun y => by omega) (fun _ => pj_C37_73 ?_)
    refine qf_gatherX hD hE hr'.2.1 hr'.2.2 (hsx'.tr hr') hbg hfo j1 (fun Mb m2 hH hinb hfn hput => ?_)
    have e26 : Mb 26 = Ma 26 := hH.1 26 (by decide)
    refine pj_C37_77 (by rw [e26]; omega) (fun _ => pj_C37_88 (pj_C37_89 (Or.inl rfl) (hq' Mb 0 (Or.inl rfl) hH.1 hH.2.1 hH.2.2 hinb (fun _ => ⟨by rw [e26]; exact j0, m2, hfn, fun t w ht hw j => ?_, fun l hl h2 => ?_⟩) (fun y => absurd y (by decide))))) (fun y => by rw [e26] at y; omega)
    · rw [hput.1 t w ht hw j, j2 t w ht hw j]
      constructor
      · rintro (⟨r, y1, y2⟩ | ⟨v, y1, y2⟩)
        · exact ⟨r, Or.inl y1, y2⟩
        · exact ⟨ro', Or.inr (fun _ _ => rfl), v, y1, y2⟩
      · rintro ⟨r, y1 | y1, v, y2, y3⟩
        · exact Or.inl ⟨r, y1, v, y2, y3⟩
        · exact Or.inr ⟨v, qf_prun_or hD (Nat.le_refl _) y1 y2, y3⟩
    · rw [hput.2 l hl h2]
      exact j3 l hl h2
  · rw [Nat.zero_testBit]
    constructor
    · intro z
      cases z
    · rintro ⟨r, z, -⟩
      exact absurd z id
  · obtain ⟨f1, f2, f3, f4, -⟩ := hf
    by_cases hx0 : x = 0
    · obtain ⟨-, m1, j1, j2, j3⟩ := hJ hx0
      refine h M' x hx ⟨f1, f3⟩ f4 (fun k hk => ?_)
      rw [(j1 k hk).1]
      have e1 : m1 k = qf_vm D set k := by
        refine qf_nat_ext3 (j1 k hk).2 qf_vm_lt (fun j hj => ?_)
        have h3 : (m1 k).testBit j = true ↔ (qf_vm D set k).testBit j = true := by
          rw [qf_vm_bit]
          by_cases hin' : k % 14 < qf_dW D ∧ k / 14 < qf_dT D
          · have ek : 14 * (k / 14) + k % 14 = k := by omega
            have h1 := j2 (k / 14) (k % 14) hin'.2 hin'.1 j
            rw [ek] at h1
            rw [h1]
            constructor
            · rintro ⟨r, y1, v, y2, y3⟩
              exact ⟨hj, hin'.1, hin'.2, r, (qf_Ch_rs hD (fun p _ => rfl) r).mp (y1.resolve_left id), v, qf_prun_all hD hfit y2, y3⟩
            · rintro ⟨-, -, -, r, y1, v, y2, y3⟩
              exact ⟨r, Or.inr ((qf_Ch_rs hD (fun p _ => rfl) r).mpr y1), v, qf_run_prun hD (Nat.le_refl _) y2, y3⟩
          · rw [j3 k hk (fun t w h1 h2 h3 => hin' (by omega)), Nat.zero_testBit]
            constructor
            · intro z
              cases z
            · intro z
              exact absurd ⟨z.2.1, z.2.2.1⟩ hin'
        cases q1 : (m1 k).testBit j <;> cases q2 : (qf_vm D set k).testBit j <;> simp_all
      rw [e1]
    · exact absurd (ho (by omega)) id
end QFXK
