/-! WHAT ALL WIRES SHOULD HAVE: dueAll, runSound. -/
section QFDU
variable {L d : Nat} {Q : Option pj_V → pj_M → Prop} {D : qf_D}
/-- the states, and the numbers, of the machine with all parts sound -/
def qf_dS0 (D : qf_D) : Nat → Nat
  | 0 => 0
  | t + 1 => qf_stR D t (qf_uf D (fun _ => 0) t (qf_dS0 D t) (fun _ => 0))
def qf_dU (D : qf_D) (t : Nat) : Nat → Nat := qf_uf D (fun _ => 0) t (qf_dS0 D t) (fun _ => 0)
theorem qf_fv0 {f : Nat → Nat} : qf_fv D (fun _ => 0) f := fun _ _ h => absurd (show (0 : Nat) = 16 from h) (by decide)
theorem qf_dU_lt (hD : qf_okD D) {t : Nat} (ht : t < 3) : ∀ w, w < qf_dW D → qf_dU D t w < qf_rg D w := qf_sol_rng hD ht qf_fv0 (qf_bR_lt hD t _) (Nat.le_refl _)
theorem qf_dS0_lt (hD : qf_okD D) : ∀ t, t ≤ 3 → qf_dS0 D t < 81
  | 0, _ => show 0 < 81 by omega
  | t + 1, h => qf_stR_lt hD (fun w hw => by
    have h1 := qf_dU_lt hD (show t < 3 by omega) w hw
    have h2 := hD.rg w hw
    unfold qf_dU at h1
    omega)
theorem qf_dueAllY (hD : qf_okD D) (hE : qf_okE D) {M0 : pj_M} (hY : qf_Y D M0) {k : Nat} (hk : k < 3) (h : ∀ M', qf_fr [38, 59, 60] M0 M' → qf_fs 38 [23, 24] M0 M' → qf_vY D M' (qf_dW D) (qf_dU D k) → Q none M') : pj_G L (d + 4) 115 0 [pj_vR 38, pj_vI (k : Int), pj_vU, pj_vU] [] M0 Q := by
  have hb := hD.b
  have loop : ∀ (r t : Nat) (M : pj_M), t + r = k + 1 → qf_fr [38, 59, 60] M0 M → qf_fs 38 [23, 24] M0 M → M 38 23 = 0 → M 38 24 = 0 → (0 < t → qf_vY D M (qf_dW D) (qf_dU D (t - 1))) → pj_G L (d + 4) 115 14 [pj_vR 38, pj_vI (k : Int), pj_vI (qf_dS0 D t : Int), pj_vI (t : Int)] [] M Q := by
    intro r
    induction r with
    | zero =>
      intro t M e hm hs _ _ hv
      obtain rfl : t = k + 1 := by omega
      have := hv (by omega)
      rw [Nat.add_sub_cancel] at this
      exact pj_C115_14 (by omega) (by omega) (fun _ => pj_C115_36 (h M hm hs this)) (fun c => by omega)
    | succ r ih =>
      intro t M e hm hs e23 e24 hv
      have hY' : qf_Y D M := hY.keep ⟨fun a h1 h2 => hm a (by simp only [List.mem_cons, List.not_mem_nil, or_false, not_or]; omega), fun j h1 h2 => hs j (by simp only [List.mem_cons, List.not_mem_nil, or_false, not_or]; omega)⟩
      have hR : qf_roY D M (fun _ => 0) := fun p hp => ⟨by rw [e23, pj_bt_0]; rfl, fun _ => by rw [e24, pj_bt_0]; rfl, fun _ z => absurd rfl z, Or.inl rfl⟩
      refine pj_C115_14 (by omega) (by omega) (fun c => by omega) (fun _ => pj_C115_19 ?_)
      refine qf_evalY (f := fun _ => 0) hD hE (by omega) (qf_dS0_lt hD t (by omega)) qf_fv0 hY' hR (fun _ _ z => absurd (show (0 : Nat) = 16 from z) (by decide)) (fun M1 hm1 hv1 => pj_C115_25 ?_)
      have e38 : M1 38 = M 38 := hm1 38 (by decide)
      refine qf_stateNowY (q := t) hD (hY'.keep (qf_kY.of hm1 (by decide))) hv1 (pj_C115_29 ?_)
      exact ih (t + 1) M1 (by omega) (hm.trans hm1 (by decide)) (fun j hj => by rw [e38]; exact hs j hj) (by rw [e38]; exact e23) (by rw [e38]; exact e24) (fun _ => hv1)
  refine pj_C115_0 (loop (k + 1) 0 _ (by omega) ((qf_fr.refl.up (by decide)).up (by decide)) ((qf_fs.refl.up (by decide)).up (by decide)) (by rw [pj_up_slot (by decide), pj_up_same]) pj_up_same (fun z => absurd z (by omega)))
/-- what runSound leaves -/
def qf_frU (D : qf_D) (M M' : pj_M) : Prop := qf_fr [31, 32, 33, 34] M M' ∧ qf_fs 31 [9] M M' ∧ ∀ l, (∀ t i, i < qf_dP D → l ≠ 14 * t + qf_wo D (qf_or0 D i)) → M' 33 l = M 33 l
theorem qf_inX.sound (hD : qf_okD D) {M M' : pj_M} (h : qf_inX D M) (hm : qf_frU D M M') : qf_inX D M' := by
  intro t' w ht' hw hd
  rw [hm.2.2 _ (fun t i hi z => ?_)]
  · exact h t' w ht' hw hd
  · have h1 := hD.pt _ (hD.or i hi)
    have hb := hD.b
    have : w = qf_wo D (qf_or0 D i) := by omega
    rw [this] at hd
    omega
theorem qf_runSoundX (hD : qf_okD D) (hE : qf_okE D) {M0 : pj_M} (hX : qf_X D M0) (hin : qf_inX D M0) {k : Nat} (hk : k < 3) (h : ∀ M', qf_frU D M0 M' → (∀ w, w < qf_dW D → M' 33 (14 * k + w) = (qf_dU D k w : Int)) → Q none M') : pj_G L (d + 3) 24 0 [pj_vR 31, pj_vI (k : Int), pj_vU, pj_vU, pj_vU] [] M0 Q := by
  have hb := hD.b
  have frp : ∀ {M M' : pj_M} {t i : Nat} {x : Int}, qf_frU D M M' → i < qf_dP D → qf_frU D M (pj_up M' 33 (14 * t + qf_wo D (qf_or0 D i)) x) := by
    intro M M' t i x hm hi
    refine ⟨hm.1.up (by decide), hm.2.1.else (by decide), fun l hl => ?_⟩
    rw [pj_up_slot (hl t i hi)]
    exact hm.2.2 l hl
  -- the streams' numbers of the next tick
  have loop : ∀ (r t : Nat) (M : pj_M), t + r = k + 1 → qf_frU D M0 M → (∀ p, p < qf_dP D → M 32 p = 0) → (∀ p, p < qf_dP D → qf_kd D p = 2 → M 34 p = (qf_bR D t (qf_dS0 D t) p : Int)) → (0 < t → ∀ w, w < qf_dW D → M 33 (14 * (t - 1) + w) = (qf_dU D (t - 1) w : Int)) → pj_G L (d + 3) 24 18 [pj_vR 31, pj_vI (k : Int), pj_vI (t : Int), pj_vU, pj_vU] [] M Q := by
    intro r
    induction r with
    | zero =>
      intro t M e hm _ _ hv
      obtain rfl : t = k + 1 := by omega
      have := hv (by omega)
      rw [Nat.add_sub_cancel] at this
      exact pj_C24_18 (by omega) (by omega) (fun _ => pj_C24_136 (h M hm this)) (fun c => by omega)
    | succ r ih =>
      intro t M e hm a1 a2 hv
      have ht : t < 3 := by omega
      refine pj_C24_18 (by omega) (by omega) (fun c => by omega) (fun _ => pj_C24_23 ?_)
      have hm0 : qf_frU D M0 (pj_up M 31 9 (t : Int)) := ⟨hm.1.up (by decide), hm.2.1.up (by decide), fun l hl => by rw [pj_up_else (by decide)]; exact hm.2.2 l hl⟩
      have u3 : ∀ w, w < qf_dW D → qf_dU D t w < 3 := fun w hw => by have := qf_dU_lt hD ht w hw; have := hD.rg w hw; omega
      -- the streams, behind the parts
      have streams : ∀ (M2 : pj_M), qf_frU D M0 M2 → M2 31 9 = (t : Int) → (∀ p, p < qf_dP D → M2 32 p = 0) → (∀ w, w < qf_dW D → M2 33 (14 * t + w) = (qf_dU D t w : Int)) → ∀ (q n : Nat) (M3 : pj_M), n + q = qf_dS D → qf_fr [34] M2 M3 → (∀ j, j < n → M3 34 (qf_st D j) = (qf_mk D (qf_dU D t) (qf_st D j) : Int)) → pj_G L (d + 3) 24 86 [pj_vR 31, pj_vI (k : Int), pj_vI (t : Int), pj_vI (n : Int), pj_vU] [] M3 Q := by
        intro M2 hm2 e9 r2 v2 q
        induction q with
        | zero =>
          intro n M3 en hm3 a3
          have hX3 : qf_X D M3 := (hX.keep (qf_kX.of hm2.1 (by decide))).keep (qf_kX.of hm3 (by decide))
          have hS := hX3.S
          refine pj_C24_86 (by omega) (by omega) (fun _ => pj_C24_130 ?_) (fun c => by omega)
          refine ih (t + 1) M3 (by omega) ⟨hm2.1.trans hm3 (by decide), fun j hj => by rw [hm3 31 (by decide)]; exact hm2.2.1 j hj, fun l hl => by rw [hm3 33 (by decide)]; exact hm2.2.2 l hl⟩ (fun p hp => by rw [hm3 32 (by decide)]; exact r2 p hp) (fun p hp hk2 => ?_) (fun _ => by rw [Nat.add_sub_cancel, hm3 33 (by decide)]; exact v2)
          obtain ⟨j, j1, j2⟩ := hD.ts p hp hk2
          have := a3 j (by omega)
          rw [j2] at this
          rw [this]
          have e2 := qf_bR_st (t := t) (q := t) (u := qf_dU D t) hD (qf_dU_lt hD ht) p hp hk2
          have e3 : qf_ow D (t + 1) (qf_dU D t) p = qf_mk D (qf_dU D t) p := by unfold qf_ow; rw [if_neg (by omega)]
          rw [← e3, ← e2]
          rfl
        | succ q ih2 =>
          intro n M3 en hm3 a3
          have hX3 : qf_X D M3 := (hX.keep (qf_kX.of hm2.1 (by decide))).keep (qf_kX.of hm3 (by decide))
          have hS := hX3.S
          have h1 := hD.st n (by omega)
          have hpt := hD.pt _ h1.1
          have lx := hpt.2.2.2.2.1 (by omega)
          have ly := hpt.2.2.2.2.2.1 (by omega)
          have es := hX3.st n (by omega)
          have e33 : M3 33 = M2 33 := hm3 33 (by decide)
          refine pj_C24_86 (by omega) (by omega) (fun c => by omega) (fun _ => pj_C24_97 n rfl (by omega) ?_)
          rw [es]
          refine qf_makesX (t := t) (u := qf_dU D t) hD hX3 h1.1 ht (by rw [hm3 31 (by decide)]; exact e9) (fun _ => ⟨by rw [e33]; exact v2 _ (by omega), u3 _ (by omega)⟩) (fun _ => ⟨by rw [e33]; exact v2 _ (by omega), u3 _ (by omega)⟩) (pj_C24_123 (qf_st D n) rfl (by omega) (ih2 (n + 1) _ (by omega) (hm3.up (by decide)) (fun j hj => ?_)))
          by_cases z : qf_st D j = qf_st D n
          · rw [z, pj_up_same]
          · rw [pj_up_slot z]
            have : j ≠ n := fun y => z (by rw [y])
            exact a3 j (by omega)
      -- the parts, in their order
      have parts : ∀ (q n : Nat) (M2 : pj_M), n + q = qf_dP D → qf_frU D M0 M2 → M2 31 9 = (t : Int) → (∀ p, p < qf_dP D → M2 32 p = 0) → (∀ p, p < qf_dP D → qf_kd D p = 2 → M2 34 p = (qf_bR D t (qf_dS0 D t) p : Int)) → (∀ w, w < qf_dW D → (qf_dv D w = 0 ∨ ∃ i, i < n ∧ qf_wo D (qf_or0 D i) = w) → M2 33 (14 * t + w) = (qf_dU D t w : Int)) → pj_G L (d + 3) 24 30 [pj_vR 31, pj_vI (k : Int), pj_vI (t : Int), pj_vI (n : Int), pj_vU] [] M2 Q := by
        intro q
        induction q with
        | zero =>
          intro n M2 en hm2 e9 r2 b2 v2
          have hX2 : qf_X D M2 := hX.keep (qf_kX.of hm2.1 (by decide))
          have hP := hX2.P
          refine pj_C24_30 (by omega) (by omega) (fun _ => pj_C24_84 (streams M2 hm2 e9 r2 (fun w hw => v2 w hw ?_) (qf_dS D) 0 M2 (by omega) qf_fr.refl (fun j hj => absurd hj (by omega)))) (fun c => by omega)
          by_cases hd : qf_dv D w = 0
          · exact Or.inl hd
          · have h3 := hD.dv w hw hd
            obtain ⟨i, i1, i2⟩ := hD.oe _ h3.1
            exact Or.inr ⟨i, by omega, by rw [i2]; exact h3.2⟩
        | succ q ih2 =>
          intro n M2 en hm2 e9 r2 b2 v2
          have hX2 : qf_X D M2 := hX.keep (qf_kX.of hm2.1 (by decide))
          have hP := hX2.P
          have hp := hD.or n (by omega)
          have hpt := hD.pt _ hp
          have eo := hX2.or n (by omega)
          have ew := hX2.wo _ hp
          -- what a part reads is known
          have known : ∀ w, w < qf_wo D (qf_or0 D n) → M2 33 (14 * t + w) = (qf_dU D t w : Int) ∧ qf_dU D t w < 3 := by
            intro w hw
            refine ⟨v2 w (by omega) ?_, u3 w (by omega)⟩
            by_cases hd : qf_dv D w = 0
            · exact Or.inl hd
            · have h3 := hD.dv w (by omega) hd
              obtain ⟨i, i1, i2⟩ := hD.oe _ h3.1
              refine Or.inr ⟨i, ?_, by rw [i2]; exact h3.2⟩
              rcases Nat.lt_trichotomy i n with y | y | y
              · exact y
              · rw [y] at i2
                rw [i2, h3.2] at hw
                omega
              · have := hD.os n i y i1
                rw [i2, h3.2] at this
                omega
          refine pj_C24_30 (by omega) (by omega) (fun c => by omega) (fun _ => pj_C24_41 n (qf_or0 D n) rfl (by omega) eo (by omega) ?_)
          rw [eo]
          refine qf_givesX (ro := fun _ => 0) (b := qf_bR D t (qf_dS0 D t)) (u := qf_dU D t) hD hX2 hp ht e9 (by rw [r2 _ hp]; rfl) (Or.inl rfl) (fun hk3 => known _ (hpt.2.2.2.2.1 hk3)) (fun hk2 => known _ (hpt.2.2.2.2.2.1 hk2)) (fun hk2 => ⟨b2 _ hp hk2, qf_bR_lt hD t _ _ hp hk2⟩) ?_
          have ev := (qf_sol_ev (D := D) (ro := fun _ => 0) (t := t) (b := qf_bR D t (qf_dS0 D t)) (f := fun _ => 0) hD (Nat.le_refl _) _ hpt.1).2 _ hpt.2.1
          rw [if_neg (by decide)] at ev
          have ev2 : qf_gv D 0 (qf_bR D t (qf_dS0 D t)) (qf_dU D t) (qf_or0 D n) = qf_dU D t (qf_wo D (qf_or0 D n)) := ev.symm
          rw [ev2]
          refine pj_C24_77 (14 * t + qf_wo D (qf_or0 D n)) (by rw [ew]; omega) (by omega) (ih2 (n + 1) _ (by omega) (frp hm2 (by omega)) (by rw [pj_up_else (by decide)]; exact e9) (fun p hp' => by rw [pj_up_else (by decide)]; exact r2 p hp') (fun p hp' hk2 => by rw [pj_up_else (by decide)]; exact b2 p hp' hk2) (fun w hw hcase => ?_))
          by_cases z : w = qf_wo D (qf_or0 D n)
          · rw [z, pj_up_same]
          · rw [pj_up_slot (by omega)]
            refine v2 w hw ?_
            rcases hcase with y | ⟨i, i1, i2⟩
            · exact Or.inl y
            · have : i ≠ n := fun w2 => z (by rw [← i2, w2])
              exact Or.inr ⟨i, by omega, i2⟩
      refine parts (qf_dP D) 0 _ (by omega) hm0 pj_up_same (fun p hp => by rw [pj_up_else (by decide)]; exact a1 p hp) (fun p hp hk2 => by rw [pj_up_else (by decide)]; exact a2 p hp hk2) (fun w hw hcase => ?_)
      rcases hcase with hd | ⟨i, i1, -⟩
      · have hin' := (hin.sound hD hm0) t w ht hw hd
        rw [hin']
        have := (qf_sol_ev (D := D) (ro := fun _ => 0) (t := t) (b := qf_bR D t (qf_dS0 D t)) (f := fun _ => 0) hD (Nat.le_refl _) w hw).1 hd
        unfold qf_dU qf_uf
        rw [this]
      · omega
  refine pj_C24_0 (fun _ => pj_fill (a := 31) (n := 7) rfl (by omega) (pj_C24_8 (fun _ => pj_fill (a := 33) (n := 7) rfl (by omega) (pj_C24_16 ?_))))
  have ef : ∀ a, a ≠ 32 → a ≠ 34 → (pj_fil (pj_fil M0 32 7 0) 34 7 0) a = M0 a := by
    intro a h1 h2
    funext j
    unfold pj_fil
    rw [if_neg (fun w => h2 w.1), if_neg (fun w => h1 w.1)]
  refine loop (k + 1) 0 _ (by omega) ⟨fun a ha => ef a (by simp only [List.mem_cons, List.not_mem_nil, or_false, not_or] at ha; omega) (by simp only [List.mem_cons, List.not_mem_nil, or_false, not_or] at ha; omega), fun j _ => by rw [ef 31 (by decide) (by decide)], fun l _ => by rw [ef 33 (by decide) (by decide)]⟩ (fun p hp => ?_) (fun p hp _ => ?_) (fun z => absurd z (by omega))
  · unfold pj_fil
    rw [if_neg (fun w => absurd w.1 (by decide)), if_pos ⟨rfl, by omega⟩]
  · unfold pj_fil
    rw [if_pos ⟨rfl, by omega⟩]
    rfl
end QFDU
