/-! WHAT KEEPS THE INVARIANT; the first cases. -/
section QFCA
variable {D : qf_D} {L w : Nat} {M M' : pj_M}
/-- as the invariant, but the class has counted one refusal more -/
def qf_Rw (L w : Nat) (M : pj_M) : Prop := M 1 5 = M 38 39 ∧ -1 ≤ M 1 5 ∧ M 1 5 ≤ 14 ∧ (∀ i : Nat, (i : Int) < M 1 5 → M 36 i = M 66 i) ∧ (∀ j, j < 9 → M 37 j = M 56 j + if j = w then 1 else 0) ∧ ∀ k, k < L → -2147483648 ≤ M 0 k ∧ M 0 k < 2147483648
def qf_IPw (D : qf_D) (L w : Nat) (M : pj_M) : Prop := qf_okD D ∧ qf_okE D ∧ qf_X D M ∧ qf_cX D M ∧ qf_Y D M ∧ qf_cY D M ∧ qf_Rw L w M
theorem qf_IP.qx (h : qf_IP D L M) (hm : qf_fr qf_cL M M') (hc : qf_cX D M') : qf_IP D L M' := by
  obtain ⟨a1, a2, a3, a4, a5, a6, b1, b2, b3, b4, b5, b6⟩ := h
  have e38 := hm 38 (by decide)
  refine ⟨a1, a2, a3.keep (qf_kX.of hm (by decide)), hc, a5.keep (qf_kY.of hm (by decide)), a6.far (by rw [e38]) (by rw [e38]) (hm 64 (by decide)) (hm 65 (by decide)), ?_⟩
  unfold qf_R
  rw [e38, hm 1 (by decide), hm 36 (by decide), hm 66 (by decide), hm 37 (by decide), hm 56 (by decide), hm 0 (by decide)]
  exact ⟨b1, b2, b3, b4, b5, b6⟩
theorem qf_farY {l : List Nat} (hm : qf_fr l M M') (hl : ∀ a ∈ l, 38 ≤ a) : ∀ a, a < 38 → M' a = M a := fun a ha => hm a (fun z => by have := hl a z; omega)
abbrev qf_yL : List Nat := [38, 57, 58, 59, 60, 61, 62, 63, 64, 65]
theorem qf_IP.qy (h : qf_IP D L M) (hm : qf_fr qf_yL M M') (hs : qf_fs 38 [23, 24, 34, 35, 36] M M') (hc : qf_cY D M') : qf_IP D L M' := by
  obtain ⟨a1, a2, a3, a4, a5, a6, b1, b2, b3, b4, b5, b6⟩ := h
  have f := qf_farY hm (by decide)
  refine ⟨a1, a2, a3.keep (fun a h1 h2 => f a (by omega)), a4.far (fun a h1 h2 => f a (by omega)), a5.far (fun a h1 h2 => hm a (by simp only [List.mem_cons, List.not_mem_nil, or_false, not_or]; omega)) (fun k h1 h2 => hs k (by simp only [List.mem_cons, List.not_mem_nil, or_false, not_or]; omega)), hc, ?_⟩
  unfold qf_R
  rw [hs 39 (by decide), f 1 (by omega), f 36 (by omega), hm 66 (by decide), f 37 (by omega), hm 56 (by decide), f 0 (by omega)]
  exact ⟨b1, b2, b3, b4, b5, b6⟩
theorem qf_IPw.qy (h : qf_IPw D L w M) (hm : qf_fr qf_yL M M') (hs : qf_fs 38 [23, 24, 34, 35, 36] M M') (hc : qf_cY D M') : qf_IPw D L w M' := by
  obtain ⟨a1, a2, a3, a4, a5, a6, b1, b2, b3, b4, b5, b6⟩ := h
  have f := qf_farY hm (by decide)
  refine ⟨a1, a2, a3.keep (fun a h1 h2 => f a (by omega)), a4.far (fun a h1 h2 => f a (by omega)), a5.far (fun a h1 h2 => hm a (by simp only [List.mem_cons, List.not_mem_nil, or_false, not_or]; omega)) (fun k h1 h2 => hs k (by simp only [List.mem_cons, List.not_mem_nil, or_false, not_or]; omega)), hc, ?_⟩
  unfold qf_Rw
  rw [hs 39 (by decide), f 1 (by omega), f 36 (by omega), hm 66 (by decide), f 37 (by omega), hm 56 (by decide), f 0 (by omega)]
  exact ⟨b1, b2, b3, b4, b5, b6⟩
theorem qf_IP.rfX (h : qf_IP D L M) (w : Nat) : qf_IPw D L w (pj_rfX M w) := by
  obtain ⟨a1, a2, a3, a4, a5, a6, b1, b2, b3, b4, b5, b6⟩ := h
  have e : ∀ a, a ≠ 37 → (pj_rfX M w) a = M a := fun a ha => by funext k; exact pj_up_else ha
  refine ⟨a1, a2, a3.keep (fun a h1 h2 => e a (by omega)), a4.far (fun a h1 h2 => e a (by omega)), a5.far (fun a h1 h2 => e a (by omega)) (fun k _ _ => by rw [e 38 (by decide)]), a6.far (by rw [e 38 (by decide)]) (by rw [e 38 (by decide)]) (e 64 (by decide)) (e 65 (by decide)), ?_⟩
  unfold qf_Rw
  rw [e 1 (by decide), e 38 (by decide), e 36 (by decide), e 66 (by decide), e 56 (by decide), e 0 (by decide)]
  refine ⟨b1, b2, b3, b4, fun j hj => ?_, b6⟩
  by_cases z : j = w
  · subst z
    rw [if_pos rfl]
    show pj_up M 37 j (M 37 j + 1) 37 j = _
    rw [pj_up_same, b5 j hj]
  · rw [if_neg z]
    show pj_up M 37 w (M 37 w + 1) 37 j = _
    rw [pj_up_slot z, b5 j hj]
    omega
theorem qf_IPw.rfY (h : qf_IPw D L w M) : qf_IP D L (pj_rfY M w) := by
  obtain ⟨a1, a2, a3, a4, a5, a6, b1, b2, b3, b4, b5, b6⟩ := h
  have e : ∀ a, a ≠ 56 → (pj_rfY M w) a = M a := fun a ha => by funext k; exact pj_up_else ha
  refine ⟨a1, a2, a3.keep (fun a h1 h2 => e a (by omega)), a4.far (fun a h1 h2 => e a (by omega)), a5.far (fun a h1 h2 => e a (by omega)) (fun k _ _ => by rw [e 38 (by decide)]), a6.far (by rw [e 38 (by decide)]) (by rw [e 38 (by decide)]) (e 64 (by decide)) (e 65 (by decide)), ?_⟩
  unfold qf_R
  rw [e 1 (by decide), e 38 (by decide), e 36 (by decide), e 66 (by decide), e 37 (by decide), e 0 (by decide)]
  refine ⟨b1, b2, b3, b4, fun j hj => ?_, b6⟩
  rw [b5 j hj]
  by_cases z : j = w
  · subst z
    rw [if_pos rfl]
    show _ = pj_up M 56 j (M 56 j + 1) 56 j
    rw [pj_up_same]
  · rw [if_neg z]
    show _ = pj_up M 56 w (M 56 w + 1) 56 j
    rw [pj_up_slot z]
    omega
theorem qf_IP.rng (h : qf_IP D L M) : ∀ k, k < L → -2147483648 ≤ M 0 k ∧ M 0 k < 2147483648 := h.2.2.2.2.2.2.2.2.2.2.2
theorem qf_IP.ok (h : qf_IP D L M) : qf_okD D := h.1
theorem qf_IP.E (h : qf_IP D L M) : qf_okE D := h.2.1
theorem qf_IP.X (h : qf_IP D L M) : qf_X D M := h.2.2.1
theorem qf_IP.cX (h : qf_IP D L M) : qf_cX D M := h.2.2.2.1
theorem qf_IP.Y (h : qf_IP D L M) : qf_Y D M := h.2.2.2.2.1
theorem qf_IP.cY (h : qf_IP D L M) : qf_cY D M := h.2.2.2.2.2.1
theorem qf_IP.R (h : qf_IP D L M) : qf_R L M := h.2.2.2.2.2.2
theorem qf_IPw.ok (h : qf_IPw D L w M) : qf_okD D := h.1
theorem qf_IPw.E (h : qf_IPw D L w M) : qf_okE D := h.2.1
theorem qf_IPw.Y (h : qf_IPw D L w M) : qf_Y D M := h.2.2.2.2.1
theorem qf_IPw.cY (h : qf_IPw D L w M) : qf_cY D M := h.2.2.2.2.2.1
theorem qf_frF.y (h : qf_frF M M') : qf_fr qf_yL M M' ∧ qf_fs 38 [23, 24, 34, 35, 36] M M' := ⟨h.1, fun k hk => h.2 k (by simp only [List.mem_cons, List.not_mem_nil, or_false, not_or] at hk ⊢; omega)⟩
end QFCA
theorem qf_case_tear : pj_Case qf_I 1014 := by
  refine pj_case_tear (fun L M h => ?_) (fun L M h => ?_)
  · obtain ⟨D, a1, a2, a3, a4, a5, a6, b1, b2, b3, -⟩ := h
    exact ⟨b1, b2, b3⟩
  · obtain ⟨D, a1, a2, a3, a4, a5, a6, b1, b2, b3, b4, b5, b6⟩ := h
    have e : ∀ a, a ≠ 1 → a ≠ 38 → (pj_up (pj_up M 1 5 (-1)) 38 39 (-1)) a = M a := fun a h1 h2 => by funext k; rw [pj_up_else h2, pj_up_else h1]
    have e38 : ∀ k, k ≠ 39 → (pj_up (pj_up M 1 5 (-1)) 38 39 (-1)) 38 k = M 38 k := fun k hk => by rw [pj_up_slot hk, pj_up_else (by decide)]
    have e5 : (pj_up (pj_up M 1 5 (-1)) 38 39 (-1)) 1 5 = -1 := by rw [pj_up_else (by decide), pj_up_same]
    refine ⟨D, a1, a2, a3.keep (fun a h1 h2 => e a (by omega) (by omega)), a4.far (fun a h1 h2 => e a (by omega) (by omega)), a5.far (fun a h1 h2 => e a (by omega) (by omega)) (fun k h1 h2 => e38 k (by omega)), a6.far (e38 34 (by decide)) (e38 35 (by decide)) (e 64 (by decide) (by decide)) (e 65 (by decide) (by decide)), ?_⟩
    refine ⟨by rw [e5, pj_up_same], by omega, by omega, fun i hi => by rw [e5] at hi; omega, ?_, ?_⟩
    · rw [e 37 (by decide) (by decide), e 56 (by decide) (by decide)]; exact b5
    · rw [e 0 (by decide) (by decide)]; exact b6
theorem qf_case_stories : pj_Case qf_I 664 := by
  rintro L d Q M x h0 h5 hL ⟨D, hI⟩ go
  refine pj_B152_664 (pj_C59_0 (qf_findStoriesX (d := d + 17) hI.1 hI.2.1 hI.2.2.1 hI.2.2.2.1 (fun M1 hm1 hc1 h3 => pj_C59_7 ?_)))
  have hI1 := hI.qx hm1 hc1
  refine pj_B152_668 (pj_C123_0 (qf_findY (d := d + 31) hI1.1 hI1.2.1 hI1.2.2.2.2.1 hI1.2.2.2.2.2.1 (fun M2 hm2 e35 hFY => pj_C123_4 ?_)))
  rw [hFY.1]
  exact pj_B152_672 (fun _ => go M2 ⟨D, hI1.qy hm2.y.1 hm2.y.2 (Or.inr ⟨e35, hFY⟩)⟩) (fun c => absurd rfl c)
theorem qf_case_story : pj_Case qf_I 677 := by
  rintro L d Q M x h0 h5 hL ⟨D, hI⟩ go
  have hl35 := qf_sl_len D
  obtain ⟨X, rfl⟩ : ∃ X : Nat, x = (X : Int) := ⟨x.toNat, by omega⟩
  have hr := hI.rng (X + 1) (by omega)
  have e1 : pj_nrm ((X : Int) + 1) = ((X + 1 : Nat) : Int) := pj_nk (by omega) (by omega)
  -- both find; then both tell, or refuse
  have fin : ∀ (M1 : pj_M), qf_IP D L M1 → M1 0 (X + 1) = M 0 (X + 1) → 0 ≤ M 0 (X + 1) → M 0 (X + 1) < ((qf_sl D).length : Int) → pj_G L (d + 40) 152 686 [pj_vR 0, pj_vR 1, pj_vR 38, pj_vI (X : Int)] [pj_vI ((qf_sl D).getD (M 0 (X + 1)).toNat 0 : Int)] M1 Q := by
    intro M1 hI1 e0 g1 g2
    refine pj_B152_686 ⟨by omega, by omega⟩ ?_
    rw [e1, Int.toNat_natCast, e0]
    refine pj_C124_0 (qf_findY (d := d + 31) hI1.1 hI1.2.1 hI1.2.2.2.2.1 hI1.2.2.2.2.2.1 (fun M2 hm2 e35 hFY => pj_C124_4 hr (by rw [hFY.1]; omega) (pj_isIn (by omega) (by omega) (by omega) (by omega) (by rw [hFY.1]; omega) (by rw [hFY.1]; omega) ?_)))
    rw [if_pos (by rw [hFY.1]; omega)]
    refine pj_C124_17 (by omega) (fun z => absurd z (by decide)) (fun _ => pj_C124_20 (M 0 (X + 1)).toNat (by omega) (by omega) (pj_C124_35 ?_))
    rw [hFY.2.1 _ (by omega)]
    exact pj_B152_695 (fun _ => go M2 ⟨D, hI1.qy hm2.y.1 hm2.y.2 (Or.inr ⟨e35, hFY⟩)⟩) (fun c => absurd rfl c)
  have bad : ∀ (M1 : pj_M), qf_IP D L M1 → M1 0 (X + 1) = M 0 (X + 1) → ¬ (0 ≤ M 0 (X + 1) ∧ M 0 (X + 1) < ((qf_sl D).length : Int)) → pj_G L (d + 40) 152 686 [pj_vR 0, pj_vR 1, pj_vR 38, pj_vI (X : Int)] [pj_vI (-3)] (pj_rfX M1 3) Q := by
    intro M1 hI1 e0 g
    have hw := hI1.rfX 3
    refine pj_B152_686 ⟨by omega, by omega⟩ ?_
    have e0' : (pj_rfX M1 3) 0 (X + 1) = M 0 (X + 1) := e0
    rw [e1, Int.toNat_natCast, e0']
    refine pj_C124_0 (qf_findY (d := d + 31) hw.1 hw.2.1 hw.2.2.2.2.1 hw.2.2.2.2.2.1 (fun M2 hm2 e35 hFY => pj_C124_4 hr (by rw [hFY.1]; omega) (pj_isIn (by omega) (by omega) (by omega) (by omega) (by rw [hFY.1]; omega) (by rw [hFY.1]; omega) ?_)))
    rw [if_neg (by rw [hFY.1]; omega)]
    refine pj_C124_17 (by omega) (fun _ => pj_C124_29 (pj_no 3 (by decide) (pj_C124_35 ?_))) (fun z => absurd rfl z)
    exact pj_B152_695 (fun _ => go _ ⟨D, (hw.qy hm2.y.1 hm2.y.2 (Or.inr ⟨e35, hFY⟩)).rfY⟩) (fun c => absurd rfl c)
  refine pj_B152_677 ⟨by omega, by omega⟩ ?_
  rw [e1, Int.toNat_natCast]
  refine pj_C60_0 hr (fun z => pj_C60_15 (pj_refuse 3 (by decide) (pj_C60_21 (bad M hI rfl (by omega))))) (fun z => pj_C60_4 ?_)
  refine qf_findStoriesX (d := d + 17) hI.1 hI.2.1 hI.2.2.1 hI.2.2.2.1 (fun M1 hm1 hc1 h3 => ?_)
  have hI1 := hI.qx hm1 hc1
  have e0 : M1 0 (X + 1) = M 0 (X + 1) := by rw [hm1 0 (by decide)]
  refine pj_C60_12 hr (by omega) (fun y => pj_C60_22 (M 0 (X + 1)).toNat (by omega) (by omega) ?_) (fun y => pj_C60_15 (pj_refuse 3 (by decide) (pj_C60_21 (bad M1 hI1 e0 (by omega)))))
  rcases hc1.2.2.2.1 with w | ⟨-, -, w, -⟩
  · omega
  · rw [w _ (by omega)]
    exact fin M1 hI1 e0 z y
