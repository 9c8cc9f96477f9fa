/-! due. -/
section QFCE
variable {L d : Nat} {Q : Option pj_V → pj_M → Prop} {D : qf_D} {M : pj_M} {x y : Int}
theorem qf_cX.sound (hD : qf_okD D) {M' : pj_M} (h : qf_cX D M) (hm : qf_frU D M M') (h8 : M 22 8 = 1) : qf_cX D M' := by
  have hp := h.2.2.1
  rcases hp with z | ⟨z, N, hN⟩
  · omega
  · refine h.keep (hm.1.wide (by decide)) (by rw [hm.2.1 7 (by decide)]; exact h.2.1) (by rw [hm.1 26 (by decide)]) (by rw [hm.1 26 (by decide)]) (hN.2.2.2.2.2.sound hD hm)
theorem qf_numbersDueX (hD : qf_okD D) (hE : qf_okE D) (hX : qf_X D M) (hc : qf_cX D M) {k : Nat} (hk : k < 3) (h : ∀ M', qf_fr qf_cL M M' → qf_cX D M' → (∀ w, w < qf_dW D → M' 33 (14 * k + w) = (qf_dU D k w : Int)) → Q (some (pj_vR 33)) M') : pj_G L (d + 4) 3 0 [pj_vR 22, pj_vI (k : Int)] [] M Q := by
  refine pj_C3_0 (qf_prepX hD hX hc (fun M1 N hm1 hs1 hc1 h8 hpp => pj_C3_4 ?_))
  refine qf_runSoundX hD hE (hX.keep (qf_kX.of hm1 (by decide))) hpp.2.2.2.2.2 hk (fun M2 hm2 hv => pj_C3_15 (h M2 ((hm1.wide (by decide)).trans hm2.1 (by decide)) (hc1.sound hD hm2 h8) hv))
theorem qf_dueX (hD : qf_okD D) (hE : qf_okE D) (hX : qf_X D M) (hc : qf_cX D M) (hr : -2147483648 ≤ x ∧ x < 2147483648) (hr2 : -2147483648 ≤ y ∧ y < 2147483648)
    (hb : (∀ t w : Nat, x = (t : Int) → y = (w : Int) → ¬ (t < qf_dT D ∧ w < qf_dW D)) → Q (some (pj_vI (-3))) (pj_rfX M 3))
    (h : ∀ (t w : Nat) (M' : pj_M), x = (t : Int) → y = (w : Int) → t < qf_dT D → w < qf_dW D → qf_fr qf_cL M M' → qf_cX D M' → Q (some (pj_vI (qf_dU D t w : Int))) M') : pj_G L (d + 5) 58 0 [pj_vR 1, pj_vI x, pj_vI y] [] M Q := by
  have hb14 := hD.b
  have no : (∀ t w : Nat, x = (t : Int) → y = (w : Int) → ¬ (t < qf_dT D ∧ w < qf_dW D)) → pj_G L (d + 5) 58 16 [pj_vR 1, pj_vU, pj_vU] [] M Q := fun z => pj_C58_16 (pj_refuse 3 (by decide) (pj_C58_22 (hb z)))
  refine pj_C58_0 (qf_isTickX hD hX hr (fun t ht htl => pj_C58_5 (by omega) (fun z => absurd z (by decide)) (fun _ => pj_C58_8 ?_)) (fun hno => pj_C58_5 (by omega) (fun _ => no (fun t w ht _ hh => hno t ht hh.1)) (fun z => absurd rfl z)))
  refine qf_isWireX hD hX hr2 (fun w hw hwl => pj_C58_13 (by omega) (fun _ => pj_C58_23 ?_) (fun z => absurd z (by decide))) (fun hno => pj_C58_13 (by omega) (fun z => absurd rfl z) (fun _ => no (fun t w _ hw hh => hno w hw hh.2)))
  rw [ht, hw]
  refine qf_numbersDueX hD hE hX hc (by omega) (fun M1 hm1 hc1 hv => pj_C58_31 (14 * t + w) (by omega) (by omega) ?_)
  rw [hv w hwl]
  exact h t w M1 ht hw htl hwl hm1 hc1
theorem qf_dueY (hD : qf_okD D) (hE : qf_okE D) (hY : qf_Y D M) (hr : -2147483648 ≤ x ∧ x < 2147483648) (hr2 : -2147483648 ≤ y ∧ y < 2147483648)
    (hb : (∀ t w : Nat, x = (t : Int) → y = (w : Int) → ¬ (t < qf_dT D ∧ w < qf_dW D)) → Q (some (pj_vI (-3))) (pj_rfY M 3))
    (h : ∀ (t w : Nat) (M' : pj_M), x = (t : Int) → y = (w : Int) → t < qf_dT D → w < qf_dW D → qf_fr [38, 59, 60] M M' → qf_fs 38 [23, 24] M M' → Q (some (pj_vI (qf_dU D t w : Int))) M') : pj_G L (d + 5) 114 0 [pj_vR 38, pj_vI x, pj_vI y] [] M Q := by
  have hb14 := hD.b
  have no : (∀ t w : Nat, x = (t : Int) → y = (w : Int) → ¬ (t < qf_dT D ∧ w < qf_dW D)) → pj_G L (d + 5) 114 16 [pj_vR 38, pj_vU, pj_vU] [] M Q := fun z => pj_C114_16 (pj_no 3 (by decide) (pj_C114_22 (hb z)))
  refine pj_C114_0 (qf_isTickY hD hY hr (fun t ht htl => pj_C114_5 (by omega) (fun z => absurd z (by decide)) (fun _ => pj_C114_8 ?_)) (fun hno => pj_C114_5 (by omega) (fun _ => no (fun t w ht _ hh => hno t ht hh.1)) (fun z => absurd rfl z)))
  refine qf_isWireY hD hY hr2 (fun w hw hwl => pj_C114_13 (by omega) (fun _ => pj_C114_23 ?_) (fun z => absurd z (by decide))) (fun hno => pj_C114_13 (by omega) (fun z => absurd rfl z) (fun _ => no (fun t w _ hw hh => hno w hw hh.2)))
  rw [ht]
  refine qf_dueAllY hD hE hY (by omega) (fun M1 hm1 hs1 hv => pj_C114_28 w hw (by omega) ?_)
  rw [(hv w hwl).1]
  exact h t w M1 ht hw htl hwl hm1 hs1
end QFCE
theorem qf_case_due : pj_Case qf_I 631 := by
  rintro L d Q M x h0 h5 hL ⟨D, hI⟩ go
  obtain ⟨X, rfl⟩ : ∃ X : Nat, x = (X : Int) := ⟨x.toNat, by omega⟩
  have hr := hI.rng (X + 1) (by omega)
  have hr2 := hI.rng (X + 2) (by omega)
  have e1 : pj_nrm ((X : Int) + 1) = ((X + 1 : Nat) : Int) := pj_nk (by omega) (by omega)
  have e2 : pj_nrm ((X : Int) + 2) = ((X + 2 : Nat) : Int) := pj_nk (by omega) (by omega)
  refine pj_B152_631 ⟨by omega, by omega⟩ ⟨by omega, by omega⟩ ?_
  rw [e1, e2, Int.toNat_natCast, Int.toNat_natCast]
  refine qf_dueX (d := d + 34) hI.ok hI.E hI.X hI.cX hr hr2 (fun hb => ?_) (fun t w M1 ht hw htl hwl hm1 hc1 => ?_)
  · have hw := hI.rfX 3
    refine pj_B152_645 ⟨by omega, by omega⟩ ⟨by omega, by omega⟩ ?_
    have eX : (pj_rfX M 3) 0 = M 0 := rfl
    rw [e1, e2, Int.toNat_natCast, Int.toNat_natCast, eX]
    exact qf_dueY (d := d + 34) hw.ok hw.E hw.Y hr hr2 (fun _ => pj_B152_659 (fun _ => go _ ⟨D, hw.rfY⟩) (fun c => absurd rfl c)) (fun t w M1 ht hw' htl hwl _ _ => absurd ⟨htl, hwl⟩ (hb t w ht hw'))
  · have hI1 := hI.qx hm1 hc1
    refine pj_B152_645 ⟨by omega, by omega⟩ ⟨by omega, by omega⟩ ?_
    have eX : M1 0 = M 0 := hm1 0 (by decide)
    rw [e1, e2, Int.toNat_natCast, Int.toNat_natCast, eX]
    refine qf_dueY (d := d + 34) hI1.ok hI1.E hI1.Y hr hr2 (fun hb => absurd ⟨htl, hwl⟩ (hb t w ht hw)) (fun t' w' M2 ht' hw' _ _ hm2 hs2 => ?_)
    obtain rfl : t' = t := by omega
    obtain rfl : w' = w := by omega
    refine pj_B152_659 (fun _ => go _ ⟨D, hI1.qy (hm2.wide (by decide)) (fun k hk => hs2 k (by simp only [List.mem_cons, List.not_mem_nil, or_false, not_or] at hk ⊢; omega)) (hI1.cY.far (hs2 34 (by decide)) (hs2 35 (by decide)) (hm2 64 (by decide)) (hm2 65 (by decide)))⟩) (fun c => absurd rfl c)
