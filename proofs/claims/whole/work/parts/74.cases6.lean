/-! values; lay. -/
section QFCF
variable {L d : Nat} {Q : Option pj_V → pj_M → Prop} {D : qf_D} {M : pj_M} {x y z : Int}
/-- a tick, a wire and a story that there are -/
def qf_twi (D : qf_D) (x y z : Int) : Prop := (0 ≤ x ∧ x < (qf_dT D : Int)) ∧ (0 ≤ y ∧ y < (qf_dW D : Int)) ∧ (0 ≤ z ∧ z < ((qf_sl D).length : Int))
theorem qf_valuesX (hD : qf_okD D) (hE : qf_okE D) (hX : qf_X D M) (hc : qf_cX D M) (hr : -2147483648 ≤ x ∧ x < 2147483648) (hr2 : -2147483648 ≤ y ∧ y < 2147483648) (hr3 : -2147483648 ≤ z ∧ z < 2147483648)
    (hb : ¬ qf_twi D x y z → ∀ M', qf_fr qf_cL M M' → qf_cX D M' → Q (some (pj_vI (-3))) (pj_rfX M' 3))
    (h : qf_twi D x y z → ∀ M', qf_fr qf_cL M M' → qf_cX D M' → Q (some (pj_vI (qf_vm D ((qf_sl D).getD z.toNat 0) (14 * x.toNat + y.toNat) : Int))) M') : pj_G L (d + 22) 68 0 [pj_vR 1, pj_vI x, pj_vI y, pj_vI z] [] M Q := by
  have hb14 := hD.b
  have hl := qf_sl_len D
  have no : ∀ M1, qf_fr qf_cL M M1 → qf_cX D M1 → ¬ qf_twi D x y z → pj_G L (d + 22) 68 31 [pj_vR 1, pj_vU, pj_vU, pj_vU] [] M1 Q := fun M1 g1 g2 g3 => pj_C68_31 (pj_refuse 3 (by decide) (pj_C68_37 (hb g3 M1 g1 g2)))
  refine pj_C68_0 (qf_isTickX hD hX hr (fun t ht htl => pj_C68_5 (by omega) (fun w => absurd w (by decide)) (fun _ => pj_C68_8 ?_)) (fun hno => pj_C68_5 (by omega) (fun _ => no M qf_fr.refl hc (fun w => hno x.toNat (by have := w.1; omega) (by have := w.1; omega))) (fun w => absurd rfl w)))
  refine qf_isWireX hD hX hr2 (fun w hw hwl => pj_C68_13 (by omega) (fun v => absurd v (by decide)) (fun _ => ?_)) (fun hno => pj_C68_13 (by omega) (fun _ => no M qf_fr.refl hc (fun v => hno y.toNat (by have := v.2.1; omega) (by have := v.2.1; omega))) (fun v => absurd rfl v))
  refine pj_C68_16 hr3 (fun v => no M qf_fr.refl hc (fun g => by have := g.2.2; omega)) (fun v => pj_C68_20 ?_)
  refine qf_findStoriesX (d := d) hD hE hX hc (fun M1 hm1 hc1 h3 => ?_)
  refine pj_C68_28 hr3 (by omega) (fun v2 => pj_C68_38 ?_) (fun v2 => no M1 hm1 hc1 (fun g => by have := g.2.2; omega))
  obtain ⟨i, rfl⟩ : ∃ i : Nat, z = (i : Int) := ⟨z.toNat, by omega⟩
  have hgood : qf_twi D x y (i : Int) := ⟨⟨by omega, by omega⟩, ⟨by omega, by omega⟩, ⟨by omega, v2⟩⟩
  refine qf_learnX (d := d) (a := i) (b := i + 1) hD hE (hX.keep (qf_kX.of hm1 (by decide))) hc1 h3 (by omega) (by omega) (fun M2 hm2 hc2 h32 hkn _ => pj_C68_49 (42 * i + (14 * t + w)) (by omega) (by omega) ?_)
  have hv := hkn i (Nat.le_refl _) (by omega) (14 * t + w) (by omega)
  rw [hv]
  have := h hgood M2 (hm1.trans hm2 (fun _ q => q)) hc2
  rw [show x.toNat = t by omega, show y.toNat = w by omega] at this
  exact this
theorem qf_valuesY (hD : qf_okD D) (hE : qf_okE D) (hY : qf_Y D M) (hc : qf_cY D M) (hr : -2147483648 ≤ x ∧ x < 2147483648) (hr2 : -2147483648 ≤ y ∧ y < 2147483648) (hr3 : -2147483648 ≤ z ∧ z < 2147483648)
    (hb : ¬ qf_twi D x y z → ∀ M', qf_frF M M' → qf_cY D M' → Q (some (pj_vI (-3))) (pj_rfY M' 3))
    (h : qf_twi D x y z → ∀ M', qf_frF M M' → qf_cY D M' → Q (some (pj_vI (qf_vm D ((qf_sl D).getD z.toNat 0) (14 * x.toNat + y.toNat) : Int))) M') : pj_G L (d + 8) 138 0 [pj_vR 38, pj_vI x, pj_vI y, pj_vI z] [] M Q := by
  have hb14 := hD.b
  have hl := qf_sl_len D
  have no : ¬ qf_twi D x y z → pj_G L (d + 8) 138 16 [pj_vR 38, pj_vU, pj_vU, pj_vU] [] M Q := fun g3 => pj_C138_16 (pj_no 3 (by decide) (pj_C138_22 (hb g3 M qf_frF.refl hc)))
  refine pj_C138_0 (qf_isTickY hD hY hr (fun t ht htl => pj_C138_5 (by omega) (fun w => absurd w (by decide)) (fun _ => pj_C138_8 ?_)) (fun hno => pj_C138_5 (by omega) (fun _ => no (fun w => hno x.toNat (by have := w.1; omega) (by have := w.1; omega))) (fun w => absurd rfl w)))
  refine qf_isWireY hD hY hr2 (fun w hw hwl => pj_C138_13 (by omega) (fun _ => pj_C138_23 ?_) (fun v => absurd v (by decide))) (fun hno => pj_C138_13 (by omega) (fun v => absurd rfl v) (fun _ => no (fun v => hno y.toNat (by have := v.2.1; omega) (by have := v.2.1; omega))))
  refine qf_findY (d := d) hD hE hY hc (fun M1 hm1 e35 hFY => pj_C138_27 hr3 (by rw [hFY.1]; omega) (pj_isIn (by omega) (by omega) (by omega) (by omega) (by rw [hFY.1]; omega) (by rw [hFY.1]; omega) ?_))
  have hc1 : qf_cY D M1 := Or.inr ⟨e35, hFY⟩
  by_cases v : 0 ≤ z ∧ z ≤ M1 38 34 - 1
  · rw [if_pos v]
    rw [hFY.1] at v
    have hgood : qf_twi D x y z := ⟨⟨by omega, by omega⟩, ⟨by omega, by omega⟩, ⟨by omega, by omega⟩⟩
    refine pj_C138_40 (by omega) (fun q => absurd q (by decide)) (fun _ => pj_C138_43 (42 * z.toNat + (14 * t + w)) (by omega) (by omega) (pj_C138_68 ?_))
    rw [hFY.2.2 z.toNat (by omega) (14 * t + w) (by omega)]
    have := h hgood M1 hm1 hc1
    rw [show x.toNat = t by omega, show y.toNat = w by omega] at this
    exact this
  · rw [if_neg v]
    rw [hFY.1] at v
    exact pj_C138_40 (by omega) (fun _ => pj_C138_62 (pj_no 3 (by decide) (pj_C138_68 (hb (fun g => by have := g.2.2; omega) M1 hm1 hc1)))) (fun q => absurd rfl q)
end QFCF
theorem qf_case_values : pj_Case qf_I 869 := by
  rintro L d Q M x h0 h5 hL ⟨D, hI⟩ go
  obtain ⟨X, rfl⟩ : ∃ X : Nat, x = (X : Int) := ⟨x.toNat, by omega⟩
  have hr := hI.rng (X + 1) (by omega)
  have hr2 := hI.rng (X + 2) (by omega)
  have hr3 := hI.rng (X + 3) (by omega)
  have e1 : pj_nrm ((X : Int) + 1) = ((X + 1 : Nat) : Int) := pj_nk (by omega) (by omega)
  have e2 : pj_nrm ((X : Int) + 2) = ((X + 2 : Nat) : Int) := pj_nk (by omega) (by omega)
  have e3 : pj_nrm ((X : Int) + 3) = ((X + 3 : Nat) : Int) := pj_nk (by omega) (by omega)
  refine pj_B152_869 ⟨by omega, by omega⟩ ⟨by omega, by omega⟩ ⟨by omega, by omega⟩ ?_
  rw [e1, e2, e3, Int.toNat_natCast, Int.toNat_natCast, Int.toNat_natCast]
  refine qf_valuesX (d := d + 17) hI.ok hI.E hI.X hI.cX hr hr2 hr3 (fun hb M1 hm1 hc1 => ?_) (fun hg M1 hm1 hc1 => ?_)
  · have hw := (hI.qx hm1 hc1).rfX 3
    refine pj_B152_888 ⟨by omega, by omega⟩ ⟨by omega, by omega⟩ ⟨by omega, by omega⟩ ?_
    have eX : (pj_rfX M1 3) 0 = M 0 := (show M1 0 = M 0 from hm1 0 (by decide))
    rw [e1, e2, e3, Int.toNat_natCast, Int.toNat_natCast, Int.toNat_natCast, eX]
    exact qf_valuesY (d := d + 31) hw.ok hw.E hw.Y hw.cY hr hr2 hr3 (fun _ M2 hm2 hc2 => pj_B152_907 (fun _ => go _ ⟨D, (hw.qy hm2.y.1 hm2.y.2 hc2).rfY⟩) (fun c => absurd rfl c)) (fun hg _ _ _ => absurd hg hb)
  · have hI1 := hI.qx hm1 hc1
    refine pj_B152_888 ⟨by omega, by omega⟩ ⟨by omega, by omega⟩ ⟨by omega, by omega⟩ ?_
    have eX : M1 0 = M 0 := hm1 0 (by decide)
    rw [e1, e2, e3, Int.toNat_natCast, Int.toNat_natCast, Int.toNat_natCast, eX]
    exact qf_valuesY (d := d + 31) hI1.ok hI1.E hI1.Y hI1.cY hr hr2 hr3 (fun hb _ _ _ => absurd hg hb) (fun _ M2 hm2 hc2 => pj_B152_907 (fun _ => go _ ⟨D, hI1.qy hm2.y.1 hm2.y.2 hc2⟩) (fun c => absurd rfl c))
theorem qf_case_lay : pj_Case qf_I 991 := by
  rintro L d Q M x h0 h5 hL ⟨D, hI⟩ go
  obtain ⟨X, rfl⟩ : ∃ X : Nat, x = (X : Int) := ⟨x.toNat, by omega⟩
  have hr := hI.rng (X + 1) (by omega)
  have hb14 := hI.ok.b
  have e1 : pj_nrm ((X : Int) + 1) = ((X + 1 : Nat) : Int) := pj_nk (by omega) (by omega)
  refine pj_B152_991 ⟨by omega, by omega⟩ ?_
  rw [e1, Int.toNat_natCast]
  refine pj_C72_0 (qf_isTickX hI.ok hI.X hr (fun t ht htl => pj_C72_5 (by omega) (fun _ => pj_C72_15 ?_) (fun w => absurd w (by decide))) (fun hno => pj_C72_5 (by omega) (fun w => absurd rfl w) (fun _ => pj_C72_8 (pj_refuse 3 (by decide) (pj_C72_14 ?_)))))
  · rw [ht]
    refine qf_numbersDueX (d := d + 34) hI.ok hI.E hI.X hI.cX (by omega) (fun M1 hm1 hc1 hv => ?_)
    have hI1 := hI.qx hm1 hc1
    have hW := hI1.X.W
    refine pj_C72_23 (14 * t) (qf_dW D) (by omega) hW (by omega) (by omega) (pj_C72_42 ?_)
    have hW2 : (pj_cpy M1 33 36 (14 * t) 0 (qf_dW D)) 2 0 = (qf_dW D : Int) := hW
    rw [hW2]
    -- the reference, over the class's new row
    have c36 : ∀ a, a ≠ 36 → a ≠ 1 → (pj_up (pj_cpy M1 33 36 (14 * t) 0 (qf_dW D)) 1 5 (qf_dW D : Int)) a = M1 a := by
      intro a h1 h2
      funext k
      rw [pj_up_else h2]
      unfold pj_cpy
      rw [if_neg (fun w => h1 w.1)]
    have v36 : ∀ w, w < qf_dW D → (pj_up (pj_cpy M1 33 36 (14 * t) 0 (qf_dW D)) 1 5 (qf_dW D : Int)) 36 w = (qf_dU D t w : Int) := by
      intro w hw
      rw [pj_up_else (by decide)]
      unfold pj_cpy
      rw [if_pos ⟨rfl, by omega, by omega⟩, Nat.sub_zero]
      exact hv w hw
    have hY2 : qf_Y D (pj_up (pj_cpy M1 33 36 (14 * t) 0 (qf_dW D)) 1 5 (qf_dW D : Int)) := hI1.Y.far (fun a _ _ => c36 a (by omega) (by omega)) (fun k _ _ => by rw [c36 38 (by decide) (by decide)])
    refine pj_B152_1000 ⟨by omega, by omega⟩ ?_
    have eX : (pj_up (pj_cpy M1 33 36 (14 * t) 0 (qf_dW D)) 1 5 (qf_dW D : Int)) 0 = M 0 := by rw [c36 0 (by decide) (by decide)]; exact hm1 0 (by decide)
    rw [e1, Int.toNat_natCast, eX]
    refine pj_C145_0 (qf_isTickY hI.ok hY2 hr (fun t' ht' htl' => pj_C145_5 (by omega) (fun _ => pj_C145_15 ?_) (fun w => absurd w (by decide))) (fun hno => absurd htl (hno t ht)))
    rw [ht]
    refine qf_dueAllY (d := d + 34) hI.ok hI.E hY2 (by omega) (fun M3 hm3 hs3 hv3 => pj_C145_20 ?_)
    have hs17 : (pj_up M3 38 39 (M3 38 17)) 38 17 = (qf_dW D : Int) := by rw [pj_up_slot (by decide), hs3 17 (by decide)]; exact hY2.W
    have loop : ∀ (q n : Nat) (M4 : pj_M), n + q = qf_dW D → qf_fr [66] (pj_up M3 38 39 (M3 38 17)) M4 → (∀ w, w < n → M4 66 w = (qf_dU D t w : Int)) → pj_G L (d + 34 + 5) 145 30 [pj_vR 38, pj_vU, pj_vI (n : Int)] [] M4 (fun r M1' => pj_G L (d + 34 + 5 + 1) 152 1009 [pj_vR 0, pj_vR 1, pj_vR 38, pj_vI (X : Int)] (r.toList ++ [pj_vI (qf_dW D : Int)]) M1' Q) := by
      intro q
      induction q with
      | zero =>
        intro n M4 en hm4 a
        have e17 : M4 38 17 = (qf_dW D : Int) := by rw [hm4 38 (by decide)]; exact hs17
        obtain rfl : n = qf_dW D := by omega
        refine pj_C145_30 (by omega) (by omega) (fun _ => pj_C145_56 ?_) (fun c => by omega)
        rw [e17]
        refine pj_B152_1009 (fun _ => go M4 ⟨D, ?_⟩) (fun c => absurd rfl c)
        -- all places but the rows, told from the class's query on
        have f : ∀ a, a ≠ 1 → a ≠ 36 → a ≠ 38 → a ≠ 59 → a ≠ 60 → a ≠ 66 → M4 a = M1 a := by
          intro a h1 h2 h3 h4 h5 h6
          rw [hm4 a (by simpa using h6)]
          have : (pj_up M3 38 39 (M3 38 17)) a = M3 a := by funext k; exact pj_up_else h3
          rw [this, hm3 a (by simp only [List.mem_cons, List.not_mem_nil, or_false, not_or]; omega), c36 a h2 h1]
        have f38 : ∀ k, k ≠ 39 → k ≠ 23 → k ≠ 24 → M4 38 k = M1 38 k := by
          intro k h1 h2 h3
          rw [hm4 38 (by decide), pj_up_slot h1, hs3 k (by simp only [List.mem_cons, List.not_mem_nil, or_false, not_or]; omega), c36 38 (by decide) (by decide)]
        have f1 : M4 1 5 = (qf_dW D : Int) := by
          rw [hm4 1 (by decide), pj_up_else (by decide), hm3 1 (by decide), pj_up_same]
        have f39 : M4 38 39 = (qf_dW D : Int) := by
          rw [hm4 38 (by decide), pj_up_same, hs3 17 (by decide)]
          exact hY2.W
        obtain ⟨b1, b2, b3, b4, b5, b6⟩ := hI1.R
        refine ⟨hI.ok, hI.E, hI1.X.keep (fun a h1 h2 => f a (by omega) (by omega) (by omega) (by omega) (by omega) (by omega)), hI1.cX.far (fun a h1 h2 => f a (by omega) (by omega) (by omega) (by omega) (by omega) (by omega)), hI1.Y.far (fun a h1 h2 => f a (by omega) (by omega) (by omega) (by omega) (by omega) (by omega)) (fun k h1 h2 => f38 k (by omega) (by omega) (by omega)), hI1.cY.far (f38 34 (by decide) (by decide) (by decide)) (f38 35 (by decide) (by decide) (by decide)) (f 64 (by decide) (by decide) (by decide) (by decide) (by decide) (by decide)) (f 65 (by decide) (by decide) (by decide) (by decide) (by decide) (by decide)), ?_⟩
        refine ⟨by rw [f1, f39], by omega, by omega, fun i hi => ?_, ?_, ?_⟩
        · rw [f1] at hi
          rw [a i (by omega), hm4 36 (by decide), pj_up_else (by decide), hm3 36 (by decide)]
          exact v36 i (by omega)
        · rw [f 37 (by decide) (by decide) (by decide) (by decide) (by decide) (by decide), f 56 (by decide) (by decide) (by decide) (by decide) (by decide) (by decide)]
          exact b5
        · rw [f 0 (by decide) (by decide) (by decide) (by decide) (by decide) (by decide)]
          exact b6
      | succ q ih =>
        intro n M4 en hm4 a
        have e17 : M4 38 17 = (qf_dW D : Int) := by rw [hm4 38 (by decide)]; exact hs17
        have e59 : M4 59 n = (qf_dU D t n : Int) := by rw [hm4 59 (by decide), pj_up_else (by decide)]; exact (hv3 n (by omega)).1
        refine pj_C145_30 (by omega) (by omega) (fun c => by omega) (fun _ => pj_C145_38 n rfl (by omega) (ih (n + 1) _ (by omega) (hm4.up (by decide)) (fun w hw => ?_)))
        by_cases z : w = n
        · rw [z, pj_up_same, e59]
        · rw [pj_up_slot z]
          exact a w (by omega)
    exact loop (qf_dW D) 0 _ (by omega) qf_fr.refl (fun w hw => absurd hw (by omega))
  · have hw := hI.rfX 3
    refine pj_B152_1000 ⟨by omega, by omega⟩ ?_
    have eX : (pj_rfX M 3) 0 = M 0 := rfl
    rw [e1, Int.toNat_natCast, eX]
    exact pj_C145_0 (qf_isTickY hw.ok hw.Y hr (fun t ht htl => absurd htl (hno t ht)) (fun _ => pj_C145_5 (by omega) (fun w => absurd rfl w) (fun _ => pj_C145_8 (pj_no 3 (by decide) (pj_C145_14 (pj_B152_1009 (fun _ => go _ ⟨D, hw.rfY⟩) (fun c => absurd rfl c)))))))
