/-! quarrels, quarrel, judge, agrees. -/
section QFCB
variable {L d : Nat} {Q : Option pj_V → pj_M → Prop} {D : qf_D} {M : pj_M} {set : Nat}
/-- the reference's quarrelAt: i below 0 (or beyond): all are counted; else number i is told -/
theorem qf_quarrelAtY (hD : qf_okD D) (hE : qf_okE D) {M0 : pj_M} (hY : qf_Y D M0) {x : Int} (hx : -1 ≤ x) (hx2 : x < 2147483648)
    (h : ∀ M' y, qf_fr qf_quL M0 M' → qf_fs 38 [23, 24, 36] M0 M' → (¬ (0 ≤ x ∧ x < ((qf_ql D).length : Int)) → y = -1 ∧ M' 38 36 = ((qf_ql D).length : Int)) → ((0 ≤ x ∧ x < ((qf_ql D).length : Int)) → y = ((qf_ql D).getD x.toNat 0 : Int)) → Q (some (pj_vI y)) M') : pj_G L (d + 8) 134 0 [pj_vR 38, pj_vI x, pj_vU] [] M0 Q := by
  have hb := hD.b
  have hnm : qf_nm D < 2 ^ qf_dP D := qf_msk_lt _ _
  have hnm7 : qf_nm D < 128 := qf_msk_lt7 _ hb.2.1
  have hP7 : 2 ^ qf_dP D ≤ 128 := (Nat.pow_le_pow_right (show 0 < 2 by omega) (show qf_dP D ≤ 7 by omega) : 2 ^ qf_dP D ≤ 2 ^ 7)
  have stop : qf_ql D = qf_fm (qf_qua D) (qf_nm D) (List.range (2 ^ qf_dP D)) := by
    refine qf_fm_rstop (128 - 2 ^ qf_dP D) (2 ^ qf_dP D) (by omega) (fun s h1 h3 hmin => ?_)
    have := qf_sub_le hmin.1 hnm7 hmin.2.1
    omega
  -- what is told first stands first
  have pre : ∀ (r n : Nat), n + r = 128 → ∃ t, qf_ql D = qf_fm (qf_qua D) (qf_nm D) (List.range n) ++ t := by
    intro r
    induction r with
    | zero =>
      intro n e
      obtain rfl : n = 128 := by omega
      exact ⟨[], by rw [List.append_nil]; rfl⟩
    | succ r ih =>
      intro n e
      obtain ⟨t, ht⟩ := ih (n + 1) (by omega)
      refine ⟨qf_fm (qf_qua D) (qf_nm D) [n] ++ t, ?_⟩
      rw [ht, qf_fm_range, List.append_assoc]
  have loop : ∀ (r n : Nat) (M : pj_M), n + r = 2 ^ qf_dP D → qf_fr qf_quL M0 M → qf_fs 38 [23, 24, 36] M0 M → M 38 36 = ((qf_fm (qf_qua D) (qf_nm D) (List.range n)).length : Int) → (0 ≤ x → ((qf_fm (qf_qua D) (qf_nm D) (List.range n)).length : Int) ≤ x) → pj_G L (d + 8) 134 7 [pj_vR 38, pj_vI x, pj_vI (n : Int)] [] M Q := by
    intro r
    induction r with
    | zero =>
      intro n M e hm hs e36 hxl
      have hk : qf_kY M0 M := ⟨fun a h1 h2 => hm a (by simp only [List.mem_cons, List.not_mem_nil, or_false, not_or]; omega), fun k h1 h2 => hs k (by simp only [List.mem_cons, List.not_mem_nil, or_false, not_or]; omega)⟩
      have hsh := (qf_shl_P hD (hY.keep hk : qf_Y D M)).1
      obtain rfl : n = 2 ^ qf_dP D := by omega
      rw [← stop] at e36 hxl
      refine pj_C134_7 (by omega) (fun _ => pj_C134_63 (h M (-1) hm hs (fun _ => ⟨rfl, e36⟩) (fun z => by have := hxl z.1; omega))) (fun c => by omega)
    | succ r ih =>
      intro n M e hm hs e36 hxl
      have hk : qf_kY M0 M := ⟨fun a h1 h2 => hm a (by simp only [List.mem_cons, List.not_mem_nil, or_false, not_or]; omega), fun k h1 h2 => hs k (by simp only [List.mem_cons, List.not_mem_nil, or_false, not_or]; omega)⟩
      have hY' : qf_Y D M := hY.keep hk
      have hsh := (qf_shl_P hD hY').1
      have hn : n < 128 := by omega
      have hlen := qf_fm_len (A := qf_qua D) (m := qf_nm D) (List.nodup_range (n := n))
      have skip : ∀ M1, qf_fr qf_quL M0 M1 → qf_fs 38 [23, 24, 36] M0 M1 → M1 38 36 = M 38 36 → ¬ qf_min (qf_qua D) (qf_nm D) n → pj_G L (d + 8) 134 57 [pj_vR 38, pj_vI x, pj_vI (n : Int)] [] M1 Q := by
        intro M1 f1 f2 f3 hno
        have := ih (n + 1) M1 (by omega) f1 f2
        rw [qf_fm_range, qf_fm_no hno, List.append_nil] at this
        exact pj_C134_57 (this (by rw [f3]; exact e36) hxl)
      refine pj_C134_7 (by omega) (fun c => by omega) (fun _ => pj_C134_17 (qf_hasMeterY hD hY' hn (fun hmet => ?_) (fun hmet => ?_)))
      · refine pj_C134_22 (by omega) (fun _ => skip M hm hs rfl (fun hmin => ?_)) (fun z => absurd z (by decide))
        obtain ⟨p, p1, p2, p3⟩ := hmet
        have := hmin.2.1 p (by omega) p2
        rw [qf_nm_bit, decide_eq_true_iff] at this
        exact this.2 p3
      · have hsub : qf_sub n (qf_nm D) := by
          intro p hp hbit
          rw [qf_nm_bit, decide_eq_true_iff]
          have hpP : p < qf_dP D := by
            refine Nat.lt_of_not_le (fun z => ?_)
            rw [Nat.testBit_lt_two_pow (Nat.lt_of_lt_of_le (by omega : n < 2 ^ qf_dP D) (Nat.pow_le_pow_right (by omega) z))] at hbit
            cases hbit
          exact ⟨hpP, fun z => hmet ⟨p, hpP, hbit, z⟩⟩
        have hqm := qf_qua_min hD hn hsub
        refine pj_C134_22 (by omega) (fun z => absurd rfl z) (fun _ => pj_C134_25 (qf_judgedY hD hE hY' hn (fun M1 j hm1 hj => ?_)))
        have g1 : qf_fr qf_quL M0 M1 := hm.trans hm1.1 (fun _ z => z)
        have g2 : qf_fs 38 [23, 24, 36] M0 M1 := hs.trans hm1.2 (by decide)
        have g3 : M1 38 36 = M 38 36 := hm1.2 36 (by decide)
        by_cases hj2 : j = 2
        · have hmin : qf_min (qf_qua D) (qf_nm D) n := by
            rcases hj with ⟨j1, -⟩ | ⟨j1, -⟩ | ⟨-, j1⟩
            · omega
            · omega
            · exact hqm.mpr j1
          obtain ⟨t, ht⟩ := pre (128 - (n + 1)) (n + 1) (by omega)
          rw [qf_fm_range, qf_fm_one hmin] at ht
          refine pj_C134_30 (by omega) (fun _ => ?_) (fun z => absurd hj2 z)
          refine pj_C134_37 (by omega) ⟨by omega, hx2⟩ (fun z => pj_C134_47 (pj_C134_57 ?_)) (fun z => pj_C134_45 (h M1 _ g1 g2 (fun w => ?_) (fun w => ?_)))
          · have := ih (n + 1) (pj_up M1 38 36 (M1 38 36 + 1)) (by omega) (g1.up (by decide)) (g2.up (by decide))
            rw [qf_fm_range, qf_fm_one hmin, List.length_append, List.length_singleton] at this
            refine this (by rw [pj_up_same]; omega) (fun y => ?_)
            have := hxl y
            omega
          · exfalso
            apply w
            rw [ht, List.length_append, List.length_append, List.length_singleton]
            omega
          · have ex : x.toNat = (qf_fm (qf_qua D) (qf_nm D) (List.range n)).length := by omega
            rw [ht, ex, List.getD_eq_getElem?_getD, List.getElem?_append_left (by rw [List.length_append, List.length_singleton]; omega), List.getElem?_append_right (Nat.le_refl _), Nat.sub_self]
            rfl
        · refine pj_C134_30 (by rcases hj with ⟨j1, -⟩ | ⟨j1, -⟩ | ⟨j1, -⟩ <;> omega) (fun z => absurd z hj2) (fun _ => pj_C134_34 (skip M1 g1 g2 g3 (fun hmin => ?_)))
          have := hqm.mp hmin
          exact hj2 (qf_jud_uni hj (Or.inr (Or.inr ⟨rfl, this⟩)))
  refine pj_C134_0 (loop (2 ^ qf_dP D) 0 _ (by omega) (qf_fr.refl.up (by decide)) (qf_fs.refl.up (by decide)) pj_up_same (fun z => ?_))
  show ((0 : Nat) : Int) ≤ x
  omega
theorem qf_quY {M M' : pj_M} (hm : qf_fr qf_quL M M') (hs : qf_fs 38 [23, 24, 36] M M') : qf_fr qf_yL M M' ∧ qf_fs 38 [23, 24, 34, 35, 36] M M' ∧ ∀ D, qf_cY D M → qf_cY D M' := ⟨hm.wide (by decide), fun k hk => hs k (by simp only [List.mem_cons, List.not_mem_nil, or_false, not_or] at hk ⊢; omega), fun D h => h.far (hs 34 (by decide)) (hs 35 (by decide)) (hm 64 (by decide)) (hm 65 (by decide))⟩
theorem qf_arePartsX (hD : qf_okD D) (hX : qf_X D M) {x : Int} (hr : -2147483648 ≤ x ∧ x < 2147483648) (h1 : (0 ≤ x ∧ x < ((2 ^ qf_dP D : Nat) : Int)) → Q (some (pj_vI 1)) M) (h0 : ¬ (0 ≤ x ∧ x < ((2 ^ qf_dP D : Nat) : Int)) → Q (some (pj_vI 0)) M) : pj_G L d 81 0 [pj_vR 1, pj_vI x] [] M Q := by
  have hb := hD.b
  have hu := qf_ushr0 hr.1 hr.2 (j := qf_dP D) (by omega)
  have hP := hX.P
  refine pj_C81_0 (fun z => pj_C81_16 (pj_C81_17 (Or.inl rfl) (h0 (fun y => z ?_)))) (fun z => pj_C81_12 (pj_C81_17 (Or.inr rfl) (h1 ?_)))
  · rw [hP]; exact hu.mpr y
  · rw [hP] at z; exact hu.mp z
end QFCB
theorem qf_case_quarrels : pj_Case qf_I 810 := by
  rintro L d Q M x h0 h5 hL ⟨D, hI⟩ go
  refine pj_B152_810 (pj_C65_0 (qf_findQuarrelsX (d := d + 17) hI.ok hI.E hI.X hI.cX (fun M1 hm1 hc1 h3 => pj_C65_7 ?_)))
  have hI1 := hI.qx hm1 hc1
  refine pj_B152_814 (pj_C135_0 (qf_quarrelAtY (d := d + 30) hI1.ok hI1.E hI1.Y (by omega) (by omega) (fun M2 y hm2 hs2 hy _ => pj_C135_5 ?_)))
  rw [(hy (by omega)).2]
  obtain ⟨q1, q2, q3⟩ := qf_quY hm2 hs2
  exact pj_B152_818 (fun _ => go M2 ⟨D, hI1.qy q1 q2 (q3 D hI1.cY)⟩) (fun c => absurd rfl c)
theorem qf_case_quarrel : pj_Case qf_I 823 := by
  rintro L d Q M x h0 h5 hL ⟨D, hI⟩ go
  have hl35 := qf_ql_len D
  obtain ⟨X, rfl⟩ : ∃ X : Nat, x = (X : Int) := ⟨x.toNat, by omega⟩
  have hr := hI.rng (X + 1) (by omega)
  have e1 : pj_nrm ((X : Int) + 1) = ((X + 1 : Nat) : Int) := pj_nk (by omega) (by omega)
  have fin : ∀ (M1 : pj_M), qf_IP D L M1 → M1 0 (X + 1) = M 0 (X + 1) → 0 ≤ M 0 (X + 1) → M 0 (X + 1) < ((qf_ql D).length : Int) → pj_G L (d + 40) 152 832 [pj_vR 0, pj_vR 1, pj_vR 38, pj_vI (X : Int)] [pj_vI ((qf_ql D).getD (M 0 (X + 1)).toNat 0 : Int)] M1 Q := by
    intro M1 hI1 e0 g1 g2
    refine pj_B152_832 ⟨by omega, by omega⟩ ?_
    rw [e1, Int.toNat_natCast, e0]
    refine pj_C136_0 hr (fun _ => pj_C136_8 ?_) (fun z => by omega)
    refine qf_quarrelAtY (d := d + 30) hI1.ok hI1.E hI1.Y (by omega) (by omega) (fun M2 y hm2 hs2 _ hy => ?_)
    obtain ⟨q1, q2, q3⟩ := qf_quY hm2 hs2
    rw [hy ⟨g1, g2⟩]
    have hidx : (M 0 (X + 1)).toNat < (qf_ql D).length := by omega
    have hmem : (qf_ql D).getD (M 0 (X + 1)).toNat 0 ∈ qf_ql D := qf_lst_mem.mpr ⟨_, hidx, rfl⟩
    have hlt : (qf_ql D).getD (M 0 (X + 1)).toNat 0 < 128 := (qf_fm_mem.mp hmem).2.1
    exact pj_C136_13 (by omega) (fun z => by omega) (fun _ => pj_C136_18 (pj_C136_28 (pj_B152_841 (fun _ => go M2 ⟨D, hI1.qy q1 q2 (q3 D hI1.cY)⟩) (fun c => absurd rfl c))))
  have bad : ∀ (M1 : pj_M), qf_IP D L M1 → M1 0 (X + 1) = M 0 (X + 1) → ¬ (0 ≤ M 0 (X + 1) ∧ M 0 (X + 1) < ((qf_ql D).length : Int)) → pj_G L (d + 40) 152 832 [pj_vR 0, pj_vR 1, pj_vR 38, pj_vI (X : Int)] [pj_vI (-3)] (pj_rfX M1 3) Q := by
    intro M1 hI1 e0 g
    have hw := hI1.rfX 3
    refine pj_B152_832 ⟨by omega, by omega⟩ ?_
    have e0' : (pj_rfX M1 3) 0 (X + 1) = M 0 (X + 1) := e0
    rw [e1, Int.toNat_natCast, e0']
    refine pj_C136_0 hr (fun z => pj_C136_8 ?_) (fun z => pj_C136_4 (pj_C136_13 (by omega) (fun _ => pj_C136_22 (pj_no 3 (by decide) (pj_C136_28 ?_))) (fun y => absurd y (by decide))))
    · refine qf_quarrelAtY (d := d + 30) hw.ok hw.E hw.Y (by omega) (by omega) (fun M2 y hm2 hs2 hy _ => ?_)
      obtain ⟨q1, q2, q3⟩ := qf_quY hm2 hs2
      rw [(hy g).1]
      exact pj_C136_13 (by omega) (fun _ => pj_C136_22 (pj_no 3 (by decide) (pj_C136_28 (pj_B152_841 (fun _ => go _ ⟨D, (hw.qy q1 q2 (q3 D hw.cY)).rfY⟩) (fun c => absurd rfl c))))) (fun w => absurd w (by decide))
    · exact pj_B152_841 (fun _ => go _ ⟨D, hw.rfY⟩) (fun c => absurd rfl c)
  refine pj_B152_823 ⟨by omega, by omega⟩ ?_
  rw [e1, Int.toNat_natCast]
  refine pj_C66_0 hr (fun z => pj_C66_15 (pj_refuse 3 (by decide) (pj_C66_21 (bad M hI rfl (by omega))))) (fun z => pj_C66_4 ?_)
  refine qf_findQuarrelsX (d := d + 17) hI.ok hI.E hI.X hI.cX (fun M1 hm1 hc1 h3 => ?_)
  have hI1 := hI.qx hm1 hc1
  have e0 : M1 0 (X + 1) = M 0 (X + 1) := by rw [hm1 0 (by decide)]
  refine pj_C66_12 hr (by omega) (fun y => pj_C66_22 (M 0 (X + 1)).toNat (by omega) (by omega) ?_) (fun y => pj_C66_15 (pj_refuse 3 (by decide) (pj_C66_21 (bad M1 hI1 e0 (by omega)))))
  rcases hc1.2.2.2.2 with w | ⟨-, w⟩
  · omega
  · rw [w _ (by omega)]
    exact fin M1 hI1 e0 z y
