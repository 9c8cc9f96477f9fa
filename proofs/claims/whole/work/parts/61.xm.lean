/-! THE CLASS: findStories, findQuarrels. -/
section QFXM
variable {L d : Nat} {Q : Option pj_V → pj_M → Prop} {D : qf_D}
/-- a mask of three -/
theorem qf_mask3 {a b c : Nat} (ha : a < 128) (hb : b < 128) (hc : c < 128) : ∃ s : Nat, pj_and (pj_and (a : Int) (pj_xor (b : Int) (-1))) (pj_xor (c : Int) (-1)) = (s : Int) ∧ s < 128 ∧ ∀ k, s.testBit k = (a.testBit k && !b.testBit k && !c.testBit k) := by
  have bits : ∀ k, k < 32 → pj_bt (pj_and (pj_and (a : Int) (pj_xor (b : Int) (-1))) (pj_xor (c : Int) (-1))) k = (a.testBit k && !b.testBit k && !c.testBit k) := by
    intro k hk
    rw [pj_bt_and, pj_bt_and, pj_bt_not _ hk, pj_bt_not _ hk, pj_bt_nat k (by omega), pj_bt_nat k (by omega), pj_bt_nat k (by omega)]
  have hi : ∀ k, 7 ≤ k → a.testBit k = false := fun k hk => Nat.testBit_lt_two_pow (Nat.lt_of_lt_of_le (by omega : a < 2 ^ 7) (Nat.pow_le_pow_right (by omega) hk))
  obtain ⟨s, s1, s2⟩ := pj_bt_small (n := 7) (by omega) (pj_and_rng _ _).1 (pj_and_rng _ _).2 (fun k h1 h2 => by rw [bits k h2, hi k h1]; rfl)
  refine ⟨s, s1, s2, fun k => ?_⟩
  by_cases hk : k < 32
  · have := bits k hk
    rw [s1, pj_bt_nat k (by omega)] at this
    exact this
  · rw [hi k (by omega), Nat.testBit_lt_two_pow (Nat.lt_of_lt_of_le (by omega : s < 2 ^ 7) (Nat.pow_le_pow_right (by omega) (by omega)))]
    rfl
theorem qf_mask2 {a b : Nat} (ha : a < 128) (hb : b < 128) : ∃ s : Nat, pj_and (a : Int) (pj_xor (b : Int) (-1)) = (s : Int) ∧ s < 128 ∧ ∀ k, s.testBit k = (a.testBit k && !b.testBit k) := by
  have bits : ∀ k, k < 32 → pj_bt (pj_and (a : Int) (pj_xor (b : Int) (-1))) k = (a.testBit k && !b.testBit k) := by
    intro k hk
    rw [pj_bt_and, pj_bt_not _ hk, pj_bt_nat k (by omega), pj_bt_nat k (by omega)]
  have hi : ∀ k, 7 ≤ k → a.testBit k = false := fun k hk => Nat.testBit_lt_two_pow (Nat.lt_of_lt_of_le (by omega : a < 2 ^ 7) (Nat.pow_le_pow_right (by omega) hk))
  obtain ⟨s, s1, s2⟩ := pj_bt_small (n := 7) (by omega) (pj_and_rng _ _).1 (pj_and_rng _ _).2 (fun k h1 h2 => by rw [bits k h2, hi k h1]; rfl)
  refine ⟨s, s1, s2, fun k => ?_⟩
  by_cases hk : k < 32
  · have := bits k hk
    rw [s1, pj_bt_nat k (by omega)] at this
    exact this
  · rw [hi k (by omega), Nat.testBit_lt_two_pow (Nat.lt_of_lt_of_le (by omega : s < 2 ^ 7) (Nat.pow_le_pow_right (by omega) (by omega)))]
    rfl
theorem qf_may_bit {k : Nat} : (qf_may D).testBit k = decide (k < qf_dP D ∧ qf_kd D k ≠ 4 ∧ qf_sn D k = 0) := by
  unfold qf_may
  rw [qf_msk_bit]
  unfold qf_mayc
  exact decide_eq_decide.mpr ⟨fun z => ⟨z.1, of_decide_eq_true z.2⟩, fun z => ⟨z.1, decide_eq_true z.2⟩⟩
theorem qf_nm_bit {k : Nat} : (qf_nm D).testBit k = decide (k < qf_dP D ∧ qf_kd D k ≠ 4) := by
  unfold qf_nm
  rw [qf_msk_bit]
  unfold qf_nmc
  exact decide_eq_decide.mpr ⟨fun z => ⟨z.1, of_decide_eq_true z.2⟩, fun z => ⟨z.1, decide_eq_true z.2⟩⟩
/-- stories -/
theorem qf_findStoriesX (hD : qf_okD D) (hE : qf_okE D) {M : pj_M} (hX : qf_X D M) (hc : qf_cX D M) (h : ∀ M', qf_fr qf_cL M M' → qf_cX D M' → M' 22 3 = ((qf_sl D).length : Int) → Q (some (pj_vI ((qf_sl D).length : Int))) M') : pj_G L (d + 21) 6 0 [pj_vR 22, pj_vU, pj_vU, pj_vU, pj_vU, pj_vU] [] M Q := by
  have hb := hD.b
  have hl35 := qf_sl_len D
  have h34 := hc.2.2.2.1
  rcases h34 with z | z
  · refine pj_C6_0 (by omega) (fun _ => pj_C6_13 ?_) (fun y => absurd z y)
    refine qf_prepX (d := d + 17) hD hX hc (fun M1 N hm1 hs1 hc1 h8 hpp => pj_C6_17 ?_)
    have hX1 : qf_X D M1 := hX.keep (qf_kX.of hm1 (by decide))
    obtain ⟨cn, c1, c2, c3, c4⟩ := hpp.2.2.2.2.1
    obtain ⟨mt, t1, t2, t3⟩ := hX1.mt
    obtain ⟨sb, b1, b2, b3⟩ := hX1.sb
    obtain ⟨sus, s1, s2, s3⟩ := qf_mask3 c2 t2 b2
    rw [c1, t1, b1, s1]
    have sus_may : ∀ x, qf_sub x sus → qf_sub x (qf_may D) := by
      intro x hx p hp h1
      have := hx p hp h1
      rw [s3 p, t3 p, b3 p] at this
      rw [qf_may_bit, decide_eq_true_iff]
      simp only [Bool.and_eq_true, Bool.not_eq_true', decide_eq_false_iff_not] at this
      have h2 := c4 p this.1.1
      refine ⟨h2, fun y => this.1.2 ⟨h2, y⟩, ?_⟩
      have h4 := hE.2.2.2 p hp
      have : ¬ qf_sn D p = 1 := fun y => this.2 ⟨hp, y⟩
      omega
    have min_sus : ∀ x, qf_min (qf_agr D) (qf_may D) x → qf_sub x sus := by
      intro x hx p hp h1
      have h2 := qf_min_in (c := cn) (fun s _ => qf_agr_cn hD hpp.2.1 c3 s) hx p hp h1
      have h3 := hx.2.1 p hp h1
      rw [qf_may_bit, decide_eq_true_iff] at h3
      rw [s3 p, t3 p, b3 p, h2]
      simp only [Bool.and_eq_true, Bool.not_eq_true', decide_eq_false_iff_not]
      exact ⟨⟨trivial, fun y => h3.2.1 y.2⟩, fun y => by have := y.2; omega⟩
    -- what stays while the sets are gone through
    have e7 : (pj_up M1 22 7 0) 22 7 = 0 := pj_up_same
    have outer : ∀ (r z : Nat) (M2 : pj_M), z + r = 4 → qf_fr qf_cL M M2 → qf_cX D (pj_up M2 22 7 0) → M2 22 7 = 0 → M2 22 3 = -1 → M2 22 8 = 1 → qf_pp D N M2 → qf_lst M2 23 (qf_fm (qf_agr D) (qf_may D) (qf_cb z 0)) → pj_G L (d + 21) 6 54 [pj_vR 22, pj_vI (sus : Int), pj_vI ((qf_fm (qf_agr D) (qf_may D) (qf_cb z 0)).length : Int), pj_vI (z : Int), pj_vU, pj_vU] [] M2 Q := by
      intro r
      induction r with
      | zero =>
        intro z M2 ez hm2 hc2 g7 g3 g8 hpp2 hl
        obtain rfl : z = 4 := by omega
        rw [qf_cb_next] at hl ⊢
        have hlen : (qf_fm (qf_agr D) (qf_may D) (qf_cb 3 128)).length = (qf_sl D).length := rfl
        refine pj_C6_54 (by omega) (fun _ => pj_C6_161 (h _ (hm2.up (by decide)) ?_ pj_up_same)) (fun c => by omega)
        obtain ⟨k1, k2, k3, k4, k5⟩ := hc2
        have o28 : ∀ (a : Nat), a ≠ 22 → (pj_up M2 22 3 ((qf_fm (qf_agr D) (qf_may D) (qf_cb 3 128)).length : Int)) a = M2 a := fun a ha => by funext k; exact pj_up_else ha
        have p28 : ∀ (a : Nat), a ≠ 22 → (pj_up M2 22 7 0) a = M2 a := fun a ha => by funext k; exact pj_up_else ha
        refine ⟨?_, ?_, Or.inr ⟨?_, N, hpp2.keep (o28 27 (by decide)) (by rw [o28 26 (by decide)]) (by rw [o28 26 (by decide)]) (hpp2.2.2.2.2.2.same (o28 33 (by decide)))⟩, Or.inr ⟨?_, pj_up_same, ?_, 0, ?_, by decide, fun i _ hi => by rw [Nat.zero_testBit] at hi; cases hi⟩, ?_⟩
        · rw [o28 28 (by decide), ← p28 28 (by decide)]; exact k1
        · rw [o28 31 (by decide), ← p28 31 (by decide)]; exact k2
        · rw [pj_up_slot (by decide)]; exact g8
        · rw [pj_up_slot (by decide)]; exact g8
        · intro i hi
          rw [o28 23 (by decide)]
          exact hl i hi
        · rw [pj_up_slot (by decide), g7]; rfl
        · unfold qf_lst at k5 ⊢
          rw [p28 24 (by decide), pj_up_slot (by decide)] at k5
          rw [o28 24 (by decide), pj_up_slot (by decide)]
          exact k5
      | succ r ih =>
        intro z M2 ez hm2 hc2 g7 g3 g8 hpp2 hl
        refine pj_C6_54 (by omega) (fun c => by omega) (fun _ => pj_C6_59 ?_)
        have stop : qf_fm (qf_agr D) (qf_may D) (qf_cb z 128) = qf_fm (qf_agr D) (qf_may D) (qf_cb z (sus + 1)) := by
          refine qf_fm_stop (128 - (sus + 1)) (sus + 1) (by omega) (fun s h1 h3 hmin => ?_)
          have := qf_sub_le hmin.1 s2 (min_sus s hmin)
          omega
        have inner : ∀ (q n : Nat) (M3 : pj_M), n + q = sus + 1 → qf_fr qf_cL M M3 → qf_cX D (pj_up M3 22 7 0) → M3 22 7 = 0 → M3 22 3 = -1 → M3 22 8 = 1 → qf_pp D N M3 → qf_lst M3 23 (qf_fm (qf_agr D) (qf_may D) (qf_cb z n)) → pj_G L (d + 21) 6 62 [pj_vR 22, pj_vI (sus : Int), pj_vI ((qf_fm (qf_agr D) (qf_may D) (qf_cb z n)).length : Int), pj_vI (z : Int), pj_vI (n : Int), pj_vU] [] M3 Q := by
          intro q
          induction q with
          | zero =>
            intro n M3 en hm3 hc3 g7 g3 g8 hpp3 hl3
            obtain rfl : n = sus + 1 := by omega
            refine pj_C6_62 (by omega) (by omega) (fun _ => pj_C6_155 ?_) (fun c => by omega)
            have := ih (z + 1) M3 (by omega) hm3 hc3 g7 g3 g8 hpp3
            rw [qf_cb_next, stop] at this
            exact this hl3
          | succ q ih2 =>
            intro n M3 en hm3 hc3 g7 g3 g8 hpp3 hl3
            have hn : n < 128 := by omega
            have hX3 : qf_X D M3 := hX.keep (qf_kX.of hm3 (by decide))
            have hnd := qf_cb_nodup z n
            have hlen := qf_fm_len (A := qf_agr D) (m := qf_may D) hnd
            have hx : ∀ x ∈ qf_fm (qf_agr D) (qf_may D) (qf_cb z n), x < 128 := fun x hx => (qf_fm_mem.mp hx).2.1
            have hp7 := qf_pop_le ⟨n, hn⟩
            dsimp only at hp7
            have skip : ∀ M4, qf_fr qf_cL M M4 → qf_cX D (pj_up M4 22 7 0) → M4 22 7 = 0 → M4 22 3 = -1 → M4 22 8 = 1 → qf_pp D N M4 → qf_lst M4 23 (qf_fm (qf_agr D) (qf_may D) (qf_cb z n)) → (qf_pop n = z → ¬ qf_min (qf_agr D) (qf_may D) n) → pj_G L (d + 21) 6 149 [pj_vR 22, pj_vI (sus : Int), pj_vI ((qf_fm (qf_agr D) (qf_may D) (qf_cb z n)).length : Int), pj_vI (z : Int), pj_vI (n : Int), pj_vU] [] M4 Q := by
              intro M4 f1 f2 f3 f4 f5 f6 f7 hno
              have e1 : qf_fm (qf_agr D) (qf_may D) (qf_cb z (n + 1)) = qf_fm (qf_agr D) (qf_may D) (qf_cb z n) := by
                by_cases y : qf_pop n = z
                · rw [qf_cb_yes y, qf_fm_app, qf_fm_no (hno y), List.append_nil]
                · rw [qf_cb_not y]
              have := ih2 (n + 1) M4 (by omega) f1 f2 f3 f4 f5 f6
              rw [e1] at this
              exact pj_C6_149 (this f7)
            have nofit : (qf_pop n = z → ¬ qf_min (qf_agr D) (qf_may D) n) → pj_G L (d + 21) 6 90 [pj_vR 22, pj_vI (sus : Int), pj_vI ((qf_fm (qf_agr D) (qf_may D) (qf_cb z n)).length : Int), pj_vI (z : Int), pj_vI (n : Int), pj_vU] [] M3 Q := fun hno => pj_C6_90 (pj_C6_91 (by omega) (fun _ => skip M3 hm3 hc3 g7 g3 g8 hpp3 hl3 hno) (fun y => absurd rfl y))
            refine pj_C6_62 (by omega) (by omega) (fun c => by omega) (fun _ => pj_C6_68 (fun y => nofit (fun _ hmin => y ((qf_andn hn s2).mpr (min_sus n hmin)))) (fun y => ?_))
            have hsub := (qf_andn hn s2).mp y
            refine pj_C6_77 (qf_bitCountX hn (pj_C6_82 (by omega) (by omega) (fun y2 => nofit (fun y3 => by omega)) (fun y2 => pj_C6_86 (pj_C6_91 (by omega) (fun w => absurd w (by decide)) (fun _ => ?_)))))
            have hz : qf_pop n = z := by omega
            have hstep := qf_min_step (A := qf_agr D) (m := qf_may D) hn hz (sus_may n hsub)
            refine pj_C6_98 (by omega) (fun w => skip M3 hm3 hc3 g7 g3 g8 hpp3 hl3 (fun _ hmin => ?_)) (fun w => pj_C6_104 ?_)
            · have e1 : qf_fm (qf_agr D) (qf_may D) (qf_cb z (n + 1)) = qf_fm (qf_agr D) (qf_may D) (qf_cb z n) ++ [n] := by
                rw [qf_cb_yes hz, qf_fm_app, qf_fm_one hmin]
              have h36 := qf_fm_len (A := qf_agr D) (m := qf_may D) (qf_cb_nodup z (n + 1))
              rw [e1, List.length_append, List.length_singleton] at h36
              omega
            · refine qf_holdsX23 hn hlen hl3 hx (fun hhas => ?_) (fun hhas => ?_)
              · refine pj_C6_114 (by omega) (fun _ => skip M3 hm3 hc3 g7 g3 g8 hpp3 hl3 (fun _ hmin => ?_)) (fun w2 => absurd w2 (by decide))
                obtain ⟨a, ha1, ha2⟩ := hhas
                exact (hstep.mpr hmin).2 a ha1 ha2
              · refine pj_C6_114 (by omega) (fun w2 => absurd rfl w2) (fun _ => pj_C6_117 ?_)
                obtain ⟨cn', q1, q2, q3, q4⟩ := hpp3.2.2.2.2.1
                have hnmt : ∀ p, p < qf_dP D → n.testBit p = true → qf_kd D p ≠ 4 := by
                  intro p hp hbit
                  have := sus_may n hsub p (by omega) hbit
                  rw [qf_may_bit, decide_eq_true_iff] at this
                  exact this.2.1
                refine qf_takeStoryX0 (d := d + 19) hD hX3 hn q2 q1 (fun M4 hm4 hs4 h6 h11 hts => pj_C6_127 ?_)
                have hpp4 : qf_pp D N M4 := hpp3.keep (hm4 27 (by decide)) (hs4 12 (by decide)) (hs4 10 (by decide)) (hpp3.2.2.2.2.2.same (hm4 33 (by decide)))
                have e31 : M4 31 7 = 0 := by
                  rw [hm4 31 (by decide)]
                  have := hc3.2.1
                  rw [pj_up_else (by decide)] at this
                  exact this
                have fin : ∀ M5, qf_frT M4 M5 → qf_inX D M5 → qf_fr qf_cL M M5 ∧ qf_cX D (pj_up M5 22 7 0) ∧ M5 22 7 = 0 ∧ M5 22 3 = -1 ∧ M5 22 8 = 1 ∧ qf_pp D N M5 ∧ qf_lst M5 23 (qf_fm (qf_agr D) (qf_may D) (qf_cb z n)) := by
                  intro M5 hT hin
                  have hm35 : qf_fr [26, 29, 30, 31, 32, 33, 34, 35] M3 M5 := (hm4.wide (by decide)).trans hT.1 (by decide)
                  have e22 : M5 22 = M3 22 := hm35 22 (by decide)
                  have hup : qf_fr [26, 29, 30, 31, 32, 33, 34, 35] (pj_up M3 22 7 0) (pj_up M5 22 7 0) := by
                    intro a ha
                    funext k
                    by_cases w1 : a = 22
                    · subst w1
                      by_cases w2 : k = 7
                      · rw [w2, pj_up_same, pj_up_same]
                      · rw [pj_up_slot w2, pj_up_slot w2, e22]
                    · rw [pj_up_else w1, pj_up_else w1, hm35 a ha]
                  refine ⟨hm3.trans hm35 (by decide), hc3.keep hup ?_ ?_ ?_ (hin.same (by funext k; exact pj_up_else (by decide))), by rw [e22]; exact g7, by rw [e22]; exact g3, by rw [e22]; exact g8, hpp4.keep (hT.1 27 (by decide)) (by rw [hT.1 26 (by decide)]) (by rw [hT.1 26 (by decide)]) hin, fun i hi => by rw [hm35 23 (by decide)]; exact hl3 i hi⟩
                  · rw [pj_up_else (by decide)]; exact hT.2
                  · rw [pj_up_else (by decide), pj_up_else (by decide), hT.1 26 (by decide)]; exact hs4 12 (by decide)
                  · rw [pj_up_else (by decide), pj_up_else (by decide), hT.1 26 (by decide)]; exact hs4 10 (by decide)
                have ecn : cn' = cn' := rfl
                refine qf_searchAgr hD hE (hX3.keep (qf_kX.of hm4 (by decide))) hpp4 e31 h6 h11 q3 hnmt hts (fun hag M5 hT hin => ?_) (fun hag M5 hT hin => ?_)
                · obtain ⟨f1, f2, f3, f4, f5, f6, f7⟩ := fin M5 hT hin
                  have hmin := hstep.mp ⟨hag, hhas⟩
                  have e1 : qf_fm (qf_agr D) (qf_may D) (qf_cb z (n + 1)) = qf_fm (qf_agr D) (qf_may D) (qf_cb z n) ++ [n] := by
                    rw [qf_cb_yes hz, qf_fm_app, qf_fm_one hmin]
                  refine pj_C6_135 (by omega) (fun w2 => absurd w2 (by decide)) (fun _ => pj_C6_138 (qf_fm (qf_agr D) (qf_may D) (qf_cb z n)).length rfl (by omega) (pj_C6_149 ?_))
                  have o23 : ∀ (a : Nat), a ≠ 23 → (pj_up M5 23 (qf_fm (qf_agr D) (qf_may D) (qf_cb z n)).length (n : Int)) a = M5 a := fun a ha => by funext k; exact pj_up_else ha
                  have hc5 : qf_cX D (pj_up (pj_up M5 23 (qf_fm (qf_agr D) (qf_may D) (qf_cb z n)).length (n : Int)) 22 7 0) := by
                    obtain ⟨k1, k2, k3, k4, k5⟩ := f2
                    have o : ∀ (a : Nat), a ≠ 23 → (pj_up (pj_up M5 23 (qf_fm (qf_agr D) (qf_may D) (qf_cb z n)).length (n : Int)) 22 7 0) a = (pj_up M5 22 7 0) a := by
                      intro a ha
                      funext k
                      by_cases w1 : a = 22 ∧ k = 7
                      · rw [w1.1, w1.2, pj_up_same, pj_up_same]
                      · unfold pj_up
                        rw [if_neg w1, if_neg w1, if_neg (fun w2 => ha w2.1)]
                    refine ⟨by rw [o 28 (by decide)]; exact k1, by rw [o 31 (by decide)]; exact k2, ?_, Or.inl ?_, ?_⟩
                    · rw [o 22 (by decide)]
                      rcases k3 with w1 | ⟨w1, N', w2⟩
                      · exact Or.inl w1
                      · exact Or.inr ⟨w1, N', w2.keep (o 27 (by decide)) (by rw [o 26 (by decide)]) (by rw [o 26 (by decide)]) (w2.2.2.2.2.2.same (o 33 (by decide)))⟩
                    · rw [pj_up_slot (by decide), o23 22 (by decide)]; exact f4
                    · unfold qf_lst at k5 ⊢
                      rw [o 22 (by decide), o 24 (by decide)]
                      exact k5
                  have := ih2 (n + 1) (pj_up M5 23 (qf_fm (qf_agr D) (qf_may D) (qf_cb z n)).length (n : Int)) (by omega) (f1.up (by decide)) hc5 (by rw [o23 22 (by decide)]; exact f3) (by rw [o23 22 (by decide)]; exact f4) (by rw [o23 22 (by decide)]; exact f5) (f6.keep (o23 27 (by decide)) (by rw [o23 26 (by decide)]) (by rw [o23 26 (by decide)]) (f6.2.2.2.2.2.same (o23 33 (by decide))))
                  rw [e1] at this
                  have g := this (qf_lst_app f7)
                  rw [List.length_append, List.length_singleton] at g
                  exact g
                · obtain ⟨f1, f2, f3, f4, f5, f6, f7⟩ := fin M5 hT hin
                  exact pj_C6_135 (by omega) (fun _ => skip M5 f1 f2 f3 f4 f5 f6 f7 (fun _ hmin => hag hmin.2.2.1)) (fun w2 => absurd rfl w2)
        exact inner (sus + 1) 0 M2 (by omega) hm2 hc2 g7 g3 g8 hpp2 hl
    have o7 : ∀ (a : Nat), a ≠ 22 → (pj_up M1 22 7 0) a = M1 a := fun a ha => by funext k; exact pj_up_else ha
    have hc7 : qf_cX D (pj_up (pj_up M1 22 7 0) 22 7 0) := by
      have e : pj_up (pj_up M1 22 7 0) 22 7 0 = pj_up M1 22 7 0 := by
        funext a k
        unfold pj_up
        split <;> rfl
      rw [e]
      obtain ⟨k1, k2, k3, k4, k5⟩ := hc1
      refine ⟨by rw [o7 28 (by decide)]; exact k1, by rw [o7 31 (by decide)]; exact k2, ?_, Or.inl ?_, ?_⟩
      · rw [pj_up_slot (by decide)]
        exact Or.inr ⟨h8, N, hpp.keep (o7 27 (by decide)) (by rw [o7 26 (by decide)]) (by rw [o7 26 (by decide)]) (hpp.2.2.2.2.2.same (o7 33 (by decide)))⟩
      · rw [pj_up_slot (by decide), hs1 3 (by decide)]; exact z
      · unfold qf_lst at k5 ⊢
        rw [pj_up_slot (by decide), o7 24 (by decide)]
        exact k5
    have go := outer 4 0 (pj_up M1 22 7 0) (by omega) ((hm1.wide (by decide)).up (by decide)) hc7 pj_up_same (by rw [pj_up_slot (by decide), hs1 3 (by decide)]; exact z) (by rw [pj_up_slot (by decide)]; exact h8) (hpp.keep (o7 27 (by decide)) (by rw [o7 26 (by decide)]) (by rw [o7 26 (by decide)]) (hpp.2.2.2.2.2.same (o7 33 (by decide)))) (fun i hi => absurd hi (Nat.not_lt_zero i))
    exact go
  · have := z.2.1
    refine pj_C6_0 (by omega) (fun y => by omega) (fun _ => pj_C6_8 ?_)
    rw [this]
    exact h M qf_fr.refl hc this
end QFXM
