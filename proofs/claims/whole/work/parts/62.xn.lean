/-! THE CLASS: findQuarrels. -/
section QFXN
variable {L d : Nat} {Q : Option pj_V → pj_M → Prop} {D : qf_D}
theorem qf_cX.same {M M' : pj_M} {l : List Nat} (h : qf_cX D M) (hm : qf_fr l M M') (hl : ∀ a ∈ l, a = 24) (h5 : M 22 5 = -1) : qf_cX D M' := by
  have e : ∀ a, a ≠ 24 → M' a = M a := fun a ha => hm a (fun z => ha (hl a z))
  obtain ⟨a1, a2, a3, a4, a5⟩ := h
  refine ⟨by rw [e 28 (by decide)]; exact a1, by rw [e 31 (by decide)]; exact a2, ?_, ?_, Or.inl (by rw [e 22 (by decide)]; exact h5)⟩
  · rw [e 22 (by decide)]
    rcases a3 with z | ⟨z, N, hN⟩
    · exact Or.inl z
    · exact Or.inr ⟨z, N, hN.keep (e 27 (by decide)) (by rw [e 26 (by decide)]) (by rw [e 26 (by decide)]) (hN.2.2.2.2.2.same (e 33 (by decide)))⟩
  · unfold qf_lst
    rw [e 22 (by decide), e 23 (by decide), e 25 (by decide)]
    exact a4
theorem qf_fm_range {A : Nat → Prop} {m n : Nat} : qf_fm A m (List.range (n + 1)) = qf_fm A m (List.range n) ++ qf_fm A m [n] := by
  rw [List.range_succ (n := n), qf_fm_app]
theorem qf_fm_rstop {A : Nat → Prop} {m : Nat} : ∀ (r n : Nat), n + r = 128 → (∀ s, n ≤ s → s < 128 → ¬ qf_min A m s) → qf_fm A m (List.range 128) = qf_fm A m (List.range n)
  | 0, n, e, _ => by
    obtain rfl : n = 128 := by omega
    rfl
  | r + 1, n, e, h => by
    rw [qf_fm_rstop r (n + 1) (by omega) (fun s h1 h2 => h s (by omega) h2), qf_fm_range, qf_fm_no (h n (by omega) (by omega)), List.append_nil]
theorem qf_ql_len (D : qf_D) : (qf_ql D).length ≤ 35 := qf_fm_len List.nodup_range
theorem qf_findQuarrelsX (hD : qf_okD D) (hE : qf_okE D) {M : pj_M} (hX : qf_X D M) (hc : qf_cX D M) (h : ∀ M', qf_fr qf_cL M M' → qf_cX D M' → M' 22 5 = ((qf_ql D).length : Int) → Q (some (pj_vI ((qf_ql D).length : Int))) M') : pj_G L (d + 21) 7 0 [pj_vR 22, pj_vU, pj_vU, pj_vU, pj_vU, pj_vU] [] M Q := by
  have hb := hD.b
  have hl35 := qf_ql_len D
  have h5 := hc.2.2.2.2
  rcases h5 with z | z
  · refine pj_C7_0 (by omega) (fun _ => pj_C7_13 ?_) (fun y => absurd z y)
    refine qf_prepX (d := d + 17) hD hX hc (fun M1 N hm1 hs1 hc1 h8 hpp => pj_C7_17 ?_)
    have hX1 : qf_X D M1 := hX.keep (qf_kX.of hm1 (by decide))
    obtain ⟨cn, c1, c2, c3, c4⟩ := hpp.2.2.2.2.1
    obtain ⟨mt, t1, t2, t3⟩ := hX1.mt
    obtain ⟨sus, s1, s2, s3⟩ := qf_mask2 c2 t2
    rw [c1, t1, s1]
    have sus_bit : ∀ p, sus.testBit p = true ↔ cn.testBit p = true ∧ p < qf_dP D ∧ qf_kd D p ≠ 4 := by
      intro p
      rw [s3 p, t3 p]
      simp only [Bool.and_eq_true, Bool.not_eq_true', decide_eq_false_iff_not]
      exact ⟨fun y => ⟨y.1, c4 p y.1, fun w => y.2 ⟨c4 p y.1, w⟩⟩, fun y => ⟨y.1, fun w => y.2.2 w.2⟩⟩
    have sus_nm : ∀ x, qf_sub x sus → qf_sub x (qf_nm D) := by
      intro x hx p hp hh
      rw [qf_nm_bit, decide_eq_true_iff]
      exact ((sus_bit p).mp (hx p hp hh)).2
    have cb_and : ∀ s, qf_CB D s ↔ qf_CB D (s &&& cn) := by
      intro s
      constructor
      · exact qf_CB_cn hD hpp.2.1 c3 (fun p _ _ _ hh => by rw [Nat.testBit_and, Bool.and_eq_true] at hh; exact hh.1)
      · exact qf_CB_cn hD hpp.2.1 c3 (fun p _ _ hcp hh => by rw [Nat.testBit_and, hh, hcp]; rfl)
    have min_sus : ∀ x, qf_min (qf_qua D) (qf_nm D) x → qf_sub x sus := by
      intro x hx p hp hh
      have h2 := qf_min_in (c := cn) (A := qf_qua D) (fun s _ => by unfold qf_qua; rw [cb_and s]) hx p hp hh
      have h3 := hx.2.1 p hp hh
      rw [qf_nm_bit, decide_eq_true_iff] at h3
      exact (sus_bit p).mpr ⟨h2, h3⟩
    -- one set tried
    have trial : ∀ (set : Nat) (M2 : pj_M) (Q1 Q2 : Option pj_V → pj_M → Prop), set < 128 → qf_fr qf_cL M M2 → qf_cX D M2 → qf_pp D N M2 → M2 22 5 = -1 → (∀ M3, qf_fr qf_cL M M3 → qf_cX D M3 → qf_pp D N M3 → M3 22 5 = -1 → M3 24 = M2 24 → (qf_CB D set → Q1 (some (pj_vI 1)) M3) ∧ (¬ qf_CB D set → Q1 (some (pj_vI 0)) M3)) → (∀ M3, pj_G L (d + 20) 37 0 [pj_vR 26, pj_vI 0, pj_vU, pj_vU, pj_vU] [] M3 Q1 → Q2 none M3) → pj_G L (d + 20) 36 0 [pj_vR 26, pj_vI (set : Int), pj_vU] [] M2 Q2 := by
      intro set M2 Q1 Q2 hset hm2 hc2 hpp2 e5 hq1 hq2
      have hX2 : qf_X D M2 := hX.keep (qf_kX.of hm2 (by decide))
      refine qf_takeSoundX hD hX2 hset (fun M3 hm3 hs3 h6 h11 h9 hro => hq2 M3 ?_)
      have hpp3 : qf_pp D N M3 := hpp2.keep (hm3 27 (by decide)) (hs3 12 (by decide)) (hs3 10 (by decide)) (hpp2.2.2.2.2.2.same (hm3 33 (by decide)))
      have fin : ∀ M4, qf_frT M3 M4 → qf_inX D M4 → qf_fr qf_cL M M4 ∧ qf_cX D M4 ∧ qf_pp D N M4 ∧ M4 22 5 = -1 ∧ M4 24 = M2 24 := by
        intro M4 hT hin
        have hm24 : qf_fr [26, 29, 30, 31, 32, 33, 34, 35] M2 M4 := (hm3.wide (by decide)).trans hT.1 (by decide)
        refine ⟨hm2.trans hm24 (by decide), hc2.keep hm24 hT.2 ?_ ?_ hin, hpp3.keep (hT.1 27 (by decide)) (by rw [hT.1 26 (by decide)]) (by rw [hT.1 26 (by decide)]) hin, by rw [hm24 22 (by decide)]; exact e5, hm24 24 (by decide)⟩
        · rw [hT.1 26 (by decide)]; exact hs3 12 (by decide)
        · rw [hT.1 26 (by decide)]; exact hs3 10 (by decide)
      refine qf_searchCB hD hE (hX2.keep (qf_kX.of hm3 (by decide))) hpp3 (by rw [hm3 31 (by decide)]; exact hc2.2.1) h6 h11 h9 hro (fun y M4 hT hin => ?_) (fun y M4 hT hin => ?_)
      · obtain ⟨f1, f2, f3, f4, f5⟩ := fin M4 hT hin
        exact (hq1 M4 f1 f2 f3 f4 f5).1 y
      · obtain ⟨f1, f2, f3, f4, f5⟩ := fin M4 hT hin
        exact (hq1 M4 f1 f2 f3 f4 f5).2 y
    have e15 : M1 22 5 = -1 := by rw [hs1 5 (by decide)]; exact z
    -- all is done
    have done : ∀ M2, qf_fr qf_cL M M2 → qf_cX D M2 → qf_pp D N M2 → M2 22 5 = -1 → ∀ l : List Nat, l = qf_ql D → qf_lst M2 24 l → pj_G L (d + 21) 7 148 [pj_vR 22, pj_vU, pj_vU, pj_vI (l.length : Int), pj_vU, pj_vU] [] M2 Q := by
      intro M2 hm2 hc2 hpp2 e5 l hl hlst
      subst hl
      have o : ∀ (a : Nat), a ≠ 22 → (pj_up M2 22 5 ((qf_ql D).length : Int)) a = M2 a := fun a ha => by funext k; exact pj_up_else ha
      refine pj_C7_148 (h _ (hm2.up (by decide)) ?_ pj_up_same)
      obtain ⟨a1, a2, a3, a4, a5⟩ := hc2
      refine ⟨by rw [o 28 (by decide)]; exact a1, by rw [o 31 (by decide)]; exact a2, ?_, ?_, Or.inr ⟨pj_up_same, fun i hi => by rw [o 24 (by decide)]; exact hlst i hi⟩⟩
      · rw [pj_up_slot (by decide)]
        rcases a3 with y | ⟨y, N', hN'⟩
        · exact Or.inl y
        · exact Or.inr ⟨y, N', hN'.keep (o 27 (by decide)) (by rw [o 26 (by decide)]) (by rw [o 26 (by decide)]) (hN'.2.2.2.2.2.same (o 33 (by decide)))⟩
      · unfold qf_lst at a4 ⊢
        rw [pj_up_slot (by decide), pj_up_slot (by decide), pj_up_slot (by decide), o 23 (by decide), o 25 (by decide)]
        exact a4
    refine trial sus M1 _ _ s2 (hm1.wide (by decide)) hc1 hpp e15 (fun M3 hm3 hc3 hpp3 e5 e24 => ⟨fun hcb => ?_, fun hcb => ?_⟩) (fun M3 g => pj_C7_43 g)
    · -- all can be sound: no quarrels
      have hnil : qf_ql D = [] := by
        refine List.eq_nil_iff_forall_not_mem.mpr (fun x hx => ?_)
        have := (qf_fm_mem.mp hx).2.2.2.1
        exact this (qf_CB_cn hD hpp.2.1 c3 (fun p hp k4 hcp _ => (sus_bit p).mpr ⟨hcp, hp, k4⟩) hcb)
      refine pj_C7_51 (by omega) (fun y => absurd y (by decide)) (fun _ => pj_C7_54 (pj_C7_59 (pj_C7_65 (by omega) (by omega) (fun _ => ?_) (fun y => by omega))))
      exact done M3 hm3 hc3 hpp3 e5 [] hnil.symm (fun i hi => absurd hi (Nat.not_lt_zero i))
    · refine pj_C7_51 (by omega) (fun _ => pj_C7_58 (pj_C7_59 ?_)) (fun y => absurd rfl y)
      have stop : qf_ql D = qf_fm (qf_qua D) (qf_nm D) (List.range (sus + 1)) := by
        refine qf_fm_rstop (128 - (sus + 1)) (sus + 1) (by omega) (fun s h1 h3 hmin => ?_)
        have := qf_sub_le hmin.1 s2 (min_sus s hmin)
        omega
      have loop : ∀ (q n : Nat) (M4 : pj_M), n + q = sus + 1 → qf_fr qf_cL M M4 → qf_cX D M4 → qf_pp D N M4 → M4 22 5 = -1 → qf_lst M4 24 (qf_fm (qf_qua D) (qf_nm D) (List.range n)) → pj_G L (d + 21) 7 65 [pj_vR 22, pj_vI (sus : Int), pj_vI (sus : Int), pj_vI ((qf_fm (qf_qua D) (qf_nm D) (List.range n)).length : Int), pj_vI (n : Int), pj_vU] [] M4 Q := by
        intro q
        induction q with
        | zero =>
          intro n M4 en hm4 hc4 hpp4 e45 hl4
          obtain rfl : n = sus + 1 := by omega
          exact pj_C7_65 (by omega) (by omega) (fun _ => done M4 hm4 hc4 hpp4 e45 _ stop.symm hl4) (fun c => by omega)
        | succ q ih =>
          intro n M4 en hm4 hc4 hpp4 e45 hl4
          have hn : n < 128 := by omega
          have hlen := qf_fm_len (A := qf_qua D) (m := qf_nm D) (List.nodup_range (n := n))
          have hx : ∀ x ∈ qf_fm (qf_qua D) (qf_nm D) (List.range n), x < 128 := fun x hx => (qf_fm_mem.mp hx).2.1
          have skip : ∀ M5, qf_fr qf_cL M M5 → qf_cX D M5 → qf_pp D N M5 → M5 22 5 = -1 → qf_lst M5 24 (qf_fm (qf_qua D) (qf_nm D) (List.range n)) → ¬ qf_min (qf_qua D) (qf_nm D) n → pj_G L (d + 21) 7 142 [pj_vR 22, pj_vI (sus : Int), pj_vI (sus : Int), pj_vI ((qf_fm (qf_qua D) (qf_nm D) (List.range n)).length : Int), pj_vI (n : Int), pj_vU] [] M5 Q := by
            intro M5 f1 f2 f3 f4 f5 hno
            have := ih (n + 1) M5 (by omega) f1 f2 f3 f4
            rw [qf_fm_range, qf_fm_no hno, List.append_nil] at this
            exact pj_C7_142 (this f5)
          have nofit : ¬ qf_min (qf_qua D) (qf_nm D) n → pj_G L (d + 21) 7 90 [pj_vR 22, pj_vI (sus : Int), pj_vI (sus : Int), pj_vI ((qf_fm (qf_qua D) (qf_nm D) (List.range n)).length : Int), pj_vI (n : Int), pj_vU] [] M4 Q := fun hno => pj_C7_90 (pj_C7_91 (by omega) (fun _ => skip M4 hm4 hc4 hpp4 e45 hl4 hno) (fun y => absurd rfl y))
          refine pj_C7_65 (by omega) (by omega) (fun c => by omega) (fun _ => pj_C7_71 (fun y => nofit (fun hmin => y ((qf_andn hn s2).mpr (min_sus n hmin)))) (fun y => ?_))
          have hsub := (qf_andn hn s2).mp y
          have hstep := qf_min_stepq (A := qf_qua D) (m := qf_nm D) hn (sus_nm n hsub)
          refine pj_C7_80 (by omega) (fun w => nofit (fun hmin => ?_)) (fun w => pj_C7_86 (pj_C7_91 (by omega) (fun w2 => absurd w2 (by decide)) (fun _ => pj_C7_98 ?_)))
          · have h36 := qf_fm_len (A := qf_qua D) (m := qf_nm D) (List.nodup_range (n := n + 1))
            rw [qf_fm_range, qf_fm_one hmin, List.length_append, List.length_singleton] at h36
            omega
          · refine qf_holdsX24 hn hlen hl4 hx (fun hhas => ?_) (fun hhas => ?_)
            · refine pj_C7_108 (by omega) (fun _ => skip M4 hm4 hc4 hpp4 e45 hl4 (fun hmin => ?_)) (fun w2 => absurd w2 (by decide))
              obtain ⟨a, ha1, ha2⟩ := hhas
              exact (hstep.mpr hmin).2 a ha1 ha2
            · refine pj_C7_108 (by omega) (fun w2 => absurd rfl w2) (fun _ => pj_C7_111 ?_)
              refine trial n M4 _ _ hn hm4 hc4 hpp4 e45 (fun M5 f1 f2 f3 f4 f5 => ⟨fun hcb2 => ?_, fun hcb2 => ?_⟩) (fun M5 g => pj_C7_120 g)
              · exact pj_C7_128 (by omega) (fun _ => skip M5 f1 f2 f3 f4 (fun i hi => by rw [f5]; exact hl4 i hi) (fun hmin => hmin.2.2.1 hcb2)) (fun w2 => absurd w2 (by decide))
              · have hmin := hstep.mp ⟨hcb2, hhas⟩
                refine pj_C7_128 (by omega) (fun w2 => absurd rfl w2) (fun _ => pj_C7_131 (qf_fm (qf_qua D) (qf_nm D) (List.range n)).length rfl (by omega) (pj_C7_142 ?_))
                have o : ∀ (a : Nat), a ≠ 24 → (pj_up M5 24 (qf_fm (qf_qua D) (qf_nm D) (List.range n)).length (n : Int)) a = M5 a := fun a ha => by funext k; exact pj_up_else ha
                have := ih (n + 1) (pj_up M5 24 (qf_fm (qf_qua D) (qf_nm D) (List.range n)).length (n : Int)) (by omega) (f1.up (by decide)) (f2.same (l := [24]) (qf_fr.refl.up (by decide)) (by decide) f4) (f3.keep (o 27 (by decide)) (by rw [o 26 (by decide)]) (by rw [o 26 (by decide)]) (f3.2.2.2.2.2.same (o 33 (by decide)))) (by rw [o 22 (by decide)]; exact f4)
                rw [qf_fm_range, qf_fm_one hmin] at this
                have g := this (qf_lst_app (fun i hi => by rw [f5]; exact hl4 i hi))
                rw [List.length_append, List.length_singleton] at g
                exact g
      exact loop (sus + 1) 0 M3 (by omega) hm3 hc3 hpp3 e5 (fun i hi => absurd hi (Nat.not_lt_zero i))
  · have := z.1
    refine pj_C7_0 (by omega) (fun y => by omega) (fun _ => pj_C7_8 ?_)
    rw [this]
    exact h M qf_fr.refl hc this
end QFXN
