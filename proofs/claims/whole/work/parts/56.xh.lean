/-! THE CLASS: search. -/
section QFXH
variable {L : Nat} {D : qf_D} {N : Nat → Nat → Bool} {tc : Nat → Bool}
/-- the roles that choices from a place of the order on lead to -/
def qf_Ch (D : qf_D) (tc : Nat → Bool) (a : Nat) (ro ro' : Nat → Nat) : Prop := ∀ i, i < qf_dP D → (a ≤ i ∧ tc (qf_or0 D i) = true → ∃ k, k < 4 ∧ (qf_wy D (qf_or0 D i)).testBit k = true ∧ ro' (qf_or0 D i) = 2 ^ k) ∧ (¬ (a ≤ i ∧ tc (qf_or0 D i) = true) → ro' (qf_or0 D i) = ro (qf_or0 D i))
/-- roles as they lie in the class's row -/
def qf_rX (D : qf_D) (ro : Nat → Nat) (M : pj_M) : Prop := (∀ p, p < qf_dP D → M 32 p = (ro p : Int)) ∧ qf_rok D ro ∧ ∀ p, p < qf_dP D → ro p = 16 → qf_kd D p ≠ 4
/-- what search leaves -/
def qf_frS (D : qf_D) (tc : Nat → Bool) (a : Nat) (ro : Nat → Nat) (M M' : pj_M) : Prop := qf_fr [29, 30, 31, 32, 33, 34, 35] M M' ∧ qf_fs 31 [7, 8, 9, 10, 11, 12, 13] M M' ∧ M' 31 7 = 0 ∧ qf_inX D M' ∧ ∃ ro1, qf_rX D ro1 M' ∧ ∀ i, i < qf_dP D → ¬ (a ≤ i ∧ tc (qf_or0 D i) = true) → ro1 (qf_or0 D i) = ro (qf_or0 D i)
/-- the trial, ready to search -/
def qf_sx (D : qf_D) (N : Nat → Nat → Bool) (tc : Nat → Bool) (M : pj_M) : Prop := qf_X D M ∧ qf_nd D N M ∧ qf_inX D M ∧ M 31 7 = 0 ∧ M 26 12 = 1 ∧ (∀ p, p < qf_dP D → pj_bt (M 26 9) p = tc p)
theorem qf_sx.keep {M M' : pj_M} (h : qf_sx D N tc M) (hm : qf_fr [29, 30, 31, 32, 33, 34, 35] M M') (h7 : M' 31 7 = 0) (hin : qf_inX D M') : qf_sx D N tc M' := by
  refine ⟨h.1.keep (qf_kX.of hm (by decide)), ?_, hin, h7, by rw [hm 26 (by decide)]; exact h.2.2.2.2.1, by rw [hm 26 (by decide)]; exact h.2.2.2.2.2⟩
  obtain ⟨a, h1, h2, h3⟩ := h.2.1
  refine ⟨a, h1, by rw [hm 26 (by decide)]; exact h2, fun t ht => ?_⟩
  rw [hm a (by rcases h1 with rfl | rfl <;> decide)]
  exact h3 t ht
theorem qf_sx.tr {M : pj_M} {ro : Nat → Nat} (h : qf_sx D N tc M) (hr : qf_rX D ro M) : qf_tr D ro N M := ⟨h.1, hr.1, h.2.1, h.2.2.1, h.2.2.2.1⟩
theorem qf_shl_way : ∀ k : Fin 4, pj_shl ((2 ^ k.val : Nat) : Int) 1 = ((2 ^ (k.val + 1) : Nat) : Int) ∧ ((2 ^ k.val : Nat) : Int) ≤ 8 ∧ 0 < ((2 ^ k.val : Nat) : Int) := by decide +kernel
theorem qf_prun_or (hD : qf_okD D) {e : Nat} {ro ro' : Nat → Nat} (he : e ≤ qf_dP D) (h : ∀ i, i < e → ro (qf_or0 D i) = ro' (qf_or0 D i)) {v : Nat → Nat → Nat} (hv : qf_prun D ro N e v) : qf_prun D ro' N e v := qf_prun_ro (fun i hi _ _ _ => h i hi) hv
theorem qf_or_inj (hD : qf_okD D) {i j : Nat} (hi : i < qf_dP D) (hj : j < qf_dP D) (h : qf_or0 D i = qf_or0 D j) : i = j := by
  rcases Nat.lt_trichotomy i j with z | z | z
  · have := hD.os i j z hj
    rw [h] at this
    omega
  · exact z
  · have := hD.os j i z hi
    rw [h] at this
    omega
theorem qf_searchX (hD : qf_okD D) (hE : qf_okE D) (hc : qf_clo D N) (htc : ∀ p, p < qf_dP D → tc p = true → qf_wy D p ≠ 0)
    {one : Prop} {J : ((Nat → Nat) → Prop) → pj_M → Prop}
    (hJ1 : ∀ S M M', J S M → qf_fr [29, 30, 31, 32, 33, 34] M M' → J S M')
    (hJ2 : ∀ S S' M, (∀ u, S u ↔ S' u) → J S M → J S' M)
    (hno : ∀ (S X : (Nat → Nat) → Prop) (M : pj_M), J S M → (∀ r, X r → ¬ ∃ v, qf_prun D r N (qf_dP D) v) → J (fun r => S r ∨ X r) M)
    (hbase : ∀ (S : (Nat → Nat) → Prop) (M : pj_M) (ro : Nat → Nat) (d : Nat) (Q : Option pj_V → pj_M → Prop), J S M → qf_sx D N tc M → qf_rX D ro M → (∃ v, qf_prun D ro N (qf_dP D) v) → qf_bg D ro N (qf_dP D) M (qf_dT D) → qf_fo D ro N (qf_dP D) M (qf_dT D) → (∀ (M' : pj_M) (x : Int), (x = 0 ∨ x = 1) → qf_fr [29, 30, 31, 33, 34, 35] M M' → qf_fs 31 [7, 8, 9, 10, 11, 12, 13] M M' → M' 31 7 = 0 → qf_inX D M' → (x = 0 → J (fun r => S r ∨ ∀ i, i < qf_dP D → r (qf_or0 D i) = ro (qf_or0 D i)) M') → (x = 1 → one) → Q (some (pj_vI x)) M') → pj_G L (d + 13) 37 66 [pj_vR 26, pj_vU, pj_vU, pj_vU, pj_vU] [] M Q) : ∀ (r a d : Nat) (M : pj_M) (ro : Nat → Nat) (S : (Nat → Nat) → Prop) (Q : Option pj_V → pj_M → Prop), a + r = qf_dP D → J S M → qf_sx D N tc M → qf_rX D ro M → (∀ (M' : pj_M) (x : Int), (x = 0 ∨ x = 1) → qf_frS D tc a ro M M' → (x = 0 → J (fun r => S r ∨ qf_Ch D tc a ro r) M') → (x = 1 → ∃ r, qf_Ch D tc a ro r ∧ ∃ v, qf_prun D r N (qf_dP D) v) → (x = 1 → one) → Q (some (pj_vI x)) M') → pj_G L (d + r + 13) 37 2 [pj_vR 26, pj_vU, pj_vI (a : Int), pj_vU, pj_vU] [] M Q := by
  intro r
  have hb := hD.b
  have fsub : ∀ {M M' : pj_M}, qf_frG M M' → qf_fr [29, 30, 31, 32, 33, 34, 35] M M' := fun hm => hm.1.wide (by decide)
  have fs1 : ∀ {M M' : pj_M}, qf_frG M M' → qf_fs 31 [7, 8, 9, 10, 11, 12, 13] M M' := fun hm k hk => hm.2 k (by simp only [List.mem_cons, List.not_mem_nil, or_false, not_or] at hk ⊢; omega)
  have rXk : ∀ {M M' : pj_M} {ro : Nat → Nat}, qf_rX D ro M → M' 32 = M 32 → qf_rX D ro M' := fun hr e => ⟨by rw [e]; exact hr.1, hr.2⟩
  induction r with
  | zero =>
    intro a d M ro S Q ea hJ hs hr hq
    have hP := hs.1.P
    have h12 := hs.2.2.2.2.1
    obtain rfl : a = qf_dP D := by omega
    have hCh : ∀ r, qf_Ch D tc (qf_dP D) ro r ↔ ∀ i, i < qf_dP D → r (qf_or0 D i) = ro (qf_or0 D i) := by
      intro r
      constructor
      · intro h i hi
        exact (h i hi).2 (by omega)
      · intro h i hi
        exact ⟨fun z => by omega, fun _ => h i hi⟩
    refine pj_C37_2 (by omega) (by omega) (fun _ => ?_) (fun c => by omega)
    refine pj_C37_38 (by omega) (fun z => by omega) (fun _ => pj_C37_45 ?_)
    refine qf_goesX hD hE hc (Nat.le_refl _) hr.2.1 hr.2.2 (hs.tr hr) (fun hex M1 hm1 hin1 hbg hfo => ?_) (fun hex M1 hm1 hin1 => ?_)
    · have e7 : M1 31 7 = 0 := by rw [hm1.2 7 (by decide)]; exact hs.2.2.2.1
      have hs1 := hs.keep (fsub hm1) e7 hin1
      have hP1 := hs1.1.P
      refine pj_C37_50 (by omega) (fun _ => ?_) (fun z => absurd z (by decide))
      refine pj_C37_55 (by omega) (by omega) (fun z => by omega) (fun _ => ?_)
      refine hbase S M1 ro d _ (hJ1 S M M1 hJ (hm1.1.wide (by decide))) hs1 (rXk hr (hm1.1 32 (by decide))) hex hbg hfo (fun M2 x hx hm2 hs2 h7 hin2 hJ' ho' => hq M2 x hx ⟨(fsub hm1).trans hm2 (by decide), (fs1 hm1).trans hs2 (fun _ z => z), h7, hin2, ro, rXk (rXk hr (hm1.1 32 (by decide))) (hm2 32 (by decide)), fun _ _ _ => rfl⟩ (fun z => hJ2 _ _ _ (fun r => by rw [hCh r]) (hJ' z)) (fun _ => ⟨ro, (hCh ro).mpr (fun _ _ => rfl), hex⟩) ho')
    · have e7 : M1 31 7 = 0 := by rw [hm1.2 7 (by decide)]; exact hs.2.2.2.1
      refine pj_C37_50 (by omega) (fun z => absurd rfl z) (fun _ => pj_C37_53 (hq M1 0 (Or.inl rfl) ⟨fsub hm1, fs1 hm1, e7, hin1, ro, rXk hr (hm1.1 32 (by decide)), fun _ _ _ => rfl⟩ (fun _ => hno S _ M1 (hJ1 S M M1 hJ (hm1.1.wide (by decide))) (fun r hr' hv => hex ?_)) (fun z => absurd z (by decide)) (fun z => absurd z (by decide))))
      obtain ⟨v, hv⟩ := hv
      exact ⟨v, qf_prun_or hD (Nat.le_refl _) ((hCh r).mp hr') hv⟩
  | succ r ih =>
    intro a d M ro S Q ea hJ hs hr hq
    have hP := hs.1.P
    have h12 := hs.2.2.2.2.1
    have ha : a < qf_dP D := by omega
    have hp := hD.or a ha
    have eo := hs.1.or a ha
    refine pj_C37_2 (by omega) (by omega) (fun c => by omega) (fun _ => ?_)
    refine pj_C37_13 a (qf_or0 D a) rfl (by omega) eo (by omega) (fun c => ?_) (fun c => ?_)
    · rw [hs.2.2.2.2.2 _ hp] at c
      refine pj_C37_38 (by omega) (fun z => by omega) (fun _ => pj_C37_45 ?_)
      have go := qf_goesX (L := L) (d := d + r + 1) (Q := fun r' M1 => pj_G L (d + (r + 1) + 12 + 1) 37 50 [pj_vR 26, pj_vU, pj_vI (a : Int), pj_vU, pj_vU] (r'.toList ++ []) M1 Q) hD hE hc (Nat.le_of_lt ha) hr.2.1 hr.2.2 (hs.tr hr) (fun hex M1 hm1 hin1 hbg hfo => ?_) (fun hex M1 hm1 hin1 => ?_)
      · rw [show d + r + 1 + 12 = d + (r + 1) + 12 by omega] at go
        exact go
      · -- the ways, one after the other
        have e7 : M1 31 7 = 0 := by rw [hm1.2 7 (by decide)]; exact hs.2.2.2.1
        have hs1 := hs.keep (fsub hm1) e7 hin1
        have hP1 := hs1.1.P
        have eo1 := hs1.1.or a ha
        have hwy := hs1.1.wy _ hp
        have hpt := hD.pt _ hp
        refine pj_C37_50 (by omega) (fun _ => ?_) (fun z => absurd z (by decide))
        refine pj_C37_55 (by omega) (by omega) (fun _ => pj_C37_90 a rfl (by omega) ?_) (fun z => by omega)
        have loop : ∀ (q k : Nat) (M2 : pj_M) (ro2 : Nat → Nat), k + q = 4 → qf_fr [29, 30, 31, 32, 33, 34, 35] M M2 → qf_fs 31 [7, 8, 9, 10, 11, 12, 13] M M2 → qf_sx D N tc M2 → qf_rX D ro2 M2 → (∀ i, i < qf_dP D → ¬ (a ≤ i ∧ tc (qf_or0 D i) = true) → ro2 (qf_or0 D i) = ro (qf_or0 D i)) → J (fun r => S r ∨ (qf_Ch D tc a ro r ∧ ∃ j, j < k ∧ r (qf_or0 D a) = 2 ^ j)) M2 → pj_G L (d + (r + 1) + 13) 37 103 [pj_vR 26, pj_vU, pj_vI (a : Int), pj_vI (M1 17 a), pj_vI ((2 ^ k : Nat) : Int)] [] M2 Q := by
          intro q
          induction q with
          | zero =>
            intro k M2 ro2 ek hm2 hs2 hsx2 hr2 hro2 hJk
            obtain rfl : k = 4 := by omega
            refine pj_C37_103 (by decide) (fun _ => pj_C37_157 (hq M2 0 (Or.inl rfl) ⟨hm2, hs2, hsx2.2.2.2.1, hsx2.2.2.1, ro2, hr2, hro2⟩ (fun _ => hJ2 _ _ _ (fun r => ⟨?_, ?_⟩) hJk) (fun z => absurd z (by decide)) (fun z => absurd z (by decide)))) (fun z => absurd z (by decide))
            · rintro (y | y)
              · exact Or.inl y
              · exact Or.inr y.1
            · rintro (y | y)
              · exact Or.inl y
              · obtain ⟨j, y1, y2, y3⟩ := (y a ha).1 ⟨Nat.le_refl _, c⟩
                exact Or.inr ⟨y, j, y1, y3⟩
          | succ q ih2 =>
            intro k M2 ro2 ek hm2 hs2 hsx2 hr2 hro2 hJk
            have hsw := qf_shl_way ⟨k, by omega⟩
            dsimp only at hsw
            have hwy2 := hsx2.1.wy _ hp
            have hbit := qf_and_bit ⟨qf_wy D (qf_or0 D a), by omega⟩ ⟨k, by omega⟩
            dsimp only at hbit
            refine pj_C37_103 (by omega) (fun z => by omega) (fun _ => ?_)
            refine pj_C37_110 (qf_or0 D a) eo1 (by omega) (fun z => pj_C37_148 ?_) (fun z => ?_)
            · rw [hsw.1]
              refine ih2 (k + 1) M2 ro2 (by omega) hm2 hs2 hsx2 hr2 hro2 (hJ2 _ _ _ (fun r => ⟨?_, ?_⟩) hJk)
              · rintro (y | ⟨y, j, y1, y2⟩)
                · exact Or.inl y
                · exact Or.inr ⟨y, j, by omega, y2⟩
              · rintro (y | ⟨y, j, y1, y2⟩)
                · exact Or.inl y
                · refine Or.inr ⟨y, j, ?_, y2⟩
                  have : j ≠ k := by
                    intro w
                    obtain ⟨j2, w1, w2, w3⟩ := (y a ha).1 ⟨Nat.le_refl _, c⟩
                    rw [w3] at y2
                    have := qf_pow_inj ⟨j2, w1⟩ ⟨j, by omega⟩ y2
                    dsimp only at this
                    rw [hwy2] at z
                    exact hbit.mpr (by rw [← w, ← this]; exact w2) z
                  omega
            · rw [hwy2] at z
              have hbk := hbit.mp z
              refine pj_C37_125 (qf_or0 D a) eo1 (by omega) (pj_C37_0 ?_)
              have e3 : (pj_up M2 32 (qf_or0 D a) ((2 ^ k : Nat) : Int)) 31 = M2 31 := by funext x; exact pj_up_else (by decide)
              have hm3 : qf_fr [29, 30, 31, 32, 33, 34, 35] M2 (pj_up M2 32 (qf_or0 D a) ((2 ^ k : Nat) : Int)) := qf_fr.refl.up (by decide)
              have hsx3 : qf_sx D N tc (pj_up M2 32 (qf_or0 D a) ((2 ^ k : Nat) : Int)) := hsx2.keep hm3 (by rw [e3]; exact hsx2.2.2.2.1) (hsx2.2.2.1.same (by funext x; exact pj_up_else (by decide)))
              have hp4 := qf_pow4 ⟨k, by omega⟩
              dsimp only at hp4
              have hr3 : qf_rX D (fun p => if p = qf_or0 D a then 2 ^ k else ro2 p) (pj_up M2 32 (qf_or0 D a) ((2 ^ k : Nat) : Int)) := by
                refine ⟨fun p hp' => ?_, fun p hp' => ?_, fun p hp' h16 => ?_⟩
                · dsimp only
                  by_cases w : p = qf_or0 D a
                  · rw [if_pos w, w, pj_up_same]
                  · rw [if_neg w, pj_up_slot w]
                    exact hr2.1 p hp'
                · dsimp only
                  by_cases w : p = qf_or0 D a
                  · rw [if_pos w]; omega
                  · rw [if_neg w]
                    exact hr2.2.1 p hp'
                · dsimp only at h16
                  by_cases w : p = qf_or0 D a
                  · rw [if_pos w] at h16; omega
                  · rw [if_neg w] at h16
                    exact hr2.2.2 p hp' h16
              have hiff : ∀ r, qf_Ch D tc (a + 1) (fun p => if p = qf_or0 D a then 2 ^ k else ro2 p) r ↔ qf_Ch D tc a ro r ∧ r (qf_or0 D a) = 2 ^ k := by
                intro r
                constructor
                · intro w
                  have wa : r (qf_or0 D a) = 2 ^ k := by
                    have := (w a ha).2 (by omega)
                    dsimp only at this
                    rw [if_pos rfl] at this
                    exact this
                  refine ⟨fun i hi => ⟨fun y => ?_, fun y => ?_⟩, wa⟩
                  · by_cases ei : i = a
                    · rw [ei]
                      exact ⟨k, by omega, hbk, wa⟩
                    · exact (w i hi).1 ⟨by omega, y.2⟩
                  · have ei : i ≠ a := fun y2 => y (by rw [y2]; exact ⟨Nat.le_refl _, c⟩)
                    have := (w i hi).2 (fun y2 => y ⟨by omega, y2.2⟩)
                    dsimp only at this
                    rw [if_neg (fun y2 => ei (qf_or_inj hD hi ha y2))] at this
                    rw [this]
                    exact hro2 i hi y
                · rintro ⟨w, wa⟩ i hi
                  refine ⟨fun y => (w i hi).1 ⟨by omega, y.2⟩, fun y => ?_⟩
                  dsimp only
                  by_cases ei : i = a
                  · rw [ei, if_pos rfl]
                    exact wa
                  · rw [if_neg (fun y2 => ei (qf_or_inj hD hi ha y2))]
                    have hny : ¬ (a ≤ i ∧ tc (qf_or0 D i) = true) := fun y2 => y ⟨by omega, y2.2⟩
                    rw [(w i hi).2 hny]
                    exact (hro2 i hi hny).symm
              refine ih (a + 1) d _ (fun p => if p = qf_or0 D a then 2 ^ k else ro2 p) (fun r => S r ∨ (qf_Ch D tc a ro r ∧ ∃ j, j < k ∧ r (qf_or0 D a) = 2 ^ j)) _ (by omega) (hJ1 _ _ _ hJk (qf_fr.refl.up (by decide))) hsx3 hr3 (fun M4 x hx hf4 hJ4 hy4 ho4 => ?_)
              obtain ⟨f1, f2, f3, f4, ro4, f5, f6⟩ := hf4
              have hm4 : qf_fr [29, 30, 31, 32, 33, 34, 35] M M4 := (hm2.trans hm3 (fun _ y => y)).trans f1 (fun _ y => y)
              have hs4 : qf_fs 31 [7, 8, 9, 10, 11, 12, 13] M M4 := fun x hx => by rw [f2 x hx, e3]; exact hs2 x hx
              have hro4 : ∀ i, i < qf_dP D → ¬ (a ≤ i ∧ tc (qf_or0 D i) = true) → ro4 (qf_or0 D i) = ro (qf_or0 D i) := by
                intro i hi y
                have ei : i ≠ a := fun y2 => y (by rw [y2]; exact ⟨Nat.le_refl _, c⟩)
                rw [f6 i hi (fun y2 => y ⟨by omega, y2.2⟩)]
                dsimp only
                rw [if_neg (fun y2 => ei (qf_or_inj hD hi ha y2))]
                exact hro2 i hi y
              have hsx4 : qf_sx D N tc M4 := hsx3.keep f1 f3 f4
              refine pj_C37_143 (by omega) (fun y => pj_C37_148 ?_) (fun y => pj_C37_146 (hq M4 1 (Or.inr rfl) ⟨hm4, hs4, f3, f4, ro4, f5, hro4⟩ (fun w => absurd w (by decide)) (fun _ => ?_) (fun _ => ho4 (by omega))))
              · rw [hsw.1]
                refine ih2 (k + 1) M4 ro4 (by omega) hm4 hs4 hsx4 f5 hro4 (hJ2 _ _ _ (fun r => ?_) (hJ4 y))
                rw [hiff r]
                constructor
                · rintro ((w | ⟨w, j, w1, w2⟩) | ⟨w, w1⟩)
                  · exact Or.inl w
                  · exact Or.inr ⟨w, j, by omega, w2⟩
                  · exact Or.inr ⟨w, k, by omega, w1⟩
                · rintro (w | ⟨w, j, w1, w2⟩)
                  · exact Or.inl (Or.inl w)
                  · by_cases ej : j = k
                    · exact Or.inr ⟨w, by rw [← ej]; exact w2⟩
                    · exact Or.inl (Or.inr ⟨w, j, by omega, w2⟩)
              · obtain ⟨r', w1, w2⟩ := hy4 (by omega)
                exact ⟨r', ((hiff r').mp w1).1, w2⟩
        refine loop 4 0 M1 ro (by omega) (fsub hm1) (fs1 hm1) hs1 (rXk hr (hm1.1 32 (by decide))) (fun _ _ _ => rfl) (hJ2 S _ M1 (fun r => ⟨fun y => Or.inl y, ?_⟩) (hJ1 S M M1 hJ (hm1.1.wide (by decide))))
        rintro (y | ⟨-, j, y, -⟩)
        · exact y
        · omega
      · have e7 : M1 31 7 = 0 := by rw [hm1.2 7 (by decide)]; exact hs.2.2.2.1
        refine pj_C37_50 (by omega) (fun z => absurd rfl z) (fun _ => pj_C37_53 (hq M1 0 (Or.inl rfl) ⟨fsub hm1, fs1 hm1, e7, hin1, ro, rXk hr (hm1.1 32 (by decide)), fun _ _ _ => rfl⟩ (fun _ => hno S _ M1 (hJ1 S M M1 hJ (hm1.1.wide (by decide))) (fun r hr' hv => hex ?_)) (fun z => absurd z (by decide)) (fun z => absurd z (by decide))))
        obtain ⟨v, hv⟩ := hv
        exact ⟨v, qf_prun_or hD (Nat.le_of_lt ha) (fun i hi => (hr' i (by omega)).2 (by omega)) (qf_prun_le (Nat.le_of_lt ha) hv)⟩
    · rw [hs.2.2.2.2.2 _ hp] at c
      have hiff : ∀ r, qf_Ch D tc (a + 1) ro r ↔ qf_Ch D tc a ro r := by
        have key : ∀ i, (a + 1 ≤ i ∧ tc (qf_or0 D i) = true) ↔ (a ≤ i ∧ tc (qf_or0 D i) = true) := by
          intro i
          constructor
          · exact fun z => ⟨by omega, z.2⟩
          · intro z
            have : i ≠ a := fun y => by rw [y, c] at z; exact absurd z.2 (by decide)
            exact ⟨by omega, z.2⟩
        intro r
        unfold qf_Ch
        simp only [key]
      have := ih (a + 1) (d + 1) M ro S Q (by omega) hJ hs hr (fun M' x hx hf hJ' hy' ho' => ?_)
      · rw [show d + 1 + r + 13 = d + (r + 1) + 13 by omega] at this
        exact pj_C37_32 this
      · obtain ⟨f1, f2, f3, f4, ro1, f5, f6⟩ := hf
        refine hq M' x hx ⟨f1, f2, f3, f4, ro1, f5, fun i hi z => f6 i hi (fun y => z ⟨by omega, y.2⟩)⟩ (fun z => hJ2 _ _ _ (fun r => by rw [hiff r]) (hJ' z)) (fun z => ?_) ho'
        obtain ⟨r', w1, w2⟩ := hy' z
        exact ⟨r', (hiff r').mp w1, w2⟩
end QFXH
