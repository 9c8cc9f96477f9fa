/-! THE CLASS: gather; search. -/
section QFXG
variable {L : Nat} {D : qf_D} {ro : Nat → Nat} {N : Nat → Nat → Bool} {tc : Nat → Bool}
theorem qf_clo_all : qf_clo D qf_all0 := ⟨fun _ _ => rfl, fun _ _ _ _ _ => ⟨fun _ => rfl, fun _ => rfl⟩, fun _ _ _ _ _ _ => ⟨rfl, rfl⟩⟩
/-- the numbers that partial runs have, put into small sets -/
def qf_put3 (D : qf_D) (ro : Nat → Nat) (m m' : Nat → Nat) : Prop := (∀ t w, t < qf_dT D → w < qf_dW D → ∀ j, ((m' (14 * t + w)).testBit j = true ↔ (m (14 * t + w)).testBit j = true ∨ ∃ v, qf_prun D ro qf_all0 (qf_dP D) v ∧ v t w = j)) ∧ ∀ l, l < 42 → (∀ t w, t < qf_dT D → w < qf_dW D → l ≠ 14 * t + w) → m' l = m l
theorem qf_gatherX {d : Nat} {Q : Option pj_V → pj_M → Prop} (hD : qf_okD D) (hE : qf_okE D) (hrk : qf_rok D ro) (h16 : ∀ p, p < qf_dP D → ro p = 16 → qf_kd D p ≠ 4) {M0 : pj_M} (h0 : qf_tr D ro qf_all0 M0) (hbg : qf_bg D ro qf_all0 (qf_dP D) M0 (qf_dT D)) (hfo : qf_fo D ro qf_all0 (qf_dP D) M0 (qf_dT D)) {m : Nat → Nat} (hm0 : qf_fnd M0 35 m)
    (h : ∀ M' m', qf_frH M0 M' → qf_inX D M' → qf_fnd M' 35 m' → qf_put3 D ro m m' → Q none M') : pj_G L (d + 12) 40 0 [pj_vR 26, pj_vU, pj_vU] [] M0 Q := by
  have hb := hD.b
  have hT := h0.1.T
  have bas : ∀ w, w < qf_dW D → qf_bas D (qf_all0 0) (qf_dP D) w := by
    intro w hw
    refine ⟨hw, ?_⟩
    by_cases hd : qf_dv D w = 0
    · exact Or.inl hd
    · have h3 := hD.dv w hw hd
      obtain ⟨i, hi1, hi2⟩ := hD.oe _ h3.1
      exact Or.inr ⟨i, hi1, by rw [hi2]; exact h3.2, rfl⟩
  refine pj_C40_0 ?_
  rw [hT]
  refine qf_gatherX1 hD hrk h0 hbg hfo (fun M1 hm1 hgb => pj_C40_84 ?_) (qf_dT D) M0 (Nat.le_refl _) qf_fr.refl (fun t z h1 h2 h3 => ?_) (fun _ _ => rfl)
  · -- the second half: all ticks
    have hrec : qf_frH M0 (pj_up (pj_up M1 31 7 1) 31 7 0) := ⟨(((hm1.wide (by decide)).up (by decide)).up (by decide)), fun k hk => by
      rw [pj_up_slot (by simp only [List.mem_cons, List.not_mem_nil, or_false, not_or] at hk; omega), pj_up_slot (by simp only [List.mem_cons, List.not_mem_nil, or_false, not_or] at hk; omega), hm1 31 (by decide)], pj_up_same⟩
    have out : ∀ (r t : Nat) (M : pj_M) (m1 : Nat → Nat), t + r = qf_dT D → qf_fr [31, 33, 34, 35] M1 M → qf_fs 31 [7, 8, 9, 10, 11, 12, 13] M1 M → M 31 7 = 1 → qf_inX D M → qf_fnd M 35 m1 → (∀ t' w, t' < t → w < qf_dW D → ∀ j, ((m1 (14 * t' + w)).testBit j = true ↔ (m (14 * t' + w)).testBit j = true ∨ ∃ v, qf_prun D ro qf_all0 (qf_dP D) v ∧ v t' w = j)) → (∀ l, l < 42 → (∀ t' w, t' < t → w < qf_dW D → l ≠ 14 * t' + w) → m1 l = m l) → pj_G L (d + 12) 40 94 [pj_vR 26, pj_vI (t : Int), pj_vU] [] M Q := by
      intro r
      induction r with
      | zero =>
        intro t M m1 et hm hs e7 hin a1 a2 a3
        have hT' : M 2 1 = (qf_dT D : Int) := by rw [hm 2 (by decide), hm1 2 (by decide)]; exact hT
        obtain rfl : t = qf_dT D := by omega
        refine pj_C40_94 (by omega) (by omega) (fun _ => pj_C40_181 (h _ m1 ⟨((hm1.wide (by decide)).trans hm (by decide)).up (by decide), fun k hk => ?_, pj_up_same⟩ (hin.same (by funext k; exact pj_up_else (by decide))) (fun l hl => by rw [pj_up_else (by decide)]; exact a1 l hl) ⟨fun t' w h1 h2 j => a2 t' w h1 h2 j, fun l hl h2 => a3 l hl h2⟩)) (fun c => by omega)
        rw [pj_up_slot (by simp only [List.mem_cons, List.not_mem_nil, or_false, not_or] at hk; omega), hs k hk, hm1 31 (by decide)]
      | succ r ih =>
        intro t M m1 et hm hs e7 hin a1 a2 a3
        have hX : qf_X D M := (h0.1.keep (qf_kX.of hm1 (by decide))).keep (qf_kX.of hm (by decide))
        have hT' := hX.T
        have hro : ∀ p, p < qf_dP D → M 32 p = (ro p : Int) := by rw [hm 32 (by decide), hm1 32 (by decide)]; exact h0.2.1
        have hnd : qf_nd D qf_all0 M := by
          obtain ⟨a, b1, b2, b3⟩ := h0.2.2.1
          refine ⟨a, b1, by rw [hm 26 (by decide), hm1 26 (by decide)]; exact b2, fun t ht => ?_⟩
          rw [hm a (by rcases b1 with rfl | rfl <;> decide), hm1 a (by rcases b1 with rfl | rfl <;> decide)]
          exact b3 t ht
        have hP := hX.P
        refine pj_C40_94 (by omega) (by omega) (fun c => by omega) (fun _ => pj_C40_105 ?_)
        rw [hP]
        refine qf_enterTickX (d := d + 9) hD hE hrk (Nat.le_refl _) (by omega) hX hro hnd (fun M2 g RB hm2 hs2 hgO hmo2 e13 hRr hRB => pj_C40_117 (t + 1) (by omega) (by omega) ?_)
        have hog := hgO.og hD qf_clo_all (Nat.le_refl _) (by omega)
        have e29 : M2 29 (t + 1) = M1 29 (t + 1) := by rw [hm2 29 (by decide), hm 29 (by decide)]
        rw [e29]
        -- all states of the tick
        have inner : ∀ (q n : Nat) (M3 : pj_M) (m2 : Nat → Nat), n + q = 9 → qf_fr [31, 33, 34, 35] M1 M3 → qf_fs 31 [7, 8, 9, 10, 11, 12, 13] M1 M3 → M3 31 7 = 1 → M3 31 8 = M1 29 (t + 1) → qf_inX D M3 → qf_mo0 D ro (qf_all0 t) t g M3 → qf_fnd M3 35 m2 → (∀ w, w < qf_dW D → ∀ j, ((m2 (14 * t + w)).testBit j = true ↔ (m1 (14 * t + w)).testBit j = true ∨ ∃ s u, s < n ∧ qf_rch (qf_RC D ro qf_all0 (qf_dP D)) (qf_stC D ro qf_all0 (qf_dP D)) t s ∧ qf_RC D ro qf_all0 (qf_dP D) t s u ∧ qf_gd (qf_RC D ro qf_all0 (qf_dP D)) (qf_stC D ro qf_all0 (qf_dP D)) (qf_dT D - t - 1) (t + 1) (qf_stC D ro qf_all0 (qf_dP D) t u) ∧ u w = j)) → (∀ l, l < 42 → (l < 14 * t ∨ 14 * t + qf_dW D ≤ l) → m2 l = m1 l) → pj_G L (d + 12) 40 134 [pj_vR 26, pj_vI (t : Int), pj_vI (n : Int)] [] M3 Q := by
          intro q
          induction q with
          | zero =>
            intro n M3 m2 en hm3 hs3 e7' e8 hin3 hmo3 c1 c2 c3
            refine pj_C40_134 (by omega) (fun _ => pj_C40_175 ?_) (fun c => by omega)
            refine ih (t + 1) M3 m2 (by omega) hm3 hs3 e7' hin3 c1 (fun t' w h1 h2 j => ?_) (fun l hl h2 => ?_)
            · by_cases z : t' = t
              · subst z
                rw [c2 w h2 j, a3 _ (by omega) (fun t2 w2 y1 y2 y3 => by omega)]
                have key : (∃ s u, s < n ∧ qf_rch (qf_RC D ro qf_all0 (qf_dP D)) (qf_stC D ro qf_all0 (qf_dP D)) t' s ∧ qf_RC D ro qf_all0 (qf_dP D) t' s u ∧ qf_gd (qf_RC D ro qf_all0 (qf_dP D)) (qf_stC D ro qf_all0 (qf_dP D)) (qf_dT D - t' - 1) (t' + 1) (qf_stC D ro qf_all0 (qf_dP D) t' u) ∧ u w = j) ↔ ∃ v, qf_prun D ro qf_all0 (qf_dP D) v ∧ v t' w = j := by
                  constructor
                  · rintro ⟨s, u, -, y1, y2, y3, y4⟩
                    obtain ⟨v, v1, v2⟩ := (qf_aut_at (T := qf_dT D) (by omega) u).mp ⟨s, y1, y2, y3⟩
                    exact ⟨v, (qf_run_C hD hrk (Nat.le_refl _) v).mp v1, by rw [v2]; exact y4⟩
                  · rintro ⟨v, v1, v2⟩
                    obtain ⟨s, y1, y2, y3⟩ := (qf_aut_at (R := qf_RC D ro qf_all0 (qf_dP D)) (f := qf_stC D ro qf_all0 (qf_dP D)) (T := qf_dT D) (by omega) (v t')).mpr ⟨v, (qf_run_C hD hrk (Nat.le_refl _) v).mpr v1, rfl⟩
                    exact ⟨s, v t', by have := qf_rch_lt hD y1; omega, y1, y2, y3, v2⟩
                rw [key]
              · rw [c3 _ (by omega) (by omega)]
                exact a2 t' w (by omega) h2 j
            · rw [c3 l hl ?_]
              · exact a3 l hl (fun t' w y1 y2 => h2 t' w (by omega) y2)
              · by_cases y : l < 14 * t
                · exact Or.inl y
                · exact Or.inr (Nat.not_lt.mp (fun y2 => h2 t (l - 14 * t) (by omega) (by omega) (by omega)))
          | succ q ih2 =>
            intro n M3 m2 en hm3 hs3 e7' e8 hin3 hmo3 c1 c2 c3
            have hbt := hgb t n (by omega) (by omega)
            have e29' : M3 29 t = M1 29 t := by rw [hm3 29 (by decide)]
            refine pj_C40_134 (by omega) (fun c => by omega) (fun _ => pj_C40_140 t n rfl (by omega) rfl (by omega) (fun z => pj_C40_169 ?_) (fun z => ?_))
            · refine ih2 (n + 1) M3 m2 (by omega) hm3 hs3 e7' e8 hin3 hmo3 c1 (fun w hw j => ?_) c3
              rw [c2 w hw j]
              constructor
              · rintro (y | ⟨s, u, y0, y⟩)
                · exact Or.inl y
                · exact Or.inr ⟨s, u, by omega, y⟩
              · rintro (y | ⟨s, u, y0, y1, y2, y3, y4⟩)
                · exact Or.inl y
                · by_cases es : s = n
                  · exfalso
                    rw [es] at y1 y2
                    have hg : qf_gd (qf_RC D ro qf_all0 (qf_dP D)) (qf_stC D ro qf_all0 (qf_dP D)) (qf_dT D - t) t n := by
                      obtain ⟨k, hk⟩ : ∃ k, qf_dT D - t = k + 1 := ⟨qf_dT D - t - 1, by omega⟩
                      rw [hk]
                      exact ⟨u, y2, by rw [show k = qf_dT D - t - 1 by omega]; exact y3⟩
                    rw [e29', hbt.mpr ⟨y1, hg⟩] at z
                    cases z
                  · exact Or.inr ⟨s, u, by omega, y1, y2, y3, y4⟩
            · rw [e29'] at z
              have hrn := (hbt.mp z).1
              refine pj_C40_153 ?_
              rw [hmo3.1.P]
              refine qf_reachedX (J := qf_J1 D t g (M1 29 (t + 1)) m2) hD hE (qf_clo_all.c1 (t := t) (by omega)) (Nat.le_refl _) hrk h16 (by omega) (qf_rch_leg hD hrn) hmo3 hin3 ?_ ?_ ?_ ?_ ?_
              · rintro S Ma Mb ⟨j1, j2, j3, mx, j4, j5, j6⟩ hmm
                have e31 : Mb 31 = Ma 31 := hmm 31 (by decide)
                exact ⟨by rw [e31]; exact j1, by rw [e31]; exact j2, by rw [e31]; exact j3, mx, fun l hl => by rw [hmm 35 (by decide)]; exact j4 l hl, j5, j6⟩
              · rintro S S' Ma hss ⟨j1, j2, j3, mx, j4, j5, j6⟩
                refine ⟨j1, j2, j3, mx, j4, fun w hw j => ?_, j6⟩
                rw [j5 w hw j]
                constructor
                · rintro (y | ⟨v, y1, y2⟩)
                  · exact Or.inl y
                  · exact Or.inr ⟨v, (hss v).mp y1, y2⟩
                · rintro (y | ⟨v, y1, y2⟩)
                  · exact Or.inl y
                  · exact Or.inr ⟨v, (hss v).mpr y1, y2⟩
              · intro d' S Ma u Q' hJ hmo' hnow' hq'
                exact qf_arriveX1 hD hE (by omega) hog bas S Ma u hJ hmo' hnow' hq'
              · intro Ma hma hsa h12
                refine ⟨by rw [hsa 7 (by decide)]; exact e7', by rw [hsa 11 (by decide)]; exact hmo3.2.2.2.2, by rw [hsa 8 (by decide)]; exact e8, m2, fun l hl => by rw [hma 35 (by decide)]; exact c1 l hl, fun w hw j => ⟨fun y => Or.inl y, ?_⟩, fun l _ _ => rfl⟩
                rintro (y | ⟨v, y1, -⟩)
                · exact y
                · exact absurd y1 id
              · intro M4 hm4 hJ4
                obtain ⟨j1, j2, j3, mx, j4, j5, j6⟩ := hJ4
                refine pj_C40_168 (pj_C40_169 (ih2 (n + 1) M4 mx (by omega) (hm3.trans hm4.1 (by decide)) (hs3.trans hm4.2.1 (by decide)) j1 j3 (hin3.keep hD hm4) ?_ j4 (fun w hw j => ?_) (fun l hl h2 => ?_)))
                · refine ⟨hmo3.1.keep (qf_kX.of hm4.1 (by decide)), ?_, ?_, ?_, j2⟩
                  · rw [hm4.2.1 9 (by decide)]; exact hmo3.2.1
                  · rw [hm4.2.1 10 (by decide)]; exact hmo3.2.2.1
                  · rw [hm4.1 32 (by decide)]; exact hmo3.2.2.2.1
                · rw [j5 w hw j, c2 w hw j]
                  have want : ∀ u, qf_RC D ro qf_all0 (qf_dP D) t n u → (pj_bt (M1 29 (t + 1)) (qf_cg D g u) = true ↔ qf_gd (qf_RC D ro qf_all0 (qf_dP D)) (qf_stC D ro qf_all0 (qf_dP D)) (qf_dT D - t - 1) (t + 1) (qf_stC D ro qf_all0 (qf_dP D) t u)) := by
                    intro u hu
                    have hl := qf_stC_lt (ro := ro) (N := qf_all0) (e := qf_dP D) (t := t) (u := u) hD
                    rw [hgO.cg, hgb (t + 1) _ (by omega) (by omega), show qf_dT D - (t + 1) = qf_dT D - t - 1 by omega]
                    exact ⟨fun y => y.2, fun y => ⟨⟨n, u, hrn, hu, rfl⟩, y⟩⟩
                  constructor
                  · rintro ((y | ⟨s, u, y0, y⟩) | ⟨u, y1, y2, y3⟩)
                    · exact Or.inl y
                    · exact Or.inr ⟨s, u, by omega, y⟩
                    · exact Or.inr ⟨n, u, by omega, hrn, y1, (want u y1).mp y2, y3⟩
                  · rintro (y | ⟨s, u, y0, y1, y2, y3, y4⟩)
                    · exact Or.inl (Or.inl y)
                    · by_cases es : s = n
                      · rw [es] at y2
                        exact Or.inr ⟨u, y2, (want u y2).mpr y3, y4⟩
                      · exact Or.inl (Or.inr ⟨s, u, by omega, y1, y2, y3, y4⟩)
                · rw [j6 l hl h2]
                  exact c3 l hl h2
        refine inner 9 0 _ m1 (by omega) ((hm.trans hm2 (by decide)).up (by decide)) (fun k hk => ?_) ?_ pj_up_same (hin.same ?_) ?_ (fun l hl => ?_) (fun w hw j => ⟨fun z => Or.inl z, ?_⟩) (fun l _ _ => rfl)
        · rw [pj_up_slot (by simp only [List.mem_cons, List.not_mem_nil, or_false, not_or] at hk; omega), hs2 k (by simp only [List.mem_cons, List.not_mem_nil, or_false, not_or] at hk ⊢; omega)]
          exact hs k hk
        · rw [pj_up_slot (by decide), hs2 7 (by decide)]
          exact e7
        · rw [← hm2 33 (by decide)]
          funext k
          exact pj_up_else (by decide)
        · refine ⟨hmo2.1.keep (qf_kX.refl.up (by omega)), ?_, ?_, ?_, ?_⟩
          · rw [pj_up_slot (by decide)]; exact hmo2.2.1
          · rw [pj_up_slot (by decide)]; exact hmo2.2.2.1
          · intro p hp
            rw [pj_up_else (by decide)]; exact hmo2.2.2.2.1 p hp
          · rw [pj_up_slot (by decide)]; exact hmo2.2.2.2.2
        · rw [pj_up_else (by decide), hm2 35 (by decide)]
          exact a1 l hl
        · rintro (z | ⟨s, u, y, -⟩)
          · exact z
          · omega
    refine out (qf_dT D) 0 _ m (by omega) (qf_fr.refl.up (by decide)) (qf_fs.refl.up (by decide)) pj_up_same ?_ (fun l hl => ?_) (fun t' w h1 => absurd h1 (by omega)) (fun l _ _ => rfl)
    · refine h0.2.2.2.1.same ?_
      rw [← hm1 33 (by decide)]
      funext k
      exact pj_up_else (by decide)
    · rw [pj_up_else (by decide), hm1 35 (by decide)]
      exact hm0 l hl
  · obtain rfl : t = qf_dT D := by omega
    rw [(hbg _ (Nat.le_refl _)).2 z h3, Nat.sub_self]
    exact ⟨fun y => ⟨y, trivial⟩, fun y => y.1⟩
end QFXG
