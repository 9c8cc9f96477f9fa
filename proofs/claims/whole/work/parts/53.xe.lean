/-! THE CLASS: goesWell. -/
section QFXE
variable {L d : Nat} {Q : Option pj_V → pj_M → Prop} {D : qf_D} {ro : Nat → Nat} {N : Nat → Nat → Bool} {e t : Nat}
/-- the trial, ready: machine, roles, needed wires, inputs -/
def qf_tr (D : qf_D) (ro : Nat → Nat) (N : Nat → Nat → Bool) (M : pj_M) : Prop := qf_X D M ∧ (∀ p, p < qf_dP D → M 32 p = (ro p : Int)) ∧ qf_nd D N M ∧ qf_inX D M ∧ M 31 7 = 0
/-- what goesWell leaves -/
def qf_frG (M M' : pj_M) : Prop := qf_fr [29, 30, 31, 33, 34] M M' ∧ qf_fs 31 [9, 10, 11, 12, 13] M M'
theorem qf_frG.refl {M : pj_M} : qf_frG M M := ⟨qf_fr.refl, qf_fs.refl⟩
theorem qf_frG.trans {M M' M'' : pj_M} (h : qf_frG M M') (h' : qf_frG M' M'') : qf_frG M M'' := ⟨h.1.trans h'.1 (fun _ z => z), h.2.trans h'.2 (fun _ z => z)⟩
theorem qf_frG.up {M M' : pj_M} {a j : Nat} {x : Int} (h : qf_frG M M') (ha : a = 29 ∨ a = 30) : qf_frG M (pj_up M' a j x) := by
  refine ⟨h.1.up (by rcases ha with rfl | rfl <;> decide), h.2.else (by omega)⟩
theorem qf_tr.keep {M M' : pj_M} (h : qf_tr D ro N M) (hm : qf_frG M M') (hin : qf_inX D M') : qf_tr D ro N M' := by
  refine ⟨h.1.keep (qf_kX.of hm.1 (by decide)), by rw [hm.1 32 (by decide)]; exact h.2.1, ?_, hin, by rw [hm.2 7 (by decide)]; exact h.2.2.2.2⟩
  obtain ⟨a, h1, h2, h3⟩ := h.2.2.1
  refine ⟨a, h1, by rw [hm.1 26 (by decide)]; exact h2, fun t ht => ?_⟩
  rw [hm.1 a (by rcases h1 with rfl | rfl <;> decide)]
  exact h3 t ht
theorem qf_inX.same {M M' : pj_M} (h : qf_inX D M) (hm : M' 33 = M 33) : qf_inX D M' := by
  intro t w h1 h2 h3
  rw [hm]
  exact h t w h1 h2 h3
/-- the states in which ticks may begin -/
def qf_bg (D : qf_D) (ro : Nat → Nat) (N : Nat → Nat → Bool) (e : Nat) (M : pj_M) (t : Nat) : Prop := ∀ t', t' ≤ t → (-2147483648 ≤ M 29 t' ∧ M 29 t' < 2147483648) ∧ ∀ z, z < 32 → (pj_bt (M 29 t') z = true ↔ qf_rch (qf_RC D ro N e) (qf_stC D ro N e) t' z)
/-- the states that follow -/
def qf_fo (D : qf_D) (ro : Nat → Nat) (N : Nat → Nat → Bool) (e : Nat) (M : pj_M) (t : Nat) : Prop := ∀ t', t' < t → N t' 0 = true → ∀ s, s < 9 → qf_rch (qf_RC D ro N e) (qf_stC D ro N e) t' s → ∀ z, z < 32 → (pj_bt (M 30 (9 * t' + s)) z = true ↔ ∃ u, qf_RC D ro N e t' s u ∧ qf_stC D ro N e t' u = z)
theorem qf_bt_ne0 {x : Int} (h1 : -2147483648 ≤ x) (h2 : x < 2147483648) : x ≠ 0 ↔ ∃ z, z < 32 ∧ pj_bt x z = true := by
  constructor
  · intro hx
    refine Classical.byContradiction (fun hn => hx (pj_bt_ext h1 h2 (by omega) (by omega) (fun k hk => ?_)))
    rw [pj_bt_0]
    cases hq : pj_bt x k with
    | false => rfl
    | true => exact absurd ⟨k, hk, hq⟩ hn
  · rintro ⟨z, hz, hb⟩ h0
    rw [h0, pj_bt_0] at hb
    cases hb
theorem qf_rch_lt (hD : qf_okD D) {c : Nat} (h : qf_rch (qf_RC D ro N e) (qf_stC D ro N e) t c) : c < 9 := (qf_rch_leg hD h).1
/-- one tick -/
theorem qf_goesX_tick (hD : qf_okD D) (hE : qf_okE D) (hc : qf_clo D N) (he : e ≤ qf_dP D) (hrk : qf_rok D ro) (h16 : ∀ p, p < qf_dP D → ro p = 16 → qf_kd D p ≠ 4) (ht : t < qf_dT D) {M0 : pj_M} (h0 : qf_tr D ro N M0) (hbg : qf_bg D ro N e M0 t) (hfo : qf_fo D ro N e M0 t)
    (h : ∀ (M' : pj_M) (x : Int), qf_frG M0 M' → qf_inX D M' → qf_bg D ro N e M' t → qf_fo D ro N e M' (t + 1) → (-2147483648 ≤ x ∧ x < 2147483648) → (∀ z, z < 32 → (pj_bt x z = true ↔ qf_rch (qf_RC D ro N e) (qf_stC D ro N e) (t + 1) z)) → pj_G L (d + 12) 38 105 [pj_vR 26, pj_vI (e : Int), pj_vI (t : Int), pj_vI x, pj_vU, pj_vU] [] M' Q) : pj_G L (d + 12) 38 36 [pj_vR 26, pj_vI (e : Int), pj_vI (t : Int), pj_vU, pj_vU, pj_vU] [] M0 Q := by
  have hb := hD.b
  refine pj_C38_36 (qf_enterTickX (d := d + 9) hD hE hrk he ht h0.1 h0.2.1 h0.2.2.1 (fun M1 g RB hm1 hs1 hgO hmo1 e13 hRr hRB => pj_C38_42 ?_))
  have hog := hgO.og hD hc he ht
  have hG1 : qf_frG M0 M1 := ⟨hm1.wide (by decide), fun k hk => hs1 k (by simp only [List.mem_cons, List.not_mem_nil, or_false, not_or] at hk ⊢; omega)⟩
  have hbg1 : qf_bg D ro N e M1 t := by
    intro t' ht'
    rw [hm1 29 (by decide)]
    exact hbg t' ht'
  have loop : ∀ (r n : Nat) (M : pj_M) (x : Int), n + r = 9 → qf_frG M0 M → qf_inX D M → M 29 = M1 29 → (∀ t' s, t' < t → s < 9 → M 30 (9 * t' + s) = M1 30 (9 * t' + s)) → (qf_mo0 D ro (N t) t g M) → M 31 13 = RB → (-2147483648 ≤ x ∧ x < 2147483648) → (∀ z, z < 32 → (pj_bt x z = true ↔ ∃ c u, c < n ∧ qf_rch (qf_RC D ro N e) (qf_stC D ro N e) t c ∧ qf_RC D ro N e t c u ∧ qf_stC D ro N e t u = z)) → (∀ s, s < n → qf_rch (qf_RC D ro N e) (qf_stC D ro N e) t s → ∀ z, z < 32 → (pj_bt (M 30 (9 * t + s)) z = true ↔ ∃ u, qf_RC D ro N e t s u ∧ qf_stC D ro N e t u = z)) → pj_G L (d + 12) 38 47 [pj_vR 26, pj_vI (e : Int), pj_vI (t : Int), pj_vI x, pj_vI (n : Int), pj_vU] [] M Q := by
    intro r
    induction r with
    | zero =>
      intro n M x en hm hin e29 e30 hmo e13' hx a1 a2
      refine pj_C38_47 (by omega) (fun _ => h M x hm hin ?_ ?_ hx (fun z hz => ?_)) (fun c => by omega)
      · intro t' ht'
        rw [e29]
        exact hbg1 t' ht'
      · intro t' ht' hn0 s hs hrs z hz
        by_cases et : t' = t
        · subst et
          exact a2 s (by omega) hrs z hz
        · rw [e30 t' s (by omega) hs, hm1 30 (by decide)]
          exact hfo t' (by omega) hn0 s hs hrs z hz
      · rw [a1 z hz]
        constructor
        · rintro ⟨c, u, _, b1, b2, b3⟩
          exact ⟨c, u, b1, b2, b3⟩
        · rintro ⟨c, u, b1, b2, b3⟩
          exact ⟨c, u, by have := qf_rch_lt hD b1; omega, b1, b2, b3⟩
    | succ r ih =>
      intro n M x en hm hin e29 e30 hmo e13' hx a1 a2
      have hbt := (hbg1 t (Nat.le_refl _)).2 n (by omega)
      refine pj_C38_47 (by omega) (fun c => by omega) (fun _ => pj_C38_54 t n rfl (by omega) rfl (by omega) (fun z => pj_C38_99 ?_) (fun z => ?_))
      · have hno : ¬ qf_rch (qf_RC D ro N e) (qf_stC D ro N e) t n := fun y => by
          rw [e29, hbt.mpr y] at z
          cases z
        refine ih (n + 1) M x (by omega) hm hin e29 e30 hmo e13' hx (fun y hy => ?_) (fun s hs hrs => ?_)
        · rw [a1 y hy]
          constructor
          · rintro ⟨c, u, b0, b1⟩
            exact ⟨c, u, by omega, b1⟩
          · rintro ⟨c, u, b0, b1⟩
            have : c ≠ n := fun q => hno (q ▸ b1.1)
            exact ⟨c, u, by omega, b1⟩
        · have : s ≠ n := fun q => hno (q ▸ hrs)
          exact a2 s (by omega) hrs
      · rw [e29] at z
        have hrn := hbt.mp z
        refine pj_C38_68 ?_
        refine qf_reachedX (J := qf_J0 D g (M 35) 0 RB) hD hE (hc.c1 ht) he hrk h16 (by omega) (qf_rch_leg hD hrn) hmo hin ?_ ?_ ?_ ?_ ?_
        · rintro S Ma Mb ⟨j0, j1, j2, j3, j4, j5⟩ hmm
          have e31 : Mb 31 = Ma 31 := hmm 31 (by decide)
          exact ⟨by rw [hmm 35 (by decide)]; exact j0, by rw [e31]; exact j1, by rw [e31]; exact j2, by rw [e31]; exact j3, by rw [e31]; exact j4, by rw [e31]; exact j5⟩
        · rintro S S' Ma hss ⟨j0, j1, j2, j3, j4, j5⟩
          refine ⟨j0, j1, j2, j3, j4, fun y hy => ?_⟩
          rw [j5 y hy]
          constructor
          · rintro (q | ⟨v, q1, q2⟩)
            · exact Or.inl q
            · exact Or.inr ⟨v, (hss v).mp q1, q2⟩
          · rintro (q | ⟨v, q1, q2⟩)
            · exact Or.inl q
            · exact Or.inr ⟨v, (hss v).mpr q1, q2⟩
        · intro d' S Ma u Q' hJ hmo' hnow' hq'
          exact qf_arriveX0 hD hE (by omega) hog hRr hRB S Ma u hJ hmo' hnow' hq'
        · intro Ma hma hsa h12
          refine ⟨hma 35 (by decide), ?_, by rw [hsa 11 (by decide)]; exact hmo.2.2.2.2, by rw [hsa 13 (by decide)]; exact e13', by rw [h12]; omega, fun y hy => ?_⟩
          · rw [hsa 7 (by decide), hm.2 7 (by decide)]
            exact h0.2.2.2.2
          · rw [h12, pj_bt_0]
            constructor
            · intro q
              cases q
            · rintro (q | ⟨v, q1, -⟩)
              · cases q
              · exact absurd q1 id
        · intro M2 hm2 hJ2
          obtain ⟨j0, j1, j2, j3, j4, j5⟩ := hJ2
          have hG2 : qf_frG M0 (pj_up M2 30 (9 * t + n) (M2 31 12)) := by
            refine qf_frG.up ⟨fun a ha => ?_, fun k hk => ?_⟩ (Or.inr rfl)
            · by_cases e35 : a = 35
              · rw [e35, j0]
                exact hm.1 35 (by decide)
              · rw [hm2.1 a (by simp only [List.mem_cons, List.not_mem_nil, or_false, not_or] at ha ⊢; omega)]
                exact hm.1 a ha
            · rw [hm2.2.1 k (by simp only [List.mem_cons, List.not_mem_nil, or_false, not_or] at hk ⊢; omega)]
              exact hm.2 k hk
          have bits : ∀ y, y < 32 → (pj_bt (M2 31 12) y = true ↔ ∃ u, qf_RC D ro N e t n u ∧ qf_stC D ro N e t u = y) := by
            intro y hy
            rw [j5 y hy, pj_bt_0]
            constructor
            · rintro (q | ⟨v, q1, q2⟩)
              · cases q
              · exact ⟨v, q1, by rw [← hgO.cg]; exact q2⟩
            · rintro ⟨v, q1, q2⟩
              exact Or.inr ⟨v, q1, by rw [hgO.cg]; exact q2⟩
          refine pj_C38_78 (9 * t + n) (by omega) (by omega) (pj_C38_99 ?_)
          refine ih (n + 1) _ _ (by omega) hG2 ((hin.keep hD hm2).same (by funext k; exact pj_up_else (by decide))) ?_ (fun t' s ht' hs' => ?_) ?_ ?_ (pj_or_rng _ _) (fun y hy => ?_) (fun s hs hrs y hy => ?_)
          · rw [← e29, ← hm2.1 29 (by decide)]
            funext k
            exact pj_up_else (by decide)
          · rw [pj_up_slot (by omega), hm2.1 30 (by decide)]
            exact e30 t' s ht' hs'
          · refine ⟨hmo.1.keep ((qf_kX.of hm2.1 (by decide)).up (by omega)), ?_, ?_, ?_, ?_⟩
            · rw [pj_up_else (by decide), hm2.2.1 9 (by decide)]; exact hmo.2.1
            · rw [pj_up_else (by decide), hm2.2.1 10 (by decide)]; exact hmo.2.2.1
            · intro p hp
              rw [pj_up_else (by decide), hm2.1 32 (by decide)]; exact hmo.2.2.2.1 p hp
            · rw [pj_up_else (by decide)]; exact j2
          · rw [pj_up_else (by decide)]; exact j3
          · rw [pj_bt_or, Bool.or_eq_true, a1 y hy, bits y hy]
            constructor
            · rintro (⟨c, u, b0, b1⟩ | ⟨u, b1, b2⟩)
              · exact ⟨c, u, by omega, b1⟩
              · exact ⟨n, u, by omega, hrn, b1, b2⟩
            · rintro ⟨c, u, b0, b1, b2, b3⟩
              by_cases q : c = n
              · rw [q] at b2
                exact Or.inr ⟨u, b2, b3⟩
              · exact Or.inl ⟨c, u, by omega, b1, b2, b3⟩
          · by_cases q : s = n
            · rw [q, pj_up_same]
              exact bits y hy
            · rw [pj_up_slot (by omega), hm2.1 30 (by decide)]
              exact a2 s (by omega) hrs y hy
  refine loop 9 0 M1 0 (by omega) hG1 (h0.2.2.2.1.same (hm1 33 (by decide))) rfl (fun _ _ _ _ => rfl) hmo1 e13 (by omega) (fun z hz => ?_) (fun s hs => absurd hs (by omega))
  rw [pj_bt_0]
  constructor
  · intro q
    cases q
  · rintro ⟨c, u, q, -⟩
    omega
end QFXE
