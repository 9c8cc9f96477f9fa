/-! THE REFERENCE: agreesWith, collects, dueAll. -/
section QFG
variable {L d : Nat} {Q : Option pj_V → pj_M → Prop} {D : qf_D} {set : Nat} {ro : Nat → Nat}
abbrev qf_agL : List Nat := [38, 57, 58, 59, 60, 61]
/-- what a search of the reference leaves -/
def qf_frA (l : List Nat) (M M' : pj_M) : Prop := qf_fr l M M' ∧ qf_fs 38 [23, 24] M M'
theorem qf_frA.keep {l : List Nat} {M M' : pj_M} (h : qf_frA l M M') (hl : ∀ a ∈ l, a ≤ 38 ∨ 56 < a) : qf_kY M M' := by
  refine ⟨fun a h1 h2 => h.1 a (fun z => ?_), fun k h1 h2 => h.2 k ?_⟩
  · have := hl a z
    omega
  · simp only [List.mem_cons, List.not_mem_nil, or_false, not_or]
    omega
theorem qf_frA.ofr {l l' : List Nat} {M M' M'' : pj_M} (h : qf_frA l M M') (h' : qf_fr l' M' M'') (hl : ∀ a ∈ l', a ∈ l) (h38 : 38 ∉ l') : qf_frA l M M'' := ⟨h.1.trans h' hl, fun k hk => by rw [h' 38 h38]; exact h.2 k hk⟩
theorem qf_agreesY (hD : qf_okD D) (hE : qf_okE D) {M0 : pj_M} (hY : qf_Y D M0) (hset : set < 128)
    (h1 : qf_agr D set → ∀ M', qf_frA qf_agL M0 M' → Q (some (pj_vI 1)) M')
    (h0 : ¬ qf_agr D set → ∀ M', qf_frA qf_agL M0 M' → Q (some (pj_vI 0)) M') : pj_G L (d + 6) 118 0 [pj_vR 38, pj_vI (set : Int), pj_vU] [] M0 Q := by
  have loop : ∀ (r c : Nat) (M : pj_M) (e : Nat → Nat), c + r = qf_totW D set → qf_frA qf_agL M0 M → qf_sbY D M set → qf_ev D set e → qf_wyY D M set e → qf_codW D set e = c → (∀ e', qf_ev D set e' → qf_codW D set e' < c → ¬ ∃ v, qf_run D (qf_roE D set e') v) → pj_G L (d + 6) 118 11 [pj_vR 38, pj_vU, pj_vU] [] M Q := by
    intro r
    induction r with
    | zero =>
      intro c M e ec _ _ he _ hc _
      have := qf_codW_lt hD he
      omega
    | succ r ih =>
      intro c M e ec hm hsb he hw hc hno
      have hY' : qf_Y D M := hY.keep (hm.keep (by decide))
      refine pj_C118_11 (qf_canBeY hD hE hY' (qf_roY_of he hsb hw) (fun hex M1 hm1 _ => ?_) (fun hex M1 hm1 _ => ?_))
      · refine pj_C118_15 (by omega) (fun z => absurd z (by decide)) (fun _ => pj_C118_18 (h1 ?_ M1 (hm.ofr hm1 (by decide) (by decide))))
        exact ⟨_, qf_rs_roE he, hex⟩
      · have hm01 := hm.ofr hm1 (by decide) (by decide)
        have hsb1 : qf_sbY D M1 set := fun p hp => by rw [hm1 38 (by decide)]; exact hsb p hp
        have hw1 : qf_wyY D M1 set e := fun p hp y1 y2 => by rw [hm1 58 (by decide)]; exact hw p hp y1 y2
        have none' : ∀ e', qf_ev D set e' → qf_codW D set e' < c + 1 → ¬ ∃ v, qf_run D (qf_roE D set e') v := by
          intro e' he' hc' hv
          by_cases z : qf_codW D set e' = c
          · obtain ⟨v, hv⟩ := hv
            exact hex ⟨v, qf_run_congr hD (qf_codW_inj hD he' he (by omega)) hv⟩
          · exact hno e' he' (by omega) hv
        refine pj_C118_15 (by omega) (fun _ => pj_C118_20 ?_) (fun z => absurd rfl z)
        refine qf_turnsWY hD (hY.keep (hm01.keep (by decide))) hsb1 he hw1 (fun M2 e' hm2 he' hw' hc' => ?_) (fun M2 hm2 hc' => ?_)
        · refine pj_C118_24 (pj_C118_7 (by omega) (fun z => absurd z (by decide)) (fun _ => ?_))
          exact ih (c + 1) M2 e' (by omega) (hm01.ofr hm2 (by decide) (by decide)) (fun p hp => by rw [hm2 38 (by decide)]; exact hsb1 p hp) he' hw' (by omega) none'
        · refine pj_C118_24 (pj_C118_7 (by omega) (fun _ => pj_C118_28 (h0 ?_ M2 (hm01.ofr hm2 (by decide) (by decide)))) (fun z => absurd rfl z))
          rw [qf_agr_iff hD]
          rintro ⟨e', a1, a2, a3⟩
          exact none' e' a1 (by omega) a3
  refine pj_C118_0 (qf_beginsY hD hY hset (fun M' e hm hs hsb he hw hc => ?_))
  refine pj_C118_5 (pj_C118_7 (by omega) (fun z => absurd z (by decide)) (fun _ => ?_))
  exact loop (qf_totW D set) 0 M' e (by omega) ⟨hm.wide (by decide), hs⟩ hsb he hw hc (fun e' _ z => absurd z (by omega))
/-- states that are good, as collects has them from tick t on -/
def qf_gdY (D : qf_D) (ro : Nat → Nat) (M : pj_M) (t : Nat) : Prop := ∀ t' s, t ≤ t' → t' ≤ qf_dT D → s < 81 → (M 62 (81 * t' + s) = 1 ↔ qf_rch (qf_RR D ro) (qf_stR D) t' s ∧ qf_gd (qf_RR D ro) (qf_stR D) (qf_dT D - t') t' s)
abbrev qf_coL : List Nat := [57, 59, 60, 62, 63]
theorem qf_collectsY1 (hD : qf_okD D) (hE : qf_okE D) {M0 : pj_M} (hY : qf_Y D M0) (hR : qf_roY D M0 ro) (hr : qf_rchY D ro M0)
    (h : ∀ M', qf_fr [57, 59, 60, 62] M0 M' → (∀ k, k < 324 → M' 62 k = 0 ∨ M' 62 k = 1) → qf_gdY D ro M' 0 → pj_G L (d + 5) 113 98 [pj_vR 38, pj_vU, pj_vU] [] M' Q) : ∀ (q : Nat) (M : pj_M), q ≤ qf_dT D → qf_fr [57, 59, 60, 62] M0 M → (∀ k, k < 324 → M 62 k = 0 ∨ M 62 k = 1) → qf_gdY D ro M q → (∀ k, k < 81 * q → M 62 k = 0) → pj_G L (d + 5) 113 53 [pj_vR 38, pj_vI ((q : Int) - 1), pj_vU] [] M Q := by
  intro q
  have hb := hD.b
  induction q with
  | zero =>
    intro M hq hm a1 a2 a3
    exact pj_C113_53 (by omega) (fun _ => h M hm a1 a2) (fun c => by omega)
  | succ t ih =>
    intro M hq hm a1 a2 a3
    have et : ((t + 1 : Nat) : Int) - 1 = (t : Int) := by omega
    rw [et]
    refine pj_C113_53 (by omega) (fun c => by omega) (fun _ => pj_C113_57 ?_)
    have inner : ∀ (r n : Nat) (M1 : pj_M), n + r = 81 → qf_fr [57, 59, 60, 62] M0 M1 → (∀ k, k < 324 → M1 62 k = 0 ∨ M1 62 k = 1) → qf_gdY D ro M1 (t + 1) → (∀ s, s < n → (M1 62 (81 * t + s) = 1 ↔ qf_rch (qf_RR D ro) (qf_stR D) t s ∧ qf_gd (qf_RR D ro) (qf_stR D) (qf_dT D - t) t s)) → (∀ k, k < 81 * (t + 1) → (k < 81 * t ∨ 81 * t + n ≤ k) → M1 62 k = 0) → pj_G L (d + 5) 113 59 [pj_vR 38, pj_vI (t : Int), pj_vI (n : Int)] [] M1 Q := by
      intro r
      induction r with
      | zero =>
        intro n M1 en hm1 b1 b2 b3 b4
        refine pj_C113_59 (by omega) (fun _ => pj_C113_92 ?_) (fun c => by omega)
        refine ih M1 (by omega) hm1 b1 (fun t' s h1 h2 h3 => ?_) (fun k hk => b4 k (by omega) (by omega))
        by_cases z : t' = t
        · subst z
          exact b3 s (by omega)
        · exact b2 t' s (by omega) h2 h3
      | succ r ih2 =>
        intro n M1 en hm1 b1 b2 b3 b4
        have e38 : M1 38 = M0 38 := hm1 38 (by decide)
        have hY1 : qf_Y D M1 := hY.keep (qf_kY.of hm1 (by decide))
        have hR1 : qf_roY D M1 ro := hR.keep (by rw [e38]) (by rw [e38]) (hm1 58 (by decide))
        have e61 : M1 61 = M0 61 := hm1 61 (by decide)
        have hc := hr.1 (81 * t + n) (by omega)
        have hrn := hr.2 t n (by omega) (by omega)
        have hz := b4 (81 * t + n) (by omega) (by omega)
        refine pj_C113_59 (by omega) (fun c => by omega) (fun _ => pj_C113_65 (81 * t + n) (by omega) (by omega) (by rw [e61]; omega) (fun z => pj_C113_86 ?_) (fun z => ?_))
        · refine ih2 (n + 1) M1 (by omega) hm1 b1 b2 (fun s hs => ?_) (fun k h1 h2 => b4 k h1 (by omega))
          by_cases es : s = n
          · subst es
            constructor
            · intro y
              omega
            · rintro ⟨y, -⟩
              have := hrn.mpr y
              rw [e61] at z
              omega
          · exact b3 s (by omega)
        · rw [e61] at z
          have hrc := hrn.mp (by omega)
          refine pj_C113_79 (qf_tries1 hD hE (by omega) (by omega) hY1 hR1 b1 (fun M2 hm2 c1 c2 c3 => pj_C113_86 ?_))
          refine ih2 (n + 1) M2 (by omega) (hm1.trans hm2 (by decide)) (fun k hk => ?_) (fun t' s h1 h2 h3 => ?_) (fun s hs => ?_) (fun k h1 h2 => ?_)
          · by_cases y : k = 81 * t + n
            · rw [y]; exact c2
            · rw [c1 k y]; exact b1 k hk
          · rw [c1 _ (by omega)]
            exact b2 t' s h1 h2 h3
          · by_cases es : s = n
            · subst es
              rw [c3]
              obtain ⟨m, hm'⟩ : ∃ m, qf_dT D - t = m + 1 := ⟨qf_dT D - t - 1, by omega⟩
              rw [hm']
              show _ ↔ _ ∧ ∃ u, qf_RR D ro t s u ∧ qf_gd (qf_RR D ro) (qf_stR D) m (t + 1) (qf_stR D t u)
              have good : ∀ u, qf_RR D ro t s u → (M1 62 (81 * (t + 1) + qf_stR D t u) = 1 ↔ qf_gd (qf_RR D ro) (qf_stR D) m (t + 1) (qf_stR D t u)) := by
                intro u hu
                rw [b2 (t + 1) (qf_stR D t u) (by omega) (by omega) (qf_RR_st hD (by omega) hu), show qf_dT D - (t + 1) = m by omega]
                exact ⟨fun y => y.2, fun y => ⟨⟨s, u, hrc, hu, rfl⟩, y⟩⟩
              constructor
              · rintro (y | ⟨u, y1, y2⟩)
                · omega
                · exact ⟨hrc, u, y1, (good u y1).mp y2⟩
              · rintro ⟨-, u, y1, y2⟩
                exact Or.inr ⟨u, y1, (good u y1).mpr y2⟩
            · rw [c1 _ (by omega)]
              exact b3 s (by omega)
          · rw [c1 k (by omega)]
            exact b4 k h1 (by omega)
    exact inner 81 0 M (by omega) hm a1 a2 (fun s hs => absurd hs (by omega)) (fun k h1 h2 => a3 k h1)
/-- the numbers that runs have, put into small sets -/
def qf_put2 (D : qf_D) (ro : Nat → Nat) (m m' : Nat → Nat) : Prop := (∀ t w, t < qf_dT D → w < qf_dW D → ∀ j, ((m' (14 * t + w)).testBit j = true ↔ (m (14 * t + w)).testBit j = true ∨ ∃ v, qf_run D ro v ∧ v t w = j)) ∧ ∀ l, l < 42 → (∀ t w, t < qf_dT D → w < qf_dW D → l ≠ 14 * t + w) → m' l = m l
theorem qf_collectsY (hD : qf_okD D) (hE : qf_okE D) {M0 : pj_M} (hY : qf_Y D M0) (hR : qf_roY D M0 ro) (hr : qf_rchY D ro M0) {m : Nat → Nat} (hm0 : qf_fnd M0 63 m)
    (h : ∀ M' m', qf_fr qf_coL M0 M' → qf_fnd M' 63 m' → qf_put2 D ro m m' → Q none M') : pj_G L (d + 5) 113 0 [pj_vR 38, pj_vU, pj_vU] [] M0 Q := by
  have hb := hD.b
  -- the last part: all ticks, all states
  have out : ∀ (M1 : pj_M), qf_fr [57, 59, 60, 62] M0 M1 → (∀ k, k < 324 → M1 62 k = 0 ∨ M1 62 k = 1) → qf_gdY D ro M1 0 → ∀ (r t : Nat) (M : pj_M) (m1 : Nat → Nat), t + r = qf_dT D → qf_fr [57, 59, 60, 63] M1 M → qf_fnd M 63 m1 → (∀ t' w, t' < t → w < qf_dW D → ∀ j, ((m1 (14 * t' + w)).testBit j = true ↔ (m (14 * t' + w)).testBit j = true ∨ ∃ v, qf_run D ro v ∧ v t' w = j)) → (∀ l, l < 42 → (∀ t' w, t' < t → w < qf_dW D → l ≠ 14 * t' + w) → m1 l = m l) → pj_G L (d + 5) 113 100 [pj_vR 38, pj_vI (t : Int), pj_vU] [] M Q := by
    intro M1 hm1 g1 g2 r
    have e61 : ∀ {M : pj_M}, qf_fr [57, 59, 60, 63] M1 M → M 61 = M0 61 := fun hm => (hm 61 (by decide)).trans (hm1 61 (by decide))
    have core : ∀ {M : pj_M}, qf_fr [57, 59, 60, 63] M1 M → qf_Y D M ∧ qf_roY D M ro := by
      intro M hm
      have e38 : M 38 = M0 38 := (hm 38 (by decide)).trans (hm1 38 (by decide))
      exact ⟨hY.keep ((qf_kY.of hm1 (by decide)).trans (qf_kY.of hm (by decide))), hR.keep (by rw [e38]) (by rw [e38]) ((hm 58 (by decide)).trans (hm1 58 (by decide)))⟩
    induction r with
    | zero =>
      intro t M m1 et hm a1 a2 a3
      have hT := (core hm).1.T
      obtain rfl : t = qf_dT D := by omega
      refine pj_C113_100 (by omega) (by omega) (fun _ => pj_C113_163 (h M m1 (fun a ha => ?_) a1 ⟨fun t' w h1 h2 j => a2 t' w h1 h2 j, fun l hl h2 => a3 l hl h2⟩)) (fun c => by omega)
      simp only [List.mem_cons, List.not_mem_nil, or_false, not_or] at ha
      rw [hm a (by simp only [List.mem_cons, List.not_mem_nil, or_false, not_or]; omega), hm1 a (by simp only [List.mem_cons, List.not_mem_nil, or_false, not_or]; omega)]
    | succ r ih =>
      intro t M m1 et hm a1 a2 a3
      have hT := (core hm).1.T
      refine pj_C113_100 (by omega) (by omega) (fun c => by omega) (fun _ => pj_C113_108 ?_)
      have inner : ∀ (r n : Nat) (M2 : pj_M) (m2 : Nat → Nat), n + r = 81 → qf_fr [57, 59, 60, 63] M1 M2 → qf_fnd M2 63 m2 → (∀ w, w < qf_dW D → ∀ j, ((m2 (14 * t + w)).testBit j = true ↔ (m1 (14 * t + w)).testBit j = true ∨ ∃ s u, s < n ∧ qf_rch (qf_RR D ro) (qf_stR D) t s ∧ qf_RR D ro t s u ∧ qf_gd (qf_RR D ro) (qf_stR D) (qf_dT D - t - 1) (t + 1) (qf_stR D t u) ∧ u w = j)) → (∀ l, l < 42 → (l < 14 * t ∨ 14 * t + qf_dW D ≤ l) → m2 l = m1 l) → pj_G L (d + 5) 113 110 [pj_vR 38, pj_vI (t : Int), pj_vI (n : Int)] [] M2 Q := by
        intro r
        induction r with
        | zero =>
          intro n M2 m2 en hm2 b1 b2 b3
          refine pj_C113_110 (by omega) (fun _ => pj_C113_157 ?_) (fun c => by omega)
          refine ih (t + 1) M2 m2 (by omega) hm2 b1 (fun t' w h1 h2 j => ?_) (fun l hl h2 => ?_)
          · by_cases z : t' = t
            · subst z
              rw [b2 w h2 j, a3 _ (by omega) (fun t2 w2 y1 y2 y3 => by omega)]
              have key : (∃ s u, s < n ∧ qf_rch (qf_RR D ro) (qf_stR D) t' s ∧ qf_RR D ro t' s u ∧ qf_gd (qf_RR D ro) (qf_stR D) (qf_dT D - t' - 1) (t' + 1) (qf_stR D t' u) ∧ u w = j) ↔ ∃ v, qf_run D ro v ∧ v t' w = j := by
                constructor
                · rintro ⟨s, u, -, y1, y2, y3, y4⟩
                  obtain ⟨v, v1, v2⟩ := (qf_aut_at (T := qf_dT D) (by omega) u).mp ⟨s, y1, y2, y3⟩
                  exact ⟨v, (qf_run_R hD v).mp v1, by rw [v2]; exact y4⟩
                · rintro ⟨v, v1, v2⟩
                  obtain ⟨s, y1, y2, y3⟩ := (qf_aut_at (R := qf_RR D ro) (f := qf_stR D) (T := qf_dT D) (by omega) (v t')).mpr ⟨v, (qf_run_R hD v).mpr v1, rfl⟩
                  refine ⟨s, v t', ?_, y1, y2, y3, v2⟩
                  have : s < 81 := by
                    cases t' with
                    | zero =>
                      have : s = 0 := y1
                      omega
                    | succ t2 =>
                      obtain ⟨c', u, q1, q2, q3⟩ := y1
                      rw [← q3]
                      exact qf_RR_st hD (by omega) q2
                  omega
              rw [key]
            · rw [b3 _ (by omega) (by omega)]
              exact a2 t' w (by omega) h2 j
          · rw [b3 l hl ?_]
            · exact a3 l hl (fun t' w y1 y2 => h2 t' w (by omega) y2)
            · by_cases y : l < 14 * t
              · exact Or.inl y
              · refine Or.inr (Nat.not_lt.mp (fun y2 => h2 t (l - 14 * t) (by omega) (by omega) (by omega)))
        | succ r ih2 =>
          intro n M2 m2 en hm2 b1 b2 b3
          have hc := hr.1 (81 * t + n) (by omega)
          have hrn := hr.2 t n (by omega) (by omega)
          have e62 : M2 62 = M1 62 := hm2 62 (by decide)
          have hg := g1 (81 * t + n) (by omega)
          have hgn := g2 t n (by omega) (by omega) (by omega)
          have skip : (¬ (qf_rch (qf_RR D ro) (qf_stR D) t n ∧ qf_gd (qf_RR D ro) (qf_stR D) (qf_dT D - t) t n)) → pj_G L (d + 5) 113 151 [pj_vR 38, pj_vI (t : Int), pj_vI (n : Int)] [] M2 Q := by
            intro hn
            refine pj_C113_151 (ih2 (n + 1) M2 m2 (by omega) hm2 b1 (fun w hw j => ?_) b3)
            rw [b2 w hw j]
            constructor
            · rintro (y | ⟨s, u, y0, y⟩)
              · exact Or.inl y
              · exact Or.inr ⟨s, u, by omega, y⟩
            · rintro (y | ⟨s, u, y0, y1, y2, y3, y4⟩)
              · exact Or.inl y
              · by_cases es : s = n
                · rw [es] at y1 y2
                  refine absurd ⟨y1, ?_⟩ hn
                  obtain ⟨q, hq⟩ : ∃ q, qf_dT D - t = q + 1 := ⟨qf_dT D - t - 1, by omega⟩
                  rw [hq]
                  exact ⟨u, y2, by rw [show q = qf_dT D - t - 1 by omega]; exact y3⟩
                · exact Or.inr ⟨s, u, by omega, y1, y2, y3, y4⟩
          refine pj_C113_110 (by omega) (fun c => by omega) (fun _ => pj_C113_116 (81 * t + n) (by omega) (by omega) (by rw [e61 hm2]; omega) (fun z => skip (fun y => ?_)) (fun z => ?_))
          · rw [e61 hm2] at z
            have := hrn.mpr y.1
            omega
          · rw [e61 hm2] at z
            have hrc := hrn.mp (by omega)
            refine pj_C113_130 (81 * t + n) (by omega) (by omega) (by rw [e62]; omega) (fun z2 => skip (fun y => ?_)) (fun z2 => ?_)
            · rw [e62] at z2
              have := hgn.mpr y
              omega
            · refine pj_C113_144 (qf_tries2 hD hE (by omega) (by omega) (core hm2).1 (core hm2).2 (by rw [e62]; exact g1) b1 (fun M3 m3 hm3 c1 c2 c3 => pj_C113_151 ?_))
              refine ih2 (n + 1) M3 m3 (by omega) (hm2.trans hm3 (by decide)) c1 (fun w hw j => ?_) (fun l hl h2 => ?_)
              · rw [c2 w hw j, b2 w hw j]
                have good : ∀ u, qf_RR D ro t n u → (M2 62 (81 * (t + 1) + qf_stR D t u) = 1 ↔ qf_gd (qf_RR D ro) (qf_stR D) (qf_dT D - t - 1) (t + 1) (qf_stR D t u)) := by
                  intro u hu
                  rw [e62, g2 (t + 1) (qf_stR D t u) (by omega) (by omega) (qf_RR_st hD (by omega) hu), show qf_dT D - (t + 1) = qf_dT D - t - 1 by omega]
                  exact ⟨fun y => y.2, fun y => ⟨⟨n, u, hrc, hu, rfl⟩, y⟩⟩
                constructor
                · rintro ((y | ⟨s, u, y0, y⟩) | ⟨u, y1, y2, y3⟩)
                  · exact Or.inl y
                  · exact Or.inr ⟨s, u, by omega, y⟩
                  · exact Or.inr ⟨n, u, by omega, hrc, y1, (good u y1).mp y2, y3⟩
                · rintro (y | ⟨s, u, y0, y1, y2, y3, y4⟩)
                  · exact Or.inl (Or.inl y)
                  · by_cases es : s = n
                    · rw [es] at y2
                      exact Or.inr ⟨u, y2, (good u y2).mpr y3, y4⟩
                    · exact Or.inl (Or.inr ⟨s, u, by omega, y1, y2, y3, y4⟩)
              · rw [c3 l hl h2]
                exact b3 l hl h2
      refine inner 81 0 M m1 (by omega) hm a1 (fun w hw j => ⟨fun z => Or.inl z, ?_⟩) (fun l _ _ => rfl)
      rintro (z | ⟨s, u, y, -⟩)
      · exact z
      · omega
  -- the beginning
  have init : ∀ (r n : Nat) (M : pj_M), n + r = 324 → qf_fr [57, 59, 60, 62] M0 M → (∀ k, k < n → (M 62 k = 0 ∨ M 62 k = 1) ∧ (M 62 k = 1 ↔ 81 * qf_dT D ≤ k ∧ M0 61 k = 1)) → pj_G L (d + 5) 113 2 [pj_vR 38, pj_vI (n : Int), pj_vU] [] M Q := by
    intro r
    induction r with
    | zero =>
      intro n M en hm a
      have hT := (hY.keep (qf_kY.of hm (by decide)) : qf_Y D M).T
      refine pj_C113_2 (by omega) (fun _ => pj_C113_46 ?_) (fun c => by omega)
      rw [hT]
      refine qf_collectsY1 hD hE hY hR hr (fun M1 hm1 g1 g2 => pj_C113_98 ?_) (qf_dT D) M (Nat.le_refl _) hm (fun k hk => (a k (by omega)).1) (fun t' s h1 h2 h3 => ?_) (fun k hk => ?_)
      · exact out M1 hm1 g1 g2 (qf_dT D) 0 M1 m (by omega) qf_fr.refl (fun l hl => by rw [hm1 63 (by decide)]; exact hm0 l hl) (fun t' w h1 => absurd h1 (by omega)) (fun l _ _ => rfl)
      · obtain rfl : t' = qf_dT D := by omega
        rw [(a _ (by omega)).2, hr.2 _ s (Nat.le_refl _) h3, Nat.sub_self]
        exact ⟨fun y => ⟨y.2, trivial⟩, fun y => ⟨by omega, y.1⟩⟩
      · have := a k (by omega)
        rcases this.1 with y | y
        · exact y
        · have := this.2.mp y
          omega
    | succ r ih =>
      intro n M en hm a
      have hT := (hY.keep (qf_kY.of hm (by decide)) : qf_Y D M).T
      have e61 : M 61 n = M0 61 n := by rw [hm 61 (by decide)]
      have hc := hr.1 n (by omega)
      have next : ∀ y : Int, (y = 0 ∨ y = 1) → (y = 1 ↔ 81 * qf_dT D ≤ n ∧ M0 61 n = 1) → pj_G L (d + 5) 113 39 [pj_vR 38, pj_vI (n : Int), pj_vU] [pj_vI y, pj_vI (n : Int), pj_vR 62] M Q := by
        intro y hy1 hy2
        refine pj_C113_39 n hy1 rfl (by omega) (ih (n + 1) _ (by omega) (hm.up (by decide)) (fun k hk => ?_))
        by_cases z : k = n
        · rw [z, pj_up_same]
          exact ⟨hy1, hy2⟩
        · rw [pj_up_slot z]
          exact a k (by omega)
      refine pj_C113_2 (by omega) (fun c => by omega) (fun _ => pj_C113_9 (by omega) (by omega) (fun z => pj_C113_38 (next 0 (Or.inl rfl) ⟨fun y => absurd y (by decide), fun y => by omega⟩)) (fun z => ?_))
      refine pj_C113_25 n rfl (by omega) (by omega) (fun y => pj_C113_38 (next 0 (Or.inl rfl) ⟨fun y => absurd y (by decide), fun y => by omega⟩)) (fun y => pj_C113_34 (next 1 (Or.inr rfl) ⟨fun _ => ⟨by omega, by omega⟩, fun _ => rfl⟩))
  exact pj_C113_0 (init 324 0 M0 (by omega) qf_fr.refl (fun k hk => absurd hk (by omega)))
end QFG
