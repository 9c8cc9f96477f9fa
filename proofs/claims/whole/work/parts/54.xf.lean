/-! THE CLASS: goesWell whole; gather. -/
section QFXF
variable {L d : Nat} {Q : Option pj_V → pj_M → Prop} {D : qf_D} {ro : Nat → Nat} {N : Nat → Nat → Bool} {e t : Nat}
theorem qf_prun_ex (hD : qf_okD D) (hrk : qf_rok D ro) (he : e ≤ qf_dP D) : (∃ v, qf_prun D ro N e v) ↔ ∃ c, qf_rch (qf_RC D ro N e) (qf_stC D ro N e) (qf_dT D) c := by
  rw [qf_aut_ex]
  constructor
  · rintro ⟨v, h⟩
    exact ⟨v, (qf_run_C hD hrk he v).mpr h⟩
  · rintro ⟨v, h⟩
    exact ⟨v, (qf_run_C hD hrk he v).mp h⟩
theorem qf_goesX (hD : qf_okD D) (hE : qf_okE D) (hc : qf_clo D N) (he : e ≤ qf_dP D) (hrk : qf_rok D ro) (h16 : ∀ p, p < qf_dP D → ro p = 16 → qf_kd D p ≠ 4) {M0 : pj_M} (h0 : qf_tr D ro N M0)
    (hy : (∃ v, qf_prun D ro N e v) → ∀ M', qf_frG M0 M' → qf_inX D M' → qf_bg D ro N e M' (qf_dT D) → qf_fo D ro N e M' (qf_dT D) → Q (some (pj_vI 1)) M')
    (hn : (¬ ∃ v, qf_prun D ro N e v) → ∀ M', qf_frG M0 M' → qf_inX D M' → Q (some (pj_vI 0)) M') : pj_G L (d + 12) 38 0 [pj_vR 26, pj_vI (e : Int), pj_vU, pj_vU, pj_vU, pj_vU] [] M0 Q := by
  have hb := hD.b
  have loop : ∀ (r t : Nat) (M : pj_M), t + r = qf_dT D → qf_frG M0 M → qf_inX D M → qf_bg D ro N e M t → qf_fo D ro N e M t → (∃ z, qf_rch (qf_RC D ro N e) (qf_stC D ro N e) t z) → pj_G L (d + 12) 38 9 [pj_vR 26, pj_vI (e : Int), pj_vI (t : Int), pj_vU, pj_vU, pj_vU] [] M Q := by
    intro r
    induction r with
    | zero =>
      intro t M et hm hin hbg hfo hex
      have hT := (h0.keep hm hin).1.T
      obtain rfl : t = qf_dT D := by omega
      exact pj_C38_9 (by omega) (by omega) (fun _ => pj_C38_126 (hy ((qf_prun_ex hD hrk he).mpr hex) M hm hin hbg hfo)) (fun c => by omega)
    | succ r ih =>
      intro t M et hm hin hbg hfo hex
      have htr := h0.keep hm hin
      have hT := htr.1.T
      have ht : t < qf_dT D := by omega
      -- behind the tick
      have next : ∀ (M' : pj_M) (x : Int), qf_frG M M' → qf_inX D M' → qf_bg D ro N e M' t → qf_fo D ro N e M' (t + 1) → (-2147483648 ≤ x ∧ x < 2147483648) → (∀ z, z < 32 → (pj_bt x z = true ↔ qf_rch (qf_RC D ro N e) (qf_stC D ro N e) (t + 1) z)) → pj_G L (d + 12) 38 105 [pj_vR 26, pj_vI (e : Int), pj_vI (t : Int), pj_vI x, pj_vU, pj_vU] [] M' Q := by
        intro M' x hm' hin' hbg' hfo' hx hbx
        refine pj_C38_105 hx (fun z => pj_C38_111 (t + 1) (by omega) (by omega) ?_) (fun z => pj_C38_109 (hn ?_ M' (hm.trans hm') hin'))
        · obtain ⟨y, hy1, hy2⟩ := (qf_bt_ne0 hx.1 hx.2).mp z
          refine ih (t + 1) _ (by omega) ((hm.trans hm').up (Or.inl rfl)) (hin'.same (by funext k; exact pj_up_else (by decide))) (fun t' ht' => ?_) (fun t' ht' hn0 s hs hrs y hy => ?_) ⟨y, (hbx y hy1).mp hy2⟩
          · by_cases q : t' = t + 1
            · rw [q, pj_up_same]
              exact ⟨hx, hbx⟩
            · rw [pj_up_slot q]
              exact hbg' t' (by omega)
          · rw [pj_up_else (by decide)]
            exact hfo' t' ht' hn0 s hs hrs y hy
        · rintro ⟨v, hv⟩
          have hv' := (qf_run_C hD hrk he v).mpr hv
          have hr := qf_rch_of (t + 1) (fun s hs => hv' s (by omega))
          have hl := qf_rch_lt hD hr
          have := (hbx _ (by omega)).mpr hr
          rw [z, pj_bt_0] at this
          cases this
      obtain ⟨na, hna, h6, hN⟩ := htr.2.2.1
      have hz := hN t ht
      -- nothing needed: the states stay
      have same : M na t = 0 → pj_G L (d + 12) 38 105 [pj_vR 26, pj_vI (e : Int), pj_vI (t : Int), pj_vI (M 29 t), pj_vU, pj_vU] [] M Q := by
        intro hz0
        have hnone : ∀ w, w < 14 → N t w = false := by
          intro w hw
          rw [← hz.2 w hw, hz0, pj_bt_0]
        have hbt := hbg t (Nat.le_refl _)
        refine next M (M 29 t) qf_frG.refl hin hbg (fun t' ht' hn0 s hs hrs => ?_) hbt.1 (fun z hz' => ?_)
        · have : t' ≠ t := fun q => by rw [q, hnone 0 (by omega)] at hn0; cases hn0
          exact hfo t' (by omega) hn0 s hs hrs
        · rw [qf_rch_skip hD hc he ht hnone z]
          exact hbt.2 z hz'
      refine pj_C38_9 (by omega) (by omega) (fun c => by omega) (fun _ => ?_)
      have tick := qf_goesX_tick (L := L) (d := d) (Q := Q) hD hE hc he hrk h16 ht htr hbg hfo next
      rcases hna with rfl | rfl
      · exact pj_C38_20 t rfl (by omega) (Or.inl h6) (fun _ => pj_C38_31 t rfl (by omega) hz.1 (fun q => same q) (fun _ => tick)) (fun q => by omega)
      · exact pj_C38_20 t rfl (by omega) (Or.inr h6) (fun q => by omega) (fun _ => pj_C38_31v1 t rfl (by omega) hz.1 (fun q => same q) (fun _ => tick))
  refine pj_C38_0 (loop (qf_dT D) 0 _ (by omega) (qf_frG.refl.up (Or.inl rfl)) (h0.2.2.2.1.same (by funext k; exact pj_up_else (by decide))) (fun t' ht' => ?_) (fun t' ht' => absurd ht' (by omega)) ⟨0, rfl⟩)
  obtain rfl : t' = 0 := by omega
  rw [pj_up_same]
  refine ⟨by omega, fun z hz => ?_⟩
  have e1 : pj_bt 1 z = decide (z = 0) := by
    have : ∀ z : Fin 32, pj_bt 1 z.val = decide (z.val = 0) := by decide +kernel
    exact this ⟨z, hz⟩
  rw [e1, decide_eq_true_iff]
  rfl
/-- what gather leaves -/
def qf_frH (M M' : pj_M) : Prop := qf_fr [29, 30, 31, 33, 34, 35] M M' ∧ qf_fs 31 [7, 8, 9, 10, 11, 12, 13] M M' ∧ M' 31 7 = 0
/-- gather: first the states from which no way leads on are taken away -/
theorem qf_gatherX1 (hD : qf_okD D) (hrk : qf_rok D ro) {M0 : pj_M} (h0 : qf_tr D ro qf_all0 M0) (hbg : qf_bg D ro qf_all0 (qf_dP D) M0 (qf_dT D)) (hfo : qf_fo D ro qf_all0 (qf_dP D) M0 (qf_dT D))
    (h : ∀ M', qf_fr [29] M0 M' → (∀ t z, t ≤ qf_dT D → z < 32 → (pj_bt (M' 29 t) z = true ↔ qf_rch (qf_RC D ro qf_all0 (qf_dP D)) (qf_stC D ro qf_all0 (qf_dP D)) t z ∧ qf_gd (qf_RC D ro qf_all0 (qf_dP D)) (qf_stC D ro qf_all0 (qf_dP D)) (qf_dT D - t) t z)) → pj_G L d 40 84 [pj_vR 26, pj_vU, pj_vU] [] M' Q) : ∀ (q : Nat) (M : pj_M), q ≤ qf_dT D → qf_fr [29] M0 M → (∀ t z, q ≤ t → t ≤ qf_dT D → z < 32 → (pj_bt (M 29 t) z = true ↔ qf_rch (qf_RC D ro qf_all0 (qf_dP D)) (qf_stC D ro qf_all0 (qf_dP D)) t z ∧ qf_gd (qf_RC D ro qf_all0 (qf_dP D)) (qf_stC D ro qf_all0 (qf_dP D)) (qf_dT D - t) t z)) → (∀ t, t < q → M 29 t = M0 29 t) → pj_G L d 40 10 [pj_vR 26, pj_vI ((q : Int) - 1), pj_vU] [] M Q := by
  intro q
  have hb := hD.b
  induction q with
  | zero =>
    intro M hq hm a1 a2
    exact pj_C40_10 (by omega) (fun _ => h M hm (fun t z ht hz => a1 t z (by omega) ht hz)) (fun c => by omega)
  | succ t ih =>
    intro M hq hm a1 a2
    have et : ((t + 1 : Nat) : Int) - 1 = (t : Int) := by omega
    rw [et]
    refine pj_C40_10 (by omega) (fun c => by omega) (fun _ => pj_C40_14 ?_)
    have inner : ∀ (r n : Nat) (M1 : pj_M), n + r = 9 → qf_fr [29] M0 M1 → (∀ t' z, t + 1 ≤ t' → t' ≤ qf_dT D → z < 32 → (pj_bt (M1 29 t') z = true ↔ qf_rch (qf_RC D ro qf_all0 (qf_dP D)) (qf_stC D ro qf_all0 (qf_dP D)) t' z ∧ qf_gd (qf_RC D ro qf_all0 (qf_dP D)) (qf_stC D ro qf_all0 (qf_dP D)) (qf_dT D - t') t' z)) → (∀ z, z < 32 → (pj_bt (M1 29 t) z = true ↔ qf_rch (qf_RC D ro qf_all0 (qf_dP D)) (qf_stC D ro qf_all0 (qf_dP D)) t z ∧ (z < n → qf_gd (qf_RC D ro qf_all0 (qf_dP D)) (qf_stC D ro qf_all0 (qf_dP D)) (qf_dT D - t) t z))) → (∀ t', t' < t → M1 29 t' = M0 29 t') → pj_G L d 40 16 [pj_vR 26, pj_vI (t : Int), pj_vI (n : Int)] [] M1 Q := by
      intro r
      induction r with
      | zero =>
        intro n M1 en hm1 b1 b2 b3
        refine pj_C40_16 (by omega) (fun _ => pj_C40_78 (ih M1 (by omega) hm1 (fun t' z h1 h2 h3 => ?_) b3)) (fun c => by omega)
        by_cases y : t' = t
        · subst y
          rw [b2 z h3]
          exact ⟨fun w => ⟨w.1, w.2 (by have := qf_rch_lt hD w.1; omega)⟩, fun w => ⟨w.1, fun _ => w.2⟩⟩
        · exact b1 t' z (by omega) h2 h3
      | succ r ih2 =>
        intro n M1 en hm1 b1 b2 b3
        have hrow : M1 30 = M0 30 := hm1 30 (by decide)
        obtain ⟨m, hm'⟩ : ∃ m, qf_dT D - t = m + 1 := ⟨qf_dT D - t - 1, by omega⟩
        have hgd : ∀ s, qf_gd (qf_RC D ro qf_all0 (qf_dP D)) (qf_stC D ro qf_all0 (qf_dP D)) (qf_dT D - t) t s ↔ ∃ u, qf_RC D ro qf_all0 (qf_dP D) t s u ∧ qf_gd (qf_RC D ro qf_all0 (qf_dP D)) (qf_stC D ro qf_all0 (qf_dP D)) (qf_dT D - (t + 1)) (t + 1) (qf_stC D ro qf_all0 (qf_dP D) t u) := by
          intro s
          rw [hm', show qf_dT D - (t + 1) = m by omega]
          exact Iff.rfl
        have keep : (qf_rch (qf_RC D ro qf_all0 (qf_dP D)) (qf_stC D ro qf_all0 (qf_dP D)) t n → qf_gd (qf_RC D ro qf_all0 (qf_dP D)) (qf_stC D ro qf_all0 (qf_dP D)) (qf_dT D - t) t n) → pj_G L d 40 72 [pj_vR 26, pj_vI (t : Int), pj_vI (n : Int)] [] M1 Q := by
          intro hk
          refine pj_C40_72 (ih2 (n + 1) M1 (by omega) hm1 b1 (fun z hz => ?_) b3)
          rw [b2 z hz]
          constructor
          · rintro ⟨w1, w2⟩
            refine ⟨w1, fun w3 => ?_⟩
            by_cases y : z = n
            · rw [y] at w1 ⊢
              exact hk w1
            · exact w2 (by omega)
          · rintro ⟨w1, w2⟩
            exact ⟨w1, fun w3 => w2 (by omega)⟩
        refine pj_C40_16 (by omega) (fun c => by omega) (fun _ => pj_C40_22 t n rfl (by omega) rfl (by omega) (fun z => keep (fun y => ?_)) (fun z => ?_))
        · rw [(b2 n (by omega)).mpr ⟨y, fun w => absurd w (by omega)⟩] at z
          cases z
        · have hrn := ((b2 n (by omega)).mp z).1
          have hfol := hfo t (by omega) rfl n (by omega) hrn
          refine pj_C40_35 (9 * t + n) (t + 1) (by omega) (by omega) (by omega) (by omega) (fun y => keep (fun _ => ?_)) (fun y => ?_)
          · obtain ⟨k, hk1, hk2⟩ := (qf_bt_ne0 (pj_and_rng _ _).1 (pj_and_rng _ _).2).mp y
            rw [pj_bt_and, Bool.and_eq_true, hrow, hfol k hk1, b1 (t + 1) k (by omega) (by omega) hk1] at hk2
            obtain ⟨⟨u, q1, q2⟩, -, q3⟩ := hk2
            rw [hgd]
            exact ⟨u, q1, by rw [q2]; exact q3⟩
          · have hno : ¬ qf_gd (qf_RC D ro qf_all0 (qf_dP D)) (qf_stC D ro qf_all0 (qf_dP D)) (qf_dT D - t) t n := by
              rw [hgd]
              rintro ⟨u, q1, q2⟩
              have hl := qf_stC_lt (ro := ro) (N := qf_all0) (e := qf_dP D) (t := t) (u := u) hD
              have := pj_and0.mp y (qf_stC D ro qf_all0 (qf_dP D) t u) (by omega) (by rw [hrow]; exact (hfol _ (by omega)).mpr ⟨u, q1, rfl⟩)
              rw [(b1 (t + 1) _ (by omega) (by omega) (by omega)).mpr ⟨⟨n, u, hrn, q1, rfl⟩, q2⟩] at this
              cases this
            refine pj_C40_58 t rfl (by omega) (pj_C40_72 (ih2 (n + 1) _ (by omega) (hm1.up (by decide)) (fun t' z' h1 h2 h3 => ?_) (fun z' hz' => ?_) (fun t' ht' => ?_)))
            · rw [pj_up_slot (by omega)]
              exact b1 t' z' h1 h2 h3
            · rw [pj_up_same, pj_bt_and, Bool.and_eq_true, pj_bt_not _ hz', pj_bt_shl1 (by omega) hz', b2 z' hz']
              constructor
              · rintro ⟨⟨w1, w2⟩, w3⟩
                have : z' ≠ n := by simpa using w3
                exact ⟨w1, fun w4 => w2 (by omega)⟩
              · rintro ⟨w1, w2⟩
                have : z' ≠ n := fun w => hno (by rw [← w]; exact w2 (by omega))
                exact ⟨⟨w1, fun w4 => w2 (by omega)⟩, by simpa using this⟩
            · rw [pj_up_slot (by omega)]
              exact b3 t' ht'
    refine inner 9 0 M (by omega) hm a1 (fun z hz => ?_) (fun t' ht' => a2 t' (by omega))
    rw [a2 t (by omega), (hbg t (by omega)).2 z hz]
    exact ⟨fun w => ⟨w, fun w2 => absurd w2 (by omega)⟩, fun w => w.1⟩
end QFXF
