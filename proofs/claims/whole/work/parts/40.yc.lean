/-! THE REFERENCE: tries, in all three ways. -/
section QFC
variable {L d : Nat} {Q : Option pj_V → pj_M → Prop} {D : qf_D} {ro : Nat → Nat} {t s : Nat}
/-- the numbers of tick t, begun in state s, with free numbers f -/
abbrev qf_uf (D : qf_D) (ro : Nat → Nat) (t s : Nat) (f : Nat → Nat) : Nat → Nat := qf_sol D ro t (qf_bR D t s) f (qf_dW D)
/-- what tries may write -/
abbrev qf_trL : List Nat := [57, 59, 60, 61, 62, 63]
theorem qf_triesY_loop (hD : qf_okD D) (hE : qf_okE D) (ht : t < 3) (hs : s < 81) {M0 : pj_M} (hY : qf_Y D M0) (hR : qf_roY D M0 ro) {how : Int} {J : Nat → pj_M → Prop}
    (hk : ∀ c M M', J c M → qf_fr [57, 59, 60] M M' → J c M')
    (hno : ∀ c M f, J c M → qf_fv D ro f → qf_codF D ro f = c → ¬ qf_seen D t (qf_uf D ro t s f) → J (c + 1) M)
    (hyes : ∀ c M f, J c M → qf_Y D M → qf_fv D ro f → qf_codF D ro f = c → qf_seen D t (qf_uf D ro t s f) → qf_vY D M (qf_dW D) (qf_uf D ro t s f) → (∀ M', J (c + 1) M' → qf_fr [61, 62, 63] M M' → pj_G L (d + 4) 111 157 [pj_vR 38, pj_vI (t : Int), pj_vI (s : Int), pj_vI how, pj_vU, pj_vU, pj_vU] [] M' Q) → pj_G L (d + 4) 111 48 [pj_vR 38, pj_vI (t : Int), pj_vI (s : Int), pj_vI how, pj_vU, pj_vU, pj_vU] [] M Q)
    (hend : ∀ M', J (qf_totF D ro) M' → qf_fr qf_trL M0 M' → Q none M') : ∀ (r c : Nat) (M : pj_M) (f : Nat → Nat), c + r = qf_totF D ro → J c M → qf_fv D ro f → qf_codF D ro f = c → qf_frY D M ro f → qf_fr qf_trL M0 M → pj_G L (d + 4) 111 34 [pj_vR 38, pj_vI (t : Int), pj_vI (s : Int), pj_vI how, pj_vU, pj_vU, pj_vU] [] M Q := by
  intro r
  induction r with
  | zero =>
    intro c M f e _ hf hc _ _
    have := qf_cod_lt (ac := qf_acF ro) (bs := qf_bsF D) (f := f) (qf_dP D) (fun p hp ha => by
      unfold qf_bsF
      rw [if_pos hp]
      exact hf p hp (of_decide_eq_true ha))
    unfold qf_totF qf_codF at *
    omega
  | succ r ih =>
    intro c M f e hJ hf hc hF hm
    have core : ∀ {M' : pj_M}, qf_fr qf_trL M0 M' → qf_Y D M' ∧ qf_roY D M' ro := by
      intro M' hm'
      have e38 : M' 38 = M0 38 := hm' 38 (by decide)
      exact ⟨hY.keep (qf_kY.of hm' (by decide)), hR.keep (by rw [e38]) (by rw [e38]) (hm' 58 (by decide))⟩
    refine pj_C111_34 (qf_evalY hD hE ht hs hf (core hm).1 (core hm).2 hF (fun M1 hm1 hv => ?_))
    have hm01 : qf_fr qf_trL M0 M1 := hm.trans hm1 (by decide)
    have hJ1 : J c M1 := hk c M M1 hJ (hm1.wide (by decide))
    have hF1 : qf_frY D M1 ro f := fun p hp h16 => by
      rw [hm1 57 (by decide)]
      exact hF p hp h16
    -- behind the effect: the odometer turns
    have turn : ∀ M2, J (c + 1) M2 → qf_fr qf_trL M0 M2 → qf_frY D M2 ro f → pj_G L (d + 4) 111 157 [pj_vR 38, pj_vI (t : Int), pj_vI (s : Int), pj_vI how, pj_vU, pj_vU, pj_vU] [] M2 Q := by
      intro M2 hJ2 hm2 hF2
      refine pj_C111_157 (qf_turnsY hD (core hm2).1 (core hm2).2 hf hF2 (fun M3 g hm3 hg hF3 hcg => ?_) (fun M3 hm3 hct => ?_))
      · refine pj_C111_161 (pj_C111_29 (by omega) (fun z => absurd z (by decide)) (fun _ => ?_))
        exact ih (c + 1) M3 g (by omega) (hk _ _ _ hJ2 (hm3.wide (by decide))) hg (by omega) hF3 (hm2.trans hm3 (by decide))
      · refine pj_C111_161 (pj_C111_29 (by omega) (fun _ => pj_C111_166 (hend M3 ?_ (hm2.trans hm3 (by decide)))) (fun z => absurd rfl z))
        have := hk _ _ _ hJ2 (hm3.wide (l' := [57, 59, 60]) (by decide))
        have e2 : c + 1 = qf_totF D ro := by omega
        rw [e2] at this
        exact this
    refine pj_C111_40 (qf_isSeenY hD (core hm01).1 ht hv (fun hseen => ?_) (fun hseen => ?_))
    · refine pj_C111_45 (by omega) (fun z => absurd z (by decide)) (fun _ => ?_)
      refine hyes c M1 f hJ1 (core hm01).1 hf hc hseen hv (fun M2 hJ2 hm2 => turn M2 hJ2 (hm01.trans hm2 (by decide)) (fun p hp h16 => ?_))
      rw [hm2 57 (by decide)]
      exact hF1 p hp h16
    · exact pj_C111_45 (by omega) (fun _ => turn M1 (hno c M1 f hJ1 hf hc hseen) hm01 hF1) (fun z => absurd rfl z)
theorem qf_triesY_zero {hw : Int} (hD : qf_okD D) {M0 : pj_M} (hY : qf_Y D M0) (h : ∀ M', qf_fr [57] M0 M' → qf_frY D M' ro (fun _ => 0) → pj_G L d 111 26 [pj_vR 38, pj_vI (t : Int), pj_vI (s : Int), pj_vI hw, pj_vU, pj_vU, pj_vU] [] M' Q) : ∀ (r n : Nat) (M : pj_M), n + r = qf_dP D → qf_fr [57] M0 M → (∀ p, p < n → M 57 p = 0) → pj_G L d 111 3 [pj_vR 38, pj_vI (t : Int), pj_vI (s : Int), pj_vI hw, pj_vI (n : Int), pj_vU, pj_vU] [] M Q := by
  intro r
  have hb := hD.b
  induction r with
  | zero =>
    intro n M e hm a
    have hP := (hY.keep (qf_kY.of hm (by decide)) : qf_Y D M).P
    exact pj_C111_3 (by omega) (by omega) (fun _ => h M hm (fun p hp _ => a p (by omega))) (fun c => by omega)
  | succ r ih =>
    intro n M e hm a
    have hP := (hY.keep (qf_kY.of hm (by decide)) : qf_Y D M).P
    refine pj_C111_3 (by omega) (by omega) (fun c => by omega) (fun _ => pj_C111_12 n rfl (by omega) (ih (n + 1) _ (by omega) (hm.up (by decide)) (fun p hp => ?_)))
    by_cases z : p = n
    · subst z; exact pj_up_same
    · rw [pj_up_slot z]
      exact a p (by omega)
/-- tries, out of an invariant of what is counted -/
theorem qf_triesY (hD : qf_okD D) (hE : qf_okE D) (ht : t < 3) (hs : s < 81) {M0 : pj_M} (hY : qf_Y D M0) (hR : qf_roY D M0 ro) {how : Int} {J : Nat → pj_M → Prop}
    (hk : ∀ c M M', J c M → qf_fr [57, 59, 60] M M' → J c M')
    (hno : ∀ c M f, J c M → qf_fv D ro f → qf_codF D ro f = c → ¬ qf_seen D t (qf_uf D ro t s f) → J (c + 1) M)
    (hyes : ∀ c M f, J c M → qf_Y D M → qf_fv D ro f → qf_codF D ro f = c → qf_seen D t (qf_uf D ro t s f) → qf_vY D M (qf_dW D) (qf_uf D ro t s f) → (∀ M', J (c + 1) M' → qf_fr [61, 62, 63] M M' → pj_G L (d + 4) 111 157 [pj_vR 38, pj_vI (t : Int), pj_vI (s : Int), pj_vI how, pj_vU, pj_vU, pj_vU] [] M' Q) → pj_G L (d + 4) 111 48 [pj_vR 38, pj_vI (t : Int), pj_vI (s : Int), pj_vI how, pj_vU, pj_vU, pj_vU] [] M Q)
    (h0 : J 0 M0)
    (hend : ∀ M', J (qf_totF D ro) M' → qf_fr qf_trL M0 M' → Q none M') : pj_G L (d + 4) 111 0 [pj_vR 38, pj_vI (t : Int), pj_vI (s : Int), pj_vI how, pj_vU, pj_vU, pj_vU] [] M0 Q := by
  refine pj_C111_0 (qf_triesY_zero (ro := ro) hD hY (fun M1 hm1 hF => ?_) (qf_dP D) 0 M0 (by omega) qf_fr.refl (fun p hp => absurd hp (by omega)))
  refine pj_C111_26 (pj_C111_29 (by omega) (fun z => absurd z (by decide)) (fun _ => ?_))
  refine qf_triesY_loop hD hE ht hs hY hR hk hno hyes hend (qf_totF D ro) 0 M1 (fun _ => 0) (by omega) (hk 0 M0 M1 h0 (hm1.wide (by decide))) (fun p hp _ => ?_) ?_ hF (hm1.wide (by decide))
  · have := qf_rgp hD hp
    show 0 < _
    omega
  · exact qf_cod_zero _ (fun _ _ _ => rfl)
/-- numbers with the same code are the same -/
theorem qf_codF_inj {f g : Nat → Nat} (hf : qf_fv D ro f) (hg : qf_fv D ro g) (h : qf_codF D ro f = qf_codF D ro g) : ∀ p, p < qf_dP D → ro p = 16 → f p = g p := by
  have bsE : ∀ p, p < qf_dP D → qf_bsF D p = qf_rg D (qf_wo D p) := fun p hp => by unfold qf_bsF; rw [if_pos hp]
  intro p hp h16
  exact qf_cod_inj (ac := qf_acF ro) (bs := qf_bsF D) (qf_dP D) (fun q hq ha => by rw [bsE q hq]; exact hf q hq (of_decide_eq_true ha)) (fun q hq ha => by rw [bsE q hq]; exact hg q hq (of_decide_eq_true ha)) h p hp (decide_eq_true h16)
theorem qf_uf_congr (hD : qf_okD D) {f g : Nat → Nat} (h : ∀ p, p < qf_dP D → ro p = 16 → f p = g p) : ∀ w, w < qf_dW D → qf_uf D ro t s f w = qf_uf D ro t s g w := by
  refine qf_sol_uni hD (fun w hw => ?_) _ (Nat.le_refl _)
  have h1 := qf_sol_ev (D := D) (ro := ro) (t := t) (b := qf_bR D t s) (f := g) hD (Nat.le_refl _) w hw
  refine ⟨h1.1, fun p hp => ?_⟩
  refine (h1.2 p hp).trans ?_
  have h3 := hD.dv w hw (by omega)
  rw [hp, Nat.add_sub_cancel] at h3
  by_cases h16 : ro p = 16
  · rw [if_pos h16, if_pos h16, h p h3.1 h16]
  · rw [if_neg h16, if_neg h16]
theorem qf_stR_congr (hD : qf_okD D) {u v : Nat → Nat} {q q' : Nat} (h : ∀ w, w < qf_dW D → u w = v w) : qf_stR D q u = qf_stR D q' v := by
  have one : ∀ k, k < qf_dS D → qf_sR D u k = qf_sR D v k := by
    intro k hk
    have h1 := hD.st k hk
    have h2 := hD.pt _ h1.1
    have h3 := h2.2.2.2.2.1 (by omega)
    have h4 := h2.2.2.2.2.2.1 (by omega)
    unfold qf_sR
    rw [h _ (by omega), h _ (by omega)]
  have hb := hD.b
  unfold qf_stR
  by_cases s0 : qf_dS D = 0
  · rw [if_pos s0, if_pos s0]
  · rw [if_neg s0, if_neg s0, one 0 (by omega)]
    by_cases s1 : qf_dS D = 1
    · rw [if_pos s1, if_pos s1]
    · rw [if_neg s1, if_neg s1, one 1 (by omega)]
theorem qf_stR_lt (hD : qf_okD D) {u : Nat → Nat} {q : Nat} (h : ∀ w, w < qf_dW D → u w < 3) : qf_stR D q u < 81 := by
  have one : ∀ k, k < qf_dS D → qf_sR D u k < 9 := by
    intro k hk
    have h1 := hD.st k hk
    have h2 := hD.pt _ h1.1
    have h3 := h2.2.2.2.2.1 (by omega)
    have h4 := h2.2.2.2.2.2.1 (by omega)
    have := h (qf_dx D (qf_st D k)) (by omega)
    have := h (qf_dy D (qf_st D k)) (by omega)
    unfold qf_sR
    omega
  have hb := hD.b
  unfold qf_stR
  by_cases s0 : qf_dS D = 0
  · rw [if_pos s0]; omega
  · rw [if_neg s0]
    have := one 0 (by omega)
    by_cases s1 : qf_dS D = 1
    · rw [if_pos s1]; omega
    · rw [if_neg s1]
      have := one 1 (by omega)
      omega
/-- what holds of some free numbers holds of some numbers of the tick, if it asks for no more than those -/
theorem qf_ex_RR (hD : qf_okD D) {P : (Nat → Nat) → Prop} (hP : ∀ u v : Nat → Nat, (∀ w, w < qf_dW D → u w = v w) → P u → P v) : (∃ f, qf_fv D ro f ∧ qf_codF D ro f < qf_totF D ro ∧ qf_seen D t (qf_uf D ro t s f) ∧ P (qf_uf D ro t s f)) ↔ ∃ u, qf_RR D ro t s u ∧ P u := by
  constructor
  · rintro ⟨f, h1, h2, h3, h4⟩
    exact ⟨_, qf_sol_tk hD h1 ((qf_seen_iff hD).mp h3), h4⟩
  · rintro ⟨u, h1, h2⟩
    obtain ⟨a1, a2⟩ := qf_tk_sol hD h1
    refine ⟨_, a1, ?_, ?_, hP u _ (fun w hw => (a2 w hw).symm) h2⟩
    · exact qf_cod_lt (ac := qf_acF ro) (bs := qf_bsF D) (qf_dP D) (fun p hp ha => by
        unfold qf_bsF
        rw [if_pos hp]
        exact a1 p hp (of_decide_eq_true ha))
    · rw [qf_seen_iff hD]
      intro w hw
      show qf_fit D t w (qf_uf D ro t s _ w)
      rw [show qf_uf D ro t s (fun p => u (qf_wo D p)) w = u w from a2 w hw]
      exact (h1 w hw).2.2
end QFC
