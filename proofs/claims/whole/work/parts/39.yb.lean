/-! THE REFERENCE, one tick: evaluate, isSeen, stateNow, turns. -/
section QFB
variable {L d : Nat} {Q : Option pj_V → pj_M → Prop} {M : pj_M} {D : qf_D} {ro : Nat → Nat} {t s : Nat} {f : Nat → Nat}
theorem qf_roY.keep {M' : pj_M} (h : qf_roY D M ro) (h1 : M' 38 23 = M 38 23) (h2 : M' 38 24 = M 38 24) (h3 : M' 58 = M 58) : qf_roY D M' ro := by
  intro p hp
  rw [h1, h2, h3]
  exact h p hp
/-- the free numbers lie in the reference's row -/
def qf_frY (D : qf_D) (M : pj_M) (ro f : Nat → Nat) : Prop := ∀ p, p < qf_dP D → ro p = 16 → M 57 p = (f p : Int)
theorem qf_evalY_loop (hD : qf_okD D) (hE : qf_okE D) (ht : t < 3) (hf : qf_fv D ro f) {M0 : pj_M} (hY : qf_Y D M0) (hR : qf_roY D M0 ro) (hF : qf_frY D M0 ro f)
    (h : ∀ M', qf_fr [59, 60] M0 M' → qf_vY D M' (qf_dW D) (qf_sol D ro t (qf_bR D t s) f (qf_dW D)) → Q none M') : ∀ (r n : Nat) (M : pj_M), n + r = qf_dW D → qf_fr [59, 60] M0 M → qf_beY M s → qf_vY D M n (qf_sol D ro t (qf_bR D t s) f n) → pj_G L (d + 3) 107 54 [pj_vR 38, pj_vI (t : Int), pj_vU, pj_vU, pj_vI (n : Int)] [] M Q := by
  intro r
  induction r with
  | zero =>
    intro n M e hm hb hv
    have hY' : qf_Y D M := hY.keep (qf_kY.of hm (by decide))
    have hW := hY'.W
    have hb14 := hD.b
    refine pj_C107_54 (by omega) (by omega) (fun _ => pj_C107_113 ?_) (fun c => by omega)
    obtain rfl : n = qf_dW D := by omega
    exact h M hm hv
  | succ r ih =>
    intro n M e hm hb hv
    have hY' : qf_Y D M := hY.keep (qf_kY.of hm (by decide))
    have e38 : M 38 = M0 38 := hm 38 (by decide)
    have hR' : qf_roY D M ro := hR.keep (by rw [e38]) (by rw [e38]) (hm 58 (by decide))
    have e57 : M 57 = M0 57 := hm 57 (by decide)
    have hW := hY'.W
    have hb14 := hD.b
    have hdv := hY'.dv n (by omega)
    have rng := qf_sol_rng (n := n + 1) hD ht hf (qf_bR_lt hD t s) (by omega) n (by omega)
    have hrn := hD.rg n (by omega)
    have dvle : qf_dv D n ≤ 7 := by
      by_cases h0 : qf_dv D n = 0
      · omega
      · have := hD.dv n (by omega) h0
        omega
    -- the number is laid down
    have go : ∀ z : Nat, z = qf_sol D ro t (qf_bR D t s) f (n + 1) n → pj_G L (d + 3) 107 106 [pj_vR 38, pj_vI (t : Int), pj_vU, pj_vU, pj_vI (n : Int)] [pj_vI (z : Int), pj_vI (n : Int), pj_vR 59] M Q := by
      intro z hz
      refine pj_C107_106 n rfl (by omega) (ih (n + 1) _ (by omega) (hm.up (by decide)) ?_ ?_)
      · unfold qf_beY
        rw [pj_up_else (by decide), pj_up_else (by decide), pj_up_else (by decide), pj_up_else (by decide)]
        exact hb
      · intro w hw
        by_cases hwn : w = n
        · subst hwn
          rw [pj_up_same, hz]
          exact ⟨rfl, by omega⟩
        · rw [pj_up_slot hwn, qf_sol_lt (by omega)]
          exact hv w (by omega)
    have esol : qf_sol D ro t (qf_bR D t s) f (n + 1) n = if qf_dv D n = 0 then qf_np0 D (14 * t + n) else if ro (qf_dv D n - 1) = 16 then f (qf_dv D n - 1) else qf_gv D (ro (qf_dv D n - 1)) (qf_bR D t s) (qf_sol D ro t (qf_bR D t s) f n) (qf_dv D n - 1) := by
      rw [qf_sol]
      exact if_pos rfl
    refine pj_C107_54 (by omega) (by omega) (fun c => by omega) (fun c => ?_)
    refine pj_C107_63 n rfl (by omega) (by omega) (fun c => ?_) (fun c => ?_)
    · have h0 : qf_dv D n ≠ 0 := by omega
      have h3 := hD.dv n (by omega) h0
      rw [if_neg h0] at esol
      refine pj_C107_94 n rfl (by omega) ?_
      have ep : M 40 n = ((qf_dv D n - 1 : Nat) : Int) := by omega
      rw [ep]
      refine qf_givesY (s := s) (u := qf_sol D ro t (qf_bR D t s) f n) hD hE hY' hR' h3.1 ht (by rw [h3.2]; exact hv) hb (fun h16 => ?_) (fun h16 => ?_)
      · rw [if_pos h16] at esol
        rw [e57, hF _ h3.1 h16]
        exact go _ esol.symm
      · rw [if_neg h16] at esol
        exact go _ esol.symm
    · have h0 : qf_dv D n = 0 := by omega
      rw [if_pos h0] at esol
      have hn := hY'.np (14 * t + n) (by omega)
      refine pj_C107_79 (14 * t + n) (by omega) (by omega) ?_
      rw [hn]
      exact go _ esol.symm
theorem qf_evalY (hD : qf_okD D) (hE : qf_okE D) (ht : t < 3) (hs : s < 81) (hf : qf_fv D ro f) (hY : qf_Y D M) (hR : qf_roY D M ro) (hF : qf_frY D M ro f)
    (h : ∀ M', qf_fr [59, 60] M M' → qf_vY D M' (qf_dW D) (qf_sol D ro t (qf_bR D t s) f (qf_dW D)) → Q none M') : pj_G L (d + 3) 107 0 [pj_vR 38, pj_vI (t : Int), pj_vI (s : Int), pj_vU, pj_vU] [] M Q := by
  refine pj_C107_0 (pj_C107_5 (by omega) (fun c => by omega) (fun _ => pj_C107_11 0 1 (by omega) (by omega) (by omega) (by omega) ?_))
  refine pj_C107_5 (by omega) (fun c => by omega) (fun _ => pj_C107_11 2 3 (by omega) (by omega) (by omega) (by omega) ?_)
  refine pj_C107_5 (by omega) (fun _ => pj_C107_51 ?_) (fun c => by omega)
  have n9 : (9 : Int) = ((9 : Nat) : Int) := rfl
  have n3 : (3 : Int) = ((3 : Nat) : Int) := rfl
  have e1 : pj_rem (s : Int) 9 = ((s % 9 : Nat) : Int) := by rw [n9]; exact pj_rem_nat (by omega) (by omega) (by omega)
  have e2 : pj_div ((s % 9 : Nat) : Int) 3 = ((s % 9 / 3 : Nat) : Int) := by rw [n3]; exact pj_div_nat (by omega) (by omega) (by omega)
  have e3 : pj_rem (s : Int) 3 = ((s % 3 : Nat) : Int) := by rw [n3]; exact pj_rem_nat (by omega) (by omega) (by omega)
  have e4 : pj_div (s : Int) 9 = ((s / 9 : Nat) : Int) := by rw [n9]; exact pj_div_nat (by omega) (by omega) (by omega)
  have e5 : pj_rem ((s / 9 : Nat) : Int) 9 = ((s / 9 % 9 : Nat) : Int) := by rw [n9]; exact pj_rem_nat (by omega) (by omega) (by omega)
  have e6 : pj_div ((s / 9 % 9 : Nat) : Int) 3 = ((s / 9 % 9 / 3 : Nat) : Int) := by rw [n3]; exact pj_div_nat (by omega) (by omega) (by omega)
  have e7 : pj_rem ((s / 9 : Nat) : Int) 3 = ((s / 9 % 3 : Nat) : Int) := by rw [n3]; exact pj_rem_nat (by omega) (by omega) (by omega)
  rw [e4, e1, e2, e3, e5, e6, e7]
  refine qf_evalY_loop hD hE ht hf hY hR hF h (qf_dW D) 0 _ (by omega) ((((qf_fr.refl.up (by decide)).up (by decide)).up (by decide)).up (by decide)) ⟨?_, ?_, ?_, ?_⟩ (fun w hw => absurd hw (by omega))
  · rw [pj_up_slot (by decide), pj_up_slot (by decide), pj_up_slot (by decide), pj_up_same]
  · rw [pj_up_slot (by decide), pj_up_slot (by decide), pj_up_same]
  · rw [pj_up_slot (by decide), pj_up_same]
  · rw [pj_up_same]
/-- all looks of a tick are as the numbers are -/
def qf_seen (D : qf_D) (t : Nat) (u : Nat → Nat) : Prop := ∀ k, k < qf_dK D → qf_lt D k = t → qf_near D (qf_lw D k) (u (qf_lw D k)) (qf_lv D k)
theorem qf_seen_iff (hD : qf_okD D) {u : Nat → Nat} : qf_seen D t u ↔ ∀ w, w < qf_dW D → qf_fit D t w (u w) := by
  constructor
  · intro h w _ k hk h1 h2
    have := h k hk h1
    rw [h2] at this
    exact this
  · intro h k hk h1
    exact h _ (hD.lk k hk).2.1 k hk h1 rfl
theorem qf_isSeenY_loop (hD : qf_okD D) (hY : qf_Y D M) (ht : t < 3) {u : Nat → Nat} (hv : qf_vY D M (qf_dW D) u) (h1 : qf_seen D t u → Q (some (pj_vI 1)) M) (h0 : ¬ qf_seen D t u → Q (some (pj_vI 0)) M) : ∀ (r n : Nat), n + r = qf_dK D → (∀ k, k < n → qf_lt D k = t → qf_near D (qf_lw D k) (u (qf_lw D k)) (qf_lv D k)) → pj_G L d 108 2 [pj_vR 38, pj_vI (t : Int), pj_vI (n : Int), pj_vU, pj_vU, pj_vU] [] M Q := by
  intro r
  have hb := hD.b
  have hK := hY.K
  induction r with
  | zero =>
    intro n e hn
    refine pj_C108_2 (by omega) (by omega) (fun _ => pj_C108_109 (h1 ?_)) (fun c => by omega)
    intro k hk
    exact hn k (by omega)
  | succ r ih =>
    intro n e hn
    have hl := hD.lk n (by omega)
    have e1 := hY.lt n (by omega)
    have e2 := hY.lw n (by omega)
    have e3 := hY.lv n (by omega)
    have hw := hl.2.1
    have e4 := hY.dv _ hw
    have hu := hv _ hw
    have hrg := hD.rg _ hw
    have dvle : qf_dv D (qf_lw D n) ≤ 7 := by
      by_cases h0 : qf_dv D (qf_lw D n) = 0
      · omega
      · have := hD.dv _ hw h0
        omega
    have next : (qf_lt D n = t → qf_near D (qf_lw D n) (u (qf_lw D n)) (qf_lv D n)) → pj_G L d 108 103 [pj_vR 38, pj_vI (t : Int), pj_vI (n : Int), pj_vU, pj_vU, pj_vU] [] M Q := by
      intro hh
      refine pj_C108_103 (ih (n + 1) (by omega) (fun k hk => ?_))
      by_cases hkn : k = n
      · subst hkn
        exact hh
      · exact hn k (by omega)
    refine pj_C108_2 (by omega) (by omega) (fun c => by omega) (fun c => ?_)
    refine pj_C108_10 n rfl (by omega) (by omega) (by omega) (fun c => ?_) (fun c => pj_C108_20 (next (fun z => by omega)))
    have et : qf_lt D n = t := by omega
    have bad : ¬ qf_near D (qf_lw D n) (u (qf_lw D n)) (qf_lv D n) → pj_G L d 108 101 [pj_vU, pj_vU, pj_vU, pj_vU, pj_vU, pj_vU] [] M Q := fun hb => pj_C108_101 (h0 (fun z => hb (z n (by omega) et)))
    have exact0 : qf_met D (qf_lw D n) = false → pj_G L d 108 73 [pj_vR 38, pj_vI (t : Int), pj_vI (n : Int), pj_vU, pj_vI (M 55 n - M 59 (qf_lw D n)), pj_vU] [] M Q := by
      intro hm
      refine pj_C108_73 (pj_C108_74 (by omega) (fun _ => ?_) (fun z => absurd rfl z))
      refine pj_C108_96 (by omega) (fun z => next (fun _ => ?_)) (fun z => bad (fun y => ?_))
      · unfold qf_near
        rw [hm, if_neg (by decide)]
        omega
      · unfold qf_near at y
        rw [hm, if_neg (by decide)] at y
        omega
    refine pj_C108_23 n (qf_lw D n) rfl (by omega) e2 (by omega) (by omega) (fun c2 => exact0 ?_) (fun c2 => ?_)
    · have : qf_dv D (qf_lw D n) = 0 := by omega
      unfold qf_met
      simp [this]
    · have hd0 : qf_dv D (qf_lw D n) ≠ 0 := by omega
      have h3 := hD.dv _ hw hd0
      have e5 := hY.kd _ h3.1
      have h4 := hD.pt _ h3.1
      refine pj_C108_54 (qf_lw D n) (qf_dv D (qf_lw D n) - 1) e2 (by omega) (by omega) (by omega) (by omega) (fun c3 => exact0 ?_) (fun c3 => ?_)
      · unfold qf_met
        have : qf_kd D (qf_dv D (qf_lw D n) - 1) ≠ 4 := by omega
        simp [this]
      · have hm : qf_met D (qf_lw D n) = true := by
          unfold qf_met
          have : qf_kd D (qf_dv D (qf_lw D n) - 1) = 4 := by omega
          simp [this, hd0]
        refine pj_C108_69 (pj_C108_74 (by omega) (fun z => absurd z (by decide)) (fun _ => ?_))
        refine pj_C108_81 (by omega) (fun z => bad (fun y => ?_)) (fun z => pj_C108_87 (by omega) (fun z2 => next (fun _ => ?_)) (fun z2 => pj_C108_93 (bad (fun y => ?_))))
        · unfold qf_near at y
          rw [if_pos hm] at y
          omega
        · unfold qf_near
          rw [if_pos hm]
          omega
        · unfold qf_near at y
          rw [if_pos hm] at y
          omega
theorem qf_isSeenY (hD : qf_okD D) (hY : qf_Y D M) (ht : t < 3) {u : Nat → Nat} (hv : qf_vY D M (qf_dW D) u) (h1 : qf_seen D t u → Q (some (pj_vI 1)) M) (h0 : ¬ qf_seen D t u → Q (some (pj_vI 0)) M) : pj_G L d 108 0 [pj_vR 38, pj_vI (t : Int), pj_vU, pj_vU, pj_vU, pj_vU] [] M Q := pj_C108_0 (qf_isSeenY_loop hD hY ht hv h1 h0 (qf_dK D) 0 (by omega) (fun k hk => absurd hk (by omega)))
theorem qf_stateNowY (hD : qf_okD D) (hY : qf_Y D M) {u : Nat → Nat} (hv : qf_vY D M (qf_dW D) u) {q : Nat} (h : Q (some (pj_vI (qf_stR D q u : Int))) M) : pj_G L d 109 0 [pj_vR 38, pj_vU, pj_vU] [] M Q := by
  have hb := hD.b
  have hS := hY.S
  have one : ∀ k, k < qf_dS D → M 51 k = (qf_st D k : Int) ∧ qf_st D k < 7 ∧ M 46 (qf_st D k) = (qf_dx D (qf_st D k) : Int) ∧ M 47 (qf_st D k) = (qf_dy D (qf_st D k) : Int) ∧ qf_dx D (qf_st D k) < 14 ∧ qf_dy D (qf_st D k) < 14 ∧ M 59 (qf_dx D (qf_st D k)) = (u (qf_dx D (qf_st D k)) : Int) ∧ M 59 (qf_dy D (qf_st D k)) = (u (qf_dy D (qf_st D k)) : Int) := by
    intro k hk
    have h1 := hD.st k hk
    have h2 := hD.pt _ h1.1
    have h3 := h2.2.2.2.2.1 (by omega)
    have h4 := h2.2.2.2.2.2.1 (by omega)
    have h5 := hY.dx _ h1.1
    have h6 := hY.dy _ h1.1
    rw [if_neg (by omega)] at h5
    rw [if_pos (by omega)] at h6
    exact ⟨hY.st k (by omega), by omega, h5, h6, by omega, by omega, (hv _ (by omega)).1, (hv _ (by omega)).1⟩
  unfold qf_stR qf_sR at h
  refine pj_C109_0 ?_
  by_cases s0 : qf_dS D = 0
  · rw [if_pos s0] at h
    exact pj_C109_9 (by omega) (fun _ => pj_C109_60 h) (fun c => by omega)
  · rw [if_neg s0] at h
    refine pj_C109_9 (by omega) (fun c => by omega) (fun _ => ?_)
    obtain ⟨a1, a2, a3, a4, a5, a6, a7, a8⟩ := one 0 (by omega)
    by_cases s1 : qf_dS D = 1
    · rw [if_pos s1] at h
      refine pj_C109_13 0 _ _ _ (by omega) (by omega) a1 a2 a3 a5 a4 a6 ?_
      refine pj_C109_9 (by omega) (fun _ => pj_C109_60 ?_) (fun c => by omega)
      have e : 9 * (0 : Int) + 3 * M 59 (qf_dx D (qf_st D 0)) + M 59 (qf_dy D (qf_st D 0)) = ((3 * u (qf_dx D (qf_st D 0)) + u (qf_dy D (qf_st D 0)) : Nat) : Int) := by omega
      rw [e]
      exact h
    · rw [if_neg s1] at h
      obtain ⟨c1, c2, c3, c4, c5, c6, c7, c8⟩ := one 1 (by omega)
      refine pj_C109_13 1 _ _ _ (by omega) (by omega) c1 c2 c3 c5 c4 c6 ?_
      refine pj_C109_9 (by omega) (fun c => by omega) (fun _ => ?_)
      refine pj_C109_13 0 _ _ _ (by omega) (by omega) a1 a2 a3 a5 a4 a6 ?_
      refine pj_C109_9 (by omega) (fun _ => pj_C109_60 ?_) (fun c => by omega)
      have e : 9 * (9 * (0 : Int) + 3 * M 59 (qf_dx D (qf_st D 1)) + M 59 (qf_dy D (qf_st D 1))) + 3 * M 59 (qf_dx D (qf_st D 0)) + M 59 (qf_dy D (qf_st D 0)) = ((9 * (3 * u (qf_dx D (qf_st D 1)) + u (qf_dy D (qf_st D 1))) + (3 * u (qf_dx D (qf_st D 0)) + u (qf_dy D (qf_st D 0))) : Nat) : Int) := by omega
      rw [e]
      exact h
/-- the reference's odometer of free numbers -/
def qf_acF (ro : Nat → Nat) (p : Nat) : Bool := decide (ro p = 16)
def qf_bsF (D : qf_D) (p : Nat) : Nat := if p < qf_dP D then qf_rg D (qf_wo D p) else 1
def qf_codF (D : qf_D) (ro f : Nat → Nat) : Nat := qf_cod (qf_acF ro) (qf_bsF D) f (qf_dP D)
def qf_totF (D : qf_D) (ro : Nat → Nat) : Nat := qf_wt (qf_acF ro) (qf_bsF D) (qf_dP D)
theorem qf_bsF_pos (hD : qf_okD D) (p : Nat) : 0 < qf_bsF D p := by
  unfold qf_bsF
  split
  next h => have := qf_rgp hD h; omega
  · omega
theorem qf_turnsY_loop (hD : qf_okD D) {M0 : pj_M} (hY : qf_Y D M0) (hR : qf_roY D M0 ro) (hf : qf_fv D ro f)
    (h1 : ∀ M' g, qf_fr [57] M0 M' → qf_fv D ro g → qf_frY D M' ro g → qf_codF D ro g = qf_codF D ro f + 1 → Q (some (pj_vI 1)) M')
    (h0 : ∀ M', qf_fr [57] M0 M' → qf_codF D ro f + 1 = qf_totF D ro → Q (some (pj_vI 0)) M') : ∀ (r n : Nat) (M : pj_M), n + r = qf_dP D → qf_fr [57] M0 M → (∀ p, p < n → ro p = 16 → f p + 1 = qf_rg D (qf_wo D p)) → (∀ p, p < n → ro p = 16 → M 57 p = 0) → (∀ p, n ≤ p → p < qf_dP D → ro p = 16 → M 57 p = (f p : Int)) → pj_G L d 110 2 [pj_vR 38, pj_vI (n : Int)] [] M Q := by
  intro r
  have hb := hD.b
  have bsE : ∀ p, p < qf_dP D → qf_bsF D p = qf_rg D (qf_wo D p) := fun p hp => by unfold qf_bsF; rw [if_pos hp]
  induction r with
  | zero =>
    intro n M e hm a1 a2 a3
    have hY' : qf_Y D M := hY.keep (qf_kY.of hm (by decide))
    have hP := hY'.P
    refine pj_C110_2 (by omega) (by omega) (fun _ => pj_C110_69 (h0 M hm ?_)) (fun c => by omega)
    refine qf_cod_top (fun p _ => qf_bsF_pos hD p) _ (fun p hp ha => ?_)
    rw [bsE p hp]
    exact a1 p (by omega) (of_decide_eq_true ha)
  | succ r ih =>
    intro n M e hm a1 a2 a3
    have hY' : qf_Y D M := hY.keep (qf_kY.of hm (by decide))
    have hP := hY'.P
    have hp : n < qf_dP D := by omega
    have e38 : M 38 = M0 38 := hm 38 (by decide)
    have hr := qf_rgp hD hp
    have hrg := hY'.rg _ (hD.pt n hp).1
    obtain ⟨r1, -⟩ := hR n hp
    refine pj_C110_2 (by omega) (by omega) (fun c => by omega) (fun _ => ?_)
    refine pj_C110_10 n rfl (by omega) (fun c => ?_) (fun c => ?_)
    · rw [e38, r1] at c
      have h16 : ro n = 16 := of_decide_eq_true c
      have hfn := hf n hp h16
      have e57 := a3 n (by omega) hp h16
      have eup : (pj_up M 57 n (M 57 n + 1)) 57 n = (f n : Int) + 1 := by rw [pj_up_same, e57]
      refine pj_C110_24 n (qf_wo D n) rfl (by omega) (hY'.wo n hp) (by omega) (by rw [eup]; omega) (by omega) (fun c2 => ?_) (fun c2 => ?_)
      · rw [eup] at c2
        refine pj_C110_56 n rfl (by omega) (pj_C110_63 (ih (n + 1) _ (by omega) ((hm.up (by decide)).up (by decide)) ?_ ?_ ?_))
        · intro p hpn h16p
          by_cases epn : p = n
          · subst epn; omega
          · exact a1 p (by omega) h16p
        · intro p hpn h16p
          by_cases epn : p = n
          · subst epn; exact pj_up_same
          · rw [pj_up_slot epn, pj_up_slot epn]
            exact a2 p (by omega) h16p
        · intro p hpn hpP h16p
          rw [pj_up_slot (by omega), pj_up_slot (by omega)]
          exact a3 p (by omega) hpP h16p
      · rw [eup] at c2
        refine pj_C110_54 (h1 _ (fun p => if p < n then 0 else if p = n then f n + 1 else f p) (hm.up (by decide)) ?_ ?_ ?_)
        · intro p hpP h16p
          have := qf_rgp hD hpP
          have := hf p hpP h16p
          dsimp only
          split
          · omega
          · split
            next z => subst z; omega
            · omega
        · intro p hpP h16p
          dsimp only
          by_cases z : p < n
          · rw [if_pos z, pj_up_slot (by omega)]
            exact a2 p z h16p
          · rw [if_neg z]
            by_cases z2 : p = n
            · subst z2
              rw [if_pos rfl, pj_up_same, e57]
              rfl
            · rw [if_neg z2, pj_up_slot z2]
              exact a3 p (by omega) hpP h16p
        · have := qf_cod_next (ac := qf_acF ro) (bs := qf_bsF D) (f := f) (g := fun p => if p < n then 0 else if p = n then f n + 1 else f p) (fun p _ => qf_bsF_pos hD p) (n := n) (decide_eq_true h16) (fun p hpn ha => by rw [bsE p (by omega)]; exact a1 p hpn (of_decide_eq_true ha)) (fun p hpn _ => if_pos hpn) (by rw [if_neg (by omega), if_pos rfl]) (fun p hpn => by rw [if_neg (by omega), if_neg (by omega)]) (qf_dP D - (n + 1))
          have e3 : n + 1 + (qf_dP D - (n + 1)) = qf_dP D := by omega
          rw [e3] at this
          exact this
    · rw [e38, r1] at c
      have n16 : ro n ≠ 16 := of_decide_eq_false c
      refine pj_C110_21 (pj_C110_63 (ih (n + 1) M (by omega) hm ?_ ?_ ?_))
      · intro p hpn h16p
        have : p ≠ n := fun z => n16 (z ▸ h16p)
        exact a1 p (by omega) h16p
      · intro p hpn h16p
        have : p ≠ n := fun z => n16 (z ▸ h16p)
        exact a2 p (by omega) h16p
      · intro p hpn hpP h16p
        exact a3 p (by omega) hpP h16p
theorem qf_turnsY (hD : qf_okD D) (hY : qf_Y D M) (hR : qf_roY D M ro) (hf : qf_fv D ro f) (hF : qf_frY D M ro f)
    (h1 : ∀ M' g, qf_fr [57] M M' → qf_fv D ro g → qf_frY D M' ro g → qf_codF D ro g = qf_codF D ro f + 1 → Q (some (pj_vI 1)) M')
    (h0 : ∀ M', qf_fr [57] M M' → qf_codF D ro f + 1 = qf_totF D ro → Q (some (pj_vI 0)) M') : pj_G L d 110 0 [pj_vR 38, pj_vU] [] M Q := pj_C110_0 (qf_turnsY_loop hD hY hR hf h1 h0 (qf_dP D) 0 M (by omega) qf_fr.refl (fun p hp => absurd hp (by omega)) (fun p hp => absurd hp (by omega)) (fun p _ hp h16 => hF p hp h16))
end QFB
