/-! THE REFERENCE: beginsWith, turnsWays, agreesWith. -/
section QFF
variable {L d : Nat} {Q : Option pj_V → pj_M → Prop} {D : qf_D} {set : Nat} {e : Nat → Nat}
theorem qf_bt_or1 (x : Int) {n k : Nat} (hn : n < 32) (hk : k < 32) : pj_bt (pj_or x (pj_shl 1 (n : Int))) k = (pj_bt x k || decide (k = n)) := by
  rw [pj_bt_or, pj_bt_shl1 hn hk]
/-- the ways' numbers, as the reference holds them -/
def qf_wyY (D : qf_D) (M : pj_M) (set : Nat) (e : Nat → Nat) : Prop := ∀ p, p < qf_dP D → set.testBit p = true → qf_wy D p ≠ 0 → M 58 p = ((2 ^ e p : Nat) : Int)
/-- which parts are free, and which broken, as the reference holds them -/
def qf_sbY (D : qf_D) (M : pj_M) (set : Nat) : Prop := ∀ p, p < qf_dP D → pj_bt (M 38 23) p = decide (set.testBit p = true ∧ qf_wy D p = 0) ∧ pj_bt (M 38 24) p = decide (set.testBit p = true ∧ qf_wy D p ≠ 0)
theorem qf_pow4 : ∀ e : Fin 4, (2 : Nat) ^ e.val = 1 ∨ (2 : Nat) ^ e.val = 2 ∨ (2 : Nat) ^ e.val = 4 ∨ (2 : Nat) ^ e.val = 8 := by decide +kernel
theorem qf_roY_of {M : pj_M} (he : qf_ev D set e) (hs : qf_sbY D M set) (hw : qf_wyY D M set e) : qf_roY D M (qf_roE D set e) := by
  intro p hp
  have h := hs p hp
  unfold qf_roE
  by_cases h1 : set.testBit p = true
  · rw [if_pos h1]
    by_cases h2 : qf_wy D p = 0
    · rw [if_pos h2, h.1]
      exact ⟨by simp [h1, h2], fun z => absurd rfl z, fun z => absurd rfl z, by omega⟩
    · rw [if_neg h2, h.1, h.2]
      have h3 := qf_pow4 ⟨e p, (he p hp h1 h2).1⟩
      dsimp only at h3
      refine ⟨?_, fun _ => ?_, fun _ _ => ⟨hw p hp h1 h2, h2⟩, by omega⟩
      · rw [decide_eq_false (fun z => h2 z.2), decide_eq_false (by omega)]
      · rw [decide_eq_true ⟨h1, h2⟩, decide_eq_true (by omega)]
  · rw [if_neg h1, h.1, h.2]
    exact ⟨by simp [h1], fun _ => by simp [h1], fun _ z => absurd rfl z, by omega⟩
theorem qf_two_pow_succ (n : Nat) : ((2 ^ n : Nat) : Int) * 2 = ((2 ^ (n + 1) : Nat) : Int) := by
  rw [Nat.pow_succ]
  omega
/-- what beginsWith and turnsWays write -/
abbrev qf_bwL : List Nat := [38, 58]
theorem qf_beginsY_way (hD : qf_okD D) {M0 : pj_M} (hY : qf_Y D M0) {n : Nat} (hn : n < qf_dP D) (hw : qf_wy D n ≠ 0) (h : ∀ M', qf_fr [58] M0 M' → qf_fs 58 [n] M0 M' → M' 58 n = ((2 ^ qf_upw (qf_wy D n) 0 : Nat) : Int) → pj_G L d 116 112 [pj_vR 38, pj_vI (set : Int), pj_vI (n : Int)] [] M' Q) : ∀ (r k : Nat) (M : pj_M), k + r = 4 → qf_fr [58] M0 M → qf_fs 58 [n] M0 M → M 58 n = ((2 ^ k : Nat) : Int) → qf_upw (qf_wy D n) k = qf_upw (qf_wy D n) 0 → pj_G L d 116 74 [pj_vR 38, pj_vI (set : Int), pj_vI (n : Int)] [] M Q := by
  intro r
  have hpt := hD.pt n hn
  have hb := hD.b
  have h00 := qf_upw_0 ⟨qf_wy D n, by omega⟩ hw
  dsimp only at h00
  induction r with
  | zero =>
    intro k M ek hm hs hc hu
    have : qf_upw (qf_wy D n) 4 = 4 := qf_upw_here ⟨qf_wy D n, by omega⟩ ⟨4, by omega⟩ (Or.inl rfl)
    obtain rfl : k = 4 := by omega
    omega
  | succ r ih =>
    intro k M ek hm hs hc hu
    have e49 := (hY.keep (qf_kY.of hm (by decide)) : qf_Y D M).wy n hn
    refine pj_C116_74 n rfl (by omega) (by omega) (fun z => by omega) (fun _ => ?_)
    refine pj_C116_83 n rfl (by omega) (fun z => h M hm hs ?_) (fun z => ?_)
    · rw [e49, hc] at z
      have := (qf_and_bit ⟨qf_wy D n, by omega⟩ ⟨k, by omega⟩).mp z
      have h2 := qf_upw_here ⟨qf_wy D n, by omega⟩ ⟨k, by omega⟩ (Or.inr this)
      dsimp only at h2
      rw [hc, ← hu, h2]
    · rw [e49, hc] at z
      have hf : (qf_wy D n).testBit k = false := by
        cases hq : (qf_wy D n).testBit k with
        | false => rfl
        | true => exact absurd z ((qf_and_bit ⟨qf_wy D n, by omega⟩ ⟨k, by omega⟩).mpr hq)
      have h2 := qf_upw_step ⟨qf_wy D n, by omega⟩ ⟨k, by omega⟩ hf
      dsimp only at h2
      refine pj_C116_99 n rfl (by omega) (ih (k + 1) _ (by omega) (hm.up (by decide)) (hs.up (by simp)) ?_ (by omega))
      rw [pj_up_same, hc, qf_two_pow_succ]
theorem qf_beginsY (hD : qf_okD D) {M0 : pj_M} (hY : qf_Y D M0) (hset : set < 128) (h : ∀ M' e, qf_fr qf_bwL M0 M' → qf_fs 38 [23, 24] M0 M' → qf_sbY D M' set → qf_ev D set e → qf_wyY D M' set e → qf_codW D set e = 0 → Q none M') : pj_G L d 116 0 [pj_vR 38, pj_vI (set : Int), pj_vU] [] M0 Q := by
  have hb := hD.b
  have loop : ∀ (r n : Nat) (M : pj_M), n + r = qf_dP D → qf_fr qf_bwL M0 M → qf_fs 38 [23, 24] M0 M → (∀ k, k < 32 → pj_bt (M 38 23) k = decide (k < n ∧ set.testBit k = true ∧ qf_wy D k = 0) ∧ pj_bt (M 38 24) k = decide (k < n ∧ set.testBit k = true ∧ qf_wy D k ≠ 0)) → (∀ p, p < n → set.testBit p = true → qf_wy D p ≠ 0 → M 58 p = ((2 ^ qf_upw (qf_wy D p) 0 : Nat) : Int)) → pj_G L d 116 12 [pj_vR 38, pj_vI (set : Int), pj_vI (n : Int)] [] M Q := by
    intro r
    induction r with
    | zero =>
      intro n M en hm hs a1 a2
      have hP : M 38 18 = (qf_dP D : Int) := by rw [hs 18 (by decide)]; exact hY.P
      refine pj_C116_12 (by omega) (by omega) (fun _ => pj_C116_118 (h M (fun p => qf_upw (qf_wy D p) 0) hm hs (fun p hp => ?_) (fun p hp h1 h2 => ?_) (fun p hp h1 h2 => a2 p (by omega) h1 h2) ?_)) (fun c => by omega)
      · have := a1 p (by omega)
        rw [this.1, this.2]
        constructor
        · exact decide_eq_decide.mpr ⟨fun z => z.2, fun z => ⟨by omega, z⟩⟩
        · exact decide_eq_decide.mpr ⟨fun z => z.2, fun z => ⟨by omega, z⟩⟩
      · have hpt := hD.pt p hp
        have := qf_upw_0 ⟨qf_wy D p, by omega⟩ h2
        exact ⟨this.1, this.2.1⟩
      · refine qf_cod_zero _ (fun p hp ha => ?_)
        have h2 := (of_decide_eq_true ha).2.2
        have hpt := hD.pt p hp
        exact (qf_upw_0 ⟨qf_wy D p, by omega⟩ h2).2.2.1
    | succ r ih =>
      intro n M en hm hs a1 a2
      have hk : qf_kY M0 M := ⟨fun a h1 h2 => hm a (by simp only [List.mem_cons, List.not_mem_nil, or_false, not_or]; omega), fun k h1 h2 => hs k (by simp only [List.mem_cons, List.not_mem_nil, or_false, not_or]; omega)⟩
      have hY' : qf_Y D M := hY.keep hk
      have hP := hY'.P
      have e49 := hY'.wy n (by omega)
      have hpt := hD.pt n (by omega)
      refine pj_C116_12 (by omega) (by omega) (fun c => by omega) (fun _ => pj_C116_20 n rfl (by omega) (fun c => ?_) (fun c => ?_))
      · rw [pj_bt_nat n (by omega)] at c
        refine pj_C116_31 n rfl (by omega) (by omega) (fun z => ?_) (fun z => ?_)
        · have hw : qf_wy D n ≠ 0 := by omega
          refine pj_C116_55 (pj_C116_67 n rfl (by omega) ?_)
          refine qf_beginsY_way (M0 := pj_up (pj_up M 38 24 (pj_or (M 38 24) (pj_shl 1 (n : Int)))) 58 n 1) hD (hY'.keep ((qf_kY.refl.up (by omega)).up (by omega))) (by omega) hw (fun M' hm' hs' hc' => pj_C116_112 ?_) 4 0 _ (by omega) qf_fr.refl qf_fs.refl pj_up_same rfl
          have e38 : M' 38 = (pj_up (pj_up M 38 24 (pj_or (M 38 24) (pj_shl 1 (n : Int)))) 58 n 1) 38 := hm' 38 (by decide)
          refine ih (n + 1) M' (by omega) (((hm.up (by decide)).up (by decide)).trans hm' (by decide)) ?_ ?_ ?_
          · intro k hk'
            rw [e38, pj_up_else (by decide), pj_up_slot (by simp only [List.mem_cons, List.not_mem_nil, or_false, not_or] at hk'; omega)]
            exact hs k hk'
          · intro k hk32
            have c23 : pj_up (pj_up M 38 24 (pj_or (M 38 24) (pj_shl 1 (n : Int)))) 58 n 1 38 23 = M 38 23 := by rw [pj_up_else (by decide), pj_up_slot (by decide)]
            have c24 : pj_up (pj_up M 38 24 (pj_or (M 38 24) (pj_shl 1 (n : Int)))) 58 n 1 38 24 = pj_or (M 38 24) (pj_shl 1 (n : Int)) := by rw [pj_up_else (by decide), pj_up_same]
            rw [e38, c23, c24, qf_bt_or1 _ (by omega) hk32, (a1 k hk32).1, (a1 k hk32).2]
            by_cases ekn : k = n
            · subst ekn
              constructor
              · exact decide_eq_decide.mpr ⟨fun y => ⟨by omega, y.2⟩, fun y => absurd y.2.2 hw⟩
              · rw [decide_eq_true (rfl : k = k), Bool.or_true, decide_eq_true ⟨by omega, c, hw⟩]
            · constructor
              · exact decide_eq_decide.mpr ⟨fun y => ⟨by omega, y.2⟩, fun y => ⟨by omega, y.2⟩⟩
              · rw [decide_eq_false ekn, Bool.or_false]
                exact decide_eq_decide.mpr ⟨fun y => ⟨by omega, y.2⟩, fun y => ⟨by omega, y.2⟩⟩
          · intro p hp h1 h2
            by_cases epn : p = n
            · subst epn
              exact hc'
            · rw [hs' p (by simpa using epn), pj_up_slot epn, pj_up_else (by decide)]
              exact a2 p (by omega) h1 h2
        · have hw : qf_wy D n = 0 := by omega
          refine pj_C116_40 (pj_C116_67 n rfl (by omega) (pj_C116_74 n rfl (by omega) ?_ (fun _ => pj_C116_112 ?_) (fun y => ?_)))
          · rw [pj_up_else (by decide), pj_up_else (by decide)]; omega
          · refine ih (n + 1) _ (by omega) ((hm.up (by decide)).up (by decide)) ?_ ?_ ?_
            · intro k hk'
              rw [pj_up_else (by decide), pj_up_slot (by simp only [List.mem_cons, List.not_mem_nil, or_false, not_or] at hk'; omega)]
              exact hs k hk'
            · intro k hk32
              have c23 : pj_up (pj_up M 38 23 (pj_or (M 38 23) (pj_shl 1 (n : Int)))) 58 n 1 38 23 = pj_or (M 38 23) (pj_shl 1 (n : Int)) := by rw [pj_up_else (by decide), pj_up_same]
              have c24 : pj_up (pj_up M 38 23 (pj_or (M 38 23) (pj_shl 1 (n : Int)))) 58 n 1 38 24 = M 38 24 := by rw [pj_up_else (by decide), pj_up_slot (by decide)]
              rw [c23, c24, qf_bt_or1 _ (by omega) hk32, (a1 k hk32).1, (a1 k hk32).2]
              by_cases ekn : k = n
              · subst ekn
                constructor
                · rw [decide_eq_true (rfl : k = k), Bool.or_true, decide_eq_true ⟨by omega, c, hw⟩]
                · exact decide_eq_decide.mpr ⟨fun y => ⟨by omega, y.2⟩, fun y => absurd hw y.2.2⟩
              · constructor
                · rw [decide_eq_false ekn, Bool.or_false]
                  exact decide_eq_decide.mpr ⟨fun y => ⟨by omega, y.2⟩, fun y => ⟨by omega, y.2⟩⟩
                · exact decide_eq_decide.mpr ⟨fun y => ⟨by omega, y.2⟩, fun y => ⟨by omega, y.2⟩⟩
            · intro p hp h1 h2
              have epn : p ≠ n := fun y => h2 (y ▸ hw)
              rw [pj_up_slot epn, pj_up_else (by decide)]
              exact a2 p (by omega) h1 h2
          · rw [pj_up_else (by decide), pj_up_else (by decide)] at y
            omega
      · rw [pj_bt_nat n (by omega)] at c
        refine pj_C116_28 (pj_C116_112 (ih (n + 1) M (by omega) hm hs (fun k hk32 => ?_) (fun p hp h1 h2 => ?_)))
        · rw [(a1 k hk32).1, (a1 k hk32).2]
          have key : (k < n + 1 ∧ set.testBit k = true) → k < n := fun y => by
            have : k ≠ n := fun y2 => by rw [y2, c] at y; exact absurd y.2 (by decide)
            omega
          constructor
          · exact decide_eq_decide.mpr ⟨fun y => ⟨by omega, y.2⟩, fun y => ⟨key ⟨y.1, y.2.1⟩, y.2⟩⟩
          · exact decide_eq_decide.mpr ⟨fun y => ⟨by omega, y.2⟩, fun y => ⟨key ⟨y.1, y.2.1⟩, y.2⟩⟩
        · have : p ≠ n := fun y => by rw [y, c] at h1; exact absurd h1 (by decide)
          exact a2 p (by omega) h1 h2
  refine pj_C116_0 (loop (qf_dP D) 0 _ (by omega) ((qf_fr.refl.up (by decide)).up (by decide)) ((qf_fs.refl.up (by decide)).up (by decide)) (fun k hk => ?_) (fun p hp => absurd hp (by omega)))
  rw [pj_up_slot (by decide), pj_up_same, pj_up_same, pj_bt_0]
  exact ⟨(decide_eq_false (fun z => absurd z.1 (by omega))).symm, (decide_eq_false (fun z => absurd z.1 (by omega))).symm⟩
/-- the search for the next way of turnsWays -/
theorem qf_turnsWY_up (hD : qf_okD D) {M0 : pj_M} (hY : qf_Y D M0) {n k0 : Nat} (hn : n < qf_dP D) (h : ∀ M', qf_fr [58] M0 M' → qf_fs 58 [n] M0 M' → M' 58 n = ((2 ^ qf_upw (qf_wy D n) k0 : Nat) : Int) → pj_G L d 117 74 [pj_vR 38, pj_vI (n : Int)] [] M' Q) : ∀ (r k : Nat) (M : pj_M), k + r = 4 → qf_fr [58] M0 M → qf_fs 58 [n] M0 M → M 58 n = ((2 ^ k : Nat) : Int) → qf_upw (qf_wy D n) k = qf_upw (qf_wy D n) k0 → pj_G L d 117 34 [pj_vR 38, pj_vI (n : Int)] [] M Q := by
  intro r
  have hpt := hD.pt n hn
  have hb := hD.b
  induction r with
  | zero =>
    intro k M ek hm hs hc hu
    have h4 : qf_upw (qf_wy D n) 4 = 4 := qf_upw_here ⟨qf_wy D n, by omega⟩ ⟨4, by omega⟩ (Or.inl rfl)
    obtain rfl : k = 4 := by omega
    refine pj_C117_34 n rfl (by omega) (by rw [hc]; decide) (fun z => h M hm hs ?_) (fun z => by rw [hc] at z; exact absurd z (by decide))
    rw [hc, ← hu, h4]
  | succ r ih =>
    intro k M ek hm hs hc hu
    have e49 := (hY.keep (qf_kY.of hm (by decide)) : qf_Y D M).wy n hn
    have hp4 := qf_pow4 ⟨k, by omega⟩
    dsimp only at hp4
    refine pj_C117_34 n rfl (by omega) (by omega) (fun z => by omega) (fun _ => ?_)
    refine pj_C117_45 n rfl (by omega) (fun z => h M hm hs ?_) (fun z => ?_)
    · rw [e49, hc] at z
      have := (qf_and_bit ⟨qf_wy D n, by omega⟩ ⟨k, by omega⟩).mp z
      have h2 := qf_upw_here ⟨qf_wy D n, by omega⟩ ⟨k, by omega⟩ (Or.inr this)
      dsimp only at h2
      rw [hc, ← hu, h2]
    · rw [e49, hc] at z
      have hf : (qf_wy D n).testBit k = false := by
        cases hq : (qf_wy D n).testBit k with
        | false => rfl
        | true => exact absurd z ((qf_and_bit ⟨qf_wy D n, by omega⟩ ⟨k, by omega⟩).mpr hq)
      have h2 := qf_upw_step ⟨qf_wy D n, by omega⟩ ⟨k, by omega⟩ hf
      dsimp only at h2
      refine pj_C117_61 n rfl (by omega) (ih (k + 1) _ (by omega) (hm.up (by decide)) (hs.up (by simp)) ?_ (by omega))
      rw [pj_up_same, hc, qf_two_pow_succ]
theorem qf_turnsWY_first (hD : qf_okD D) {M0 : pj_M} (hY : qf_Y D M0) {n : Nat} (hn : n < qf_dP D) (hw : qf_wy D n ≠ 0) (h : ∀ M', qf_fr [58] M0 M' → qf_fs 58 [n] M0 M' → M' 58 n = ((2 ^ qf_upw (qf_wy D n) 0 : Nat) : Int) → pj_G L d 117 123 [pj_vR 38, pj_vI (n : Int)] [] M' Q) : ∀ (r k : Nat) (M : pj_M), k + r = 4 → qf_fr [58] M0 M → qf_fs 58 [n] M0 M → M 58 n = ((2 ^ k : Nat) : Int) → qf_upw (qf_wy D n) k = qf_upw (qf_wy D n) 0 → pj_G L d 117 94 [pj_vR 38, pj_vI (n : Int)] [] M Q := by
  intro r
  have hpt := hD.pt n hn
  have hb := hD.b
  have h00 := qf_upw_0 ⟨qf_wy D n, by omega⟩ hw
  dsimp only at h00
  induction r with
  | zero =>
    intro k M ek hm hs hc hu
    have : qf_upw (qf_wy D n) 4 = 4 := qf_upw_here ⟨qf_wy D n, by omega⟩ ⟨4, by omega⟩ (Or.inl rfl)
    obtain rfl : k = 4 := by omega
    omega
  | succ r ih =>
    intro k M ek hm hs hc hu
    have e49 := (hY.keep (qf_kY.of hm (by decide)) : qf_Y D M).wy n hn
    refine pj_C117_94 n rfl (by omega) (fun z => h M hm hs ?_) (fun z => ?_)
    · rw [e49, hc] at z
      have := (qf_and_bit ⟨qf_wy D n, by omega⟩ ⟨k, by omega⟩).mp z
      have h2 := qf_upw_here ⟨qf_wy D n, by omega⟩ ⟨k, by omega⟩ (Or.inr this)
      dsimp only at h2
      rw [hc, ← hu, h2]
    · rw [e49, hc] at z
      have hf : (qf_wy D n).testBit k = false := by
        cases hq : (qf_wy D n).testBit k with
        | false => rfl
        | true => exact absurd z ((qf_and_bit ⟨qf_wy D n, by omega⟩ ⟨k, by omega⟩).mpr hq)
      have h2 := qf_upw_step ⟨qf_wy D n, by omega⟩ ⟨k, by omega⟩ hf
      dsimp only at h2
      refine pj_C117_110 n rfl (by omega) (ih (k + 1) _ (by omega) (hm.up (by decide)) (hs.up (by simp)) ?_ (by omega))
      rw [pj_up_same, hc, qf_two_pow_succ]
theorem qf_pow_lt16 : ∀ e : Fin 5, ((2 : Nat) ^ e.val < 16 ↔ e.val < 4) := by decide +kernel
theorem qf_turnsWY (hD : qf_okD D) {M0 : pj_M} (hY : qf_Y D M0) (hsb : qf_sbY D M0 set) (he : qf_ev D set e) (hw : qf_wyY D M0 set e)
    (h1 : ∀ M' e', qf_fr [58] M0 M' → qf_ev D set e' → qf_wyY D M' set e' → qf_codW D set e' = qf_codW D set e + 1 → Q (some (pj_vI 1)) M')
    (h0 : ∀ M', qf_fr [58] M0 M' → qf_codW D set e + 1 = qf_totW D set → Q (some (pj_vI 0)) M') : pj_G L d 117 0 [pj_vR 38, pj_vU] [] M0 Q := by
  have hb := hD.b
  have bsE : ∀ p, p < qf_dP D → qf_wy D p ≠ 0 → qf_bsW D p = qf_rk (qf_wy D p) 4 := fun p hp h => by unfold qf_bsW; rw [if_pos ⟨hp, h⟩]
  have loop : ∀ (r n : Nat) (M : pj_M), n + r = qf_dP D → qf_fr [58] M0 M → (∀ p, p < n → set.testBit p = true → qf_wy D p ≠ 0 → qf_rk (qf_wy D p) (e p) + 1 = qf_rk (qf_wy D p) 4 ∧ M 58 p = ((2 ^ qf_upw (qf_wy D p) 0 : Nat) : Int)) → (∀ p, n ≤ p → p < qf_dP D → set.testBit p = true → qf_wy D p ≠ 0 → M 58 p = ((2 ^ e p : Nat) : Int)) → pj_G L d 117 2 [pj_vR 38, pj_vI (n : Int)] [] M Q := by
    intro r
    induction r with
    | zero =>
      intro n M en hm a1 a2
      have hP := (hY.keep (qf_kY.of hm (by decide)) : qf_Y D M).P
      refine pj_C117_2 (by omega) (by omega) (fun _ => pj_C117_129 (h0 M hm ?_)) (fun c => by omega)
      refine qf_cod_top (fun p _ => qf_bsW_pos hD p) _ (fun p hp ha => ?_)
      have h2 := of_decide_eq_true ha
      rw [bsE p hp h2.2.2]
      exact (a1 p (by omega) h2.2.1 h2.2.2).1
    | succ r ih =>
      intro n M en hm a1 a2
      have hY' : qf_Y D M := hY.keep (qf_kY.of hm (by decide))
      have hP := hY'.P
      have hn : n < qf_dP D := by omega
      have hpt := hD.pt n hn
      have e38 : M 38 = M0 38 := hm 38 (by decide)
      refine pj_C117_2 (by omega) (by omega) (fun c => by omega) (fun _ => pj_C117_10 n rfl (by omega) (fun c => ?_) (fun c => ?_))
      · rw [e38, (hsb n hn).2] at c
        have hc := of_decide_eq_true c
        have hen := he n hn hc.1 hc.2
        have hcell := a2 n (by omega) hn hc.1 hc.2
        have hall := qf_upw_all ⟨qf_wy D n, by omega⟩ ⟨e n, hen.1⟩ hen.2
        dsimp only at hall
        refine pj_C117_24 n rfl (by omega) ?_
        refine qf_turnsWY_up (M0 := pj_up M 58 n (M 58 n * 2)) (k0 := e n + 1) hD (hY'.keep (qf_kY.refl.up (by omega))) hn (fun M1 hm1 hs1 hc1 => ?_) (4 - (e n + 1)) (e n + 1) _ (by omega) qf_fr.refl qf_fs.refl (by rw [pj_up_same, hcell, qf_two_pow_succ]) rfl
        obtain ⟨q, hq1, hq2, hlt⟩ : ∃ q : Nat, M1 58 n = (q : Int) ∧ q ≤ 16 ∧ (q < 16 ↔ qf_upw (qf_wy D n) (e n + 1) < 4) := ⟨_, hc1, (Nat.pow_le_pow_right (show 0 < 2 by omega) (show qf_upw (qf_wy D n) (e n + 1) ≤ 4 by omega) : 2 ^ qf_upw (qf_wy D n) (e n + 1) ≤ 2 ^ 4), qf_pow_lt16 ⟨qf_upw (qf_wy D n) (e n + 1), by omega⟩⟩
        have hm1' : qf_fr [58] M0 M1 := (hm.up (by decide)).trans hm1 (by decide)
        refine pj_C117_74 n rfl (by omega) (by omega) (fun z => ?_) (fun z => ?_)
        · have h4 : ¬ qf_upw (qf_wy D n) (e n + 1) < 4 := fun y => by
            have := hlt.mpr y
            omega
          refine pj_C117_87 n rfl (by omega) ?_
          refine qf_turnsWY_first (M0 := pj_up M1 58 n 1) hD ((hY.keep (qf_kY.of hm1' (by decide)) : qf_Y D M1).keep (qf_kY.refl.up (by omega))) hn hc.2 (fun M2 hm2 hs2 hc2 => pj_C117_123 ?_) 4 0 _ (by omega) qf_fr.refl qf_fs.refl pj_up_same rfl
          refine ih (n + 1) M2 (by omega) ((hm1'.up (by decide)).trans hm2 (by decide)) (fun p hp y1 y2 => ?_) (fun p hp1 hp2 y1 y2 => ?_)
          · by_cases epn : p = n
            · subst epn
              exact ⟨hall.2.1 h4, hc2⟩
            · rw [hs2 p (by simpa using epn), pj_up_slot epn, hs1 p (by simpa using epn), pj_up_slot epn]
              exact a1 p (by omega) y1 y2
          · have epn : p ≠ n := by omega
            rw [hs2 p (by simpa using epn), pj_up_slot epn, hs1 p (by simpa using epn), pj_up_slot epn]
            exact a2 p (by omega) hp2 y1 y2
        · have h4 : qf_upw (qf_wy D n) (e n + 1) < 4 := hlt.mp (by omega)
          have hr := hall.1 h4
          refine pj_C117_85 (h1 M1 (fun p => if p < n then qf_upw (qf_wy D p) 0 else if p = n then qf_upw (qf_wy D n) (e n + 1) else e p) hm1' (fun p hp y1 y2 => ?_) (fun p hp y1 y2 => ?_) ?_)
          · dsimp only
            by_cases q1 : p < n
            · rw [if_pos q1]
              have hpp := hD.pt p hp
              have := qf_upw_0 ⟨qf_wy D p, by omega⟩ y2
              exact ⟨this.1, this.2.1⟩
            · rw [if_neg q1]
              by_cases q2 : p = n
              · rw [if_pos q2, q2]
                exact ⟨h4, hr.1⟩
              · rw [if_neg q2]
                exact he p hp y1 y2
          · dsimp only
            by_cases q1 : p < n
            · rw [if_pos q1, hs1 p (by simp; omega), pj_up_slot (by omega)]
              exact (a1 p q1 y1 y2).2
            · rw [if_neg q1]
              by_cases q2 : p = n
              · rw [if_pos q2, q2]
                exact hc1
              · rw [if_neg q2, hs1 p (by simpa using q2), pj_up_slot q2]
                exact a2 p (by omega) hp y1 y2
          · have hnx := qf_cod_next (ac := qf_acW D set) (bs := qf_bsW D) (f := qf_rkf D e) (g := qf_rkf D (fun p => if p < n then qf_upw (qf_wy D p) 0 else if p = n then qf_upw (qf_wy D n) (e n + 1) else e p)) (fun p _ => qf_bsW_pos hD p) (n := n) (decide_eq_true ⟨hn, hc.1, hc.2⟩) (fun p hpn ha => by
                have y := of_decide_eq_true ha
                rw [bsE p y.1 y.2.2]
                exact (a1 p hpn y.2.1 y.2.2).1) (fun p hpn ha => by
                have y := of_decide_eq_true ha
                have hpp := hD.pt p y.1
                unfold qf_rkf
                dsimp only
                rw [if_pos hpn]
                exact (qf_upw_0 ⟨qf_wy D p, by omega⟩ y.2.2).2.2.1) (by
                unfold qf_rkf
                dsimp only
                rw [if_neg (by omega), if_pos rfl]
                exact hr.2) (fun p hpn => by
                unfold qf_rkf
                dsimp only
                rw [if_neg (by omega), if_neg (by omega)]) (qf_dP D - (n + 1))
            have e3 : n + 1 + (qf_dP D - (n + 1)) = qf_dP D := by omega
            rw [e3] at hnx
            exact hnx
      · rw [e38, (hsb n hn).2] at c
        have hc := of_decide_eq_false c
        refine pj_C117_21 (pj_C117_123 (ih (n + 1) M (by omega) hm (fun p hp y1 y2 => ?_) (fun p hp1 hp2 y1 y2 => a2 p (by omega) hp2 y1 y2)))
        have : p ≠ n := fun z => hc (by rw [← z]; exact ⟨y1, y2⟩)
        exact a1 p (by omega) y1 y2
  exact pj_C117_0 (loop (qf_dP D) 0 M0 (by omega) qf_fr.refl (fun p hp => absurd hp (by omega)) (fun p _ hp y1 y2 => hw p hp y1 y2))
end QFF
