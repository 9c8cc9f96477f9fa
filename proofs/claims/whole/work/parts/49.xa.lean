/-! THE CLASS, one tick: makes, gives, walk. -/
section QFXA
variable {L d : Nat} {Q : Option pj_V → pj_M → Prop} {D : qf_D} {ro : Nat → Nat} {t p : Nat} {u b : Nat → Nat} {M : pj_M}
theorem qf_makesX (hD : qf_okD D) (hX : qf_X D M) (hp : p < qf_dP D) (ht : t < 3) (h9 : M 31 9 = (t : Int)) (hx : qf_kd D p ≠ 3 → M 33 (14 * t + qf_dx D p) = (u (qf_dx D p) : Int) ∧ u (qf_dx D p) < 3) (hy : qf_kd D p ≤ 2 → M 33 (14 * t + qf_dy D p) = (u (qf_dy D p) : Int) ∧ u (qf_dy D p) < 3) (h : Q (some (pj_vI (qf_mk D u p : Int))) M) : pj_G L d 23 0 [pj_vR 31, pj_vI (p : Int), pj_vU, pj_vU, pj_vU] [] M Q := by
  have hb := hD.b
  have hpt := hD.pt p hp
  have ex := hX.dx p hp
  have ey := hX.dy p hp
  have hr := qf_rgp hD hp
  -- the end: a and b are known
  have fin : ∀ (a c : Nat), a < 3 → c < 3 → (Q (some (pj_vI (qf_wks D p a c : Int))) M) → pj_G L d 23 75 [pj_vR 31, pj_vI (p : Int), pj_vU, pj_vI (a : Int), pj_vU] [pj_vI (c : Int)] M Q := by
    intro a c ha hc hq
    refine pj_C23_75 (9 * p + 3 * a + c) (by omega) (by omega) ?_
    rw [hX.md p a c hp ha hc]
    exact hq
  unfold qf_mk at h
  by_cases k3 : qf_kd D p = 3
  · rw [if_pos k3] at ex
    rw [if_neg (by omega)] at ey
    rw [if_pos k3, if_neg (by omega)] at h
    refine pj_C23_0 p rfl (by omega) (by omega) (fun c => absurd ex c) (fun _ => pj_C23_21 ?_)
    exact pj_C23_41 p rfl (by omega) (by omega) (fun c => absurd ey c) (fun _ => pj_C23_55 (fin 0 0 (by omega) (by omega) h))
  · rw [if_neg k3] at ex
    rw [if_neg k3] at h
    have vx := hx k3
    have lx := hpt.2.2.2.2.1 k3
    refine pj_C23_0 p rfl (by omega) (by omega) (fun _ => ?_) (fun c => by omega)
    refine pj_C23_25 p (14 * t + qf_dx D p) rfl (by omega) (by omega) (by omega) ?_
    rw [vx.1]
    by_cases k2 : qf_kd D p ≤ 2
    · rw [if_pos k2] at ey h
      have vy := hy k2
      have ly := hpt.2.2.2.2.2.1 k2
      refine pj_C23_41 p rfl (by omega) (by omega) (fun _ => ?_) (fun c => by omega)
      refine pj_C23_59 p (14 * t + qf_dy D p) rfl (by omega) (by omega) (by omega) ?_
      rw [vy.1]
      exact fin _ _ vx.2 vy.2 h
    · rw [if_neg k2] at ey h
      exact pj_C23_41 p rfl (by omega) (by omega) (fun c => absurd ey c) (fun _ => pj_C23_55 (fin _ 0 vx.2 (by omega) h))
theorem qf_givesX (hD : qf_okD D) (hX : qf_X D M) (hp : p < qf_dP D) (ht : t < 3) (h9 : M 31 9 = (t : Int)) (hro : M 32 p = (ro p : Int)) (hr16 : ro p = 0 ∨ ro p = 1 ∨ ro p = 2 ∨ ro p = 4 ∨ ro p = 8) (hx : qf_kd D p ≠ 3 → M 33 (14 * t + qf_dx D p) = (u (qf_dx D p) : Int) ∧ u (qf_dx D p) < 3) (hy : qf_kd D p ≤ 2 → M 33 (14 * t + qf_dy D p) = (u (qf_dy D p) : Int) ∧ u (qf_dy D p) < 3) (hb : qf_kd D p = 2 → M 34 p = (b p : Int) ∧ b p < qf_rg D (qf_wo D p)) (h : Q (some (pj_vI (qf_gv D (ro p) b u p : Int))) M) : pj_G L (d + 1) 22 0 [pj_vR 31, pj_vI (p : Int), pj_vU, pj_vU, pj_vU] [] M Q := by
  have hb14 := hD.b
  have hpt := hD.pt p hp
  have ex := hX.dx p hp
  have hr := qf_rgp hD hp
  have erg := hX.rg _ hpt.1
  have ekd := hX.kd p hp
  have ewo := hX.wo p hp
  have hsl : qf_sh0 D b u p < qf_rg D (qf_wo D p) := by
    unfold qf_sh0
    split
    next hk => exact (hb hk).2
    · exact qf_mk_lt (by omega) u
  unfold qf_gv at h
  refine pj_C22_0 p (qf_wo D p) rfl (by omega) ewo (by omega) (by omega) (fun c1 => ?_) (fun c1 => pj_C22_32 ?_)
  · rw [if_neg (by omega)] at h
    refine pj_C22_34 (by omega) (fun c2 => ?_) (fun c2 => pj_C22_39 ?_)
    · rw [if_neg (by omega)] at h
      -- what it should give
      have should : ¬ (ro p = 8 ∧ qf_kd D p ≠ 3) → pj_G L (d + 1) 22 102 [pj_vR 31, pj_vI (p : Int), pj_vI (M 32 p), pj_vI (M 3 (qf_wo D p) - 1), pj_vU] [] M Q := by
        intro n8
        rw [if_neg n8] at h
        have fin : pj_G L (d + 1) 22 129 [pj_vU, pj_vU, pj_vI (M 32 p), pj_vI (M 3 (qf_wo D p) - 1), pj_vU] [pj_vI (qf_sh0 D b u p : Int)] M Q := by
          refine pj_C22_129 (by omega) (fun c4 => pj_C22_143 (pj_C22_145 ?_)) (fun c4 => pj_C22_136 (pj_C22_145 ?_))
          · rw [if_neg (by omega)] at h
            exact h
          · rw [if_pos (by omega)] at h
            have e1 : M 3 (qf_wo D p) - 1 - (qf_sh0 D b u p : Int) = ((qf_rg D (qf_wo D p) - 1 - qf_sh0 D b u p : Nat) : Int) := by omega
            rw [e1]
            exact h
        refine pj_C22_102 p rfl (by omega) (by omega) (fun ck => pj_C22_124 (qf_makesX hD hX hp ht h9 hx hy ?_)) (fun ck => pj_C22_115 p rfl (by omega) ?_)
        · have e1 : qf_sh0 D b u p = qf_mk D u p := by unfold qf_sh0; rw [if_neg (by omega)]
          rw [e1] at fin
          exact fin
        · have e1 : qf_sh0 D b u p = b p := by unfold qf_sh0; rw [if_pos (by omega)]
          rw [e1] at fin
          rw [(hb (by omega)).1]
          exact fin
      refine pj_C22_41 (by omega) (fun c8 => should (by omega)) (fun c8 => pj_C22_47 p rfl (by omega) ?_ (fun cx => should ?_) (fun cx => ?_))
      · split at ex <;> omega
      · split at ex <;> omega
      · have k3 : qf_kd D p ≠ 3 := fun z => by rw [if_pos z] at ex; exact cx ex
        rw [if_neg k3] at ex
        rw [if_pos ⟨by omega, k3⟩] at h
        have vx := hx k3
        have lx := hpt.2.2.2.2.1 k3
        refine pj_C22_60 p (14 * t + qf_dx D p) rfl (by omega) (by omega) (by omega) (by omega) (by omega) (fun c => ?_) (fun c => ?_)
        · refine pj_C22_99 (pj_C22_101 ?_)
          rw [Nat.mod_eq_of_lt (by omega)] at h
          rw [vx.1]
          exact h
        · refine pj_C22_90 (pj_C22_101 ?_)
          have e1 : M 33 (14 * t + qf_dx D p) - (M 3 (qf_wo D p) - 1) - 1 = ((u (qf_dx D p) % qf_rg D (qf_wo D p) : Nat) : Int) := by
            have : u (qf_dx D p) % qf_rg D (qf_wo D p) = u (qf_dx D p) - qf_rg D (qf_wo D p) := by
              rw [Nat.mod_eq_sub_mod (by omega), Nat.mod_eq_of_lt (by omega)]
            omega
          rw [e1]
          exact h
    · rw [if_pos (by omega)] at h
      have e1 : M 3 (qf_wo D p) - 1 = ((qf_rg D (qf_wo D p) - 1 : Nat) : Int) := by omega
      rw [e1]
      exact h
  · rw [if_pos (by omega)] at h
    exact h
/-- what was seen of a wire in a tick, as the class holds it -/
theorem qf_seenX (hD : qf_okD D) (hX : qf_X D M) {t w : Nat} (ht : t < 3) (hw : w < 14) : (M 21 (14 * t + w) = -1 ∧ ∀ z, qf_fit D t w z) ∨ ∃ s : Nat, M 21 (14 * t + w) = (s : Int) ∧ s < qf_rg D w ∧ w < qf_dW D ∧ ∀ z, qf_fit D t w z ↔ qf_near D w z s := by
  have hb := hD.b
  by_cases h : ∃ k, k < qf_dK D ∧ 14 * qf_lt D k + qf_lw D k = 14 * t + w
  · obtain ⟨k, hk, e⟩ := h
    have h1 := hD.lk k hk
    have et : qf_lt D k = t := by omega
    have ew : qf_lw D k = w := by omega
    refine Or.inr ⟨qf_lv D k, ?_, ?_, by omega, fun z => ?_⟩
    · rw [← e]
      exact hX.sv k hk
    · rw [← ew]
      exact h1.2.2
    · constructor
      · intro hf
        exact hf k hk et ew
      · intro hn k' hk' h3 h4
        have ekk : k' = k := by
          rcases Nat.lt_trichotomy k' k with z | z | z
          · exact absurd ⟨by omega, by omega⟩ (hD.l2 k' k z hk)
          · exact z
          · exact absurd ⟨by omega, by omega⟩ (hD.l2 k k' z hk')
        rw [ekk]
        exact hn
  · refine Or.inl ⟨hX.no _ (by omega) (fun k hk e => h ⟨k, hk, e⟩), fun z k hk h3 h4 => ?_⟩
    exact absurd ⟨k, hk, by rw [h3, h4]⟩ h
/-- the wires whose numbers are known ahead of a place of the order -/
def qf_bas (D : qf_D) (N : Nat → Bool) (a w : Nat) : Prop := w < qf_dW D ∧ (qf_dv D w = 0 ∨ ∃ i, i < a ∧ qf_wo D (qf_or0 D i) = w ∧ N w = true)
/-- what the part at a place of the order asks for -/
def qf_sat (D : qf_D) (ro : Nat → Nat) (N : Nat → Bool) (t : Nat) (b u : Nat → Nat) (i : Nat) : Prop := N (qf_wo D (qf_or0 D i)) = true → qf_gz D ro b u (qf_or0 D i) (u (qf_wo D (qf_or0 D i))) ∧ qf_fit D t (qf_wo D (qf_or0 D i)) (u (qf_wo D (qf_or0 D i)))
/-- the numbers that go on from those known -/
def qf_ext (D : qf_D) (ro : Nat → Nat) (N : Nat → Bool) (e t : Nat) (b : Nat → Nat) (a : Nat) (u u' : Nat → Nat) : Prop := (∀ w, qf_bas D N a w → u' w = u w) ∧ ∀ i, a ≤ i → i < e → qf_sat D ro N t b u' i
/-- needed wires read needed wires -/
def qf_cl1 (D : qf_D) (N : Nat → Bool) : Prop := ∀ p, p < qf_dP D → N (qf_wo D p) = true → (qf_kd D p ≠ 3 → N (qf_dx D p) = true) ∧ (qf_kd D p ≤ 2 → N (qf_dy D p) = true)
/-- the class's moment, ready for a tick -/
def qf_mo (D : qf_D) (ro : Nat → Nat) (N : Nat → Bool) (t : Nat) (b : Nat → Nat) (M : pj_M) : Prop := qf_X D M ∧ M 31 9 = (t : Int) ∧ (∀ w, w < 14 → pj_bt (M 31 10) w = N w) ∧ (∀ p, p < qf_dP D → M 32 p = (ro p : Int)) ∧ (∀ p, p < qf_dP D → qf_kd D p = 2 → M 34 p = (b p : Int) ∧ b p < qf_rg D (qf_wo D p))
/-- the known numbers lie in the class's row -/
def qf_now (D : qf_D) (N : Nat → Bool) (t a : Nat) (u : Nat → Nat) (M : pj_M) : Prop := ∀ w, qf_bas D N a w → M 33 (14 * t + w) = (u w : Int) ∧ u w < 3
theorem qf_bas_in (hD : qf_okD D) {N : Nat → Bool} (hc : qf_cl1 D N) {i : Nat} (hi : i < qf_dP D) {w : Nat} (hw : w < qf_wo D (qf_or0 D i)) (hn : N w = true) : qf_bas D N i w := by
  have hp := hD.or i hi
  have hpt := hD.pt _ hp
  refine ⟨by omega, ?_⟩
  by_cases h0 : qf_dv D w = 0
  · exact Or.inl h0
  · have h3 := hD.dv w (by omega) h0
    obtain ⟨j, hj1, hj2⟩ := hD.oe _ h3.1
    refine Or.inr ⟨j, ?_, by rw [hj2]; exact h3.2, hn⟩
    rcases Nat.lt_trichotomy j i with z | z | z
    · exact z
    · rw [z] at hj2
      rw [hj2, h3.2] at hw
      omega
    · have := hD.os i j z hj1
      rw [hj2, h3.2] at this
      omega
theorem qf_bas_succ {N : Nat → Bool} {a w : Nat} : qf_bas D N (a + 1) w ↔ qf_bas D N a w ∨ (w < qf_dW D ∧ w = qf_wo D (qf_or0 D a) ∧ N w = true) := by
  constructor
  · rintro ⟨h1, h2 | ⟨i, h3, h4, h5⟩⟩
    · exact Or.inl ⟨h1, Or.inl h2⟩
    · by_cases e : i = a
      · rw [e] at h4
        exact Or.inr ⟨h1, h4.symm, h5⟩
      · exact Or.inl ⟨h1, Or.inr ⟨i, by omega, h4, h5⟩⟩
  · rintro (⟨h1, h2 | ⟨i, h3, h4, h5⟩⟩ | ⟨h1, h2, h3⟩)
    · exact ⟨h1, Or.inl h2⟩
    · exact ⟨h1, Or.inr ⟨i, by omega, h4, h5⟩⟩
    · exact ⟨h1, Or.inr ⟨a, by omega, h2.symm, h3⟩⟩
theorem qf_bas_not (hD : qf_okD D) {N : Nat → Bool} {a : Nat} (ha : a < qf_dP D) : ¬ qf_bas D N a (qf_wo D (qf_or0 D a)) := by
  rintro ⟨-, h | ⟨i, h1, h2, -⟩⟩
  · have := (hD.pt _ (hD.or a ha)).2.1
    omega
  · have := hD.os i a h1 ha
    omega
/-- a wire that isn't needed: nothing changes -/
theorem qf_ext_skip {N : Nat → Bool} {e a : Nat} (hn : N (qf_wo D (qf_or0 D a)) = false) (u' : Nat → Nat) : qf_ext D ro N e t b (a + 1) u u' ↔ qf_ext D ro N e t b a u u' := by
  have hbs : ∀ w, qf_bas D N (a + 1) w ↔ qf_bas D N a w := by
    intro w
    rw [qf_bas_succ]
    constructor
    · rintro (h | ⟨-, h2, h3⟩)
      · exact h
      · rw [h2, hn] at h3
        cases h3
    · exact fun h => Or.inl h
  constructor
  · rintro ⟨h1, h2⟩
    refine ⟨fun w hw => h1 w ((hbs w).mpr hw), fun i hi1 hi2 => ?_⟩
    by_cases e1 : i = a
    · rw [e1]
      intro z
      rw [hn] at z
      cases z
    · exact h2 i (by omega) hi2
  · rintro ⟨h1, h2⟩
    exact ⟨fun w hw => h1 w ((hbs w).mp hw), fun i hi1 hi2 => h2 i (by omega) hi2⟩
/-- a wire that is needed: it has a number -/
theorem qf_ext_put (hD : qf_okD D) {N : Nat → Bool} (hc : qf_cl1 D N) {e a v : Nat} (ha : a < e) (he : e ≤ qf_dP D) (hn : N (qf_wo D (qf_or0 D a)) = true) (hg : qf_gz D ro b u (qf_or0 D a) v) (hf : qf_fit D t (qf_wo D (qf_or0 D a)) v) (u' : Nat → Nat) : qf_ext D ro N e t b (a + 1) (fun w => if w = qf_wo D (qf_or0 D a) then v else u w) u' ↔ qf_ext D ro N e t b a u u' ∧ u' (qf_wo D (qf_or0 D a)) = v := by
  have hp := hD.or a (by omega)
  have hpt := hD.pt _ hp
  have hnot := qf_bas_not (N := N) hD (show a < qf_dP D by omega)
  have hcl := hc _ hp hn
  constructor
  · rintro ⟨h1, h2⟩
    have hv : u' (qf_wo D (qf_or0 D a)) = v := by
      have := h1 _ (qf_bas_succ.mpr (Or.inr ⟨hpt.1, rfl, hn⟩))
      dsimp only at this
      rw [if_pos rfl] at this
      exact this
    have hbase : ∀ w, qf_bas D N a w → u' w = u w := by
      intro w hw
      have := h1 w (qf_bas_succ.mpr (Or.inl hw))
      dsimp only at this
      rw [if_neg (show ¬ w = qf_wo D (qf_or0 D a) from fun z => hnot (z ▸ hw))] at this
      exact this
    refine ⟨⟨hbase, fun i hi1 hi2 => ?_⟩, hv⟩
    by_cases e1 : i = a
    · rw [e1]
      intro _
      rw [hv]
      refine ⟨qf_gz_congr (fun _ _ => rfl) (fun hk => ?_) (fun hk => ?_) hg, hf⟩
      · exact (hbase _ (qf_bas_in hD hc (by omega) (hpt.2.2.2.2.1 hk) (hcl.1 hk))).symm
      · exact (hbase _ (qf_bas_in hD hc (by omega) (hpt.2.2.2.2.2.1 hk) (hcl.2 hk))).symm
    · exact h2 i (by omega) hi2
  · rintro ⟨⟨h1, h2⟩, hv⟩
    refine ⟨fun w hw => ?_, fun i hi1 hi2 => h2 i (by omega) hi2⟩
    rcases qf_bas_succ.mp hw with h | ⟨-, h, -⟩
    · dsimp only
      rw [if_neg (show ¬ w = qf_wo D (qf_or0 D a) from fun z => hnot (z ▸ h))]
      exact h1 w h
    · dsimp only
      rw [if_pos h, h]
      exact hv
end QFXA
