/-! TICKS: ranges, what they depend on; the reference's states. -/
section PJM2
variable {D : qf_D} {ro : Nat → Nat} {t p : Nat} {b b' u u' : Nat → Nat}
theorem qf_wks_lt (h : 0 < qf_rg D (qf_wo D p)) (a c : Nat) : qf_wks D p a c < qf_rg D (qf_wo D p) := Nat.mod_lt _ h
theorem qf_mk_lt (h : 0 < qf_rg D (qf_wo D p)) (u : Nat → Nat) : qf_mk D u p < qf_rg D (qf_wo D p) := qf_wks_lt h _ _
theorem qf_mk_congr (hx : qf_kd D p ≠ 3 → u (qf_dx D p) = u' (qf_dx D p)) (hy : qf_kd D p ≤ 2 → u (qf_dy D p) = u' (qf_dy D p)) : qf_mk D u p = qf_mk D u' p := by
  unfold qf_mk
  by_cases h3 : qf_kd D p = 3
  · rw [if_pos h3, if_pos h3, if_neg (by omega), if_neg (by omega)]
  · rw [if_neg h3, if_neg h3, hx h3]
    by_cases h2 : qf_kd D p ≤ 2
    · rw [if_pos h2, if_pos h2, hy h2]
    · rw [if_neg h2, if_neg h2]
theorem qf_gv_congr {r : Nat} (hb : qf_kd D p = 2 → (r ≠ 1 ∧ r ≠ 2 ∧ r ≠ 8 → b p = b' p)) (hx : qf_kd D p ≠ 3 → u (qf_dx D p) = u' (qf_dx D p)) (hy : qf_kd D p ≤ 2 → u (qf_dy D p) = u' (qf_dy D p)) : qf_gv D r b u p = qf_gv D r b' u' p := by
  unfold qf_gv
  by_cases h1 : r = 1
  · rw [if_pos h1, if_pos h1]
  · rw [if_neg h1, if_neg h1]
    by_cases h2 : r = 2
    · rw [if_pos h2, if_pos h2]
    · rw [if_neg h2, if_neg h2]
      by_cases h8 : r = 8 ∧ qf_kd D p ≠ 3
      · rw [if_pos h8, if_pos h8, hx h8.2]
      · rw [if_neg h8, if_neg h8]
        have e : qf_sh0 D b u p = qf_sh0 D b' u' p := by
          unfold qf_sh0
          by_cases hk : qf_kd D p = 2
          · rw [if_pos hk, if_pos hk]
            exact hb hk ⟨h1, h2, fun z => h8 ⟨z, by omega⟩⟩
          · rw [if_neg hk, if_neg hk]
            exact qf_mk_congr hx hy
        rw [e]
theorem qf_gv_lt {r : Nat} (h : 0 < qf_rg D (qf_wo D p)) (hb : qf_kd D p = 2 → b p < qf_rg D (qf_wo D p)) : qf_gv D r b u p < qf_rg D (qf_wo D p) := by
  have hs : qf_sh0 D b u p < qf_rg D (qf_wo D p) := by
    unfold qf_sh0
    split
    next hk => exact hb hk
    · exact qf_mk_lt h u
  unfold qf_gv
  split
  · exact h
  · split
    · omega
    · split
      · exact Nat.mod_lt _ h
      · split <;> omega
theorem qf_gz_congr {z : Nat} (hb : qf_kd D p = 2 → (ro p ≠ 1 ∧ ro p ≠ 2 ∧ ro p ≠ 8 ∧ ro p ≠ 16 → b p = b' p)) (hx : qf_kd D p ≠ 3 → u (qf_dx D p) = u' (qf_dx D p)) (hy : qf_kd D p ≤ 2 → u (qf_dy D p) = u' (qf_dy D p)) (h : qf_gz D ro b u p z) : qf_gz D ro b' u' p z := by
  unfold qf_gz at h ⊢
  by_cases h16 : ro p = 16
  · rw [if_pos h16] at h ⊢; exact h
  · rw [if_neg h16] at h ⊢
    rw [h]
    exact qf_gv_congr (fun hk hr => hb hk ⟨hr.1, hr.2.1, hr.2.2, h16⟩) hx hy
theorem qf_gz_lt {z : Nat} (h0 : 0 < qf_rg D (qf_wo D p)) (hb : qf_kd D p = 2 → b p < qf_rg D (qf_wo D p)) (h : qf_gz D ro b u p z) : z < qf_rg D (qf_wo D p) := by
  unfold qf_gz at h
  split at h
  · exact h
  · rw [h]; exact qf_gv_lt h0 hb
theorem qf_tk_congr (hD : qf_okD D) (hb : ∀ p, p < qf_dP D → qf_kd D p = 2 → b p = b' p) (h : qf_tk D ro t b u) : qf_tk D ro t b' u := by
  intro w hw
  refine ⟨(h w hw).1, fun p hp => ?_, (h w hw).2.2⟩
  have h3 := hD.2.2.1 w hw (by omega)
  rw [hp] at h3
  exact qf_gz_congr (fun hk _ => hb p h3.1 hk) (fun _ => rfl) (fun _ => rfl) ((h w hw).2.1 p hp)
theorem qf_tk_lt (hD : qf_okD D) (ht : t < qf_dT D) (hb : ∀ p, p < qf_dP D → qf_kd D p = 2 → b p < qf_rg D (qf_wo D p)) (h : qf_tk D ro t b u) : ∀ w, w < qf_dW D → u w < qf_rg D w := by
  intro w hw
  have hT := hD.1.2.2.2.1
  by_cases hd : qf_dv D w = 0
  · rw [(h w hw).1 hd]
    exact hD.2.2.2.2.2.1 t w (by omega) hw
  · have h3 := hD.2.2.1 w hw hd
    have hp : qf_dv D w = (qf_dv D w - 1) + 1 := by omega
    have := qf_gz_lt (by have := hD.2.1 w hw; rw [h3.2]; omega) (fun hk => hb _ h3.1 hk) ((h w hw).2.1 _ hp)
    rw [h3.2] at this
    exact this
theorem qf_ow_lt (hD : qf_okD D) (t : Nat) (u : Nat → Nat) : ∀ p, p < qf_dP D → qf_kd D p = 2 → qf_ow D t u p < qf_rg D (qf_wo D p) := by
  intro p hp _
  have h0 : 0 < qf_rg D (qf_wo D p) := by
    have := hD.2.1 _ (hD.2.2.2.1 p hp).1
    omega
  unfold qf_ow
  split
  · exact h0
  · exact qf_mk_lt h0 u
theorem qf_run_lt (hD : qf_okD D) {v : Nat → Nat → Nat} (h : qf_run D ro v) : ∀ t, t < qf_dT D → ∀ w, w < qf_dW D → v t w < qf_rg D w := fun t ht => qf_tk_lt hD ht (qf_ow_lt hD t _) (h t ht)
/-- the reference's state of a tick, and what it says of the next -/
def qf_sR (D : qf_D) (u : Nat → Nat) (k : Nat) : Nat := 3 * u (qf_dx D (qf_st D k)) + u (qf_dy D (qf_st D k))
def qf_stR (D : qf_D) (_ : Nat) (u : Nat → Nat) : Nat := if qf_dS D = 0 then 0 else if qf_dS D = 1 then qf_sR D u 0 else 9 * qf_sR D u 1 + qf_sR D u 0
def qf_bR (D : qf_D) (t s p : Nat) : Nat := if t = 0 then 0 else if p = qf_st D 0 then qf_wks D p (s % 9 / 3) (s % 3) else qf_wks D p (s / 9 % 9 / 3) (s / 9 % 3)
def qf_RR (D : qf_D) (ro : Nat → Nat) (t s : Nat) (u : Nat → Nat) : Prop := qf_tk D ro t (qf_bR D t s) u
theorem qf_bR_st (hD : qf_okD D) (hu : ∀ w, w < qf_dW D → u w < qf_rg D w) {q : Nat} : ∀ p, p < qf_dP D → qf_kd D p = 2 → qf_bR D (t + 1) (qf_stR D q u) p = qf_ow D (t + 1) u p := by
  intro p hp hk
  have h3 : ∀ w, w < qf_dW D → u w < 3 := fun w hw => by
    have := hD.2.1 w hw
    have := hu w hw
    omega
  have hin : ∀ p, p < qf_dP D → qf_kd D p = 2 → u (qf_dx D p) < 3 ∧ u (qf_dy D p) < 3 := by
    intro p hp hk
    have h := hD.2.2.2.1 p hp
    have hx := h.2.2.2.2.1 (by omega)
    have hy := h.2.2.2.2.2.1 (by omega)
    exact ⟨h3 _ (by omega), h3 _ (by omega)⟩
  obtain ⟨k, hk1, hk2⟩ := hD.2.2.2.2.2.2.2.1 p hp hk
  have hS := hD.1.2.2.2.2.2
  have hst := hD.2.2.2.2.2.2.1
  unfold qf_bR qf_ow qf_mk qf_stR qf_sR
  rw [if_neg (show ¬ t + 1 = 0 by omega), if_neg (show ¬ t + 1 = 0 by omega), if_neg (show ¬ qf_kd D p = 3 by omega), if_pos (show qf_kd D p ≤ 2 by omega)]
  by_cases h0 : p = qf_st D 0
  · rw [if_pos h0]
    have hi := hin p hp hk
    rw [← h0]
    by_cases hs1 : qf_dS D = 1
    · rw [if_neg (by omega), if_pos hs1]
      have e1 : (3 * u (qf_dx D p) + u (qf_dy D p)) % 9 / 3 = u (qf_dx D p) := by omega
      have e2 : (3 * u (qf_dx D p) + u (qf_dy D p)) % 3 = u (qf_dy D p) := by omega
      rw [e1, e2]
    · rw [if_neg (by omega), if_neg hs1]
      have h1 := hst 1 (by omega)
      have hj := hin _ h1.1 h1.2
      generalize 3 * u (qf_dx D (qf_st D 1)) + u (qf_dy D (qf_st D 1)) = g
      have e1 : (9 * g + (3 * u (qf_dx D p) + u (qf_dy D p))) % 9 / 3 = u (qf_dx D p) := by omega
      have e2 : (9 * g + (3 * u (qf_dx D p) + u (qf_dy D p))) % 3 = u (qf_dy D p) := by omega
      rw [e1, e2]
  · rw [if_neg h0]
    have hk : k = 1 := by
      have : k ≠ 0 := fun z => h0 (by rw [← hk2, z])
      omega
    rw [hk] at hk2 hk1
    rw [if_neg (by omega), if_neg (by omega), hk2]
    have hi := hin p hp (by assumption)
    have h1 := hst 0 (by omega)
    have hj := hin _ h1.1 h1.2
    have e1 : (9 * (3 * u (qf_dx D p) + u (qf_dy D p)) + (3 * u (qf_dx D (qf_st D 0)) + u (qf_dy D (qf_st D 0)))) / 9 % 9 / 3 = u (qf_dx D p) := by omega
    have e2 : (9 * (3 * u (qf_dx D p) + u (qf_dy D p)) + (3 * u (qf_dx D (qf_st D 0)) + u (qf_dy D (qf_st D 0)))) / 9 % 3 = u (qf_dy D p) := by omega
    rw [e1, e2]
theorem qf_bR_lt (hD : qf_okD D) (t s : Nat) : ∀ p, p < qf_dP D → qf_kd D p = 2 → qf_bR D t s p < qf_rg D (qf_wo D p) := by
  intro p hp _
  have h0 : 0 < qf_rg D (qf_wo D p) := by
    have := hD.2.1 _ (hD.2.2.2.1 p hp).1
    omega
  unfold qf_bR
  split
  · exact h0
  · split <;> exact qf_wks_lt h0 _ _
/-- runs are the runs of the reference's automaton -/
theorem qf_run_R (hD : qf_okD D) (v : Nat → Nat → Nat) : (∀ s, s < qf_dT D → qf_RR D ro s (qf_cd (qf_stR D) v s) (v s)) ↔ qf_run D ro v := by
  have one : ∀ t, t < qf_dT D → (∀ s, s < t → ∀ w, w < qf_dW D → v s w < qf_rg D w) → ∀ p, p < qf_dP D → qf_kd D p = 2 → qf_bR D t (qf_cd (qf_stR D) v t) p = qf_ow D t (v (t - 1)) p := by
    intro t ht hs p hp hk
    cases t with
    | zero => rfl
    | succ t => exact qf_bR_st (q := t) hD (hs t (by omega)) p hp hk
  constructor
  · intro h
    have hr : ∀ t, t < qf_dT D → ∀ w, w < qf_dW D → v t w < qf_rg D w := fun t ht => qf_tk_lt hD ht (qf_bR_lt hD t _) (h t ht)
    intro t ht
    exact qf_tk_congr hD (one t ht (fun s hs => hr s (by omega))) (h t ht)
  · intro h t ht
    exact qf_tk_congr hD (fun p hp hk => (one t ht (fun s hs => qf_run_lt hD h s (by omega)) p hp hk).symm) (h t ht)
end PJM2
