/-! THE CLASS'S AUTOMATON: only parts ahead of a place of the order, only wires that are needed. -/
section PJM3
variable {D : qf_D} {ro ro' : Nat → Nat} {N N' : Nat → Nat → Bool} {e t p : Nat} {b b' u u' : Nat → Nat}
def qf_ck (D : qf_D) (ro : Nat → Nat) (n : Nat → Bool) (e t : Nat) (b u : Nat → Nat) : Prop := (∀ w, w < qf_dW D → qf_dv D w = 0 → u w = qf_np0 D (14 * t + w)) ∧ ∀ i, i < e → n (qf_wo D (qf_or0 D i)) = true → qf_gz D ro b u (qf_or0 D i) (u (qf_wo D (qf_or0 D i))) ∧ qf_fit D t (qf_wo D (qf_or0 D i)) (u (qf_wo D (qf_or0 D i)))
def qf_prun (D : qf_D) (ro : Nat → Nat) (N : Nat → Nat → Bool) (e : Nat) (v : Nat → Nat → Nat) : Prop := ∀ t, t < qf_dT D → qf_ck D ro (N t) e t (qf_ow D t (v (t - 1))) (v t)
/-- does stream k (0, 1) owe a number to tick t -/
def qf_owes (D : qf_D) (ro : Nat → Nat) (N : Nat → Nat → Bool) (e k t : Nat) : Prop := k < qf_dS D ∧ (∃ i, i < e ∧ qf_or0 D i = qf_st D k) ∧ (ro (qf_st D k) = 0 ∨ ro (qf_st D k) = 4) ∧ t < qf_dT D ∧ N t (qf_wo D (qf_st D k)) = true
noncomputable def qf_oC (D : qf_D) (ro : Nat → Nat) (N : Nat → Nat → Bool) (e k t : Nat) (u : Nat → Nat) : Nat := @ite Nat (qf_owes D ro N e k t) (Classical.propDecidable _) (qf_mk D u (qf_st D k)) 0
noncomputable def qf_stC (D : qf_D) (ro : Nat → Nat) (N : Nat → Nat → Bool) (e t : Nat) (u : Nat → Nat) : Nat := qf_oC D ro N e 0 (t + 1) u + 3 * qf_oC D ro N e 1 (t + 1) u
def qf_bC (D : qf_D) (c p : Nat) : Nat := if p = qf_st D 0 then c % 3 else c / 3
def qf_RC (D : qf_D) (ro : Nat → Nat) (N : Nat → Nat → Bool) (e t c : Nat) (u : Nat → Nat) : Prop := qf_ck D ro (N t) e t (qf_bC D c) u
/-- roles as they may be -/
def qf_rok (D : qf_D) (ro : Nat → Nat) : Prop := ∀ p, p < qf_dP D → ro p = 0 ∨ ro p = 1 ∨ ro p = 2 ∨ ro p = 4 ∨ ro p = 8 ∨ ro p = 16
theorem qf_oC_lt (hD : qf_okD D) (k : Nat) : qf_oC D ro N e k t u < 3 := by
  unfold qf_oC
  split
  next h =>
    have h1 := hD.2.2.2.2.2.2.1 k h.1
    have h2 := hD.2.1 _ (hD.2.2.2.1 _ h1.1).1
    have h3 := qf_mk_lt (D := D) (p := qf_st D k) (by omega) u
    omega
  · omega
theorem qf_stC_lt (hD : qf_okD D) : qf_stC D ro N e t u < 9 := by
  have h0 := qf_oC_lt (ro := ro) (N := N) (e := e) (t := t + 1) (u := u) hD 0
  have h1 := qf_oC_lt (ro := ro) (N := N) (e := e) (t := t + 1) (u := u) hD 1
  unfold qf_stC
  omega
theorem qf_ck_congr {n : Nat → Bool} (hb : ∀ i, i < e → n (qf_wo D (qf_or0 D i)) = true → qf_kd D (qf_or0 D i) = 2 → (ro (qf_or0 D i) ≠ 1 ∧ ro (qf_or0 D i) ≠ 2 ∧ ro (qf_or0 D i) ≠ 8 ∧ ro (qf_or0 D i) ≠ 16) → b (qf_or0 D i) = b' (qf_or0 D i)) (h : qf_ck D ro n e t b u) : qf_ck D ro n e t b' u := by
  refine ⟨h.1, fun i hi hn => ⟨?_, (h.2 i hi hn).2⟩⟩
  exact qf_gz_congr (fun hk hr => hb i hi hn hk hr) (fun _ => rfl) (fun _ => rfl) (h.2 i hi hn).1
theorem qf_bC_st (hD : qf_okD D) (hr : qf_rok D ro) (he : e ≤ qf_dP D) (ht : t + 1 < qf_dT D) {i : Nat} (hi : i < e) (hn : N (t + 1) (qf_wo D (qf_or0 D i)) = true) (hk : qf_kd D (qf_or0 D i) = 2) (hro : ro (qf_or0 D i) ≠ 1 ∧ ro (qf_or0 D i) ≠ 2 ∧ ro (qf_or0 D i) ≠ 8 ∧ ro (qf_or0 D i) ≠ 16) : qf_bC D (qf_stC D ro N e t u) (qf_or0 D i) = qf_ow D (t + 1) u (qf_or0 D i) := by
  have hor := hD.2.2.2.2.2.2.2.2.2.2.2.1
  have hp := hor i (by omega)
  obtain ⟨k, hk1, hk2⟩ := hD.2.2.2.2.2.2.2.1 _ hp hk
  have h0 := qf_oC_lt (ro := ro) (N := N) (e := e) (t := t + 1) (u := u) hD 0
  have h1 := qf_oC_lt (ro := ro) (N := N) (e := e) (t := t + 1) (u := u) hD 1
  have how : qf_owes D ro N e k (t + 1) := by
    refine ⟨hk1, ⟨i, hi, hk2.symm⟩, ?_, ht, by rw [hk2]; exact hn⟩
    rw [hk2]
    have := hr _ hp
    omega
  have e1 : qf_oC D ro N e k (t + 1) u = qf_mk D u (qf_or0 D i) := by
    unfold qf_oC
    rw [if_pos how, hk2]
  unfold qf_bC qf_ow qf_stC
  rw [if_neg (show ¬ t + 1 = 0 by omega), ← e1]
  have hS := hD.1.2.2.2.2.2
  by_cases hz : qf_or0 D i = qf_st D 0
  · rw [if_pos hz]
    have : k = 0 := by
      rcases Nat.lt_or_ge k 1 with h | h
      · omega
      · have hk1' : k = 1 := by omega
        have := hD.2.2.2.2.2.2.2.2.1 (by omega)
        rw [hk1'] at hk2
        exact absurd (hz.symm.trans hk2.symm) this
    rw [this] at e1 ⊢
    omega
  · rw [if_neg hz]
    have : k = 1 := by
      have : k ≠ 0 := fun z => hz (by rw [← hk2, z])
      omega
    rw [this] at e1 ⊢
    omega
/-- partial runs are the runs of the class's automaton -/
theorem qf_run_C (hD : qf_okD D) (hr : qf_rok D ro) (he : e ≤ qf_dP D) (v : Nat → Nat → Nat) : (∀ s, s < qf_dT D → qf_RC D ro N e s (qf_cd (qf_stC D ro N e) v s) (v s)) ↔ qf_prun D ro N e v := by
  have one : ∀ t, t < qf_dT D → ∀ i, i < e → N t (qf_wo D (qf_or0 D i)) = true → qf_kd D (qf_or0 D i) = 2 → (ro (qf_or0 D i) ≠ 1 ∧ ro (qf_or0 D i) ≠ 2 ∧ ro (qf_or0 D i) ≠ 8 ∧ ro (qf_or0 D i) ≠ 16) → qf_bC D (qf_cd (qf_stC D ro N e) v t) (qf_or0 D i) = qf_ow D t (v (t - 1)) (qf_or0 D i) := by
    intro t ht i hi hn hk hro
    cases t with
    | zero =>
      show qf_bC D 0 _ = 0
      unfold qf_bC
      split <;> rfl
    | succ t => exact qf_bC_st (u := v t) hD hr he ht hi hn hk hro
  constructor
  · intro h t ht
    exact qf_ck_congr (one t ht) (h t ht)
  · intro h t ht
    exact qf_ck_congr (fun i hi hn hk hro => (one t ht i hi hn hk hro).symm) (h t ht)
def qf_all0 : Nat → Nat → Bool := fun _ _ => true
/-- looks at inputs are as the inputs are -/
def qf_infit (D : qf_D) : Prop := ∀ k, k < qf_dK D → qf_dv D (qf_lw D k) = 0 → qf_lv D k = qf_np0 D (14 * qf_lt D k + qf_lw D k)
theorem qf_run_infit (hD : qf_okD D) {v : Nat → Nat → Nat} (h : qf_run D ro v) : qf_infit D := by
  intro k hk hd
  have h1 := hD.2.2.2.2.2.2.2.2.2.1 k hk
  have h2 := h _ h1.1 _ h1.2.1
  have h3 := h2.2.2 k hk rfl rfl
  unfold qf_near at h3
  rw [if_neg (by simp [qf_met, hd])] at h3
  rw [← h3]
  exact h2.1 hd
theorem qf_run_prun (hD : qf_okD D) (he : e ≤ qf_dP D) {v : Nat → Nat → Nat} (h : qf_run D ro v) : qf_prun D ro N e v := by
  intro t ht
  refine ⟨fun w hw => (h t ht w hw).1, fun i hi _ => ?_⟩
  have hp := hD.2.2.2.2.2.2.2.2.2.2.2.1 i (by omega)
  have hw := hD.2.2.2.1 _ hp
  have := h t ht _ hw.1
  exact ⟨this.2.1 _ hw.2.1, this.2.2⟩
theorem qf_prun_le {e' : Nat} (h : e' ≤ e) {v : Nat → Nat → Nat} (hv : qf_prun D ro N e v) : qf_prun D ro N e' v := fun t ht => ⟨(hv t ht).1, fun i hi hn => (hv t ht).2 i (by omega) hn⟩
theorem qf_prun_ro {v : Nat → Nat → Nat} (h : ∀ i, i < e → ∀ t, t < qf_dT D → N t (qf_wo D (qf_or0 D i)) = true → ro (qf_or0 D i) = ro' (qf_or0 D i)) (hv : qf_prun D ro N e v) : qf_prun D ro' N e v := by
  intro t ht
  refine ⟨(hv t ht).1, fun i hi hn => ⟨?_, ((hv t ht).2 i hi hn).2⟩⟩
  have h1 := ((hv t ht).2 i hi hn).1
  have h2 := h i hi t ht hn
  unfold qf_gz at h1 ⊢
  rw [← h2]
  exact h1
/-- the needed wires hold what they must -/
def qf_clo (D : qf_D) (N : Nat → Nat → Bool) : Prop :=
  (∀ k, k < qf_dK D → N (qf_lt D k) (qf_lw D k) = true) ∧
  (∀ t p, t < qf_dT D → p < qf_dP D → N t (qf_wo D p) = true → (qf_kd D p ≠ 3 → N t (qf_dx D p) = true) ∧ (qf_kd D p ≤ 2 → N t (qf_dy D p) = true)) ∧
  (∀ t p, t + 1 < qf_dT D → p < qf_dP D → qf_kd D p = 2 → N (t + 1) (qf_wo D p) = true → N t (qf_dx D p) = true ∧ N t (qf_dy D p) = true)
theorem qf_ext1 (hD : qf_okD D) (hi : qf_infit D) {n : Nat → Bool} (hc1 : ∀ k, k < qf_dK D → qf_lt D k = t → n (qf_lw D k) = true) (hc2 : ∀ p, p < qf_dP D → n (qf_wo D p) = true → (qf_kd D p ≠ 3 → n (qf_dx D p) = true) ∧ (qf_kd D p ≤ 2 → n (qf_dy D p) = true)) (hb : ∀ p, p < qf_dP D → qf_kd D p = 2 → n (qf_wo D p) = true → b p = b' p) (h : qf_ck D ro n (qf_dP D) t b u) : ∃ u', (∀ w, n w = true → u' w = u w) ∧ qf_tk D ro t b' u' := by
  have key : ∀ m, m ≤ qf_dW D → ∃ u' : Nat → Nat, (∀ w, n w = true → u' w = u w) ∧ (∀ w, m ≤ w → u' w = u w) ∧ ∀ w, w < m → (qf_dv D w = 0 → u' w = qf_np0 D (14 * t + w)) ∧ (∀ p, qf_dv D w = p + 1 → qf_gz D ro b' u' p (u' w)) ∧ qf_fit D t w (u' w) := by
    intro m
    induction m with
    | zero => exact fun _ => ⟨u, fun _ _ => rfl, fun _ _ => rfl, fun w hw => absurd hw (by omega)⟩
    | succ m ih =>
      intro hm
      obtain ⟨u1, a1, a2, a3⟩ := ih (by omega)
      by_cases hd : qf_dv D m = 0
      · refine ⟨u1, a1, fun w hw => a2 w (by omega), fun w hw => ?_⟩
        by_cases hwm : w = m
        · subst hwm
          have e1 : u1 w = qf_np0 D (14 * t + w) := by rw [a2 w (by omega)]; exact h.1 w (by omega) hd
          refine ⟨fun _ => e1, fun p hp => by omega, fun k hk h1 h2 => ?_⟩
          unfold qf_near
          rw [if_neg (by simp [qf_met, hd]), e1, hi k hk (by rw [h2]; exact hd), h1, h2]
        · exact a3 w (by omega)
      · have hp := hD.2.2.1 m (by omega) hd
        have hq := hD.2.2.2.1 _ hp.1
        have hx := hq.2.2.2.2.1
        have hy := hq.2.2.2.2.2.1
        rw [hp.2] at hx hy
        have hpe : qf_dv D m = (qf_dv D m - 1) + 1 := by omega
        generalize qf_dv D m - 1 = q at *
        by_cases hn : n m = true
        · refine ⟨u1, a1, fun w hw => a2 w (by omega), fun w hw => ?_⟩
          by_cases hwm : w = m
          · subst hwm
            obtain ⟨i, hi1, hi2⟩ := hD.2.2.2.2.2.2.2.2.2.2.2.2.2 q hp.1
            have h3 := h.2 i hi1 (by rw [hi2, hp.2]; exact hn)
            rw [hi2, hp.2] at h3
            have e1 : u1 w = u w := a1 w hn
            have hcl := hc2 q hp.1 (by rw [hp.2]; exact hn)
            refine ⟨fun z => absurd z hd, fun p' hp' => ?_, by rw [e1]; exact h3.2⟩
            obtain rfl : p' = q := by omega
            rw [e1]
            exact qf_gz_congr (fun hk _ => hb _ hp.1 hk (by rw [hp.2]; exact hn)) (fun hk => (a1 _ (hcl.1 hk)).symm) (fun hk => (a1 _ (hcl.2 hk)).symm) h3.1
          · exact a3 w (by omega)
        · refine ⟨fun w => if w = m then (if ro q = 16 then 0 else qf_gv D (ro q) b' u1 q) else u1 w, fun w hw => ?_, fun w hw => ?_, fun w hw => ?_⟩
          · have : w ≠ m := fun z => hn (z ▸ hw)
            dsimp only
            rw [if_neg this]
            exact a1 w hw
          · dsimp only
            rw [if_neg (by omega)]
            exact a2 w (by omega)
          · by_cases hwm : w = m
            · subst hwm
              refine ⟨fun z => absurd z hd, fun p' hp' => ?_, fun k hk h1 h2 => ?_⟩
              · obtain rfl : p' = q := by omega
                dsimp only
                rw [if_pos rfl]
                unfold qf_gz
                by_cases h16 : ro p' = 16
                · rw [if_pos h16, if_pos h16]
                  have := hD.2.1 w (by omega)
                  rw [hp.2]
                  omega
                · rw [if_neg h16, if_neg h16]
                  refine qf_gv_congr (fun _ _ => rfl) (fun hk => ?_) (fun hk => ?_)
                  · have := hx hk
                    rw [if_neg (by omega)]
                  · have := hy hk
                    rw [if_neg (by omega)]
              · exact absurd (h2 ▸ hc1 k hk h1) hn
            · have h3 := a3 w (by omega)
              dsimp only
              rw [if_neg hwm]
              refine ⟨h3.1, fun p' hp' => ?_, h3.2.2⟩
              have hp2 := hD.2.2.1 w (by omega) (by omega)
              rw [hp', Nat.add_sub_cancel] at hp2
              have hq2 := hD.2.2.2.1 _ hp2.1
              have hx2 := hq2.2.2.2.2.1
              have hy2 := hq2.2.2.2.2.2.1
              rw [hp2.2] at hx2 hy2
              refine qf_gz_congr (fun _ _ => rfl) (fun hk => ?_) (fun hk => ?_) (h3.2.1 p' hp')
              · have := hx2 hk
                rw [if_neg (show ¬ qf_dx D p' = m from fun z => by rw [z] at this; omega)]
              · have := hy2 hk
                rw [if_neg (show ¬ qf_dy D p' = m from fun z => by rw [z] at this; omega)]
  obtain ⟨u', a1, -, a3⟩ := key _ (Nat.le_refl _)
  exact ⟨u', a1, a3⟩
/-- a partial run of all parts is a part of a run -/
theorem qf_prun_run (hD : qf_okD D) (hi : qf_infit D) (hc : qf_clo D N) {v : Nat → Nat → Nat} (h : qf_prun D ro N (qf_dP D) v) : ∃ v', qf_run D ro v' := by
  have key : ∀ m, m ≤ qf_dT D → ∃ v' : Nat → Nat → Nat, (∀ t, t < m → (∀ w, N t w = true → v' t w = v t w) ∧ qf_tk D ro t (qf_ow D t (v' (t - 1))) (v' t)) := by
    intro m
    induction m with
    | zero => exact fun _ => ⟨v, fun t ht => absurd ht (by omega)⟩
    | succ m ih =>
      intro hm
      obtain ⟨v1, a⟩ := ih (by omega)
      obtain ⟨u', b1, b2⟩ := qf_ext1 (b' := qf_ow D m (v1 (m - 1))) hD hi (n := N m) (t := m) (fun k hk hl => hl ▸ hc.1 k hk) (fun p hp hn => hc.2.1 m p (by omega) hp hn) (fun p hp hk hn => by
        cases m with
        | zero => rfl
        | succ m =>
          show qf_ow D (m + 1) (v m) p = qf_ow D (m + 1) (v1 m) p
          unfold qf_ow
          rw [if_neg (by omega), if_neg (by omega)]
          have h2 := hc.2.2 m p (by omega) hp hk hn
          exact qf_mk_congr (fun _ => ((a m (by omega)).1 _ h2.1).symm) (fun _ => ((a m (by omega)).1 _ h2.2).symm)) (h m (by omega))
      refine ⟨fun t => if t = m then u' else v1 t, fun t ht => ?_⟩
      by_cases htm : t = m
      · subst htm
        dsimp only
        rw [if_pos rfl]
        refine ⟨b1, ?_⟩
        cases t with
        | zero => exact qf_tk_congr hD (fun p _ _ => rfl) b2
        | succ t =>
          rw [if_neg (by omega)]
          exact b2
      · dsimp only
        rw [if_neg htm, if_neg (by omega)]
        exact a t (by omega)
  obtain ⟨v', a⟩ := key _ (Nat.le_refl _)
  exact ⟨v', fun t ht => (a t ht).2⟩
theorem qf_prun_all (hD : qf_okD D) (hi : qf_infit D) {v : Nat → Nat → Nat} (h : qf_prun D ro qf_all0 (qf_dP D) v) : qf_run D ro v := by
  intro t ht w hw
  refine ⟨(h t ht).1 w hw, fun p hp => ?_, fun k hk h1 h2 => ?_⟩
  · have hp2 := hD.2.2.1 w hw (by omega)
    rw [hp, Nat.add_sub_cancel] at hp2
    obtain ⟨i, hi1, hi2⟩ := hD.2.2.2.2.2.2.2.2.2.2.2.2.2 p hp2.1
    have := ((h t ht).2 i hi1 rfl).1
    rw [hi2, show qf_wo D p = w from hp2.2] at this
    exact this
  · by_cases hd : qf_dv D w = 0
    · have e1 := (h t ht).1 w hw hd
      unfold qf_near
      rw [if_neg (by simp [qf_met, hd]), e1, hi k hk (by rw [h2]; exact hd), h1, h2]
    · have hp2 := hD.2.2.1 w hw hd
      obtain ⟨i, hi1, hi2⟩ := hD.2.2.2.2.2.2.2.2.2.2.2.2.2 _ hp2.1
      have := ((h t ht).2 i hi1 rfl).2
      rw [hi2, hp2.2] at this
      exact this k hk h1 h2
end PJM3
