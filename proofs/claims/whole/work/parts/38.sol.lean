/-! ONE TICK SOLVED: numbers of all wires out of those of free parts; an odometer of numbers. -/
section QFM5
variable {D : qf_D} {ro : Nat → Nat} {t : Nat} {b f g : Nat → Nat}
def qf_sol (D : qf_D) (ro : Nat → Nat) (t : Nat) (b f : Nat → Nat) : Nat → (Nat → Nat)
  | 0 => fun _ => 0
  | n + 1 => fun w => if w = n then (if qf_dv D n = 0 then qf_np0 D (14 * t + n) else if ro (qf_dv D n - 1) = 16 then f (qf_dv D n - 1) else qf_gv D (ro (qf_dv D n - 1)) b (qf_sol D ro t b f n) (qf_dv D n - 1)) else qf_sol D ro t b f n w
theorem qf_sol_lt {n w : Nat} (h : w < n) : qf_sol D ro t b f (n + 1) w = qf_sol D ro t b f n w := by
  rw [qf_sol]
  exact if_neg (by omega)
theorem qf_sol_le {w : Nat} : ∀ (k n : Nat), w < n → qf_sol D ro t b f (n + k) w = qf_sol D ro t b f n w
  | 0, n, _ => rfl
  | k + 1, n, h => by
    rw [← Nat.add_assoc, qf_sol_lt (by omega)]
    exact qf_sol_le k n h
theorem qf_sol_at {n w : Nat} (h : w < n) : qf_sol D ro t b f n w = qf_sol D ro t b f (w + 1) w := by
  have := qf_sol_le (D := D) (ro := ro) (t := t) (b := b) (f := f) (w := w) (n - (w + 1)) (w + 1) (by omega)
  rw [← this]
  congr 1
  omega
/-- free numbers as they may be -/
def qf_fv (D : qf_D) (ro f : Nat → Nat) : Prop := ∀ p, p < qf_dP D → ro p = 16 → f p < qf_rg D (qf_wo D p)
/-- the solution keeps all works -/
theorem qf_sol_ev (hD : qf_okD D) {n : Nat} (hn : n ≤ qf_dW D) : ∀ w, w < n → (qf_dv D w = 0 → qf_sol D ro t b f n w = qf_np0 D (14 * t + w)) ∧ (∀ p, qf_dv D w = p + 1 → qf_sol D ro t b f n w = if ro p = 16 then f p else qf_gv D (ro p) b (qf_sol D ro t b f n) p) := by
  intro w hw
  rw [qf_sol_at hw, qf_sol]
  dsimp only
  rw [if_pos rfl]
  refine ⟨fun h0 => by rw [if_pos h0], fun p hp => ?_⟩
  have h3 := hD.2.2.1 w (by omega) (by omega)
  rw [hp, Nat.add_sub_cancel] at h3
  have h4 := hD.2.2.2.1 p h3.1
  have hx := h4.2.2.2.2.1
  have hy := h4.2.2.2.2.2.1
  rw [h3.2] at hx hy
  rw [if_neg (by omega), hp, Nat.add_sub_cancel]
  by_cases h16 : ro p = 16
  · rw [if_pos h16, if_pos h16]
  · rw [if_neg h16, if_neg h16]
    refine qf_gv_congr (fun _ _ => rfl) (fun hk => ?_) (fun hk => ?_)
    · have := hx hk
      rw [qf_sol_at (n := w) this, qf_sol_at (n := n) (by omega)]
    · have := hy hk
      rw [qf_sol_at (n := w) this, qf_sol_at (n := n) (by omega)]
/-- and is the only one -/
theorem qf_sol_uni (hD : qf_okD D) {u : Nat → Nat} (hu : ∀ w, w < qf_dW D → (qf_dv D w = 0 → u w = qf_np0 D (14 * t + w)) ∧ (∀ p, qf_dv D w = p + 1 → u w = if ro p = 16 then f p else qf_gv D (ro p) b u p)) : ∀ m, m ≤ qf_dW D → ∀ w, w < m → qf_sol D ro t b f (qf_dW D) w = u w := by
  intro m
  induction m with
  | zero => exact fun _ w hw => absurd hw (by omega)
  | succ m ih =>
    intro hm w hw
    by_cases e : w = m
    · subst e
      have h1 := qf_sol_ev (D := D) (ro := ro) (t := t) (b := b) (f := f) hD (Nat.le_refl _) w (by omega)
      have h2 := hu w (by omega)
      by_cases h0 : qf_dv D w = 0
      · rw [h1.1 h0, h2.1 h0]
      · have hp : qf_dv D w = (qf_dv D w - 1) + 1 := by omega
        rw [h1.2 _ hp, h2.2 _ hp]
        have h3 := hD.2.2.1 w (by omega) h0
        have h4 := hD.2.2.2.1 _ h3.1
        have hx := h4.2.2.2.2.1
        have hy := h4.2.2.2.2.2.1
        rw [h3.2] at hx hy
        by_cases h16 : ro (qf_dv D w - 1) = 16
        · rw [if_pos h16, if_pos h16]
        · rw [if_neg h16, if_neg h16]
          refine qf_gv_congr (fun _ _ => rfl) (fun hk => ih (by omega) _ (hx hk)) (fun hk => ih (by omega) _ (hy hk))
    · exact ih (by omega) w (by omega)
/-- the solutions of a tick are its numbers -/
theorem qf_sol_tk (hD : qf_okD D) (hf : qf_fv D ro f) (hs : ∀ w, w < qf_dW D → qf_fit D t w (qf_sol D ro t b f (qf_dW D) w)) : qf_tk D ro t b (qf_sol D ro t b f (qf_dW D)) := by
  intro w hw
  have h1 := qf_sol_ev (D := D) (ro := ro) (t := t) (b := b) (f := f) hD (Nat.le_refl _) w hw
  refine ⟨h1.1, fun p hp => ?_, hs w hw⟩
  have h2 := h1.2 p hp
  have h3 := hD.2.2.1 w hw (by omega)
  rw [hp, Nat.add_sub_cancel] at h3
  unfold qf_gz
  by_cases h16 : ro p = 16
  · rw [if_pos h16] at h2 ⊢
    rw [h2]
    exact hf p h3.1 h16
  · rw [if_neg h16] at h2 ⊢
    exact h2
theorem qf_tk_sol (hD : qf_okD D) {u : Nat → Nat} (h : qf_tk D ro t b u) : qf_fv D ro (fun p => u (qf_wo D p)) ∧ ∀ w, w < qf_dW D → qf_sol D ro t b (fun p => u (qf_wo D p)) (qf_dW D) w = u w := by
  constructor
  · intro p hp h16
    have h4 := hD.2.2.2.1 p hp
    have := (h _ h4.1).2.1 p h4.2.1
    unfold qf_gz at this
    rw [if_pos h16] at this
    exact this
  · refine qf_sol_uni hD (fun w hw => ⟨(h w hw).1, fun p hp => ?_⟩) _ (Nat.le_refl _)
    have h3 := hD.2.2.1 w hw (by omega)
    rw [hp, Nat.add_sub_cancel] at h3
    have h2 := (h w hw).2.1 p hp
    unfold qf_gz at h2
    by_cases h16 : ro p = 16
    · rw [if_pos h16, h3.2]
    · rw [if_neg h16] at h2 ⊢
      exact h2
theorem qf_sol_rng (hD : qf_okD D) (ht : t < 3) (hf : qf_fv D ro f) (hb : ∀ p, p < qf_dP D → qf_kd D p = 2 → b p < qf_rg D (qf_wo D p)) {n : Nat} (hn : n ≤ qf_dW D) : ∀ w, w < n → qf_sol D ro t b f n w < qf_rg D w := by
  intro w hw
  have h1 := qf_sol_ev (D := D) (ro := ro) (t := t) (b := b) (f := f) hD hn w hw
  by_cases h0 : qf_dv D w = 0
  · rw [h1.1 h0]
    exact hD.2.2.2.2.2.1 t w ht (by omega)
  · have hp : qf_dv D w = (qf_dv D w - 1) + 1 := by omega
    have h3 := hD.2.2.1 w (by omega) h0
    rw [h1.2 _ hp]
    have hr := hD.2.1 w (by omega)
    split
    next h16 =>
      have := hf _ h3.1 h16
      rw [h3.2] at this
      exact this
    · have := qf_gv_lt (D := D) (p := qf_dv D w - 1) (r := ro (qf_dv D w - 1)) (b := b) (u := qf_sol D ro t b f n) (by rw [h3.2]; omega) (hb _ h3.1)
      rw [h3.2] at this
      exact this
end QFM5
/-! an odometer: places p with a base bs p, those with ac p turn -/
section QFOD
variable {ac : Nat → Bool} {bs f g : Nat → Nat}
def qf_wt (ac : Nat → Bool) (bs : Nat → Nat) : Nat → Nat
  | 0 => 1
  | p + 1 => if ac p then qf_wt ac bs p * bs p else qf_wt ac bs p
def qf_cod (ac : Nat → Bool) (bs f : Nat → Nat) : Nat → Nat
  | 0 => 0
  | p + 1 => qf_cod ac bs f p + if ac p then f p * qf_wt ac bs p else 0
theorem qf_wt_pos (hb : ∀ p, ac p = true → 0 < bs p) : ∀ n, 0 < qf_wt ac bs n
  | 0 => Nat.one_pos
  | n + 1 => by
    rw [qf_wt]
    split
    next h => exact Nat.mul_pos (qf_wt_pos hb n) (hb n h)
    · exact qf_wt_pos hb n
theorem qf_cod_lt : ∀ n, (∀ p, p < n → ac p = true → f p < bs p) → qf_cod ac bs f n < qf_wt ac bs n
  | 0, _ => Nat.one_pos
  | n + 1, h => by
    have ih := qf_cod_lt n (fun p hp => h p (by omega))
    rw [qf_cod, qf_wt]
    split
    next ha =>
      have h1 : f n + 1 ≤ bs n := h n (by omega) ha
      have h2 := Nat.mul_le_mul_left (qf_wt ac bs n) h1
      rw [Nat.mul_add, Nat.mul_comm _ (f n), Nat.mul_one] at h2
      omega
    · exact ih
theorem qf_cod_inj : ∀ n, (∀ p, p < n → ac p = true → f p < bs p) → (∀ p, p < n → ac p = true → g p < bs p) → qf_cod ac bs f n = qf_cod ac bs g n → ∀ p, p < n → ac p = true → f p = g p
  | 0, _, _, _ => fun p hp => absurd hp (by omega)
  | n + 1, hf, hg, he => by
    have lf := qf_cod_lt n (fun p hp => hf p (by omega))
    have lg := qf_cod_lt n (fun p hp => hg p (by omega))
    rw [qf_cod, qf_cod] at he
    intro p hp ha
    by_cases hn : ac n = true
    · rw [if_pos hn, if_pos hn] at he
      have e1 : f n = g n := by
        have a1 : (qf_cod ac bs f n + f n * qf_wt ac bs n) / qf_wt ac bs n = f n := by
          rw [Nat.add_mul_div_right _ _ (by omega), Nat.div_eq_of_lt lf, Nat.zero_add]
        have a2 : (qf_cod ac bs g n + g n * qf_wt ac bs n) / qf_wt ac bs n = g n := by
          rw [Nat.add_mul_div_right _ _ (by omega), Nat.div_eq_of_lt lg, Nat.zero_add]
        rw [← a1, he, a2]
      by_cases e : p = n
      · rw [e]; exact e1
      · rw [e1] at he
        exact qf_cod_inj n (fun p hp => hf p (by omega)) (fun p hp => hg p (by omega)) (by omega) p (by omega) ha
    · rw [if_neg hn, if_neg hn] at he
      have e : p ≠ n := fun z => hn (z ▸ ha)
      exact qf_cod_inj n (fun p hp => hf p (by omega)) (fun p hp => hg p (by omega)) (by omega) p (by omega) ha
theorem qf_cod_congr : ∀ n, (∀ p, p < n → ac p = true → f p = g p) → qf_cod ac bs f n = qf_cod ac bs g n
  | 0, _ => rfl
  | n + 1, h => by
    rw [qf_cod, qf_cod, qf_cod_congr n (fun p hp => h p (by omega))]
    split
    next ha => rw [h n (by omega) ha]
    · rfl
theorem qf_cod_zero : ∀ n, (∀ p, p < n → ac p = true → f p = 0) → qf_cod ac bs f n = 0
  | 0, _ => rfl
  | n + 1, h => by
    rw [qf_cod, qf_cod_zero n (fun p hp => h p (by omega))]
    split
    next ha => rw [h n (by omega) ha]; omega
    · rfl
/-- all turned back: the greatest number -/
theorem qf_cod_top (hb : ∀ p, ac p = true → 0 < bs p) : ∀ n, (∀ p, p < n → ac p = true → f p + 1 = bs p) → qf_cod ac bs f n + 1 = qf_wt ac bs n
  | 0, _ => rfl
  | n + 1, h => by
    have ih := qf_cod_top hb n (fun p hp => h p (by omega))
    rw [qf_cod, qf_wt]
    split
    next ha =>
      have h1 := h n (by omega) ha
      rw [← h1, Nat.mul_add, Nat.mul_comm _ (f n)]
      omega
    · exact ih
/-- one turned on, those ahead of it turned back: the next number -/
theorem qf_cod_next (hb : ∀ p, ac p = true → 0 < bs p) {n : Nat} (han : ac n = true) (h1 : ∀ p, p < n → ac p = true → f p + 1 = bs p) (h2 : ∀ p, p < n → ac p = true → g p = 0) (h3 : g n = f n + 1) (h4 : ∀ p, n < p → g p = f p) : ∀ m, qf_cod ac bs g (n + 1 + m) = qf_cod ac bs f (n + 1 + m) + 1
  | 0 => by
    have e1 := qf_cod_top hb n h1
    have e2 := qf_cod_zero (bs := bs) n h2
    show qf_cod ac bs g (n + 1) = qf_cod ac bs f (n + 1) + 1
    rw [qf_cod, qf_cod, if_pos han, if_pos han, h3, e2, Nat.add_mul]
    omega
  | m + 1 => by
    have ih := qf_cod_next hb han h1 h2 h3 h4 m
    show qf_cod ac bs g (n + 1 + m + 1) = qf_cod ac bs f (n + 1 + m + 1) + 1
    rw [qf_cod, qf_cod, ih, h4 _ (by omega)]
    omega
end QFOD
