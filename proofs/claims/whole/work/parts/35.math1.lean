/-! THE MATHEMATICS: the machine as numbers, its runs. A machine is a table of numbers: qf_D. -/
abbrev qf_D : Type := Nat → Nat → Nat
abbrev qf_dW (D : qf_D) : Nat := D 0 0
abbrev qf_dP (D : qf_D) : Nat := D 0 1
abbrev qf_dT (D : qf_D) : Nat := D 0 2
abbrev qf_dK (D : qf_D) : Nat := D 0 3
abbrev qf_dS (D : qf_D) : Nat := D 0 4
abbrev qf_rg (D : qf_D) (w : Nat) : Nat := D 1 w
/-- the driver: 0 none, p + 1 part p -/
abbrev qf_dv (D : qf_D) (w : Nat) : Nat := D 2 w
abbrev qf_pr (D : qf_D) (w : Nat) : Nat := D 3 w
abbrev qf_np0 (D : qf_D) (k : Nat) : Nat := D 4 k
abbrev qf_kd (D : qf_D) (p : Nat) : Nat := D 5 p
abbrev qf_wk (D : qf_D) (p : Nat) : Nat := D 6 p
abbrev qf_wo (D : qf_D) (p : Nat) : Nat := D 7 p
abbrev qf_dx (D : qf_D) (p : Nat) : Nat := D 8 p
abbrev qf_dy (D : qf_D) (p : Nat) : Nat := D 9 p
abbrev qf_wy (D : qf_D) (p : Nat) : Nat := D 10 p
abbrev qf_od (D : qf_D) (p : Nat) : Nat := D 11 p
abbrev qf_tb (D : qf_D) (k : Nat) : Nat := D 12 k
abbrev qf_st (D : qf_D) (k : Nat) : Nat := D 13 k
abbrev qf_sn (D : qf_D) (p : Nat) : Nat := D 14 p
abbrev qf_lt (D : qf_D) (k : Nat) : Nat := D 15 k
abbrev qf_lw (D : qf_D) (k : Nat) : Nat := D 16 k
abbrev qf_lv (D : qf_D) (k : Nat) : Nat := D 17 k
abbrev qf_or0 (D : qf_D) (i : Nat) : Nat := D 18 i
/-- what a part makes of a and b -/
def qf_wk0 (D : qf_D) (p a b : Nat) : Nat :=
  if qf_kd D p = 4 then a else if qf_kd D p = 3 then qf_tb D (9 * p) else
  if qf_wk D p = 0 then a + b else if qf_wk D p = 1 then a * b else if qf_wk D p = 2 then (if b < a then a else b) else
  if qf_wk D p = 3 then (if a < b then a else b) else if qf_wk D p = 4 then (if a = b then 1 else 0) else qf_tb D (9 * p + 3 * a + b)
def qf_wks (D : qf_D) (p a b : Nat) : Nat := qf_wk0 D p a b % qf_rg D (qf_wo D p)
/-- what a part makes of the numbers of a tick -/
def qf_mk (D : qf_D) (u : Nat → Nat) (p : Nat) : Nat := qf_wks D p (if qf_kd D p = 3 then 0 else u (qf_dx D p)) (if qf_kd D p ≤ 2 then u (qf_dy D p) else 0)
/-- what a part gives in a role; b: what streams should give -/
def qf_sh0 (D : qf_D) (b u : Nat → Nat) (p : Nat) : Nat := if qf_kd D p = 2 then b p else qf_mk D u p
def qf_gv (D : qf_D) (r : Nat) (b u : Nat → Nat) (p : Nat) : Nat :=
  if r = 1 then 0 else if r = 2 then qf_rg D (qf_wo D p) - 1 else
  if r = 8 ∧ qf_kd D p ≠ 3 then u (qf_dx D p) % qf_rg D (qf_wo D p) else
  if r = 4 then qf_rg D (qf_wo D p) - 1 - qf_sh0 D b u p else qf_sh0 D b u p
def qf_met (D : qf_D) (w : Nat) : Bool := decide (qf_dv D w ≠ 0 ∧ qf_kd D (qf_dv D w - 1) = 4)
/-- a number and what was seen -/
def qf_near (D : qf_D) (w z s : Nat) : Prop := if qf_met D w then z ≤ s + 1 ∧ s ≤ z + 1 else z = s
def qf_fit (D : qf_D) (t w z : Nat) : Prop := ∀ k, k < qf_dK D → qf_lt D k = t → qf_lw D k = w → qf_near D w z (qf_lv D k)
/-- part p gives z in a tick -/
def qf_gz (D : qf_D) (ro : Nat → Nat) (b u : Nat → Nat) (p z : Nat) : Prop := if ro p = 16 then z < qf_rg D (qf_wo D p) else z = qf_gv D (ro p) b u p
/-- the numbers of a tick -/
def qf_tk (D : qf_D) (ro : Nat → Nat) (t : Nat) (b u : Nat → Nat) : Prop := ∀ w, w < qf_dW D → (qf_dv D w = 0 → u w = qf_np0 D (14 * t + w)) ∧ (∀ p, qf_dv D w = p + 1 → qf_gz D ro b u p (u w)) ∧ qf_fit D t w (u w)
/-- what streams should give -/
def qf_ow (D : qf_D) (t : Nat) (u : Nat → Nat) (p : Nat) : Nat := if t = 0 then 0 else qf_mk D u p
def qf_run (D : qf_D) (ro : Nat → Nat) (v : Nat → Nat → Nat) : Prop := ∀ t, t < qf_dT D → qf_tk D ro t (qf_ow D t (v (t - 1))) (v t)
/-- a machine that is as it should be -/
def qf_okD (D : qf_D) : Prop :=
  (qf_dW D ≤ 14 ∧ qf_dP D ≤ 7 ∧ 1 ≤ qf_dT D ∧ qf_dT D ≤ 3 ∧ qf_dK D ≤ 16 ∧ qf_dS D ≤ 2) ∧
  (∀ w, w < qf_dW D → 2 ≤ qf_rg D w ∧ qf_rg D w ≤ 3 ∧ 1 ≤ qf_pr D w ∧ qf_pr D w ≤ 9) ∧
  (∀ w, w < qf_dW D → qf_dv D w ≠ 0 → qf_dv D w - 1 < qf_dP D ∧ qf_wo D (qf_dv D w - 1) = w) ∧
  (∀ p, p < qf_dP D → qf_wo D p < qf_dW D ∧ qf_dv D (qf_wo D p) = p + 1 ∧ qf_kd D p ≤ 4 ∧ qf_wk D p ≤ 5 ∧ (qf_kd D p ≠ 3 → qf_dx D p < qf_wo D p) ∧ (qf_kd D p ≤ 2 → qf_dy D p < qf_wo D p) ∧ qf_wy D p ≤ 15 ∧ (qf_wy D p ≠ 0 ↔ qf_kd D p = 1 ∨ qf_kd D p = 2) ∧ 1 ≤ qf_od D p ∧ qf_od D p ≤ 9 ∧ qf_sn D p ≤ 1) ∧
  (∀ k, k < 63 → qf_tb D k ≤ 2) ∧
  (∀ t w, t < 3 → w < qf_dW D → qf_np0 D (14 * t + w) < qf_rg D w) ∧
  (∀ k, k < qf_dS D → qf_st D k < qf_dP D ∧ qf_kd D (qf_st D k) = 2) ∧
  (∀ p, p < qf_dP D → qf_kd D p = 2 → ∃ k, k < qf_dS D ∧ qf_st D k = p) ∧
  (qf_dS D = 2 → qf_st D 0 ≠ qf_st D 1) ∧
  (∀ k, k < qf_dK D → qf_lt D k < qf_dT D ∧ qf_lw D k < qf_dW D ∧ qf_lv D k < qf_rg D (qf_lw D k)) ∧
  (∀ j k, j < k → k < qf_dK D → ¬ (qf_lt D j = qf_lt D k ∧ qf_lw D j = qf_lw D k)) ∧
  (∀ i, i < qf_dP D → qf_or0 D i < qf_dP D) ∧
  (∀ i j, i < j → j < qf_dP D → qf_wo D (qf_or0 D i) < qf_wo D (qf_or0 D j)) ∧
  (∀ p, p < qf_dP D → ∃ i, i < qf_dP D ∧ qf_or0 D i = p)
/-! AUTOMATA: R t c u: in tick t, begun in state c, the wires can have u; f t u: the state that follows. -/
abbrev qf_U0 : Type := Nat → Nat
def qf_rch (R : Nat → Nat → qf_U0 → Prop) (f : Nat → qf_U0 → Nat) : Nat → Nat → Prop
  | 0, c => c = 0
  | t + 1, c' => ∃ c u, qf_rch R f t c ∧ R t c u ∧ f t u = c'
def qf_gd (R : Nat → Nat → qf_U0 → Prop) (f : Nat → qf_U0 → Nat) : Nat → Nat → Nat → Prop
  | 0, _, _ => True
  | n + 1, t, c => ∃ u, R t c u ∧ qf_gd R f n (t + 1) (f t u)
def qf_cd (f : Nat → qf_U0 → Nat) (v : Nat → qf_U0) : Nat → Nat
  | 0 => 0
  | t + 1 => f t (v t)
theorem qf_rch_of {R : Nat → Nat → qf_U0 → Prop} {f : Nat → qf_U0 → Nat} {v : Nat → qf_U0} : ∀ t, (∀ s, s < t → R s (qf_cd f v s) (v s)) → qf_rch R f t (qf_cd f v t)
  | 0, _ => rfl
  | t + 1, h => ⟨_, _, qf_rch_of t (fun s hs => h s (by omega)), h t (by omega), rfl⟩
theorem qf_rch_run {R : Nat → Nat → qf_U0 → Prop} {f : Nat → qf_U0 → Nat} : ∀ t c, qf_rch R f t c → ∃ v : Nat → qf_U0, (∀ s, s < t → R s (qf_cd f v s) (v s)) ∧ qf_cd f v t = c
  | 0, c, h => ⟨fun _ _ => 0, fun s hs => absurd hs (by omega), h.symm⟩
  | t + 1, c', h => by
    obtain ⟨c, u, h1, h2, h3⟩ := h
    obtain ⟨v, hv, hc⟩ := qf_rch_run t c h1
    have key : ∀ s, s ≤ t → qf_cd f (fun s => if s = t then u else v s) s = qf_cd f v s := by
      intro s hs
      cases s with
      | zero => rfl
      | succ s =>
        show f s (if s = t then u else v s) = f s (v s)
        rw [if_neg (by omega)]
    refine ⟨fun s => if s = t then u else v s, fun s hs => ?_, ?_⟩
    · rw [key s (by omega)]
      by_cases e : s = t
      · subst e
        dsimp only
        rw [if_pos rfl, hc]
        exact h2
      · dsimp only
        rw [if_neg e]
        exact hv s (by omega)
    · show f t (if t = t then u else v t) = c'
      rw [if_pos rfl]
      exact h3
theorem qf_gd_of {R : Nat → Nat → qf_U0 → Prop} {f : Nat → qf_U0 → Nat} {v : Nat → qf_U0} {T : Nat} (h : ∀ s, s < T → R s (qf_cd f v s) (v s)) : ∀ n t, t + n = T → qf_gd R f n t (qf_cd f v t)
  | 0, _, _ => trivial
  | n + 1, t, e => ⟨v t, h t (by omega), qf_gd_of h n (t + 1) (by omega)⟩
/-- from a state that is good on, any run up to it goes on -/
theorem qf_gd_run {R : Nat → Nat → qf_U0 → Prop} {f : Nat → qf_U0 → Nat} : ∀ n t (v : Nat → qf_U0), (∀ s, s < t → R s (qf_cd f v s) (v s)) → qf_gd R f n t (qf_cd f v t) → ∃ v' : Nat → qf_U0, (∀ s, s < t + n → R s (qf_cd f v' s) (v' s)) ∧ ∀ s, s < t → v' s = v s
  | 0, t, v, h, _ => ⟨v, h, fun _ _ => rfl⟩
  | n + 1, t, v, h, hg => by
    obtain ⟨u, h1, h2⟩ := hg
    have key : ∀ s, s ≤ t → qf_cd f (fun s => if s = t then u else v s) s = qf_cd f v s := by
      intro s hs
      cases s with
      | zero => rfl
      | succ s =>
        show f s (if s = t then u else v s) = f s (v s)
        rw [if_neg (by omega)]
    have hv : ∀ s, s < t + 1 → R s (qf_cd f (fun s => if s = t then u else v s) s) ((fun s => if s = t then u else v s) s) := by
      intro s hs
      rw [key s (by omega)]
      by_cases e : s = t
      · subst e
        dsimp only
        rw [if_pos rfl]
        exact h1
      · dsimp only
        rw [if_neg e]
        exact h s (by omega)
    have hg' : qf_gd R f n (t + 1) (qf_cd f (fun s => if s = t then u else v s) (t + 1)) := by
      show qf_gd R f n (t + 1) (f t (if t = t then u else v t))
      rw [if_pos rfl]
      exact h2
    obtain ⟨v', a, b⟩ := qf_gd_run n (t + 1) _ hv hg'
    refine ⟨v', fun s hs => a s (by omega), fun s hs => ?_⟩
    rw [b s (by omega), if_neg (by omega)]
/-- there is a run if some state is reached at the end -/
theorem qf_aut_ex {R : Nat → Nat → qf_U0 → Prop} {f : Nat → qf_U0 → Nat} {T : Nat} : (∃ c, qf_rch R f T c) ↔ ∃ v : Nat → qf_U0, ∀ s, s < T → R s (qf_cd f v s) (v s) := by
  constructor
  · rintro ⟨c, h⟩
    obtain ⟨v, h1, -⟩ := qf_rch_run T c h
    exact ⟨v, h1⟩
  · rintro ⟨v, h⟩
    exact ⟨_, qf_rch_of T h⟩
/-- what runs have in a tick: from a state reached, to a state that is good -/
theorem qf_aut_at {R : Nat → Nat → qf_U0 → Prop} {f : Nat → qf_U0 → Nat} {T t : Nat} (ht : t < T) (u : qf_U0) : (∃ c, qf_rch R f t c ∧ R t c u ∧ qf_gd R f (T - t - 1) (t + 1) (f t u)) ↔ ∃ v : Nat → qf_U0, (∀ s, s < T → R s (qf_cd f v s) (v s)) ∧ v t = u := by
  constructor
  · rintro ⟨c, h1, h2, h3⟩
    obtain ⟨v, hv, hc⟩ := qf_rch_run t c h1
    have key : ∀ s, s ≤ t → qf_cd f (fun s => if s = t then u else v s) s = qf_cd f v s := by
      intro s hs
      cases s with
      | zero => rfl
      | succ s =>
        show f s (if s = t then u else v s) = f s (v s)
        rw [if_neg (by omega)]
    have hv' : ∀ s, s < t + 1 → R s (qf_cd f (fun s => if s = t then u else v s) s) ((fun s => if s = t then u else v s) s) := by
      intro s hs
      rw [key s (by omega)]
      by_cases e : s = t
      · subst e
        dsimp only
        rw [if_pos rfl, hc]
        exact h2
      · dsimp only
        rw [if_neg e]
        exact hv s (by omega)
    have hg' : qf_gd R f (T - t - 1) (t + 1) (qf_cd f (fun s => if s = t then u else v s) (t + 1)) := by
      show qf_gd R f _ (t + 1) (f t (if t = t then u else v t))
      rw [if_pos rfl]
      exact h3
    obtain ⟨v', a, b⟩ := qf_gd_run _ _ _ hv' hg'
    refine ⟨v', fun s hs => a s (by omega), ?_⟩
    rw [b t (by omega), if_pos rfl]
  · rintro ⟨v, h, rfl⟩
    exact ⟨_, qf_rch_of t (fun s hs => h s (by omega)), h t ht, qf_gd_of h _ (t + 1) (by omega)⟩
