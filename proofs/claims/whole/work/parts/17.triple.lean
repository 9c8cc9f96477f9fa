/-! WHAT A METHOD COMES TO, on the pure machine: pj_F is 'from this place the method returns, makes nothing, and Q holds of its answer and the memory'. -/
theorem pj_x_fuel : ∀ (n d i pc : Nat) (loc stk : List pj_V) (sh : List pj_S) (M : pj_M) (x : Option pj_V × List pj_S × pj_M), pj_x n d i pc loc stk sh M = some x → pj_x (n + 1) d i pc loc stk sh M = some x := by
  intro n
  induction n with
  | zero =>
    intro d i pc loc stk sh M x h
    rw [pj_x] at h
    cases h
  | succ n ih =>
    intro d i pc loc stk sh M x h
    rw [pj_x] at h
    rw [pj_x]
    cases hat : pj_at i pc with
    | none => rw [hat] at h; cases h
    | some q =>
      obtain ⟨ins, len, ta, tb, tc, tv⟩ := q
      rw [hat] at h
      dsimp only at h ⊢
      cases hn : pj_n pc ins ta tb tc tv loc stk sh M with
      | some q =>
        obtain ⟨pc', loc', stk', M'⟩ := q
        rw [hn] at h
        dsimp only at h ⊢
        exact ih _ _ _ _ _ _ _ _ h
      | none =>
        rw [hn] at h
        dsimp only at h ⊢
        cases hr : pj_r ins ta stk with
        | some q =>
          rw [hr] at h
          exact h
        | none =>
          rw [hr] at h
          dsimp only at h ⊢
          cases ha : pj_a pc ins tb stk with
          | some q =>
            obtain ⟨pc', g, st⟩ := q
            rw [ha] at h
            dsimp only at h ⊢
            exact ih _ _ _ _ _ _ _ _ h
          | none =>
            rw [ha] at h
            dsimp only at h ⊢
            cases d with
            | zero => exact h
            | succ d =>
              cases hk : pj_k ins ta tb tc stk sh with
              | none => rw [hk] at h; exact h
              | some q =>
                obtain ⟨j, vs, st⟩ := q
                rw [hk] at h
                dsimp only at h ⊢
                by_cases hle : (pj_args vs).length ≤ pj_L j
                · rw [if_pos hle] at h ⊢
                  cases hx : pj_x n d j 0 (pj_in j vs) [] sh M with
                  | none => rw [hx] at h; cases h
                  | some q =>
                    obtain ⟨r1, sh1, M1⟩ := q
                    rw [hx] at h
                    rw [ih _ _ _ _ _ _ _ _ hx]
                    dsimp only at h ⊢
                    exact ih _ _ _ _ _ _ _ _ h
                · rw [if_neg hle] at h
                  cases h
theorem pj_x_more {n d i pc : Nat} {loc stk : List pj_V} {sh : List pj_S} {M : pj_M} {x : Option pj_V × List pj_S × pj_M} (h : pj_x n d i pc loc stk sh M = some x) : ∀ k, pj_x (n + k) d i pc loc stk sh M = some x
  | 0 => h
  | k + 1 => pj_x_fuel _ _ _ _ _ _ _ _ _ (pj_x_more h k)
def pj_F (d i pc : Nat) (loc stk : List pj_V) (sh : List pj_S) (M : pj_M) (Q : Option pj_V → pj_M → Prop) : Prop := ∃ (n : Nat) (r : Option pj_V) (M' : pj_M), pj_x n d i pc loc stk sh M = some (r, sh, M') ∧ Q r M'
section PJF
variable {d i pc pc' len ta tb tc j : Nat} {tv : Int} {ins : Instr} {loc loc' stk stk' vs st : List pj_V} {sh : List pj_S} {M M' : pj_M} {Q : Option pj_V → pj_M → Prop}
theorem pj_F.mono {Q' : Option pj_V → pj_M → Prop} (h : pj_F d i pc loc stk sh M Q) (hq : ∀ r M', Q r M' → Q' r M') : pj_F d i pc loc stk sh M Q' := by
  obtain ⟨n, r, M1, h1, h2⟩ := h
  exact ⟨n, r, M1, h1, hq _ _ h2⟩
theorem pj_F_n (hat : pj_at i pc = some (ins, len, ta, tb, tc, tv)) (h : pj_n pc ins ta tb tc tv loc stk sh M = some (pc', loc', stk', M')) : pj_F d i pc loc stk sh M Q ↔ pj_F d i pc' loc' stk' sh M' Q := by
  have e : ∀ n, pj_x (n + 1) d i pc loc stk sh M = pj_x n d i pc' loc' stk' sh M' := by
    intro n
    rw [pj_x, hat]
    dsimp only
    rw [h]
  constructor
  · rintro ⟨n, r, M1, h1, h2⟩
    cases n with
    | zero => rw [pj_x] at h1; cases h1
    | succ n => exact ⟨n, r, M1, (e n) ▸ h1, h2⟩
  · rintro ⟨n, r, M1, h1, h2⟩
    exact ⟨n + 1, r, M1, (e n).trans h1, h2⟩
theorem pj_F_r (hat : pj_at i pc = some (ins, len, ta, tb, tc, tv)) (h : pj_n pc ins ta tb tc tv loc stk sh M = none) {r : Option pj_V} (hr : pj_r ins ta stk = some r) : pj_F d i pc loc stk sh M Q ↔ Q r M := by
  have e : ∀ n, pj_x (n + 1) d i pc loc stk sh M = some (r, sh, M) := by
    intro n
    rw [pj_x, hat]
    dsimp only
    rw [h]
    dsimp only
    rw [hr]
  constructor
  · rintro ⟨n, r1, M1, h1, h2⟩
    cases n with
    | zero => rw [pj_x] at h1; cases h1
    | succ n =>
      rw [e n] at h1
      cases h1
      exact h2
  · intro q
    exact ⟨1, r, M, e 0, q⟩
theorem pj_F_no (hat : pj_at i pc = some (ins, len, ta, tb, tc, tv)) (h : pj_n pc ins ta tb tc tv loc stk sh M = none) (hr : pj_r ins ta stk = none) (ha : pj_a pc ins tb stk = none) (hk : pj_k ins ta tb tc stk sh = none) : ¬ pj_F d i pc loc stk sh M Q := by
  rintro ⟨n, r1, M1, h1, h2⟩
  cases n with
  | zero => rw [pj_x] at h1; cases h1
  | succ n =>
    rw [pj_x, hat] at h1
    dsimp only at h1
    rw [h] at h1
    dsimp only at h1
    rw [hr] at h1
    dsimp only at h1
    rw [ha] at h1
    dsimp only at h1
    rw [hk] at h1
    cases d <;> cases h1
theorem pj_F_k (hat : pj_at i pc = some (ins, len, ta, tb, tc, tv)) (h : pj_n pc ins ta tb tc tv loc stk sh M = none) (hr : pj_r ins ta stk = none) (ha : pj_a pc ins tb stk = none) (hk : pj_k ins ta tb tc stk sh = some (j, vs, st)) (hle : (pj_args vs).length ≤ pj_L j) : pj_F (d + 1) i pc loc stk sh M Q ↔ pj_F d j 0 (pj_in j vs) [] sh M (fun r M1 => pj_F (d + 1) i (pc + 3) loc (r.toList ++ st) sh M1 Q) := by
  have e : ∀ n, pj_x (n + 1) (d + 1) i pc loc stk sh M = (match pj_x n d j 0 (pj_in j vs) [] sh M with
      | some (r, sh', M') => pj_x n (d + 1) i (pc + 3) loc (r.toList ++ st) sh' M'
      | none => none) := by
    intro n
    rw [pj_x, hat]
    dsimp only
    rw [h]
    dsimp only
    rw [hr]
    dsimp only
    rw [ha]
    dsimp only
    rw [hk]
    dsimp only
    rw [if_pos hle]
    rfl
  constructor
  · rintro ⟨n, r1, M1, h1, h2⟩
    cases n with
    | zero => rw [pj_x] at h1; cases h1
    | succ n =>
      rw [e n] at h1
      cases hx : pj_x n d j 0 (pj_in j vs) [] sh M with
      | none => rw [hx] at h1; cases h1
      | some q =>
        obtain ⟨r2, sh2, M2⟩ := q
        rw [hx] at h1
        dsimp only at h1
        obtain ⟨t1, ht1⟩ := pj_x_mono _ _ _ _ _ _ _ _ _ _ _ hx
        obtain ⟨t2, ht2⟩ := pj_x_mono _ _ _ _ _ _ _ _ _ _ _ h1
        have hl : sh.length = sh.length + t1.length + t2.length := by
          have := congrArg List.length ht2
          rw [ht1, List.length_append, List.length_append] at this
          exact this
        have e1 : t1 = [] := List.eq_nil_of_length_eq_zero (by omega)
        rw [e1, List.append_nil] at ht1
        subst ht1
        exact ⟨n, r2, M2, hx, n, r1, M1, h1, h2⟩
  · rintro ⟨n, r2, M2, hx, n', r1, M1, h1, h2⟩
    refine ⟨n + n' + 1, r1, M1, ?_, h2⟩
    rw [e (n + n'), pj_x_more hx n']
    dsimp only
    rw [Nat.add_comm n n']
    exact pj_x_more h1 n
end PJF
