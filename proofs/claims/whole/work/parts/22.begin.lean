/-! THE BEGINNING: both constructors. pj_Y is pj_F where cells may be made. -/
def pj_Y (d i pc : Nat) (loc stk : List pj_V) (sh : List pj_S) (M : pj_M) (Q : Option pj_V → List pj_S → pj_M → Prop) : Prop := ∃ (n : Nat) (r : Option pj_V) (sh' : List pj_S) (M' : pj_M), pj_x n d i pc loc stk sh M = some (r, sh', M') ∧ Q r sh' M'
section PJY
variable {d i pc pc' len ta tb tc j : Nat} {tv : Int} {ins : Instr} {loc loc' stk stk' vs st : List pj_V} {sh sh' : List pj_S} {M M' : pj_M} {Q : Option pj_V → List pj_S → pj_M → Prop}
theorem pj_Y_F (h : pj_F d i pc loc stk sh M (fun r M' => Q r sh M')) : pj_Y d i pc loc stk sh M Q := by
  obtain ⟨n, r, M1, h1, h2⟩ := h
  exact ⟨n, r, sh, M1, h1, h2⟩
theorem pj_Y_n (hat : pj_at i pc = some (ins, len, ta, tb, tc, tv)) (hn : pj_n pc ins ta tb tc tv loc stk sh M = some (pc', loc', stk', M')) (h : pj_Y d i pc' loc' stk' sh M' Q) : pj_Y d i pc loc stk sh M Q := by
  obtain ⟨n, r, sh1, M1, h1, h2⟩ := h
  refine ⟨n + 1, r, sh1, M1, ?_, h2⟩
  rw [pj_x, hat]
  dsimp only
  rw [hn]
  exact h1
theorem pj_Y_a {g : pj_S} (hat : pj_at i pc = some (ins, len, ta, tb, tc, tv)) (hn : pj_n pc ins ta tb tc tv loc stk sh M = none) (hr : pj_r ins ta stk = none) (ha : pj_a pc ins tb stk = some (pc', g, st)) (h : pj_Y d i pc' loc (pj_vR sh.length :: st) (sh ++ [g]) (pj_new M sh.length g) Q) : pj_Y d i pc loc stk sh M Q := by
  obtain ⟨n, r, sh1, M1, h1, h2⟩ := h
  refine ⟨n + 1, r, sh1, M1, ?_, h2⟩
  rw [pj_x, hat]
  dsimp only
  rw [hn]
  dsimp only
  rw [hr]
  dsimp only
  rw [ha]
  exact h1
theorem pj_Y_r {r : Option pj_V} (hat : pj_at i pc = some (ins, len, ta, tb, tc, tv)) (hn : pj_n pc ins ta tb tc tv loc stk sh M = none) (hr : pj_r ins ta stk = some r) (h : Q r sh M) : pj_Y d i pc loc stk sh M Q := by
  refine ⟨1, r, sh, M, ?_, h⟩
  rw [pj_x, hat]
  dsimp only
  rw [hn]
  dsimp only
  rw [hr]
theorem pj_Y_k (hat : pj_at i pc = some (ins, len, ta, tb, tc, tv)) (hn : pj_n pc ins ta tb tc tv loc stk sh M = none) (hr : pj_r ins ta stk = none) (ha : pj_a pc ins tb stk = none) (hk : pj_k ins ta tb tc stk sh = some (j, vs, st)) (hle : (pj_args vs).length ≤ pj_L j) (h : pj_Y d j 0 (pj_in j vs) [] sh M (fun r sh1 M1 => pj_Y (d + 1) i (pc + 3) loc (r.toList ++ st) sh1 M1 Q)) : pj_Y (d + 1) i pc loc stk sh M Q := by
  obtain ⟨n, r, sh1, M1, h1, n2, r2, sh2, M2, h3, h4⟩ := h
  refine ⟨n + n2 + 1, r2, sh2, M2, ?_, h4⟩
  rw [pj_x, hat]
  dsimp only
  rw [hn]
  dsimp only
  rw [hr]
  dsimp only
  rw [ha]
  dsimp only
  rw [hk]
  dsimp only
  rw [if_pos hle, pj_x_more h1 n2]
  dsimp only
  rw [Nat.add_comm n n2]
  exact pj_x_more h3 n
/-- several steps that go on or make a cell -/
def pj_ys : Nat → Nat → Nat → List pj_V → List pj_V → List pj_S → pj_M → Option (Nat × List pj_V × List pj_V × List pj_S × pj_M)
  | 0, _, pc, loc, stk, sh, M => some (pc, loc, stk, sh, M)
  | k + 1, i, pc, loc, stk, sh, M => match pj_at i pc with
    | none => none
    | some (ins, _, ta, tb, tc, tv) => match pj_n pc ins ta tb tc tv loc stk sh M with
      | some (pc', loc', stk', M') => pj_ys k i pc' loc' stk' sh M'
      | none => match pj_r ins ta stk with
        | some _ => none
        | none => match pj_a pc ins tb stk with
          | some (pc', g, st) => pj_ys k i pc' loc (pj_vR sh.length :: st) (sh ++ [g]) (pj_new M sh.length g)
          | none => none
theorem pj_Y_s : ∀ (k : Nat) {pc : Nat} {loc stk : List pj_V} {sh : List pj_S} {M : pj_M}, pj_ys k i pc loc stk sh M = some (pc', loc', stk', sh', M') → pj_Y d i pc' loc' stk' sh' M' Q → pj_Y d i pc loc stk sh M Q := by
  intro k
  induction k with
  | zero =>
    intro pc loc stk sh M h hY
    cases h
    exact hY
  | succ k ih =>
    intro pc loc stk sh M h hY
    rw [pj_ys] at h
    split at h
    · cases h
    next hat =>
      split at h
      next hn => exact pj_Y_n hat hn (ih h hY)
      next hn =>
        split at h
        · cases h
        next hr =>
          split at h
          next ha => exact pj_Y_a hat hn hr ha (ih h hY)
          next => cases h
end PJY
