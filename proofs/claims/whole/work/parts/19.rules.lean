def pj_all : List Prop → Prop
  | [] => True
  | c :: cs => c ∧ pj_all cs
theorem pj_all_app : ∀ (a b : List Prop), pj_all (a ++ b) → pj_all a ∧ pj_all b
  | [], b, h => ⟨trivial, h⟩
  | c :: a, b, h => ⟨⟨h.1, (pj_all_app a b h.2).1⟩, (pj_all_app a b h.2).2⟩
/-- a method that writes no constant reference -/
def pj_np (i : Nat) : Bool := decide (i < pj_nm + 1) && ((pj_code i).all fun q => match q.2.1 with
  | .putfield _ => decide (q.2.2.2.1 ≠ 2 ∨ (q.2.2.2.2.1 = 4 ∧ q.2.2.2.2.2.1 = pj_needs))
  | _ => true)
theorem pj_np_all : (List.range (pj_nm + 1)).all (fun i => decide ((pj_y i).name = "<init>") || pj_np i) = true := by decide +kernel
theorem pj_np_of {i : Nat} (hi : i < pj_nm + 1) (h : (pj_y i).name ≠ "<init>") : pj_np i = true := by
  have h1 := List.all_eq_true.mp pj_np_all i (List.mem_range.mpr hi)
  simp only [Bool.or_eq_true, decide_eq_true_eq] at h1
  exact h1.resolve_left h
theorem pj_n_okp {L i pc pc' len ta tb tc : Nat} {ins : Instr} {tv : Int} {loc loc' stk stk' : List pj_V} {M M' : pj_M} (hi : pj_np i = true) (hat : pj_at i pc = some (ins, len, ta, tb, tc, tv)) (h : pj_n pc ins ta tb tc tv loc stk (pj_sh L) M = some (pc', loc', stk', M')) (hM : pj_ok M) : pj_ok M' := by
  simp only [pj_np, Bool.and_eq_true, decide_eq_true_eq] at hi
  rcases pj_n_mem h with rfl | ⟨a, z, x, t, n, hs, rfl⟩ | ⟨a, x, y, rfl, hs, rfl⟩ | ⟨a, a0, sp, dp, n, n1, hs, rfl⟩
  · exact hM
  · intro q hq
    obtain ⟨ci, h1, -⟩ := pj_refs_at (L := L) hq
    have hne : q.1 ≠ a := fun e => by rw [e, hs] at h1; cases h1
    rw [pj_up_ne hne]
    exact hM q hq
  · intro q hq
    obtain ⟨ci, h1, h2, h3⟩ := pj_refs_at (L := L) hq
    have h4 := List.all_eq_true.mp hi.2 _ (pj_lookup_mem _ _ _ hat)
    simp only [decide_eq_true_eq] at h4
    obtain ⟨-, -, hok⟩ := pj_at_ok hi.1 hat
    simp only [pj_okI, Bool.and_eq_true, decide_eq_true_eq] at hok
    have hft : ta = pj_ft tb tc := hok.2.2.2.1
    by_cases hqa : q.1 = a ∧ q.2.1 = tc
    · rw [hqa.1, hs] at h1
      cases h1
      rw [hqa.2] at h2 h3
      omega
    · show (if q.1 = a ∧ q.2.1 = tc then x else M q.1 q.2.1) = _
      rw [if_neg hqa]
      exact hM q hq
  · intro q hq
    obtain ⟨ci, h1, -⟩ := pj_refs_at (L := L) hq
    have hne : q.1 ≠ a := fun e => by rw [e, hs] at h1; cases h1
    rw [pj_cpy_ne hne]
    exact hM q hq
theorem pj_map_some {x : pj_O} {q : List Prop × Nat × List pj_V × List pj_V × pj_M} (h : x.map (fun q => (([] : List Prop), q)) = some q) : x = some q.2 := by
  cases x with
  | none => cases h
  | some z => cases h; rfl
theorem pj_arr_mk {sh : List pj_S} {a t n : Nat} {i : Int} {f : Nat → pj_O} (hs : sh[a]? = some (.inr (t, n))) (h0 : 0 ≤ pj_nrm i) (h1 : pj_nrm i < n) : pj_arr sh a t i f = f (pj_nrm i).toNat := by
  unfold pj_arr
  rw [hs]
  exact if_pos ⟨rfl, h0, h1⟩
theorem pj_g1_ok {L pc pc' ta tb tc : Nat} {ins : Instr} {tv : Int} {loc loc' stk stk' : List pj_V} {M M' : pj_M} {cs : List Prop} (h : pj_g1 L pc ins ta tb tc tv loc stk M = some (cs, pc', loc', stk', M')) (hc : pj_all cs) (hM : pj_ok M) : pj_n pc ins ta tb tc tv loc stk (pj_sh L) M = some (pc', loc', stk', M') := by
  cases ins with
  | iaload =>
    simp only [pj_g1] at h
    split at h
    · split at h
      next hs =>
        cases h
        simp only [pj_n]
        rw [pj_arr_mk hs hc.1.1 hc.1.2]
      next => cases h
    · cases h
  | baload =>
    simp only [pj_g1] at h
    split at h
    · split at h
      next hs =>
        cases h
        simp only [pj_n]
        rw [if_neg (by omega), pj_arr_mk hs hc.1.1 hc.1.2]
      next => cases h
    · cases h
  | iastore =>
    simp only [pj_g1] at h
    split at h
    · split at h
      next hs =>
        cases h
        simp only [pj_n]
        rw [if_neg (by omega), pj_arr_mk hs hc.1.1 hc.1.2]
      next => cases h
    · cases h
  | bastore =>
    simp only [pj_g1] at h
    split at h
    · split at h
      next hs =>
        cases h
        simp only [pj_n]
        rw [if_neg (fun z => z.elim (fun q => by omega) (fun q => q hc.1)), pj_arr_mk hs hc.2.1.1 hc.2.1.2]
      next => cases h
    · cases h
  | idiv =>
    simp only [pj_g1] at h
    split at h
    · cases h
      simp only [pj_n, pj_2I]
      rw [if_neg hc.1]
    · cases h
  | irem =>
    simp only [pj_g1] at h
    split at h
    · cases h
      simp only [pj_n, pj_2I]
      rw [if_neg hc.1]
    · cases h
  | ldiv =>
    simp only [pj_g1] at h
    split at h
    · cases h
      simp only [pj_n, pj_2L]
      rw [if_neg hc.1]
    · cases h
  | lrem =>
    simp only [pj_g1] at h
    split at h
    · cases h
      simp only [pj_n, pj_2L]
      rw [if_neg hc.1]
    · cases h
  | getfield x =>
    simp only [pj_g1] at h
    split at h
    next a st =>
      simp only [pj_n]
      split at h
      next h2 =>
        split at h
        next q ci hq hs =>
          split at h
          next hci =>
            cases h
            have hv := pj_rf_ok hM hq
            unfold pj_getf
            rw [if_pos ⟨by rw [hs, hci.1], hci.2⟩, h2]
            show (if 0 ≤ M a tc then _ else none) = _
            rw [if_pos (by omega), hv]
            rfl
          next => cases h
        next => cases h
      next => exact pj_map_some h
    next => cases h
  | putfield x =>
    simp only [pj_g1] at h
    split at h
    next x a st =>
      simp only [pj_n]
      split at h
      next h3 =>
        split at h
        next hs =>
          cases h
          unfold pj_putf
          rw [if_pos hs, h3]
          show (if x = 0 ∨ x = 1 then _ else none) = _
          rw [if_pos hc.1]
        next => cases h
      next => exact pj_map_some h
    next v a st =>
      simp only [pj_n]
      exact pj_map_some h
    next => cases h
  | if_icmp cd off => cases h
  | ifCond cd off => cases h
  | tableswitch d lo hi offs => cases h
  | _ => exact pj_map_some (x := pj_n pc _ ta tb tc tv loc stk (pj_sh L) M) (q := (cs, pc', loc', stk', M')) h
/-- several steps: what they ask, and where they come to -/
def pj_gs : Nat → Nat → Nat → Nat → List pj_V → List pj_V → pj_M → pj_O2
  | 0, _, _, pc, loc, stk, M => some ([], pc, loc, stk, M)
  | k + 1, L, i, pc, loc, stk, M => match pj_at i pc with
    | none => none
    | some (ins, _, ta, tb, tc, tv) => match pj_g1 L pc ins ta tb tc tv loc stk M with
      | none => none
      | some (cs, pc', loc', stk', M') => match pj_gs k L i pc' loc' stk' M' with
        | none => none
        | some (cs2, q) => some (cs ++ cs2, q)
section PJG
variable {L d i pc pc' len ta tb tc j k : Nat} {tv : Int} {ins : Instr} {loc loc' stk stk' vs st : List pj_V} {M M' : pj_M} {Q : Option pj_V → pj_M → Prop} {cs : List Prop}
theorem pj_G.mono {Q' : Option pj_V → pj_M → Prop} (h : pj_G L d i pc loc stk M Q) (hq : ∀ r M', Q r M' → Q' r M') : pj_G L d i pc loc stk M Q' := fun hM => (h hM).mono hq
theorem pj_G_s (hp : pj_np i = true) : ∀ (k : Nat) {pc : Nat} {loc stk : List pj_V} {M : pj_M} {cs : List Prop}, pj_gs k L i pc loc stk M = some (cs, pc', loc', stk', M') → pj_all cs → pj_G L d i pc' loc' stk' M' Q → pj_G L d i pc loc stk M Q := by
  intro k
  induction k with
  | zero =>
    intro pc loc stk M cs h _ hG
    cases h
    exact hG
  | succ k ih =>
    intro pc loc stk M cs h hc hG hM
    rw [pj_gs] at h
    split at h
    · cases h
    next ins len ta tb tc tv hat =>
      split at h
      · cases h
      next cs1 pc1 loc1 stk1 M1 h1 =>
        split at h
        · cases h
        next cs2 q h2 =>
          cases h
          obtain ⟨hc1, hc2⟩ := pj_all_app _ _ hc
          have hn := pj_g1_ok h1 hc1 hM
          exact (pj_F_n hat hn).mpr (ih h2 hc2 hG (pj_n_okp hp hat hn hM))
theorem pj_G_if {cd : Jvm.ClassFile.Cond} {off x y : Int} {t : Nat} (hat : pj_at i pc = some (.if_icmp cd off, len, ta, tb, tc, tv)) (ht : (pc : Int) + off = (t : Int)) (h1 : pj_cmp cd (pj_nrm x) (pj_nrm y) = true → pj_G L d i t loc st M Q) (h2 : pj_cmp cd (pj_nrm x) (pj_nrm y) = false → pj_G L d i (pc + 3) loc st M Q) : pj_G L d i pc loc (.inl y :: .inl x :: st) M Q := by
  intro hM
  have hn : pj_n pc (.if_icmp cd off) ta tb tc tv loc (.inl y :: .inl x :: st) (pj_sh L) M = some (if pj_cmp cd (pj_nrm x) (pj_nrm y) then t else pc + 3, loc, st, M) := by
    simp only [pj_n, pj_2I, pj_tg]
    rw [ht, if_pos (by omega), Int.toNat_natCast]
  refine (pj_F_n hat hn).mpr ?_
  cases hb : pj_cmp cd (pj_nrm x) (pj_nrm y) with
  | true => exact h1 hb hM
  | false => exact h2 hb hM
theorem pj_G_if0 {cd : Jvm.ClassFile.Cond} {off x : Int} {t : Nat} (hat : pj_at i pc = some (.ifCond cd off, len, ta, tb, tc, tv)) (ht : (pc : Int) + off = (t : Int)) (h1 : pj_cmp cd (pj_nrm x) 0 = true → pj_G L d i t loc st M Q) (h2 : pj_cmp cd (pj_nrm x) 0 = false → pj_G L d i (pc + 3) loc st M Q) : pj_G L d i pc loc (.inl x :: st) M Q := by
  intro hM
  have hn : pj_n pc (.ifCond cd off) ta tb tc tv loc (.inl x :: st) (pj_sh L) M = some (if pj_cmp cd (pj_nrm x) 0 then t else pc + 3, loc, st, M) := by
    simp only [pj_n, pj_1I, pj_tg]
    rw [ht, if_pos (by omega), Int.toNat_natCast]
  refine (pj_F_n hat hn).mpr ?_
  cases hb : pj_cmp cd (pj_nrm x) 0 with
  | true => exact h1 hb hM
  | false => exact h2 hb hM
theorem pj_G_n (hp : pj_np i = true) (hat : pj_at i pc = some (ins, len, ta, tb, tc, tv)) (hn : pj_n pc ins ta tb tc tv loc stk (pj_sh L) M = some (pc', loc', stk', M')) (h : pj_G L d i pc' loc' stk' M' Q) : pj_G L d i pc loc stk M Q := fun hM => (pj_F_n hat hn).mpr (h (pj_n_okp hp hat hn hM))
theorem pj_G_r (hat : pj_at i pc = some (ins, len, ta, tb, tc, tv)) (hn : pj_n pc ins ta tb tc tv loc stk (pj_sh L) M = none) {r : Option pj_V} (hr : pj_r ins ta stk = some r) (h : Q r M) : pj_G L d i pc loc stk M Q := fun _ => (pj_F_r hat hn hr).mpr h
theorem pj_G_k (hat : pj_at i pc = some (ins, len, ta, tb, tc, tv)) (hn : pj_n pc ins ta tb tc tv loc stk (pj_sh L) M = none) (hr : pj_r ins ta stk = none) (ha : pj_a pc ins tb stk = none) (hk : pj_k ins ta tb tc stk (pj_sh L) = some (j, vs, st)) (hle : (pj_args vs).length ≤ pj_L j) (hj : pj_nc j = true) (h : pj_G L d j 0 (pj_in j vs) [] M (fun r M1 => pj_G L (d + 1) i (pc + 3) loc (r.toList ++ st) M1 Q)) : pj_G L (d + 1) i pc loc stk M Q := by
  intro hM
  obtain ⟨n, r, M1, hx, hq⟩ := h hM
  exact (pj_F_k hat hn hr ha hk hle).mpr ⟨n, r, M1, hx, hq (pj_x_ok _ _ _ _ _ _ _ _ _ hj hx hM)⟩
end PJG
