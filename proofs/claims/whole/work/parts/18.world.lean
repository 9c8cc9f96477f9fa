/-! THE WORLD behind both constructors, and triples over it: references that never change are read from a table. -/
def pj_shT : List pj_S := [.inl 6, .inl 5, .inr (0, 14), .inr (0, 14), .inr (0, 14), .inr (0, 42), .inl 3, .inr (0, 7), .inr (0, 7), .inr (0, 7), .inr (0, 7), .inr (0, 7), .inr (0, 7), .inr (0, 7), .inr (0, 63), .inr (0, 63), .inr (0, 7), .inr (0, 2), .inl 1, .inr (0, 16), .inr (0, 42), .inl 0, .inr (0, 35), .inr (0, 35), .inr (0, 1470), .inl 4, .inr (0, 3), .inr (0, 3), .inr (0, 4), .inr (0, 27), .inl 2, .inr (0, 7), .inr (0, 42), .inr (0, 7), .inr (0, 42), .inr (0, 14), .inr (0, 9), .inl 7, .inr (0, 14), .inr (0, 14), .inr (0, 14), .inr (0, 42), .inr (0, 7), .inr (0, 7), .inr (0, 7), .inr (0, 7), .inr (0, 7), .inr (0, 63), .inr (0, 7), .inr (0, 7), .inr (0, 2), .inr (1, 7), .inr (0, 16), .inr (0, 16), .inr (0, 16), .inr (0, 9), .inr (0, 7), .inr (0, 7), .inr (0, 14), .inr (0, 4), .inr (1, 324), .inr (1, 324), .inr (0, 42), .inr (0, 64), .inr (0, 2688), .inr (0, 14), .inr (0, 14)]
def pj_sh (L : Nat) : List pj_S := .inr (0, L) :: pj_shT
/-- the references that never change: place, slot, place -/
def pj_refs : List (Nat × Nat × Nat) := [(1, 0, 2), (1, 1, 7), (1, 2, 19), (1, 3, 22), (1, 4, 36), (1, 6, 37), (2, 2, 3), (2, 3, 4), (2, 4, 5), (2, 5, 6), (7, 1, 8), (7, 2, 9), (7, 3, 10), (7, 4, 11), (7, 5, 12), (7, 6, 13), (7, 7, 14), (7, 8, 15), (7, 9, 16), (7, 10, 17), (7, 11, 18), (19, 1, 20), (19, 2, 21), (22, 0, 7), (22, 1, 26), (22, 2, 23), (22, 4, 24), (22, 6, 25), (26, 0, 2), (26, 1, 7), (26, 2, 19), (26, 3, 31), (26, 4, 27), (26, 5, 28), (26, 7, 29), (26, 8, 30), (31, 0, 2), (31, 1, 7), (31, 2, 19), (31, 3, 32), (31, 4, 33), (31, 5, 34), (31, 6, 35), (38, 0, 39), (38, 1, 40), (38, 2, 41), (38, 3, 42), (38, 4, 43), (38, 5, 44), (38, 6, 45), (38, 7, 46), (38, 8, 47), (38, 9, 48), (38, 10, 49), (38, 11, 50), (38, 12, 51), (38, 13, 52), (38, 14, 53), (38, 15, 54), (38, 16, 55), (38, 22, 56), (38, 25, 57), (38, 26, 58), (38, 27, 59), (38, 28, 60), (38, 29, 61), (38, 30, 62), (38, 31, 63), (38, 32, 64), (38, 33, 65), (38, 37, 66), (38, 38, 67)]
abbrev pj_needs : Nat := 6
theorem pj_n_mem {pc pc' ta tb tc : Nat} {ins : Instr} {tv : Int} {loc loc' stk stk' : List pj_V} {sh : List pj_S} {M M' : pj_M} (h : pj_n pc ins ta tb tc tv loc stk sh M = some (pc', loc', stk', M')) : M' = M ∨ (∃ a z x t n, sh[a]? = some (.inr (t, n)) ∧ M' = pj_up M a z x) ∨ (∃ a x y, ins = .putfield y ∧ sh[a]? = some (.inl tb) ∧ M' = pj_up M a tc x) ∨ (∃ a a0 sp dp n n1, sh[a]? = some (.inr (0, n1)) ∧ M' = pj_cpy M a0 a sp dp n) := by
  cases ins with
  | iconst n => cases h; exact Or.inl rfl
  | bipush n => cases h; exact Or.inl rfl
  | sipush n => cases h; exact Or.inl rfl
  | lconst n => cases h; exact Or.inl rfl
  | ldc_w n => cases h; exact Or.inl rfl
  | ldc2_w n => cases h; exact Or.inl rfl
  | iload_n k => obtain ⟨x, -, h1⟩ := pj_lI_some h; cases h1; exact Or.inl rfl
  | iload k => obtain ⟨x, -, h1⟩ := pj_lI_some h; cases h1; exact Or.inl rfl
  | lload_n k => obtain ⟨x, -, h1⟩ := pj_lL_some h; cases h1; exact Or.inl rfl
  | lload k => obtain ⟨x, -, h1⟩ := pj_lL_some h; cases h1; exact Or.inl rfl
  | aload_n k => obtain ⟨x, -, h1⟩ := pj_lR_some h; cases h1; exact Or.inl rfl
  | istore_n k => obtain ⟨x, st, -, h1⟩ := pj_1I_some h; obtain ⟨-, -, h2⟩ := pj_set_some h1; cases h2; exact Or.inl rfl
  | istore k => obtain ⟨x, st, -, h1⟩ := pj_1I_some h; obtain ⟨-, -, h2⟩ := pj_set_some h1; cases h2; exact Or.inl rfl
  | astore_n k => obtain ⟨x, st, -, h1⟩ := pj_1R_some h; obtain ⟨-, -, h2⟩ := pj_set_some h1; cases h2; exact Or.inl rfl
  | lstore_n k => obtain ⟨x, st, -, h1⟩ := pj_1L_some h; obtain ⟨-, -, h2⟩ := pj_set2_some h1; cases h2; exact Or.inl rfl
  | lstore k => obtain ⟨x, st, -, h1⟩ := pj_1L_some h; obtain ⟨-, -, h2⟩ := pj_set2_some h1; cases h2; exact Or.inl rfl
  | iinc k n => obtain ⟨x, -, h1⟩ := pj_lI_some h; obtain ⟨-, -, h2⟩ := pj_set_some h1; cases h2; exact Or.inl rfl
  | iadd => obtain ⟨x, y, st, -, h1⟩ := pj_2I_some h; cases h1; exact Or.inl rfl
  | isub => obtain ⟨x, y, st, -, h1⟩ := pj_2I_some h; cases h1; exact Or.inl rfl
  | imul => obtain ⟨x, y, st, -, h1⟩ := pj_2I_some h; cases h1; exact Or.inl rfl
  | iand => obtain ⟨x, y, st, -, h1⟩ := pj_2I_some h; cases h1; exact Or.inl rfl
  | ior => obtain ⟨x, y, st, -, h1⟩ := pj_2I_some h; cases h1; exact Or.inl rfl
  | ixor => obtain ⟨x, y, st, -, h1⟩ := pj_2I_some h; cases h1; exact Or.inl rfl
  | ishl => obtain ⟨x, y, st, -, h1⟩ := pj_2I_some h; cases h1; exact Or.inl rfl
  | ishr => obtain ⟨x, y, st, -, h1⟩ := pj_2I_some h; cases h1; exact Or.inl rfl
  | iushr => obtain ⟨x, y, st, -, h1⟩ := pj_2I_some h; cases h1; exact Or.inl rfl
  | ineg => obtain ⟨x, st, -, h1⟩ := pj_1I_some h; cases h1; exact Or.inl rfl
  | i2l => obtain ⟨x, st, -, h1⟩ := pj_1I_some h; cases h1; exact Or.inl rfl
  | ladd => obtain ⟨x, y, st, -, h1⟩ := pj_2L_some h; cases h1; exact Or.inl rfl
  | lmul => obtain ⟨x, y, st, -, h1⟩ := pj_2L_some h; cases h1; exact Or.inl rfl
  | land => obtain ⟨x, y, st, -, h1⟩ := pj_2L_some h; cases h1; exact Or.inl rfl
  | lor => obtain ⟨x, y, st, -, h1⟩ := pj_2L_some h; cases h1; exact Or.inl rfl
  | lcmp => obtain ⟨x, y, st, -, h1⟩ := pj_2L_some h; cases h1; exact Or.inl rfl
  | lshl => obtain ⟨x, y, st, -, h1⟩ := pj_IL_some h; cases h1; exact Or.inl rfl
  | lshr => obtain ⟨x, y, st, -, h1⟩ := pj_IL_some h; cases h1; exact Or.inl rfl
  | idiv =>
    obtain ⟨x, y, st, -, h1⟩ := pj_2I_some h
    split at h1
    · cases h1
    · cases h1; exact Or.inl rfl
  | irem =>
    obtain ⟨x, y, st, -, h1⟩ := pj_2I_some h
    split at h1
    · cases h1
    · cases h1; exact Or.inl rfl
  | ldiv =>
    obtain ⟨x, y, st, -, h1⟩ := pj_2L_some h
    split at h1
    · cases h1
    · cases h1; exact Or.inl rfl
  | lrem =>
    obtain ⟨x, y, st, -, h1⟩ := pj_2L_some h
    split at h1
    · cases h1
    · cases h1; exact Or.inl rfl
  | dup =>
    match stk, h with
    | v :: st, h =>
      simp only [pj_n] at h
      split at h
      · cases h
      · cases h; exact Or.inl rfl
  | dup2 =>
    match stk, h with
    | v :: w :: st, h =>
      simp only [pj_n] at h
      split at h
      · cases h
      · cases h; exact Or.inl rfl
  | pop =>
    match stk, h with
    | v :: st, h =>
      simp only [pj_n] at h
      split at h
      · cases h
      · cases h; exact Or.inl rfl
  | goto off =>
    have h0 : pj_tg pc off (fun t => some (t, loc, stk, M)) = some (pc', loc', stk', M') := h
    obtain ⟨t, -, h1⟩ := pj_tg_some h0
    cases h1; exact Or.inl rfl
  | if_icmp cd off =>
    obtain ⟨x, y, st, -, h1⟩ := pj_2I_some h
    obtain ⟨t, -, h2⟩ := pj_tg_some h1
    cases h2; exact Or.inl rfl
  | ifCond cd off =>
    obtain ⟨x, st, -, h1⟩ := pj_1I_some h
    obtain ⟨t, -, h2⟩ := pj_tg_some h1
    cases h2; exact Or.inl rfl
  | tableswitch d lo hi offs =>
    obtain ⟨x, st, -, g1⟩ := pj_1I_some h
    split at g1
    · obtain ⟨t, -, g2⟩ := pj_tg_some g1
      cases g2; exact Or.inl rfl
    · split at g1
      · obtain ⟨t, -, g2⟩ := pj_tg_some g1
        cases g2; exact Or.inl rfl
      · cases g1
  | iaload =>
    match stk, h with
    | .inl ix :: .inr (.inr (some a)) :: st, h =>
      simp only [pj_n] at h
      obtain ⟨n, -, -, -, h2⟩ := pj_arr_some h
      cases h2; exact Or.inl rfl
  | baload =>
    match stk, h with
    | .inl ix :: .inr (.inr (some a)) :: st, h =>
      simp only [pj_n] at h
      split at h
      · cases h
      · obtain ⟨n, -, -, -, h2⟩ := pj_arr_some h
        cases h2; exact Or.inl rfl
  | iastore =>
    match stk, h with
    | .inl x :: .inl ix :: .inr (.inr (some a)) :: st, h =>
      simp only [pj_n] at h
      split at h
      · cases h
      · rename_i ha
        obtain ⟨n, hs, -, -, h2⟩ := pj_arr_some h
        cases h2
        exact Or.inr (Or.inl ⟨_, _, _, _, _, hs, rfl⟩)
  | bastore =>
    match stk, h with
    | .inl x :: .inl ix :: .inr (.inr (some a)) :: st, h =>
      simp only [pj_n] at h
      split at h
      · cases h
      · rename_i ha
        obtain ⟨n, hs, -, -, h2⟩ := pj_arr_some h
        cases h2
        exact Or.inr (Or.inl ⟨_, _, _, _, _, hs, rfl⟩)
  | arraylength =>
    match stk, h with
    | .inr (.inr (some a)) :: st, h =>
      simp only [pj_n] at h
      split at h
      · cases h; exact Or.inl rfl
      · cases h
  | getfield x =>
    match stk, h with
    | .inr (.inr (some a)) :: st, h =>
      have h' : pj_getf pc loc sh M ta tb tc a st = some (pc', loc', stk', M') := h
      unfold pj_getf at h'
      split at h'
      · split at h'
        · cases h'; exact Or.inl rfl
        · cases h'; exact Or.inl rfl
        · cases h'; exact Or.inl rfl
        · split at h'
          · cases h'; exact Or.inl rfl
          · cases h'
        · cases h'
      · cases h'
  | putfield x =>
    match stk, h with
    | v :: .inr (.inr (some a)) :: st, h =>
      have h' : pj_putf pc loc sh M ta tb tc v a st = some (pc', loc', stk', M') := h
      unfold pj_putf at h'
      split at h'
      next hs =>
        have ha : (0 : Nat) ≠ a := by omega
        split at h'
        · cases h'; exact Or.inr (Or.inr (Or.inl ⟨_, _, _, rfl, hs.1, rfl⟩))
        · split at h'
          · cases h'; exact Or.inr (Or.inr (Or.inl ⟨_, _, _, rfl, hs.1, rfl⟩))
          · cases h'
        · cases h'; exact Or.inr (Or.inr (Or.inl ⟨_, _, _, rfl, hs.1, rfl⟩))
        · cases h'; exact Or.inr (Or.inr (Or.inl ⟨_, _, _, rfl, hs.1, rfl⟩))
        · cases h'
      next => cases h'
  | invokespecial x =>
    simp only [pj_n] at h
    split at h
    · obtain ⟨k, st, -, h1⟩ := pj_1R_some h
      split at h1
      · cases h1; exact Or.inl rfl
      · cases h1
    · cases h
  | invokestatic x =>
    simp only [pj_n] at h
    split at h
    · obtain ⟨n, dp, sp, k, k0, n0, n1, st, -, -, hs1, -, -, -, -, -, -, hr⟩ := pj_acp_some h
      cases hr
      exact Or.inr (Or.inr (Or.inr ⟨_, _, _, _, _, _, hs1, rfl⟩))
    · cases h
  | _ => exact absurd (show (none : pj_O) = some _ from h) (fun q => nomatch q)
def pj_ok (M : pj_M) : Prop := ∀ q ∈ pj_refs, M q.1 q.2.1 = (q.2.2 : Int)
theorem pj_refs_ok : ∀ q ∈ pj_refs, (pj_shT.getD (q.1 - 1) (.inr (0, 0))).getLeft?.isSome = true ∧ 0 < q.1 ∧ q.1 - 1 < pj_shT.length ∧ pj_ft ((pj_shT.getD (q.1 - 1) (.inr (0, 0))).getLeft?.getD 0) q.2.1 = 2 ∧ ¬ ((pj_shT.getD (q.1 - 1) (.inr (0, 0))).getLeft?.getD 0 = 4 ∧ q.2.1 = pj_needs) := by decide +kernel
theorem pj_refs_at {L : Nat} {q : Nat × Nat × Nat} (h : q ∈ pj_refs) : ∃ ci, (pj_sh L)[q.1]? = some (.inl ci) ∧ pj_ft ci q.2.1 = 2 ∧ ¬ (ci = 4 ∧ q.2.1 = pj_needs) := by
  obtain ⟨h1, h2, h3, h4, h5⟩ := pj_refs_ok q h
  obtain ⟨k, hk⟩ : ∃ k, q.1 = k + 1 := ⟨q.1 - 1, by omega⟩
  rw [hk] at h1 h3 h4 h5 ⊢
  rw [show k + 1 - 1 = k by omega] at h1 h3 h4 h5
  rw [List.getD_eq_getElem?_getD] at h1 h4 h5
  rw [List.getElem?_eq_getElem h3] at h1 h4 h5
  show ∃ ci, pj_shT[k]? = _ ∧ _
  rw [List.getElem?_eq_getElem h3]
  cases hc : pj_shT[k] with
  | inl ci =>
    rw [hc] at h4 h5
    exact ⟨ci, rfl, h4, h5⟩
  | inr z =>
    rw [hc] at h1
    cases h1
/-- a method that writes no reference but Trial's needs, and calls such alone -/
def pj_nc (i : Nat) : Bool := decide (i < pj_nm) && ((pj_code i).all fun q => match q.2.1 with
  | .putfield _ => decide (q.2.2.2.1 ≠ 2 ∨ (q.2.2.2.2.1 = 4 ∧ q.2.2.2.2.2.1 = pj_needs))
  | .invokevirtual _ => decide ((pj_y q.2.2.2.2.1).name ≠ "<init>")
  | .invokestatic _ => decide (q.2.2.2.1 = 5 ∨ (pj_y q.2.2.2.2.1).name ≠ "<init>")
  | .invokespecial _ => false
  | _ => true)
theorem pj_nc_all : (List.range pj_nm).all (fun i => decide ((pj_y i).name = "<init>") || pj_nc i) = true := by decide +kernel
theorem pj_nc_of {i : Nat} (hi : i < pj_nm) (h : (pj_y i).name ≠ "<init>") : pj_nc i = true := by
  have h1 := List.all_eq_true.mp pj_nc_all i (List.mem_range.mpr hi)
  simp only [Bool.or_eq_true, decide_eq_true_eq] at h1
  exact h1.resolve_left h
theorem pj_n_ok {L i pc pc' len ta tb tc : Nat} {ins : Instr} {tv : Int} {loc loc' stk stk' : List pj_V} {M M' : pj_M} (hi : pj_nc i = true) (hat : pj_at i pc = some (ins, len, ta, tb, tc, tv)) (h : pj_n pc ins ta tb tc tv loc stk (pj_sh L) M = some (pc', loc', stk', M')) (hM : pj_ok M) : pj_ok M' := by
  simp only [pj_nc, Bool.and_eq_true, decide_eq_true_eq] at hi
  rcases pj_n_mem h with rfl | ⟨a, z, x, t, n, hs, rfl⟩ | ⟨a, x, y, rfl, hs, rfl⟩ | ⟨a, a0, sp, dp, n, n1, hs, rfl⟩
  · exact hM
  · intro q hq
    obtain ⟨ci, h1, -⟩ := pj_refs_at (L := L) hq
    have hne : q.1 ≠ a := fun e => by rw [e, hs] at h1; cases h1
    rw [pj_up_ne hne]
    exact hM q hq
  · intro q hq
    obtain ⟨ci, h1, h2, h3⟩ := pj_refs_at (L := L) hq
    have hmem := pj_lookup_mem _ _ _ hat
    have h4 := List.all_eq_true.mp hi.2 _ hmem
    simp only [decide_eq_true_eq] at h4
    obtain ⟨-, -, hok⟩ := pj_at_ok (by omega) hat
    simp only [pj_okI, Bool.and_eq_true, decide_eq_true_eq] at hok
    have hft : ta = pj_ft tb tc := hok.2.2.2.1
    by_cases hqa : q.1 = a ∧ q.2.1 = tc
    · rw [hqa.1, hs] at h1
      cases h1
      rw [hqa.2] at h2 h3
      omega
    · show (if q.1 = a ∧ q.2.1 = tc then x else M q.1 q.2.1) = _
      rw [if_neg hqa]
      exact hM q hq
  · intro q hq
    obtain ⟨ci, h1, -⟩ := pj_refs_at (L := L) hq
    have hne : q.1 ≠ a := fun e => by rw [e, hs] at h1; cases h1
    rw [pj_cpy_ne hne]
    exact hM q hq
theorem pj_k_nc {i pc len ta tb tc j : Nat} {ins : Instr} {tv : Int} {stk vs st : List pj_V} {sh : List pj_S} (hi : pj_nc i = true) (hat : pj_at i pc = some (ins, len, ta, tb, tc, tv)) (h : pj_k ins ta tb tc stk sh = some (j, vs, st)) : pj_nc j = true := by
  simp only [pj_nc, Bool.and_eq_true, decide_eq_true_eq] at hi
  have h4 := List.all_eq_true.mp hi.2 _ (pj_lookup_mem _ _ _ hat)
  obtain ⟨-, -, hok⟩ := pj_at_ok (by omega) hat
  cases ins with
  | invokevirtual x =>
    simp only [pj_k] at h
    split at h
    · split at h
      · split at h
        · cases h
          have hm : (pj_own i, x, 0, tb, tc) ∈ pj_ctab := of_decide_eq_true hok
          have hokc := List.all_eq_true.mp pj_okC_all _ hm
          simp only [pj_okC, Bool.and_eq_true, decide_eq_true_eq] at hokc
          exact pj_nc_of hokc.1 (of_decide_eq_true h4)
        · cases h
      · cases h
    · cases h
  | invokestatic x =>
    simp only [pj_k] at h
    split at h
    next hc =>
      cases h
      simp only [pj_okI, Bool.or_eq_true, decide_eq_true_eq] at hok
      have hm : (pj_own i, x, 1, tb, tc) ∈ pj_ctab := by
        rcases hok with q | q
        · exact q.2
        · omega
      have hokc := List.all_eq_true.mp pj_okC_all _ hm
      simp only [pj_okC, Bool.and_eq_true, decide_eq_true_eq] at hokc
      have h5 : ta = 5 ∨ (pj_y tb).name ≠ "<init>" := of_decide_eq_true h4
      exact pj_nc_of hokc.1 (h5.resolve_left (by omega))
    next => cases h
  | invokespecial x => cases h4
  | _ => exact absurd (show (none : Option (Nat × List pj_V × List pj_V)) = some _ from h) (fun q => nomatch q)
theorem pj_x_ok {L : Nat} : ∀ (n d i pc : Nat) (loc stk : List pj_V) (M M' : pj_M) (r : Option pj_V), pj_nc i = true → pj_x n d i pc loc stk (pj_sh L) M = some (r, pj_sh L, M') → pj_ok M → pj_ok M' := by
  intro n
  induction n with
  | zero =>
    intro d i pc loc stk M M' r hi h
    rw [pj_x] at h
    cases h
  | succ n ih =>
    intro d i pc loc stk M M' r hi h hM
    obtain ⟨ins, len, ta, tb, tc, tv, hat, h1 | h1 | h1 | h1⟩ := pj_x_inv h
    · obtain ⟨pc', loc', stk', M1, h2, h3⟩ := h1
      exact ih _ _ _ _ _ _ _ _ hi h3 (pj_n_ok hi hat h2 hM)
    · rw [h1.2.2]
      exact hM
    · obtain ⟨pc', g, st, -, h2⟩ := h1
      obtain ⟨t, ht⟩ := pj_x_mono _ _ _ _ _ _ _ _ _ _ _ h2
      have := congrArg List.length ht
      rw [List.length_append, List.length_append] at this
      simp only [List.length_cons, List.length_nil] at this
      omega
    · obtain ⟨d', j, vs, st, r1, sh1, M1, -, hk, -, h2, h3⟩ := h1
      obtain ⟨t1, ht1⟩ := pj_x_mono _ _ _ _ _ _ _ _ _ _ _ h2
      obtain ⟨t2, ht2⟩ := pj_x_mono _ _ _ _ _ _ _ _ _ _ _ h3
      have hl := congrArg List.length ht2
      rw [ht1, List.length_append, List.length_append] at hl
      have e1 : t1 = [] := List.eq_nil_of_length_eq_zero (by omega)
      rw [e1, List.append_nil] at ht1
      subst ht1
      exact ih _ _ _ _ _ _ _ _ hi h3 (ih _ _ _ _ _ _ _ _ (pj_k_nc hi hat hk) h2 hM)
/-- the triple over the world: with the constant references in their places -/
def pj_G (L d i pc : Nat) (loc stk : List pj_V) (M : pj_M) (Q : Option pj_V → pj_M → Prop) : Prop := pj_ok M → pj_F d i pc loc stk (pj_sh L) M Q
def pj_rf (a k : Nat) : Option Nat := (pj_refs.find? (fun q => q.1 == a && q.2.1 == k)).map (fun q => q.2.2)
theorem pj_rf_ok {M : pj_M} {a k q : Nat} (hM : pj_ok M) (h : pj_rf a k = some q) : M a k = (q : Int) := by
  unfold pj_rf at h
  cases hf : pj_refs.find? (fun q => q.1 == a && q.2.1 == k) with
  | none => rw [hf] at h; cases h
  | some z =>
    rw [hf] at h
    cases h
    have h1 := List.mem_of_find?_eq_some hf
    have h2 := List.find?_some hf
    simp only [Bool.and_eq_true, beq_iff_eq] at h2
    have := hM z h1
    rw [h2.1, h2.2] at this
    exact this
/-- one step, what it asks set aside; nothing is asked of the constant references -/
abbrev pj_O2 : Type := Option (List Prop × Nat × List pj_V × List pj_V × pj_M)
def pj_g1 (L pc : Nat) (ins : Instr) (ta tb tc : Nat) (tv : Int) (loc stk : List pj_V) (M : pj_M) : pj_O2 := match ins with
  | .iaload => (match stk with
    | .inl ix :: .inr (.inr (some a)) :: st => (match (pj_sh L)[a]? with
      | some (.inr (0, n)) => some ([0 ≤ pj_nrm ix ∧ pj_nrm ix < n], pc + 1, loc, .inl (M a (pj_nrm ix).toNat) :: st, M)
      | _ => none)
    | _ => none)
  | .baload => (match stk with
    | .inl ix :: .inr (.inr (some (a + 1))) :: st => (match (pj_sh L)[a + 1]? with
      | some (.inr (1, n)) => some ([0 ≤ pj_nrm ix ∧ pj_nrm ix < n], pc + 1, loc, .inl (M (a + 1) (pj_nrm ix).toNat) :: st, M)
      | _ => none)
    | _ => none)
  | .iastore => (match stk with
    | .inl x :: .inl ix :: .inr (.inr (some (a + 1))) :: st => (match (pj_sh L)[a + 1]? with
      | some (.inr (0, n)) => some ([0 ≤ pj_nrm ix ∧ pj_nrm ix < n], pc + 1, loc, st, pj_up M (a + 1) (pj_nrm ix).toNat x)
      | _ => none)
    | _ => none)
  | .bastore => (match stk with
    | .inl x :: .inl ix :: .inr (.inr (some (a + 1))) :: st => (match (pj_sh L)[a + 1]? with
      | some (.inr (1, n)) => some ([x = 0 ∨ x = 1, 0 ≤ pj_nrm ix ∧ pj_nrm ix < n], pc + 1, loc, st, pj_up M (a + 1) (pj_nrm ix).toNat x)
      | _ => none)
    | _ => none)
  | .idiv => (match stk with
    | .inl y :: .inl x :: st => some ([pj_nrm y ≠ 0], pc + 1, loc, .inl (pj_div x y) :: st, M)
    | _ => none)
  | .irem => (match stk with
    | .inl y :: .inl x :: st => some ([pj_nrm y ≠ 0], pc + 1, loc, .inl (pj_rem x y) :: st, M)
    | _ => none)
  | .ldiv => (match stk with
    | .inr (.inl y) :: .inr (.inl x) :: st => some ([pj_nrl y ≠ 0], pc + 1, loc, .inr (.inl (pj_ldiv x y)) :: st, M)
    | _ => none)
  | .lrem => (match stk with
    | .inr (.inl y) :: .inr (.inl x) :: st => some ([pj_nrl y ≠ 0], pc + 1, loc, .inr (.inl (pj_lrem x y)) :: st, M)
    | _ => none)
  | .getfield _ => (match stk with
    | .inr (.inr (some a)) :: st => if ta = 2 then (match pj_rf a tc, (pj_sh L)[a]? with
        | some q, some (.inl ci) => if ci = tb ∧ 0 < a then some ([], pc + 3, loc, .inr (.inr (some q)) :: st, M) else none
        | _, _ => none)
      else (pj_getf pc loc (pj_sh L) M ta tb tc a st).map (fun q => ([], q))
    | _ => none)
  | .putfield _ => (match stk with
    | .inl x :: .inr (.inr (some a)) :: st => if ta = 3 then (if (pj_sh L)[a]? = some (.inl tb) ∧ 0 < a then some ([x = 0 ∨ x = 1], pc + 3, loc, st, pj_up M a tc x) else none) else (pj_putf pc loc (pj_sh L) M ta tb tc (.inl x) a st).map (fun q => ([], q))
    | v :: .inr (.inr (some a)) :: st => (pj_putf pc loc (pj_sh L) M ta tb tc v a st).map (fun q => ([], q))
    | _ => none)
  | .if_icmp _ _ => none
  | .ifCond _ _ => none
  | .tableswitch _ _ _ _ => none
  | _ => (pj_n pc ins ta tb tc tv loc stk (pj_sh L) M).map (fun q => ([], q))

