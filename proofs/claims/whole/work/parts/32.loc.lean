/-! DEAD LOCALS: what goes well with a local unset goes well with any number or reference in it. -/
def pj_lle (a b : List pj_V) : Prop := a.length = b.length ∧ ∀ k : Nat, a[k]? = b[k]? ∨ (a[k]? = some pj_vU ∧ pj_long b[k]? = false)
theorem pj_lle_nil : pj_lle [] [] := ⟨rfl, fun _ => Or.inl rfl⟩
theorem pj_lle_e {a b : List pj_V} {v : pj_V} (h : pj_lle a b) : pj_lle (v :: a) (v :: b) := by
  refine ⟨congrArg (· + 1) h.1, fun k => ?_⟩
  cases k with
  | zero => exact Or.inl rfl
  | succ k => exact h.2 k
theorem pj_lle_u {a b : List pj_V} {v : pj_V} (hv : pj_long (some v) = false) (h : pj_lle a b) : pj_lle (pj_vU :: a) (v :: b) := by
  refine ⟨congrArg (· + 1) h.1, fun k => ?_⟩
  cases k with
  | zero => exact Or.inr ⟨rfl, hv⟩
  | succ k => exact h.2 k
theorem pj_lle_get {a b : List pj_V} {k : Nat} {v : pj_V} (h : pj_lle a b) (ha : a[k]? = some v) (hv : v ≠ pj_vU) : b[k]? = some v := by
  rcases h.2 k with e | ⟨e, -⟩
  · rw [← e]; exact ha
  · rw [e] at ha; cases ha; exact absurd rfl hv
theorem pj_lle_prev {a b : List pj_V} {k : Nat} (h : pj_lle a b) (hp : pj_prev a k = false) : pj_prev b k = false := by
  cases k with
  | zero => rfl
  | succ k =>
    rcases h.2 k with e | ⟨e, e2⟩
    · show pj_long b[k]? = false
      rw [← e]
      exact hp
    · exact e2
theorem pj_lle_set {a b : List pj_V} {k : Nat} {v : pj_V} (h : pj_lle a b) : pj_lle (a.set k v) (b.set k v) := by
  refine ⟨by rw [List.length_set, List.length_set]; exact h.1, fun j => ?_⟩
  rw [List.getElem?_set, List.getElem?_set]
  by_cases hj : k = j
  · rw [if_pos hj, if_pos hj, h.1]
    exact Or.inl rfl
  · rw [if_neg hj, if_neg hj]
    exact h.2 j
theorem pj_lle_n {pc pc' ta tb tc : Nat} {ins : Instr} {tv : Int} {a a' b stk stk' : List pj_V} {sh : List pj_S} {M M' : pj_M} (hl : pj_lle a b) (h : pj_n pc ins ta tb tc tv a stk sh M = some (pc', a', stk', M')) : ∃ b', pj_n pc ins ta tb tc tv b stk sh M = some (pc', b', stk', M') ∧ pj_lle a' b' := by
  cases ins with
  | iconst n => cases h; exact ⟨b, rfl, hl⟩
  | bipush n => cases h; exact ⟨b, rfl, hl⟩
  | sipush n => cases h; exact ⟨b, rfl, hl⟩
  | lconst n => cases h; exact ⟨b, rfl, hl⟩
  | ldc_w n => cases h; exact ⟨b, rfl, hl⟩
  | ldc2_w n => cases h; exact ⟨b, rfl, hl⟩
  | iload_n k =>
    obtain ⟨x, hx, h1⟩ := pj_lI_some h
    cases h1
    have hb := pj_lle_get hl hx (by intro z; cases z)
    exact ⟨b, by simp only [pj_n, pj_lI, hb], hl⟩
  | iload k =>
    obtain ⟨x, hx, h1⟩ := pj_lI_some h
    cases h1
    have hb := pj_lle_get hl hx (by intro z; cases z)
    exact ⟨b, by simp only [pj_n, pj_lI, hb], hl⟩
  | lload_n k =>
    obtain ⟨x, hx, h1⟩ := pj_lL_some h
    cases h1
    have hb := pj_lle_get hl hx (by intro z; cases z)
    exact ⟨b, by simp only [pj_n, pj_lL, hb], hl⟩
  | lload k =>
    obtain ⟨x, hx, h1⟩ := pj_lL_some h
    cases h1
    have hb := pj_lle_get hl hx (by intro z; cases z)
    exact ⟨b, by simp only [pj_n, pj_lL, hb], hl⟩
  | aload_n k =>
    obtain ⟨x, hx, h1⟩ := pj_lR_some h
    cases h1
    have hb := pj_lle_get hl hx (by intro z; cases z)
    exact ⟨b, by simp only [pj_n, pj_lR, hb], hl⟩
  | istore_n k =>
    obtain ⟨x, st, rfl, h1⟩ := pj_1I_some h
    obtain ⟨hk, hp, h2⟩ := pj_set_some h1
    cases h2
    refine ⟨_, ?_, pj_lle_set hl⟩
    simp only [pj_n, pj_1I, pj_set]
    rw [if_pos ⟨hl.1 ▸ hk, pj_lle_prev hl hp⟩]
  | istore k =>
    obtain ⟨x, st, rfl, h1⟩ := pj_1I_some h
    obtain ⟨hk, hp, h2⟩ := pj_set_some h1
    cases h2
    refine ⟨_, ?_, pj_lle_set hl⟩
    simp only [pj_n, pj_1I, pj_set]
    rw [if_pos ⟨hl.1 ▸ hk, pj_lle_prev hl hp⟩]
  | astore_n k =>
    obtain ⟨x, st, rfl, h1⟩ := pj_1R_some h
    obtain ⟨hk, hp, h2⟩ := pj_set_some h1
    cases h2
    refine ⟨_, ?_, pj_lle_set hl⟩
    simp only [pj_n, pj_1R, pj_set]
    rw [if_pos ⟨hl.1 ▸ hk, pj_lle_prev hl hp⟩]
  | lstore_n k =>
    obtain ⟨x, st, rfl, h1⟩ := pj_1L_some h
    obtain ⟨hk, hp, h2⟩ := pj_set2_some h1
    cases h2
    refine ⟨_, ?_, pj_lle_set (pj_lle_set hl)⟩
    simp only [pj_n, pj_1L, pj_set2]
    rw [if_pos ⟨hl.1 ▸ hk, pj_lle_prev hl hp⟩]
  | lstore k =>
    obtain ⟨x, st, rfl, h1⟩ := pj_1L_some h
    obtain ⟨hk, hp, h2⟩ := pj_set2_some h1
    cases h2
    refine ⟨_, ?_, pj_lle_set (pj_lle_set hl)⟩
    simp only [pj_n, pj_1L, pj_set2]
    rw [if_pos ⟨hl.1 ▸ hk, pj_lle_prev hl hp⟩]
  | iinc k n =>
    obtain ⟨x, hx, h1⟩ := pj_lI_some h
    obtain ⟨hk, hp, h2⟩ := pj_set_some h1
    cases h2
    have hb := pj_lle_get hl hx (by intro z; cases z)
    refine ⟨_, ?_, pj_lle_set hl⟩
    simp only [pj_n, pj_lI, hb, pj_set]
    rw [if_pos ⟨hl.1 ▸ hk, pj_lle_prev hl hp⟩]
  | iadd => obtain ⟨x, y, st, rfl, h1⟩ := pj_2I_some h; cases h1; exact ⟨b, rfl, hl⟩
  | isub => obtain ⟨x, y, st, rfl, h1⟩ := pj_2I_some h; cases h1; exact ⟨b, rfl, hl⟩
  | imul => obtain ⟨x, y, st, rfl, h1⟩ := pj_2I_some h; cases h1; exact ⟨b, rfl, hl⟩
  | iand => obtain ⟨x, y, st, rfl, h1⟩ := pj_2I_some h; cases h1; exact ⟨b, rfl, hl⟩
  | ior => obtain ⟨x, y, st, rfl, h1⟩ := pj_2I_some h; cases h1; exact ⟨b, rfl, hl⟩
  | ixor => obtain ⟨x, y, st, rfl, h1⟩ := pj_2I_some h; cases h1; exact ⟨b, rfl, hl⟩
  | ishl => obtain ⟨x, y, st, rfl, h1⟩ := pj_2I_some h; cases h1; exact ⟨b, rfl, hl⟩
  | ishr => obtain ⟨x, y, st, rfl, h1⟩ := pj_2I_some h; cases h1; exact ⟨b, rfl, hl⟩
  | iushr => obtain ⟨x, y, st, rfl, h1⟩ := pj_2I_some h; cases h1; exact ⟨b, rfl, hl⟩
  | ineg => obtain ⟨x, st, rfl, h1⟩ := pj_1I_some h; cases h1; exact ⟨b, rfl, hl⟩
  | i2l => obtain ⟨x, st, rfl, h1⟩ := pj_1I_some h; cases h1; exact ⟨b, rfl, hl⟩
  | ladd => obtain ⟨x, y, st, rfl, h1⟩ := pj_2L_some h; cases h1; exact ⟨b, rfl, hl⟩
  | lmul => obtain ⟨x, y, st, rfl, h1⟩ := pj_2L_some h; cases h1; exact ⟨b, rfl, hl⟩
  | land => obtain ⟨x, y, st, rfl, h1⟩ := pj_2L_some h; cases h1; exact ⟨b, rfl, hl⟩
  | lor => obtain ⟨x, y, st, rfl, h1⟩ := pj_2L_some h; cases h1; exact ⟨b, rfl, hl⟩
  | lcmp => obtain ⟨x, y, st, rfl, h1⟩ := pj_2L_some h; cases h1; exact ⟨b, rfl, hl⟩
  | lshl => obtain ⟨x, y, st, rfl, h1⟩ := pj_IL_some h; cases h1; exact ⟨b, rfl, hl⟩
  | lshr => obtain ⟨x, y, st, rfl, h1⟩ := pj_IL_some h; cases h1; exact ⟨b, rfl, hl⟩
  | idiv =>
    obtain ⟨x, y, st, rfl, h1⟩ := pj_2I_some h
    split at h1
    · cases h1
    next hz => cases h1; exact ⟨b, by simp only [pj_n, pj_2I]; rw [if_neg hz], hl⟩
  | irem =>
    obtain ⟨x, y, st, rfl, h1⟩ := pj_2I_some h
    split at h1
    · cases h1
    next hz => cases h1; exact ⟨b, by simp only [pj_n, pj_2I]; rw [if_neg hz], hl⟩
  | ldiv =>
    obtain ⟨x, y, st, rfl, h1⟩ := pj_2L_some h
    split at h1
    · cases h1
    next hz => cases h1; exact ⟨b, by simp only [pj_n, pj_2L]; rw [if_neg hz], hl⟩
  | lrem =>
    obtain ⟨x, y, st, rfl, h1⟩ := pj_2L_some h
    split at h1
    · cases h1
    next hz => cases h1; exact ⟨b, by simp only [pj_n, pj_2L]; rw [if_neg hz], hl⟩
  | goto off =>
    simp only [pj_n, pj_tg] at h ⊢
    split at h
    next hz => cases h; exact ⟨b, by rw [if_pos hz], hl⟩
    · cases h
  | if_icmp c off =>
    obtain ⟨x, y, st, rfl, h1⟩ := pj_2I_some h
    simp only [pj_tg] at h1
    split at h1
    next hz => cases h1; exact ⟨b, by simp only [pj_n, pj_2I, pj_tg]; rw [if_pos hz], hl⟩
    · cases h1
  | ifCond c off =>
    obtain ⟨x, st, rfl, h1⟩ := pj_1I_some h
    simp only [pj_tg] at h1
    split at h1
    next hz => cases h1; exact ⟨b, by simp only [pj_n, pj_1I, pj_tg]; rw [if_pos hz], hl⟩
    · cases h1
  | tableswitch dd lo hi offs =>
    obtain ⟨x, st, rfl, h1⟩ := pj_1I_some h
    by_cases hz : pj_nrm x < lo ∨ hi < pj_nrm x
    · rw [if_pos hz] at h1
      simp only [pj_tg] at h1
      split at h1
      next hy => cases h1; exact ⟨b, by simp only [pj_n, pj_1I, pj_tg]; rw [if_pos hz, if_pos hy], hl⟩
      · cases h1
    · rw [if_neg hz] at h1
      split at h1
      next off ho =>
        simp only [pj_tg] at h1
        split at h1
        next hy => cases h1; exact ⟨b, by simp only [pj_n, pj_1I, pj_tg]; rw [if_neg hz, ho]; dsimp only; rw [if_pos hy], hl⟩
        · cases h1
      · cases h1
  | invokespecial x =>
    simp only [pj_n] at h ⊢
    split at h
    next hz =>
      obtain ⟨q, st, rfl, h1⟩ := pj_1R_some h
      split at h1
      next hy => cases h1; exact ⟨b, by rw [if_pos hz]; simp only [pj_1R]; rw [if_pos hy], hl⟩
      · cases h1
    · cases h
  | dup =>
    simp only [pj_n, pj_arr, pj_getf, pj_putf, pj_acp] at h ⊢
    repeat' split at h
    all_goals first
      | (cases h; done)
      | (cases h; exact ⟨b, by simp_all, hl⟩)
  | dup2 =>
    simp only [pj_n, pj_arr, pj_getf, pj_putf, pj_acp] at h ⊢
    repeat' split at h
    all_goals first
      | (cases h; done)
      | (cases h; exact ⟨b, by simp_all, hl⟩)
  | pop =>
    simp only [pj_n, pj_arr, pj_getf, pj_putf, pj_acp] at h ⊢
    repeat' split at h
    all_goals first
      | (cases h; done)
      | (cases h; exact ⟨b, by simp_all, hl⟩)
  | iaload =>
    simp only [pj_n, pj_arr, pj_getf, pj_putf, pj_acp] at h ⊢
    repeat' split at h
    all_goals first
      | (cases h; done)
      | (cases h; exact ⟨b, by simp_all, hl⟩)
  | baload =>
    simp only [pj_n, pj_arr, pj_getf, pj_putf, pj_acp] at h ⊢
    repeat' split at h
    all_goals first
      | (cases h; done)
      | (cases h; exact ⟨b, by simp_all, hl⟩)
  | iastore =>
    simp only [pj_n, pj_arr, pj_getf, pj_putf, pj_acp] at h ⊢
    repeat' split at h
    all_goals first
      | (cases h; done)
      | (cases h; exact ⟨b, by simp_all, hl⟩)
  | bastore =>
    simp only [pj_n, pj_arr, pj_getf, pj_putf, pj_acp] at h ⊢
    repeat' split at h
    all_goals first
      | (cases h; done)
      | (cases h; exact ⟨b, by simp_all, hl⟩)
  | arraylength =>
    simp only [pj_n, pj_arr, pj_getf, pj_putf, pj_acp] at h ⊢
    repeat' split at h
    all_goals first
      | (cases h; done)
      | (cases h; exact ⟨b, by simp_all, hl⟩)
  | getfield x =>
    simp only [pj_n, pj_arr, pj_getf, pj_putf, pj_acp] at h ⊢
    repeat' split at h
    all_goals first
      | (cases h; done)
      | (cases h; exact ⟨b, by simp_all, hl⟩)
  | putfield x =>
    simp only [pj_n, pj_arr, pj_getf, pj_putf, pj_acp] at h ⊢
    repeat' split at h
    all_goals first
      | (cases h; done)
      | (cases h; exact ⟨b, by simp_all, hl⟩)
  | invokestatic x =>
    simp only [pj_n, pj_arr, pj_getf, pj_putf, pj_acp] at h ⊢
    repeat' split at h
    all_goals first
      | (cases h; done)
      | (cases h; exact ⟨b, by simp_all, hl⟩)
  | _ => cases h
theorem pj_r_n {pc ta tb tc : Nat} {ins : Instr} {tv : Int} {b stk : List pj_V} {sh : List pj_S} {M : pj_M} {r : Option pj_V} (h : pj_r ins ta stk = some r) : pj_n pc ins ta tb tc tv b stk sh M = none := by
  cases ins <;> first | rfl | cases h
theorem pj_a_n {pc ta tb tc : Nat} {ins : Instr} {tv : Int} {b stk : List pj_V} {sh : List pj_S} {M : pj_M} {r : Nat × pj_S × List pj_V} (h : pj_a pc ins tb stk = some r) : pj_n pc ins ta tb tc tv b stk sh M = none := by
  cases ins <;> first | rfl | cases h
theorem pj_k_n {pc ta tb tc : Nat} {ins : Instr} {tv : Int} {b stk : List pj_V} {sh : List pj_S} {M : pj_M} {r : Nat × List pj_V × List pj_V} (h : pj_k ins ta tb tc stk sh = some r) : pj_n pc ins ta tb tc tv b stk sh M = none := by
  cases ins with
  | invokevirtual x => rfl
  | invokestatic x =>
    simp only [pj_k] at h
    split at h
    next hz => simp only [pj_n]; rw [if_neg (by omega)]
    · cases h
  | invokespecial x =>
    simp only [pj_k] at h
    split at h
    next hz => simp only [pj_n]; rw [if_neg (by omega)]
    · cases h
  | _ => cases h
theorem pj_x_loc : ∀ (n d i pc : Nat) (a b stk : List pj_V) (sh : List pj_S) (M : pj_M) (x : Option pj_V × List pj_S × pj_M), pj_lle a b → pj_x n d i pc a stk sh M = some x → pj_x n d i pc b stk sh M = some x := by
  intro n
  induction n with
  | zero =>
    intro d i pc a b stk sh M x hl h
    rw [pj_x] at h
    cases h
  | succ n ih =>
    intro d i pc a b stk sh M x hl h
    rw [pj_x] at h
    rw [pj_x]
    cases hat : pj_at i pc with
    | none => rw [hat] at h; cases h
    | some q =>
      obtain ⟨ins, len, ta, tb, tc, tv⟩ := q
      rw [hat] at h
      dsimp only at h ⊢
      cases hn : pj_n pc ins ta tb tc tv a stk sh M with
      | some q =>
        obtain ⟨pc', loc', stk', M'⟩ := q
        rw [hn] at h
        obtain ⟨b', hb, hl'⟩ := pj_lle_n hl hn
        rw [hb]
        dsimp only at h ⊢
        exact ih _ _ _ _ _ _ _ _ _ hl' h
      | none =>
        rw [hn] at h
        dsimp only at h
        cases hr : pj_r ins ta stk with
        | some q =>
          rw [hr] at h
          rw [pj_r_n hr]
          exact h
        | none =>
          rw [hr] at h
          dsimp only at h
          cases ha : pj_a pc ins tb stk with
          | some q =>
            obtain ⟨pc', g, st⟩ := q
            rw [ha] at h
            rw [pj_a_n ha]
            dsimp only at h ⊢
            exact ih _ _ _ _ _ _ _ _ _ hl h
          | none =>
            rw [ha] at h
            dsimp only at h
            cases d with
            | zero => cases h
            | succ d =>
              cases hk : pj_k ins ta tb tc stk sh with
              | none => rw [hk] at h; cases h
              | some q =>
                obtain ⟨j, vs, st⟩ := q
                rw [hk] at h
                rw [pj_k_n hk]
                dsimp only at h ⊢
                by_cases hle : (pj_args vs).length ≤ pj_L j
                · rw [if_pos hle] at h ⊢
                  cases hx : pj_x n d j 0 (pj_in j vs) [] sh M with
                  | none => rw [hx] at h; cases h
                  | some q =>
                    obtain ⟨r1, sh1, M1⟩ := q
                    rw [hx] at h
                    dsimp only at h ⊢
                    exact ih _ _ _ _ _ _ _ _ _ hl h
                · rw [if_neg hle] at h
                  cases h
/-- dead locals forgotten -/
theorem pj_G_loc {L d i pc : Nat} {a b stk : List pj_V} {M : pj_M} {Q : Option pj_V → pj_M → Prop} (hl : pj_lle a b) (h : pj_G L d i pc a stk M Q) : pj_G L d i pc b stk M Q := by
  intro hM
  obtain ⟨n, r, M1, h1, h2⟩ := h hM
  exact ⟨n, r, M1, pj_x_loc _ _ _ _ _ _ _ _ _ _ hl h1, h2⟩
