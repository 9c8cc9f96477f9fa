theorem pj_n_keep {pc pc' ta tb tc : Nat} {ins : Instr} {tv : Int} {loc loc' stk stk' : List pj_V} {sh : List pj_S} {M M' : pj_M} (h : pj_n pc ins ta tb tc tv loc stk sh M = some (pc', loc', stk', M')) : M' 0 = M 0 := by
  cases ins with
  | iconst n => cases h; rfl
  | bipush n => cases h; rfl
  | sipush n => cases h; rfl
  | lconst n => cases h; rfl
  | ldc_w n => cases h; rfl
  | ldc2_w n => cases h; rfl
  | iload_n k => obtain ⟨x, -, h1⟩ := pj_lI_some h; cases h1; rfl
  | iload k => obtain ⟨x, -, h1⟩ := pj_lI_some h; cases h1; rfl
  | lload_n k => obtain ⟨x, -, h1⟩ := pj_lL_some h; cases h1; rfl
  | lload k => obtain ⟨x, -, h1⟩ := pj_lL_some h; cases h1; rfl
  | aload_n k => obtain ⟨x, -, h1⟩ := pj_lR_some h; cases h1; rfl
  | istore_n k => obtain ⟨x, st, -, h1⟩ := pj_1I_some h; obtain ⟨-, -, h2⟩ := pj_set_some h1; cases h2; rfl
  | istore k => obtain ⟨x, st, -, h1⟩ := pj_1I_some h; obtain ⟨-, -, h2⟩ := pj_set_some h1; cases h2; rfl
  | astore_n k => obtain ⟨x, st, -, h1⟩ := pj_1R_some h; obtain ⟨-, -, h2⟩ := pj_set_some h1; cases h2; rfl
  | lstore_n k => obtain ⟨x, st, -, h1⟩ := pj_1L_some h; obtain ⟨-, -, h2⟩ := pj_set2_some h1; cases h2; rfl
  | lstore k => obtain ⟨x, st, -, h1⟩ := pj_1L_some h; obtain ⟨-, -, h2⟩ := pj_set2_some h1; cases h2; rfl
  | iinc k n => obtain ⟨x, -, h1⟩ := pj_lI_some h; obtain ⟨-, -, h2⟩ := pj_set_some h1; cases h2; rfl
  | iadd => obtain ⟨x, y, st, -, h1⟩ := pj_2I_some h; cases h1; rfl
  | isub => obtain ⟨x, y, st, -, h1⟩ := pj_2I_some h; cases h1; rfl
  | imul => obtain ⟨x, y, st, -, h1⟩ := pj_2I_some h; cases h1; rfl
  | iand => obtain ⟨x, y, st, -, h1⟩ := pj_2I_some h; cases h1; rfl
  | ior => obtain ⟨x, y, st, -, h1⟩ := pj_2I_some h; cases h1; rfl
  | ixor => obtain ⟨x, y, st, -, h1⟩ := pj_2I_some h; cases h1; rfl
  | ishl => obtain ⟨x, y, st, -, h1⟩ := pj_2I_some h; cases h1; rfl
  | ishr => obtain ⟨x, y, st, -, h1⟩ := pj_2I_some h; cases h1; rfl
  | iushr => obtain ⟨x, y, st, -, h1⟩ := pj_2I_some h; cases h1; rfl
  | ineg => obtain ⟨x, st, -, h1⟩ := pj_1I_some h; cases h1; rfl
  | i2l => obtain ⟨x, st, -, h1⟩ := pj_1I_some h; cases h1; rfl
  | ladd => obtain ⟨x, y, st, -, h1⟩ := pj_2L_some h; cases h1; rfl
  | lmul => obtain ⟨x, y, st, -, h1⟩ := pj_2L_some h; cases h1; rfl
  | land => obtain ⟨x, y, st, -, h1⟩ := pj_2L_some h; cases h1; rfl
  | lor => obtain ⟨x, y, st, -, h1⟩ := pj_2L_some h; cases h1; rfl
  | lcmp => obtain ⟨x, y, st, -, h1⟩ := pj_2L_some h; cases h1; rfl
  | lshl => obtain ⟨x, y, st, -, h1⟩ := pj_IL_some h; cases h1; rfl
  | lshr => obtain ⟨x, y, st, -, h1⟩ := pj_IL_some h; cases h1; rfl
  | idiv =>
    obtain ⟨x, y, st, -, h1⟩ := pj_2I_some h
    split at h1
    · cases h1
    · cases h1; rfl
  | irem =>
    obtain ⟨x, y, st, -, h1⟩ := pj_2I_some h
    split at h1
    · cases h1
    · cases h1; rfl
  | ldiv =>
    obtain ⟨x, y, st, -, h1⟩ := pj_2L_some h
    split at h1
    · cases h1
    · cases h1; rfl
  | lrem =>
    obtain ⟨x, y, st, -, h1⟩ := pj_2L_some h
    split at h1
    · cases h1
    · cases h1; rfl
  | dup =>
    match stk, h with
    | v :: st, h =>
      simp only [pj_n] at h
      split at h
      · cases h
      · cases h; rfl
  | dup2 =>
    match stk, h with
    | v :: w :: st, h =>
      simp only [pj_n] at h
      split at h
      · cases h
      · cases h; rfl
  | pop =>
    match stk, h with
    | v :: st, h =>
      simp only [pj_n] at h
      split at h
      · cases h
      · cases h; rfl
  | goto off =>
    have h0 : pj_tg pc off (fun t => some (t, loc, stk, M)) = some (pc', loc', stk', M') := h
    obtain ⟨t, -, h1⟩ := pj_tg_some h0
    cases h1; rfl
  | if_icmp cd off =>
    obtain ⟨x, y, st, -, h1⟩ := pj_2I_some h
    obtain ⟨t, -, h2⟩ := pj_tg_some h1
    cases h2; rfl
  | ifCond cd off =>
    obtain ⟨x, st, -, h1⟩ := pj_1I_some h
    obtain ⟨t, -, h2⟩ := pj_tg_some h1
    cases h2; rfl
  | tableswitch d lo hi offs =>
    obtain ⟨x, st, -, g1⟩ := pj_1I_some h
    split at g1
    · obtain ⟨t, -, g2⟩ := pj_tg_some g1
      cases g2; rfl
    · split at g1
      · obtain ⟨t, -, g2⟩ := pj_tg_some g1
        cases g2; rfl
      · cases g1
  | iaload =>
    match stk, h with
    | .inl ix :: .inr (.inr (some a)) :: st, h =>
      simp only [pj_n] at h
      obtain ⟨n, -, -, -, h2⟩ := pj_arr_some h
      cases h2; rfl
  | baload =>
    match stk, h with
    | .inl ix :: .inr (.inr (some a)) :: st, h =>
      simp only [pj_n] at h
      split at h
      · cases h
      · obtain ⟨n, -, -, -, h2⟩ := pj_arr_some h
        cases h2; rfl
  | iastore =>
    match stk, h with
    | .inl x :: .inl ix :: .inr (.inr (some a)) :: st, h =>
      simp only [pj_n] at h
      split at h
      · cases h
      · rename_i ha
        obtain ⟨n, -, -, -, h2⟩ := pj_arr_some h
        cases h2
        exact pj_up_ne (fun q => ha q.symm)
  | bastore =>
    match stk, h with
    | .inl x :: .inl ix :: .inr (.inr (some a)) :: st, h =>
      simp only [pj_n] at h
      split at h
      · cases h
      · rename_i ha
        obtain ⟨n, -, -, -, h2⟩ := pj_arr_some h
        cases h2
        exact pj_up_ne (fun q => ha (Or.inl q.symm))
  | arraylength =>
    match stk, h with
    | .inr (.inr (some a)) :: st, h =>
      simp only [pj_n] at h
      split at h
      · cases h; rfl
      · cases h
  | getfield x =>
    match stk, h with
    | .inr (.inr (some a)) :: st, h =>
      have h' : pj_getf pc loc sh M ta tb tc a st = some (pc', loc', stk', M') := h
      unfold pj_getf at h'
      split at h'
      · split at h'
        · cases h'; rfl
        · cases h'; rfl
        · cases h'; rfl
        · split at h'
          · cases h'; rfl
          · cases h'
        · cases h'
      · cases h'
  | putfield x =>
    match stk, h with
    | v :: .inr (.inr (some a)) :: st, h =>
      have h' : pj_putf pc loc sh M ta tb tc v a st = some (pc', loc', stk', M') := h
      unfold pj_putf at h'
      split at h'
      next hs =>
        have ha : (0 : Nat) ≠ a := by omega
        split at h'
        · cases h'; exact pj_up_ne ha
        · split at h'
          · cases h'; exact pj_up_ne ha
          · cases h'
        · cases h'; exact pj_up_ne ha
        · cases h'; exact pj_up_ne ha
        · cases h'
      next => cases h'
  | invokespecial x =>
    simp only [pj_n] at h
    split at h
    · obtain ⟨k, st, -, h1⟩ := pj_1R_some h
      split at h1
      · cases h1; rfl
      · cases h1
    · cases h
  | invokestatic x =>
    simp only [pj_n] at h
    split at h
    · obtain ⟨n, dp, sp, k, k0, n0, n1, st, -, -, -, -, -, -, -, -, -, hr⟩ := pj_acp_some h
      cases hr
      exact pj_cpy_ne (by omega)
    · cases h
  | _ => exact absurd (show (none : pj_O) = some _ from h) (fun q => nomatch q)
theorem pj_x_keep : ∀ (n d i pc : Nat) (loc stk : List pj_V) (sh sh' : List pj_S) (M M' : pj_M) (r : Option pj_V), 0 < sh.length → pj_x n d i pc loc stk sh M = some (r, sh', M') → M' 0 = M 0 := by
  intro n
  induction n with
  | zero =>
    intro d i pc loc stk sh sh' M M' r hs h
    rw [pj_x] at h
    cases h
  | succ n ih =>
    intro d i pc loc stk sh sh' M M' r hs h
    obtain ⟨ins, len, ta, tb, tc, tv, -, h1 | h1 | h1 | h1⟩ := pj_x_inv h
    · obtain ⟨pc', loc', stk', M1, h2, h3⟩ := h1
      exact (ih _ _ _ _ _ _ _ _ _ _ hs h3).trans (pj_n_keep h2)
    · rw [h1.2.2]
    · obtain ⟨pc', g, st, -, h2⟩ := h1
      exact (ih _ _ _ _ _ _ _ _ _ _ (by simp) h2).trans (pj_new_ne (by omega))
    · obtain ⟨d', j, vs, st, r1, sh1, M1, -, -, -, h2, h3⟩ := h1
      obtain ⟨t, ht⟩ := pj_x_mono _ _ _ _ _ _ _ _ _ _ _ h2
      exact (ih _ _ _ _ _ _ _ _ _ _ (by rw [ht]; simp; omega) h3).trans (ih _ _ _ _ _ _ _ _ _ _ hs h2)
def pj_Sd (l : Launch) (n : Nat) : Prop := ∀ (d i pc : Nat) (loc stk : List pj_V) (sh sh' : List pj_S) (M M' : pj_M) (r : Option pj_V), pj_x n d i pc loc stk sh M = some (r, sh', M') →
  ∀ {p : Program} {e : Env} {R : Room} {s : State} {m : MethodId} {args : Array Value} {below : List Frame} {meth : Method} {c : Code} {H : Heap} {locs : List Loc} {Q : State → Prop} {cI cZ : ClassId} {dC : Nat → ClassId} {dI : Nat → Nat → Nat} {b base L : Nat} {xs : Nat → Int32} {ls : Array Slot} {n0 z0 : Nat},
  pj_Cx cI cZ dC dI b base L xs p s m args meth c i → pj_Iv cI cZ dC dI b base L xs s i H locs ls loc sh M → d + 1 ≤ R.frames → 64 * (d + 1) ≤ R.locals → sh'.length - n0 ≤ R.cells → pj_sz sh' - z0 ≤ R.slots → n0 ≤ sh.length → z0 ≤ pj_sz sh →
  (∀ (H1 : Heap) (locs1 : List Loc) (ls1 : Array Slot) (loc1 stk1 : List pj_V) (pc1 len ta tb tc : Nat) (ins : Instr) (tv : Int), pj_at i pc1 = some (ins, len, ta, tb, tc, tv) → pj_r ins ta stk1 = some r → pj_Iv cI cZ dC dI b base L xs s i H1 locs1 ls1 loc1 sh' M' → W p l e R s m args below meth c H1 locs1 (sh'.length - n0) (pj_sz sh' - z0) Q (F0 m pc1 ls1 (stk1.map (pj_tv (pj_ad b base))))) →
  W p l e R s m args below meth c H locs (sh.length - n0) (pj_sz sh - z0) Q (F0 m pc ls (stk.map (pj_tv (pj_ad b base))))
set_option maxHeartbeats 4000000 in
theorem pj_met {l : Launch} {n : Nat} (ih : pj_Sd l n) {d j : Nat} {vs : List pj_V} {sh sh1 : List pj_S} {M M1 : pj_M} {r1 : Option pj_V} (h : pj_x n d j 0 (pj_in j vs) [] sh M = some (r1, sh1, M1)) (hle : (pj_args vs).length ≤ pj_L j) (hj : j < pj_nm) {cI cZ : ClassId} {dC : Nat → ClassId} {dI : Nat → Nat → Nat} {b base L : Nat} {xs : Nat → Int32} (hb : b < base) (h0 : sh[0]? = some (.inr (0, L))) (hx : ∀ k, k < L → Int32.ofInt (M 0 k) = xs k) :
    Met l (pj_y j) (pj_wM (pj_me j) :: pj_U) (pj_rm d (sh1.length - sh.length) (pj_sz sh1 - pj_sz sh)) (va_Pc (vs.map (pj_tv (pj_ad b base))) (pj_Wd cI cZ dC dI b base L xs sh M)) (pj_Qc cI cZ dC dI b base r1 sh1 M1) (sh1.length - sh.length) (pj_sz sh1 - pj_sz sh) (fun q : Nat => base ≤ q) := by
  have hM : pj_okM j = true := List.all_eq_true.mp pj_okM_all j (List.mem_range.mpr (by omega))
  simp only [pj_okM, Bool.and_eq_true, decide_eq_true_eq] at hM
  refine Met.ofW (cc := pj_b j) (maxL := pj_L j) (ret := pj_rt j) hM.2.1 rfl ?_
  intro p e s m args below meth c s₁ B hml hv
  obtain ⟨rfl, hP, hsz, hK, hX, hN⟩ := hv
  have hown : s.vm.findClass (pj_y j).cls = some m.cls := findClass_of_methodNamed B.named
  rw [hM.1] at hown
  have hts := atoms_spec (ws := pj_wM (pj_me j) :: pj_U) B.pre
  have hlocks := B.notSynchronized
  have hr := B.returns
  have hin : meth.name = (pj_y j).name := (name_of_methodNamed B.named B.method).1
  have hs0 : 0 < sh.length := (List.getElem?_eq_some_iff.mp h0).1
  have C : pj_Cx cI cZ dC dI b base L xs p s m (vs.map (pj_tv (pj_ad b base))).toArray meth c j := ⟨B.exec, B.bytes, hml, hown, fun w hw => hts w (List.mem_cons_of_mem _ hw), fun q => hin.trans q, hK, hX, hb, by omega, hN, by omega⟩
  rw [lg_entry_eq]
  obtain ⟨hl, hln⟩ := pj_entry (ad := pj_ad b base) hle
  have W0 := ih d j 0 _ _ _ _ _ _ _ h (e := e) (below := below) (Q := MQ below (pj_Qc cI cZ dC dI b base r1 sh1 M1) (vs.map (pj_tv (pj_ad b base))).toArray s (sh1.length - sh.length) (pj_sz sh1 - pj_sz sh) (fun q : Nat => base ≤ q)) (R := (headSpec (pj_wM (pj_me j) :: pj_U) (pj_rm d (sh1.length - sh.length) (pj_sz sh1 - pj_sz sh))).room) (H := s.heap) (locs := []) (n0 := sh.length) (z0 := pj_sz sh) C ⟨hP, va_S.rf, hsz, hl, hln, h0, hx⟩ (Nat.le_refl _) (Nat.le_refl _) (Nat.le_refl _) (Nat.le_refl _) (Nat.le_refl _) (Nat.le_refl _) (fun H1 locs1 ls1 loc1 stk1 pc1 len ta tb tc ins tv hat hr1 I1 => pj_ret C I1 hr hlocks hat hr1)
  rw [Nat.sub_self, Nat.sub_self] at W0
  exact W0
set_option maxHeartbeats 4000000 in
/-- THE PURE MACHINE IS SOUND: what it comes to, the machine comes to -/
theorem pj_sound (l : Launch) : ∀ n, pj_Sd l n := by
  intro n
  induction n with
  | zero =>
    intro d i pc loc stk sh sh' M M' r h
    rw [pj_x] at h
    cases h
  | succ n ih =>
    intro d i pc loc stk sh sh' M M' r h p e R s m args below meth c H locs Q cI cZ dC dI b base L xs ls n0 z0 C I hf hlo hcl hsl hn0 hz0 RC
    obtain ⟨ins, len, ta, tb, tc, tv, hat, h1 | h1 | h1 | h1⟩ := pj_x_inv h
    · obtain ⟨pc', loc', stk', M1, h2, h3⟩ := h1
      exact pj_nstep C I (by omega) (by omega) hat h2 (fun H1 locs1 ls1 I1 => ih _ _ _ _ _ _ _ _ _ _ h3 C I1 hf hlo hcl hsl hn0 hz0 RC)
    · obtain ⟨h2, rfl, rfl⟩ := h1
      exact RC H locs ls loc stk pc len ta tb tc ins tv hat h2 I
    · obtain ⟨pc', g, st, h2, h3⟩ := h1
      obtain ⟨t, ht⟩ := pj_x_mono _ _ _ _ _ _ _ _ _ _ _ h3
      have e1 : sh'.length = sh.length + 1 + t.length := by rw [ht]; simp; omega
      have e2 : pj_sz sh' = pj_sz sh + pj_s1 g + pj_sz t := by rw [ht, pj_sz_app, pj_sz_app]; simp [pj_sz]
      have e3 : (sh ++ [g]).length - n0 = sh.length - n0 + 1 := by simp; omega
      have e5 : pj_sz (sh ++ [g]) = pj_sz sh + pj_s1 g := by rw [pj_sz_app]; simp [pj_sz]
      have e4 : pj_sz (sh ++ [g]) - z0 = pj_sz sh - z0 + pj_s1 g := by omega
      refine pj_astep C I (by omega) hat h2 (by omega) (fun H1 I1 => ?_)
      have W1 := ih _ _ _ _ _ _ _ _ _ _ h3 (n0 := n0) (z0 := z0) C I1 hf hlo hcl hsl (by simp; omega) (by omega) RC
      rw [e3, e4] at W1
      exact W1
    · obtain ⟨d', j, vs, st, r1, sh1, M1, rfl, h2, hle, h3, h4⟩ := h1
      obtain ⟨t1, ht1⟩ := pj_x_mono _ _ _ _ _ _ _ _ _ _ _ h3
      obtain ⟨t2, ht2⟩ := pj_x_mono _ _ _ _ _ _ _ _ _ _ _ h4
      have e1 : sh1.length = sh.length + t1.length := by rw [ht1]; simp
      have e2 : pj_sz sh1 = pj_sz sh + pj_sz t1 := by rw [ht1, pj_sz_app]
      have e3 : sh'.length = sh1.length + t2.length := by rw [ht2]; simp
      have e4 : pj_sz sh' = pj_sz sh1 + pj_sz t2 := by rw [ht2, pj_sz_app]
      have hs0 : 0 < sh.length := (List.getElem?_eq_some_iff.mp I.2.2.2.2.2.1).1
      have h01 : sh1[0]? = some (.inr (0, L)) := by rw [ht1, List.getElem?_append_left hs0]; exact I.2.2.2.2.2.1
      refine pj_kstep (d := d') (r1 := r1) (sh1 := sh1) (M1 := M1) (mc := sh1.length - sh.length) (ms := pj_sz sh1 - pj_sz sh) C I (by omega) (by omega) hat h2 (by omega) (by omega) (fun hj => pj_met ih h3 hle hj C.2.2.2.2.2.2.2.2.1 I.2.2.2.2.2.1 I.2.2.2.2.2.2) (fun H1 locs1 hP1 hS1 => ?_)
      have hx1 : ∀ k, k < L → Int32.ofInt (M1 0 k) = xs k := fun k hk => by rw [pj_x_keep _ _ _ _ _ _ _ _ _ _ _ hs0 h3]; exact I.2.2.2.2.2.2 k hk
      have W1 := ih _ _ _ _ _ _ _ _ _ _ h4 (n0 := n0) (z0 := z0) C (H := H1) (locs := locs1) (ls := ls) ⟨hP1.1, hS1, hP1.2, I.2.2.2.1, I.2.2.2.2.1, h01, hx1⟩ hf hlo hcl hsl (by omega) (by omega) RC
      rw [show sh1.length - n0 = sh.length - n0 + (sh1.length - sh.length) by omega, show pj_sz sh1 - z0 = pj_sz sh - z0 + (pj_sz sh1 - pj_sz sh) by omega] at W1
      refine W.eq ?_ W1
      cases r1 <;> simp [F0]
