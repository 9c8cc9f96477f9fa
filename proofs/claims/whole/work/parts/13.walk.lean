theorem pj_len {a len k : Nat} (h : a = 0 ∨ a = len) (ha : a = k) (hk : k ≠ 0) : len = k := by omega
theorem pj_f_in {i x tb tc : Nat} (h : (pj_own i, x, tb, tc) ∈ pj_ftab) : pj_wF (pj_own i, x, tb, tc) ∈ pj_U := pj_U3_m (List.mem_map.mpr ⟨_, h, rfl⟩)
section PJN
variable {p : Program} {l : Launch} {e : Env} {R : Room} {s : State} {m : MethodId} {args : Array Value} {below : List Frame} {meth : Method} {c : Code} {H : Heap} {locs : List Loc} {cells slots : Nat} {Q : State → Prop}
variable {cI cZ : ClassId} {dC : Nat → ClassId} {dI : Nat → Nat → Nat} {b base L : Nat} {xs : Nat → Int32} {i pc pc' len ta tb tc : Nat} {tv : Int} {ls : Array Slot} {loc loc' stk stk' : List pj_V} {sh : List pj_S} {M M' : pj_M} {ins : Instr}
/-- every step that goes on in its method -/
theorem pj_nstep (C : pj_Cx cI cZ dC dI b base L xs p s m args meth c i) (I : pj_Iv cI cZ dC dI b base L xs s i H locs ls loc sh M) (hf : 1 ≤ R.frames) (hlo : 64 ≤ R.locals) (hat : pj_at i pc = some (ins, len, ta, tb, tc, tv)) (h : pj_n pc ins ta tb tc tv loc stk sh M = some (pc', loc', stk', M')) (kk : ∀ (H1 : Heap) (locs1 : List Loc) (ls1 : Array Slot), pj_Iv cI cZ dC dI b base L xs s i H1 locs1 ls1 loc' sh M' → W p l e R s m args below meth c H1 locs1 cells slots Q (F0 m pc' ls1 (stk'.map (pj_tv (pj_ad b base))))) : W p l e R s m args below meth c H locs cells slots Q (F0 m pc ls (stk.map (pj_tv (pj_ad b base)))) := by
  obtain ⟨hd, hlen, hok⟩ := pj_at_ok C.2.2.2.2.2.2.2.2.2.2.2 hat
  cases ins with
  | iconst n =>
    obtain rfl := pj_len (k := 1) hlen rfl (by decide)
    exact pj_s_iconst C I hd h kk
  | lconst n =>
    obtain rfl := pj_len (k := 1) hlen rfl (by decide)
    exact pj_s_lconst C I hd h kk
  | iload_n k =>
    obtain rfl := pj_len (k := 1) hlen rfl (by decide)
    exact pj_s_iload_n C I hd h kk
  | iload k =>
    obtain rfl := pj_len (k := 2) hlen rfl (by decide)
    exact pj_s_iload C I hd h kk
  | lload_n k =>
    obtain rfl := pj_len (k := 1) hlen rfl (by decide)
    exact pj_s_lload_n C I hd h kk
  | lload k =>
    obtain rfl := pj_len (k := 2) hlen rfl (by decide)
    exact pj_s_lload C I hd h kk
  | aload_n k =>
    obtain rfl := pj_len (k := 1) hlen rfl (by decide)
    exact pj_s_aload_n C I hd h kk
  | istore_n k =>
    obtain rfl := pj_len (k := 1) hlen rfl (by decide)
    exact pj_s_istore_n C I hd h kk
  | istore k =>
    obtain rfl := pj_len (k := 2) hlen rfl (by decide)
    exact pj_s_istore C I hd h kk
  | lstore_n k =>
    obtain rfl := pj_len (k := 1) hlen rfl (by decide)
    exact pj_s_lstore_n C I hd h kk
  | lstore k =>
    obtain rfl := pj_len (k := 2) hlen rfl (by decide)
    exact pj_s_lstore C I hd h kk
  | astore_n k =>
    obtain rfl := pj_len (k := 1) hlen rfl (by decide)
    exact pj_s_astore_n C I hd h kk
  | iinc k n =>
    obtain rfl := pj_len (k := 3) hlen rfl (by decide)
    exact pj_s_iinc C I hd h kk
  | iadd =>
    obtain rfl := pj_len (k := 1) hlen rfl (by decide)
    exact pj_s_iadd C I hd h kk
  | isub =>
    obtain rfl := pj_len (k := 1) hlen rfl (by decide)
    exact pj_s_isub C I hd h kk
  | imul =>
    obtain rfl := pj_len (k := 1) hlen rfl (by decide)
    exact pj_s_imul C I hd h kk
  | ineg =>
    obtain rfl := pj_len (k := 1) hlen rfl (by decide)
    exact pj_s_ineg C I hd h kk
  | idiv =>
    obtain rfl := pj_len (k := 1) hlen rfl (by decide)
    exact pj_s_idiv C I hd h kk
  | irem =>
    obtain rfl := pj_len (k := 1) hlen rfl (by decide)
    exact pj_s_irem C I hd h kk
  | iand =>
    obtain rfl := pj_len (k := 1) hlen rfl (by decide)
    exact pj_s_iand C I hd h kk
  | ior =>
    obtain rfl := pj_len (k := 1) hlen rfl (by decide)
    exact pj_s_ior C I hd h kk
  | ixor =>
    obtain rfl := pj_len (k := 1) hlen rfl (by decide)
    exact pj_s_ixor C I hd h kk
  | ishl =>
    obtain rfl := pj_len (k := 1) hlen rfl (by decide)
    exact pj_s_ishl C I hd h kk
  | ishr =>
    obtain rfl := pj_len (k := 1) hlen rfl (by decide)
    exact pj_s_ishr C I hd h kk
  | iushr =>
    obtain rfl := pj_len (k := 1) hlen rfl (by decide)
    exact pj_s_iushr C I hd h kk
  | i2l =>
    obtain rfl := pj_len (k := 1) hlen rfl (by decide)
    exact pj_s_i2l C I hd h kk
  | ladd =>
    obtain rfl := pj_len (k := 1) hlen rfl (by decide)
    exact pj_s_ladd C I hd h kk
  | lmul =>
    obtain rfl := pj_len (k := 1) hlen rfl (by decide)
    exact pj_s_lmul C I hd h kk
  | ldiv =>
    obtain rfl := pj_len (k := 1) hlen rfl (by decide)
    exact pj_s_ldiv C I hd h kk
  | lrem =>
    obtain rfl := pj_len (k := 1) hlen rfl (by decide)
    exact pj_s_lrem C I hd h kk
  | land =>
    obtain rfl := pj_len (k := 1) hlen rfl (by decide)
    exact pj_s_land C I hd h kk
  | lor =>
    obtain rfl := pj_len (k := 1) hlen rfl (by decide)
    exact pj_s_lor C I hd h kk
  | lshl =>
    obtain rfl := pj_len (k := 1) hlen rfl (by decide)
    exact pj_s_lshl C I hd h kk
  | lshr =>
    obtain rfl := pj_len (k := 1) hlen rfl (by decide)
    exact pj_s_lshr C I hd h kk
  | lcmp =>
    obtain rfl := pj_len (k := 1) hlen rfl (by decide)
    exact pj_s_lcmp C I hd h kk
  | dup =>
    obtain rfl := pj_len (k := 1) hlen rfl (by decide)
    exact pj_s_dup C I hd h kk
  | dup2 =>
    obtain rfl := pj_len (k := 1) hlen rfl (by decide)
    exact pj_s_dup2 C I hd h kk
  | pop =>
    obtain rfl := pj_len (k := 1) hlen rfl (by decide)
    exact pj_s_pop C I hd h kk
  | iaload =>
    obtain rfl := pj_len (k := 1) hlen rfl (by decide)
    exact pj_s_iaload C I hd h kk
  | baload =>
    obtain rfl := pj_len (k := 1) hlen rfl (by decide)
    exact pj_s_baload C I hd h kk
  | iastore =>
    obtain rfl := pj_len (k := 1) hlen rfl (by decide)
    exact pj_s_iastore C I hd h kk
  | bastore =>
    obtain rfl := pj_len (k := 1) hlen rfl (by decide)
    exact pj_s_bastore C I hd h kk
  | arraylength =>
    obtain rfl := pj_len (k := 1) hlen rfl (by decide)
    exact pj_s_alen C I hd h kk
  | goto off =>
    obtain rfl := pj_len (k := 3) hlen rfl (by decide)
    exact pj_s_goto C I hd h kk
  | if_icmp cd off =>
    obtain rfl := pj_len (k := 3) hlen rfl (by decide)
    exact pj_s_icmp C I hd h kk
  | ifCond cd off =>
    obtain rfl := pj_len (k := 3) hlen rfl (by decide)
    exact pj_s_ifc C I hd h kk
  | tableswitch d lo hi offs => exact pj_s_tsw C I hd h kk
  | bipush n =>
    obtain rfl := pj_len (k := 2) hlen rfl (by decide)
    exact pj_s_bipush C I hd (of_decide_eq_true hok) h kk
  | sipush n =>
    obtain rfl := pj_len (k := 3) hlen rfl (by decide)
    exact pj_s_sipush C I hd (of_decide_eq_true hok) h kk
  | ldc_w x =>
    obtain rfl := pj_len (k := 3) hlen rfl (by decide)
    exact pj_s_ldcw C I hd (pj_U7_m (List.mem_map.mpr ⟨_, of_decide_eq_true hok, rfl⟩)) h kk
  | ldc2_w x =>
    obtain rfl := pj_len (k := 3) hlen rfl (by decide)
    exact pj_s_ldc2w C I hd (pj_U8_m (List.mem_map.mpr ⟨_, of_decide_eq_true hok, rfl⟩)) h kk
  | getfield x =>
    obtain rfl := pj_len (k := 3) hlen rfl (by decide)
    simp only [pj_okI, Bool.and_eq_true, decide_eq_true_eq] at hok
    exact pj_s_getfield C I hd (pj_f_in hok.1) hok.2.1 hok.2.2.1 hok.2.2.2 h kk
  | putfield x =>
    obtain rfl := pj_len (k := 3) hlen rfl (by decide)
    simp only [pj_okI, Bool.and_eq_true, Bool.or_eq_true, decide_eq_true_eq] at hok
    exact pj_s_putfield C I hd (pj_f_in hok.1) hok.2.1 hok.2.2.1 hok.2.2.2.1 hok.2.2.2.2 h kk
  | invokespecial x =>
    obtain rfl := pj_len (k := 3) hlen rfl (by decide)
    simp only [pj_okI, Bool.or_eq_true, decide_eq_true_eq] at hok
    exact pj_s_objinit C I hf hlo hd (fun h4 => by
      rcases hok with q | q
      · omega
      · exact q.2) h kk
  | invokestatic x =>
    obtain rfl := pj_len (k := 3) hlen rfl (by decide)
    simp only [pj_okI, Bool.or_eq_true, decide_eq_true_eq] at hok
    exact pj_s_acopy C I hf hlo hd (fun h5 => by
      rcases hok with q | q
      · omega
      · exact q.2) h kk
  | _ => exact absurd (show (none : pj_O) = some _ from h) (fun q => nomatch q)
end PJN
theorem pj_x_inv {n d i pc : Nat} {loc stk : List pj_V} {sh sh' : List pj_S} {M M' : pj_M} {r : Option pj_V} (h : pj_x (n + 1) d i pc loc stk sh M = some (r, sh', M')) : ∃ ins len ta tb tc tv, pj_at i pc = some (ins, len, ta, tb, tc, tv) ∧
    ((∃ pc' loc' stk' M1, pj_n pc ins ta tb tc tv loc stk sh M = some (pc', loc', stk', M1) ∧ pj_x n d i pc' loc' stk' sh M1 = some (r, sh', M')) ∨
     (pj_r ins ta stk = some r ∧ sh' = sh ∧ M' = M) ∨
     (∃ pc' g st, pj_a pc ins tb stk = some (pc', g, st) ∧ pj_x n d i pc' loc (pj_vR sh.length :: st) (sh ++ [g]) (pj_new M sh.length g) = some (r, sh', M')) ∨
     (∃ d' j vs st r1 sh1 M1, d = d' + 1 ∧ pj_k ins ta tb tc stk sh = some (j, vs, st) ∧ (pj_args vs).length ≤ pj_L j ∧ pj_x n d' j 0 (pj_in j vs) [] sh M = some (r1, sh1, M1) ∧ pj_x n (d' + 1) i (pc + 3) loc (r1.toList ++ st) sh1 M1 = some (r, sh', M'))) := by
  rw [pj_x] at h
  split at h
  · cases h
  next ins len ta tb tc tv hat =>
    refine ⟨ins, len, ta, tb, tc, tv, hat, ?_⟩
    split at h
    next pc' loc' stk' M1 h1 => exact Or.inl ⟨pc', loc', stk', M1, h1, h⟩
    next =>
      split at h
      next r0 h2 =>
        cases h
        exact Or.inr (Or.inl ⟨h2, rfl, rfl⟩)
      next =>
        split at h
        next pc' g st h3 => exact Or.inr (Or.inr (Or.inl ⟨pc', g, st, h3, h⟩))
        next =>
          split at h
          next d' j vs st h4 =>
            split at h
            next hle =>
              split at h
              next r1 sh1 M1 h5 => exact Or.inr (Or.inr (Or.inr ⟨d', j, vs, st, r1, sh1, M1, rfl, h4, hle, h5, h⟩))
              next => cases h
            next => cases h
          next => cases h
theorem pj_x_mono : ∀ (n d i pc : Nat) (loc stk : List pj_V) (sh sh' : List pj_S) (M M' : pj_M) (r : Option pj_V), pj_x n d i pc loc stk sh M = some (r, sh', M') → ∃ t, sh' = sh ++ t := by
  intro n
  induction n with
  | zero =>
    intro d i pc loc stk sh sh' M M' r h
    rw [pj_x] at h
    cases h
  | succ n ih =>
    intro d i pc loc stk sh sh' M M' r h
    obtain ⟨ins, len, ta, tb, tc, tv, -, h1 | h1 | h1 | h1⟩ := pj_x_inv h
    · obtain ⟨pc', loc', stk', M1, -, h2⟩ := h1
      exact ih _ _ _ _ _ _ _ _ _ _ h2
    · exact ⟨[], by rw [h1.2.1, List.append_nil]⟩
    · obtain ⟨pc', g, st, -, h2⟩ := h1
      obtain ⟨t, ht⟩ := ih _ _ _ _ _ _ _ _ _ _ h2
      exact ⟨g :: t, by rw [ht, List.append_assoc]; rfl⟩
    · obtain ⟨d', j, vs, st, r1, sh1, M1, -, -, -, h2, h3⟩ := h1
      obtain ⟨t, ht⟩ := ih _ _ _ _ _ _ _ _ _ _ h2
      obtain ⟨t2, ht2⟩ := ih _ _ _ _ _ _ _ _ _ _ h3
      exact ⟨t ++ t2, by rw [ht2, ht, List.append_assoc]⟩
def pj_s1 (h : pj_S) : Nat := match h with
  | .inl ci => pj_N ci
  | .inr (_, n) => n
def pj_sz (sh : List pj_S) : Nat := (sh.map pj_s1).sum
theorem pj_sz_app (a t : List pj_S) : pj_sz (a ++ t) = pj_sz a + pj_sz t := by simp [pj_sz]
theorem pj_me_mem {j : Nat} (h : j < pj_nm) : pj_wM (pj_me j) ∈ pj_U := by
  have hl : pj_ms.length = pj_nm + 1 := by decide +kernel
  refine pj_U5_m (List.mem_cons_of_mem _ (List.mem_map.mpr ⟨_, ?_, rfl⟩))
  unfold pj_me
  rw [List.getD_eq_getElem?_getD, List.getElem?_eq_getElem (by omega)]
  have h' : j < 152 := h
  exact List.mem_take_iff_getElem.mpr ⟨j, by omega, rfl⟩
theorem pj_good_U (w : Cond) (h : w ∈ pj_U) : w ∈ pj_U ∧ ((w.onTables && w.keeps) = true ∨ ∃ ty, w = .arrayClass ty) := ⟨h, (pj_U_good w h).2⟩
theorem pj_good_M {j : Nat} (h : j < pj_nm) : GoodIn pj_U (pj_wM (pj_me j) :: pj_U) := fun w hw => by
  rcases List.mem_cons.mp hw with rfl | hw
  · exact pj_good_U _ (pj_me_mem h)
  · exact pj_good_U _ hw
theorem pj_new_ne {M : pj_M} {a z : Nat} {h : pj_S} (hz : z ≠ a) : pj_new M a h z = M z := by
  funext j
  simp [pj_new, hz]
theorem pj_new_self {M : pj_M} {a : Nat} {h : pj_S} : pj_new M a h a = pj_def h := by
  funext j
  simp [pj_new]
section PJA
variable {p : Program} {l : Launch} {e : Env} {R : Room} {s : State} {m : MethodId} {args : Array Value} {below : List Frame} {meth : Method} {c : Code} {H : Heap} {locs : List Loc} {cells slots : Nat} {Q : State → Prop}
variable {cI cZ : ClassId} {dC : Nat → ClassId} {dI : Nat → Nat → Nat} {b base L : Nat} {xs : Nat → Int32} {i pc pc' len ta tb tc : Nat} {tv : Int} {ls : Array Slot} {loc loc' stk stk' : List pj_V} {sh : List pj_S} {M M' : pj_M} {ins : Instr}
theorem pj_Iv.push (I : pj_Iv cI cZ dC dI b base L xs s i H locs ls loc sh M) {g : pj_S} {H1 : Heap} (he : va_at (dC, dI) pj_cl (H.size, pj_cell (pj_ad b base) cI cZ g (pj_def g)) H1) (hz : H1.size = H.size + 1) (oq : ∀ q : Nat, q < H.size → H1[q]? = H[q]?) : pj_Iv cI cZ dC dI b base L xs s i H1 locs ls loc (sh ++ [g]) (pj_new M sh.length g) ∧ pj_ad b base sh.length = H.size := by
  obtain ⟨hP, hS, hsz, hl, hln, h0, hx⟩ := I
  have hs : 0 < sh.length := (List.getElem?_eq_some_iff.mp h0).1
  have had : pj_ad b base sh.length = H.size := by
    obtain ⟨k, hk⟩ : ∃ k, sh.length = k + 1 := ⟨sh.length - 1, by omega⟩
    rw [hk]
    show base + k = H.size
    omega
  refine ⟨⟨?_, ⟨by rw [hz]; exact Nat.le_succ_of_le hS.1, fun q h1 h2 => by rw [oq q (Nat.lt_of_lt_of_le h1 hS.1)]; exact hS.2.1 q h1 h2, hS.2.2⟩, by rw [hz, List.length_append]; show H.size + 1 + 1 = base + (sh.length + 1); omega, hl, hln, by rw [List.getElem?_append_left hs]; exact h0, fun j hj => by rw [pj_new_ne (by omega)]; exact hx j hj⟩, had⟩
  rw [pj_ws_push hs (fun a ha => pj_new_ne ha), pj_new_self, had]
  refine (hP.kept (fun k q hk => oq q.1 ((hP k q hk).lt))).app (fun k q hk => ?_)
  have hk1 : k < 1 := (List.getElem?_eq_some_iff.mp hk).1
  rw [show k = 0 by omega] at hk
  cases hk
  exact he
theorem pj_astep (C : pj_Cx cI cZ dC dI b base L xs p s m args meth c i) (I : pj_Iv cI cZ dC dI b base L xs s i H locs ls loc sh M) (hcl : cells + 1 ≤ R.cells) (hat : pj_at i pc = some (ins, len, ta, tb, tc, tv)) {g : pj_S} {st : List pj_V} (h : pj_a pc ins tb stk = some (pc', g, st)) (hsl : slots + pj_s1 g ≤ R.slots)
    (kk : ∀ H1 : Heap, pj_Iv cI cZ dC dI b base L xs s i H1 locs ls loc (sh ++ [g]) (pj_new M sh.length g) → W p l e R s m args below meth c H1 locs (cells + 1) (slots + pj_s1 g) Q (F0 m pc' ls ((pj_vR sh.length :: st).map (pj_tv (pj_ad b base))))) : W p l e R s m args below meth c H locs cells slots Q (F0 m pc ls (stk.map (pj_tv (pj_ad b base)))) := by
  obtain ⟨hd, hlen, hok⟩ := pj_at_ok C.2.2.2.2.2.2.2.2.2.2.2 hat
  have hnt : ∀ q ∈ pj_ntab, q.2.2 < 8 := by decide +kernel
  cases ins with
  | new x =>
    obtain rfl := pj_len (k := 3) hlen rfl (by decide)
    cases h
    have hm : (pj_own i, x, tb) ∈ pj_ntab := of_decide_eq_true hok
    have hb8 : tb < 8 := hnt _ hm
    have hw : ∀ w ∈ pj_wN (pj_own i, x, tb), w ∈ pj_U := fun w hw => pj_U6_m (List.mem_flatMap.mpr ⟨_, hm, hw⟩)
    obtain ⟨hC1, hC2, -, hown, hts, -, hK, -⟩ := C
    have hKn := hK.1 tb _ (pj_cl_at tb hb8)
    refine W.newcK hC1 hC2 hown (hts _ (hw _ List.mem_cons_self)) (hts _ (hw _ (List.mem_cons_of_mem _ List.mem_cons_self))) (hts _ (hw _ (List.mem_cons_of_mem _ (List.mem_cons_of_mem _ List.mem_cons_self)))) rfl hd hcl hsl hKn.2.1 rfl fun H1 kC hkC e1 z1 o1 => ?_
    have hborn : va_at (dC, dI) pj_cl (H.size, pj_cell (pj_ad b base) cI cZ (.inl tb) (pj_def (.inl tb))) H1 := by
      refine ⟨_, pj_cl_at tb hb8, (u_born (pj_ty tb) hts (pj_lay_in hb8) hKn hkC e1 (pj_ty_ok tb hb8)).to ?_⟩
      · intro j hj
        show _ = vp_V _ j
        unfold vp_V
        rw [List.getD_eq_getElem?_getD, pj_fs_at hj]
        have hft : pj_ft tb j = (match pj_ty tb j with
            | .int => 0
            | .long => 1
            | .boolean => 3
            | .object _ => 2
            | .array _ => 2
            | _ => 4) := rfl
        have hlt := pj_ft_ok tb hb8 j hj
        have hdf : pj_def (.inl tb) j = if pj_ft tb j = 2 then -1 else 0 := rfl
        rw [hdf]
        rw [hft] at hlt ⊢
        cases hy : pj_ty tb j with
        | int => rfl
        | long => rfl
        | boolean => rfl
        | object _ => rfl
        | array _ => rfl
        | byte => rw [hy] at hlt; exact absurd hlt (by decide)
        | char => rw [hy] at hlt; exact absurd hlt (by decide)
        | short => rw [hy] at hlt; exact absurd hlt (by decide)
        | float => rw [hy] at hlt; exact absurd hlt (by decide)
        | double => rw [hy] at hlt; exact absurd hlt (by decide)
    obtain ⟨I1, had⟩ := I.push hborn z1 o1
    have kk1 := kk H1 I1
    simp only [List.map_cons, pj_tv, had] at kk1
    exact kk1
  | newarray t =>
    obtain rfl := pj_len (k := 2) hlen rfl (by decide)
    match stk, h with
    | .inl x :: st', h =>
      simp only [pj_a] at h
      split at h
      next hx =>
        obtain ⟨hC1, hC2, -, hown, hts, -, hK, -⟩ := C
        have hnrm : (Int32.ofInt x).toInt = x := Int32.toInt_ofInt_of_le (by omega) (by omega)
        have hneg : ¬ Int32.ofInt x < 0 := fun q => by
          have := (pj_zlt x).mpr q
          unfold pj_nrm at this
          omega
        have hN : (Int32.ofInt x).toNatClampNeg = x.toNat := by
          show (Int32.ofInt x).toInt.toNat = _
          rw [hnrm]
        split at h
        next =>
          cases h
          refine va_newaK (n := Int32.ofInt x) (N := x.toNat) hC1 hC2 (atype := .int) (hts _ (pj_U0_m (List.mem_cons_of_mem _ List.mem_cons_self))) rfl hd rfl hneg hN (by show x.toNat * 4 ≤ _; omega) hcl hsl rfl fun H1 cA e1 z1 o1 _ hfc => ?_
          have hcA : cA = cI := Option.some.inj (hfc.symm.trans (hK.2 0 _ rfl).2)
          subst hcA
          obtain ⟨I1, had⟩ := I.push (g := .inr (0, x.toNat)) (H1 := H1) e1 z1 o1
          have kk1 := kk H1 I1
          simp only [List.map_cons, pj_tv, had] at kk1
          exact kk1
        next =>
          cases h
          refine va_newaK (n := Int32.ofInt x) (N := x.toNat) hC1 hC2 (atype := .boolean) (hts _ (pj_U0_m (List.mem_cons_of_mem _ (List.mem_cons_of_mem _ List.mem_cons_self)))) rfl hd rfl hneg hN (by show x.toNat * 1 ≤ _; omega) hcl hsl rfl fun H1 cA e1 z1 o1 _ hfc => ?_
          have hcA : cA = cZ := Option.some.inj (hfc.symm.trans (hK.2 1 _ rfl).2)
          subst hcA
          obtain ⟨I1, had⟩ := I.push (g := .inr (1, x.toNat)) (H1 := H1) e1 z1 o1
          have kk1 := kk H1 I1
          simp only [List.map_cons, pj_tv, had] at kk1
          exact kk1
        next => cases h
      next => cases h
  | _ => exact absurd (show (none : Option (Nat × pj_S × List pj_V)) = some _ from h) (fun q => nomatch q)
end PJA
