/-! EACH INSTRUCTION of the pure machine that goes on in its method is one of the machine's. -/
def pj_Cx (cI cZ : ClassId) (dC : Nat → ClassId) (dI : Nat → Nat → Nat) (b base L : Nat) (xs : Nat → Int32) (p : Program) (s : State) (m : MethodId) (args : Array Value) (meth : Method) (c : Code) (i : Nat) : Prop :=
  p.tables.exec = Jvm.exec ∧ c.code = pj_b i ∧ c.maxLocals = pj_L i ∧ s.vm.findClass (pj_Rn (pj_own i)) = some m.cls ∧ (∀ w ∈ pj_U, w.before args s = true) ∧ ((pj_y i).name = "<init>" → meth.name = "<init>") ∧ va_K (dC, dI) pj_cl [(cI, .int), (cZ, .boolean)] s ∧ va_X b L xs s s.heap ∧ b < base ∧ base ≤ s.heap.size ∧ (∀ w ∈ pj_nest, va_Nw w s) ∧ i < pj_nm + 1
def pj_Iv (cI cZ : ClassId) (dC : Nat → ClassId) (dI : Nat → Nat → Nat) (b base L : Nat) (xs : Nat → Int32) (s : State) (i : Nat) (H : Heap) (locs : List Loc) (ls : Array Slot) (loc : List pj_V) (sh : List pj_S) (M : pj_M) : Prop :=
  va_P (dC, dI) pj_cl (pj_ws (pj_ad b base) cI cZ sh M) H ∧ va_S (fun q : Nat => base ≤ q) s.heap H locs ∧ H.size + 1 = base + sh.length ∧ lv_has ls (pj_L i) (pj_ll (pj_ad b base) loc) ∧ loc.length = pj_L i ∧ sh[0]? = some (.inr (0, L)) ∧ ∀ j, j < L → Int32.ofInt (M 0 j) = xs j
theorem pj_zeq (x : Int) : pj_nrm x = 0 ↔ Int32.ofInt x = 0 := by
  rw [← Int32.toInt_inj]; exact Iff.rfl
theorem pj_zne (x : Int) : pj_nrm x ≠ 0 ↔ ¬ Int32.ofInt x = 0 := not_congr (pj_zeq x)
theorem pj_zlt (x : Int) : pj_nrm x < 0 ↔ Int32.ofInt x < 0 := by
  rw [Int32.lt_iff_toInt_lt]; exact Iff.rfl
theorem pj_zge (x : Int) : 0 ≤ pj_nrm x ↔ 0 ≤ Int32.ofInt x := by
  rw [Int32.le_iff_toInt_le]; exact Iff.rfl
theorem pj_zgt (x : Int) : 0 < pj_nrm x ↔ 0 < Int32.ofInt x := by
  rw [Int32.lt_iff_toInt_lt]; exact Iff.rfl
theorem pj_zle (x : Int) : pj_nrm x ≤ 0 ↔ Int32.ofInt x ≤ 0 := by
  rw [Int32.le_iff_toInt_le]; exact Iff.rfl
section PJS
variable {p : Program} {l : Launch} {e : Env} {R : Room} {s : State} {m : MethodId} {args : Array Value} {below : List Frame} {meth : Method} {c : Code} {H : Heap} {locs : List Loc} {cells slots : Nat} {Q : State → Prop}
variable {cI cZ : ClassId} {dC : Nat → ClassId} {dI : Nat → Nat → Nat} {b base L : Nat} {xs : Nat → Int32} {i pc pc' ta tb tc : Nat} {tv : Int} {ls : Array Slot} {loc loc' stk stk' : List pj_V} {sh : List pj_S} {M M' : pj_M}
theorem pj_Iv.lo (I : pj_Iv cI cZ dC dI b base L xs s i H locs ls loc sh M) {ls' : Array Slot} {l' : List pj_V} (h : lv_has ls' (pj_L i) (pj_ll (pj_ad b base) l')) (hl : l'.length = loc.length) : pj_Iv cI cZ dC dI b base L xs s i H locs ls' l' sh M := ⟨I.1, I.2.1, I.2.2.1, h, hl.trans I.2.2.2.2.1, I.2.2.2.2.2.1, I.2.2.2.2.2.2⟩
theorem pj_s_iconst {n : Int} (C : pj_Cx cI cZ dC dI b base L xs p s m args meth c i) (I : pj_Iv cI cZ dC dI b base L xs s i H locs ls loc sh M) (hd : decode (pj_b i) pc = .ok (.iconst n, 1))  (h : pj_n pc (.iconst n) ta tb tc tv loc stk sh M = some (pc', loc', stk', M')) (kk : ∀ (H1 : Heap) (locs1 : List Loc) (ls1 : Array Slot), pj_Iv cI cZ dC dI b base L xs s i H1 locs1 ls1 loc' sh M' → W p l e R s m args below meth c H1 locs1 cells slots Q (F0 m pc' ls1 (stk'.map (pj_tv (pj_ad b base))))) : W p l e R s m args below meth c H locs cells slots Q (F0 m pc ls (stk.map (pj_tv (pj_ad b base)))) := by
  cases h
  refine lv_iconst C.1 C.2.1 hd rfl ?_
  exact kk H locs ls I
theorem pj_s_bipush {n : Int} (C : pj_Cx cI cZ dC dI b base L xs p s m args meth c i) (I : pj_Iv cI cZ dC dI b base L xs s i H locs ls loc sh M) (hd : decode (pj_b i) pc = .ok (.bipush n, 2)) (hv : (Int8.ofInt n).toInt32 = Int32.ofInt n) (h : pj_n pc (.bipush n) ta tb tc tv loc stk sh M = some (pc', loc', stk', M')) (kk : ∀ (H1 : Heap) (locs1 : List Loc) (ls1 : Array Slot), pj_Iv cI cZ dC dI b base L xs s i H1 locs1 ls1 loc' sh M' → W p l e R s m args below meth c H1 locs1 cells slots Q (F0 m pc' ls1 (stk'.map (pj_tv (pj_ad b base))))) : W p l e R s m args below meth c H locs cells slots Q (F0 m pc ls (stk.map (pj_tv (pj_ad b base)))) := by
  cases h
  refine lv_bipush C.1 C.2.1 hd hv ?_
  exact kk H locs ls I
theorem pj_s_sipush {n : Int} (C : pj_Cx cI cZ dC dI b base L xs p s m args meth c i) (I : pj_Iv cI cZ dC dI b base L xs s i H locs ls loc sh M) (hd : decode (pj_b i) pc = .ok (.sipush n, 3)) (hv : (Int16.ofInt n).toInt32 = Int32.ofInt n) (h : pj_n pc (.sipush n) ta tb tc tv loc stk sh M = some (pc', loc', stk', M')) (kk : ∀ (H1 : Heap) (locs1 : List Loc) (ls1 : Array Slot), pj_Iv cI cZ dC dI b base L xs s i H1 locs1 ls1 loc' sh M' → W p l e R s m args below meth c H1 locs1 cells slots Q (F0 m pc' ls1 (stk'.map (pj_tv (pj_ad b base))))) : W p l e R s m args below meth c H locs cells slots Q (F0 m pc ls (stk.map (pj_tv (pj_ad b base)))) := by
  cases h
  refine lv_sipush C.1 C.2.1 hd hv ?_
  exact kk H locs ls I
theorem pj_s_lconst {n : Fin 2} (C : pj_Cx cI cZ dC dI b base L xs p s m args meth c i) (I : pj_Iv cI cZ dC dI b base L xs s i H locs ls loc sh M) (hd : decode (pj_b i) pc = .ok (.lconst n, 1))  (h : pj_n pc (.lconst n) ta tb tc tv loc stk sh M = some (pc', loc', stk', M')) (kk : ∀ (H1 : Heap) (locs1 : List Loc) (ls1 : Array Slot), pj_Iv cI cZ dC dI b base L xs s i H1 locs1 ls1 loc' sh M' → W p l e R s m args below meth c H1 locs1 cells slots Q (F0 m pc' ls1 (stk'.map (pj_tv (pj_ad b base))))) : W p l e R s m args below meth c H locs cells slots Q (F0 m pc ls (stk.map (pj_tv (pj_ad b base)))) := by
  cases h
  refine lv_lconst C.1 C.2.1 hd rfl ?_
  exact W.eq (by simp [pj_tv, Int64.ofInt_eq_ofNat]) (kk H locs ls I)
theorem pj_s_ldcw {x : Nat} (C : pj_Cx cI cZ dC dI b base L xs p s m args meth c i) (I : pj_Iv cI cZ dC dI b base L xs s i H locs ls loc sh M) (hd : decode (pj_b i) pc = .ok (.ldc_w x, 3)) (hv : (Cond.constant (pj_Rn (pj_own i)) x (Int32.ofInt tv)) ∈ pj_U) (h : pj_n pc (.ldc_w x) ta tb tc tv loc stk sh M = some (pc', loc', stk', M')) (kk : ∀ (H1 : Heap) (locs1 : List Loc) (ls1 : Array Slot), pj_Iv cI cZ dC dI b base L xs s i H1 locs1 ls1 loc' sh M' → W p l e R s m args below meth c H1 locs1 cells slots Q (F0 m pc' ls1 (stk'.map (pj_tv (pj_ad b base))))) : W p l e R s m args below meth c H locs cells slots Q (F0 m pc ls (stk.map (pj_tv (pj_ad b base)))) := by
  cases h
  refine lv_ldcw C.1 C.2.1 C.2.2.2.1 (C.2.2.2.2.1 _ hv) hd ?_
  exact kk H locs ls I
theorem pj_s_ldc2w {x : Nat} (C : pj_Cx cI cZ dC dI b base L xs p s m args meth c i) (I : pj_Iv cI cZ dC dI b base L xs s i H locs ls loc sh M) (hd : decode (pj_b i) pc = .ok (.ldc2_w x, 3)) (hv : (Cond.constantLong (pj_Rn (pj_own i)) x (Int64.ofInt tv)) ∈ pj_U) (h : pj_n pc (.ldc2_w x) ta tb tc tv loc stk sh M = some (pc', loc', stk', M')) (kk : ∀ (H1 : Heap) (locs1 : List Loc) (ls1 : Array Slot), pj_Iv cI cZ dC dI b base L xs s i H1 locs1 ls1 loc' sh M' → W p l e R s m args below meth c H1 locs1 cells slots Q (F0 m pc' ls1 (stk'.map (pj_tv (pj_ad b base))))) : W p l e R s m args below meth c H locs cells slots Q (F0 m pc ls (stk.map (pj_tv (pj_ad b base)))) := by
  cases h
  refine lv_ldc2 C.1 C.2.1 C.2.2.2.1 (C.2.2.2.2.1 _ hv) hd ?_
  exact kk H locs ls I
theorem pj_s_iload_n {k : Fin 4} (C : pj_Cx cI cZ dC dI b base L xs p s m args meth c i) (I : pj_Iv cI cZ dC dI b base L xs s i H locs ls loc sh M) (hd : decode (pj_b i) pc = .ok (.iload_n k, 1))  (h : pj_n pc (.iload_n k) ta tb tc tv loc stk sh M = some (pc', loc', stk', M')) (kk : ∀ (H1 : Heap) (locs1 : List Loc) (ls1 : Array Slot), pj_Iv cI cZ dC dI b base L xs s i H1 locs1 ls1 loc' sh M' → W p l e R s m args below meth c H1 locs1 cells slots Q (F0 m pc' ls1 (stk'.map (pj_tv (pj_ad b base))))) : W p l e R s m args below meth c H locs cells slots Q (F0 m pc ls (stk.map (pj_tv (pj_ad b base)))) := by
  obtain ⟨x, hx, h1⟩ := pj_lI_some h
  cases h1
  refine lv_iload_n C.1 C.2.1 hd rfl (pj_lget I.2.2.2.1 hx (by simp)) ?_
  exact kk H locs ls I
theorem pj_s_iload {k : Nat} (C : pj_Cx cI cZ dC dI b base L xs p s m args meth c i) (I : pj_Iv cI cZ dC dI b base L xs s i H locs ls loc sh M) (hd : decode (pj_b i) pc = .ok (.iload k, 2))  (h : pj_n pc (.iload k) ta tb tc tv loc stk sh M = some (pc', loc', stk', M')) (kk : ∀ (H1 : Heap) (locs1 : List Loc) (ls1 : Array Slot), pj_Iv cI cZ dC dI b base L xs s i H1 locs1 ls1 loc' sh M' → W p l e R s m args below meth c H1 locs1 cells slots Q (F0 m pc' ls1 (stk'.map (pj_tv (pj_ad b base))))) : W p l e R s m args below meth c H locs cells slots Q (F0 m pc ls (stk.map (pj_tv (pj_ad b base)))) := by
  obtain ⟨x, hx, h1⟩ := pj_lI_some h
  cases h1
  refine lv_iload C.1 C.2.1 hd (pj_lget I.2.2.2.1 hx (by simp)) ?_
  exact kk H locs ls I
theorem pj_s_lload_n {k : Fin 4} (C : pj_Cx cI cZ dC dI b base L xs p s m args meth c i) (I : pj_Iv cI cZ dC dI b base L xs s i H locs ls loc sh M) (hd : decode (pj_b i) pc = .ok (.lload_n k, 1))  (h : pj_n pc (.lload_n k) ta tb tc tv loc stk sh M = some (pc', loc', stk', M')) (kk : ∀ (H1 : Heap) (locs1 : List Loc) (ls1 : Array Slot), pj_Iv cI cZ dC dI b base L xs s i H1 locs1 ls1 loc' sh M' → W p l e R s m args below meth c H1 locs1 cells slots Q (F0 m pc' ls1 (stk'.map (pj_tv (pj_ad b base))))) : W p l e R s m args below meth c H locs cells slots Q (F0 m pc ls (stk.map (pj_tv (pj_ad b base)))) := by
  obtain ⟨x, hx, h1⟩ := pj_lL_some h
  cases h1
  refine lv_lload_n C.1 C.2.1 hd rfl (pj_lget I.2.2.2.1 hx (by simp)) ?_
  exact kk H locs ls I
theorem pj_s_lload {k : Nat} (C : pj_Cx cI cZ dC dI b base L xs p s m args meth c i) (I : pj_Iv cI cZ dC dI b base L xs s i H locs ls loc sh M) (hd : decode (pj_b i) pc = .ok (.lload k, 2))  (h : pj_n pc (.lload k) ta tb tc tv loc stk sh M = some (pc', loc', stk', M')) (kk : ∀ (H1 : Heap) (locs1 : List Loc) (ls1 : Array Slot), pj_Iv cI cZ dC dI b base L xs s i H1 locs1 ls1 loc' sh M' → W p l e R s m args below meth c H1 locs1 cells slots Q (F0 m pc' ls1 (stk'.map (pj_tv (pj_ad b base))))) : W p l e R s m args below meth c H locs cells slots Q (F0 m pc ls (stk.map (pj_tv (pj_ad b base)))) := by
  obtain ⟨x, hx, h1⟩ := pj_lL_some h
  cases h1
  refine lv_lload C.1 C.2.1 hd (pj_lget I.2.2.2.1 hx (by simp)) ?_
  exact kk H locs ls I
theorem pj_s_aload_n {k : Fin 4} (C : pj_Cx cI cZ dC dI b base L xs p s m args meth c i) (I : pj_Iv cI cZ dC dI b base L xs s i H locs ls loc sh M) (hd : decode (pj_b i) pc = .ok (.aload_n k, 1))  (h : pj_n pc (.aload_n k) ta tb tc tv loc stk sh M = some (pc', loc', stk', M')) (kk : ∀ (H1 : Heap) (locs1 : List Loc) (ls1 : Array Slot), pj_Iv cI cZ dC dI b base L xs s i H1 locs1 ls1 loc' sh M' → W p l e R s m args below meth c H1 locs1 cells slots Q (F0 m pc' ls1 (stk'.map (pj_tv (pj_ad b base))))) : W p l e R s m args below meth c H locs cells slots Q (F0 m pc ls (stk.map (pj_tv (pj_ad b base)))) := by
  obtain ⟨x, hx, h1⟩ := pj_lR_some h
  cases h1
  refine lv_aload_n C.1 C.2.1 hd rfl (pj_lget I.2.2.2.1 hx (by simp)) ?_
  exact kk H locs ls I
theorem pj_s_istore_n {k : Fin 4} (C : pj_Cx cI cZ dC dI b base L xs p s m args meth c i) (I : pj_Iv cI cZ dC dI b base L xs s i H locs ls loc sh M) (hd : decode (pj_b i) pc = .ok (.istore_n k, 1))  (h : pj_n pc (.istore_n k) ta tb tc tv loc stk sh M = some (pc', loc', stk', M')) (kk : ∀ (H1 : Heap) (locs1 : List Loc) (ls1 : Array Slot), pj_Iv cI cZ dC dI b base L xs s i H1 locs1 ls1 loc' sh M' → W p l e R s m args below meth c H1 locs1 cells slots Q (F0 m pc' ls1 (stk'.map (pj_tv (pj_ad b base))))) : W p l e R s m args below meth c H locs cells slots Q (F0 m pc ls (stk.map (pj_tv (pj_ad b base)))) := by
  obtain ⟨x, st, rfl, h1⟩ := pj_1I_some h
  obtain ⟨hk, hp, h2⟩ := pj_set_some h1
  cases h2
  refine lv_istore_n C.1 C.2.1 hd rfl I.2.2.2.1 (by rw [← I.2.2.2.2.1]; exact hk) rfl (fun ls' hl' => ?_)
  exact kk H locs ls' (I.lo (pj_st1 rfl hp hl') (by simp))
theorem pj_s_istore {k : Nat} (C : pj_Cx cI cZ dC dI b base L xs p s m args meth c i) (I : pj_Iv cI cZ dC dI b base L xs s i H locs ls loc sh M) (hd : decode (pj_b i) pc = .ok (.istore k, 2))  (h : pj_n pc (.istore k) ta tb tc tv loc stk sh M = some (pc', loc', stk', M')) (kk : ∀ (H1 : Heap) (locs1 : List Loc) (ls1 : Array Slot), pj_Iv cI cZ dC dI b base L xs s i H1 locs1 ls1 loc' sh M' → W p l e R s m args below meth c H1 locs1 cells slots Q (F0 m pc' ls1 (stk'.map (pj_tv (pj_ad b base))))) : W p l e R s m args below meth c H locs cells slots Q (F0 m pc ls (stk.map (pj_tv (pj_ad b base)))) := by
  obtain ⟨x, st, rfl, h1⟩ := pj_1I_some h
  obtain ⟨hk, hp, h2⟩ := pj_set_some h1
  cases h2
  refine lv_istore C.1 C.2.1 hd I.2.2.2.1 (by rw [← I.2.2.2.2.1]; exact hk) rfl (fun ls' hl' => ?_)
  exact kk H locs ls' (I.lo (pj_st1 rfl hp hl') (by simp))
theorem pj_s_astore_n {k : Fin 4} (C : pj_Cx cI cZ dC dI b base L xs p s m args meth c i) (I : pj_Iv cI cZ dC dI b base L xs s i H locs ls loc sh M) (hd : decode (pj_b i) pc = .ok (.astore_n k, 1))  (h : pj_n pc (.astore_n k) ta tb tc tv loc stk sh M = some (pc', loc', stk', M')) (kk : ∀ (H1 : Heap) (locs1 : List Loc) (ls1 : Array Slot), pj_Iv cI cZ dC dI b base L xs s i H1 locs1 ls1 loc' sh M' → W p l e R s m args below meth c H1 locs1 cells slots Q (F0 m pc' ls1 (stk'.map (pj_tv (pj_ad b base))))) : W p l e R s m args below meth c H locs cells slots Q (F0 m pc ls (stk.map (pj_tv (pj_ad b base)))) := by
  obtain ⟨x, st, rfl, h1⟩ := pj_1R_some h
  obtain ⟨hk, hp, h2⟩ := pj_set_some h1
  cases h2
  refine lv_astore_n C.1 C.2.1 hd rfl I.2.2.2.1 (by rw [← I.2.2.2.2.1]; exact hk) rfl (fun ls' hl' => ?_)
  exact kk H locs ls' (I.lo (pj_st1 rfl hp hl') (by simp))
theorem pj_s_lstore_n {k : Fin 4} (C : pj_Cx cI cZ dC dI b base L xs p s m args meth c i) (I : pj_Iv cI cZ dC dI b base L xs s i H locs ls loc sh M) (hd : decode (pj_b i) pc = .ok (.lstore_n k, 1))  (h : pj_n pc (.lstore_n k) ta tb tc tv loc stk sh M = some (pc', loc', stk', M')) (kk : ∀ (H1 : Heap) (locs1 : List Loc) (ls1 : Array Slot), pj_Iv cI cZ dC dI b base L xs s i H1 locs1 ls1 loc' sh M' → W p l e R s m args below meth c H1 locs1 cells slots Q (F0 m pc' ls1 (stk'.map (pj_tv (pj_ad b base))))) : W p l e R s m args below meth c H locs cells slots Q (F0 m pc ls (stk.map (pj_tv (pj_ad b base)))) := by
  obtain ⟨x, st, rfl, h1⟩ := pj_1L_some h
  obtain ⟨hk, hp, h2⟩ := pj_set2_some h1
  cases h2
  refine lv_lstore_n C.1 C.2.1 hd rfl I.2.2.2.1 (by rw [← I.2.2.2.2.1]; exact hk) rfl (fun ls' hl' => ?_)
  exact kk H locs ls' (I.lo (pj_st2 rfl hp hl') (by simp))
theorem pj_s_lstore {k : Nat} (C : pj_Cx cI cZ dC dI b base L xs p s m args meth c i) (I : pj_Iv cI cZ dC dI b base L xs s i H locs ls loc sh M) (hd : decode (pj_b i) pc = .ok (.lstore k, 2))  (h : pj_n pc (.lstore k) ta tb tc tv loc stk sh M = some (pc', loc', stk', M')) (kk : ∀ (H1 : Heap) (locs1 : List Loc) (ls1 : Array Slot), pj_Iv cI cZ dC dI b base L xs s i H1 locs1 ls1 loc' sh M' → W p l e R s m args below meth c H1 locs1 cells slots Q (F0 m pc' ls1 (stk'.map (pj_tv (pj_ad b base))))) : W p l e R s m args below meth c H locs cells slots Q (F0 m pc ls (stk.map (pj_tv (pj_ad b base)))) := by
  obtain ⟨x, st, rfl, h1⟩ := pj_1L_some h
  obtain ⟨hk, hp, h2⟩ := pj_set2_some h1
  cases h2
  refine lv_lstore C.1 C.2.1 hd I.2.2.2.1 (by rw [← I.2.2.2.2.1]; exact hk) rfl (fun ls' hl' => ?_)
  exact kk H locs ls' (I.lo (pj_st2 rfl hp hl') (by simp))
theorem pj_s_iinc {k : Nat} {n : Int} (C : pj_Cx cI cZ dC dI b base L xs p s m args meth c i) (I : pj_Iv cI cZ dC dI b base L xs s i H locs ls loc sh M) (hd : decode (pj_b i) pc = .ok (.iinc k n, 3))  (h : pj_n pc (.iinc k n) ta tb tc tv loc stk sh M = some (pc', loc', stk', M')) (kk : ∀ (H1 : Heap) (locs1 : List Loc) (ls1 : Array Slot), pj_Iv cI cZ dC dI b base L xs s i H1 locs1 ls1 loc' sh M' → W p l e R s m args below meth c H1 locs1 cells slots Q (F0 m pc' ls1 (stk'.map (pj_tv (pj_ad b base))))) : W p l e R s m args below meth c H locs cells slots Q (F0 m pc ls (stk.map (pj_tv (pj_ad b base)))) := by
  obtain ⟨x, hx, h1⟩ := pj_lI_some h
  obtain ⟨hk, hp, h2⟩ := pj_set_some h1
  cases h2
  have hm : (k, Value.int (Int32.ofInt x)) ∈ pj_ll (pj_ad b base) loc := pj_ll_mem.mpr ⟨.inl x, hx, by simp, rfl⟩
  obtain ⟨z, hz⟩ := List.getElem?_of_mem hm
  refine lv_iinc (v := Int32.ofInt (x + n)) C.1 C.2.1 hd I.2.2.2.1 hz (by rw [Int32.ofInt_add]) (by rw [← I.2.2.2.2.1]; exact hk) rfl (fun ls' hl' => ?_)
  exact kk H locs ls' (I.lo (pj_st1 rfl hp hl') (by simp))
theorem pj_s_iadd  (C : pj_Cx cI cZ dC dI b base L xs p s m args meth c i) (I : pj_Iv cI cZ dC dI b base L xs s i H locs ls loc sh M) (hd : decode (pj_b i) pc = .ok (.iadd, 1))  (h : pj_n pc (.iadd) ta tb tc tv loc stk sh M = some (pc', loc', stk', M')) (kk : ∀ (H1 : Heap) (locs1 : List Loc) (ls1 : Array Slot), pj_Iv cI cZ dC dI b base L xs s i H1 locs1 ls1 loc' sh M' → W p l e R s m args below meth c H1 locs1 cells slots Q (F0 m pc' ls1 (stk'.map (pj_tv (pj_ad b base))))) : W p l e R s m args below meth c H locs cells slots Q (F0 m pc ls (stk.map (pj_tv (pj_ad b base)))) := by
  obtain ⟨x, y, st, rfl, h1⟩ := pj_2I_some h
  cases h1
  refine lv_iadd C.1 C.2.1 hd ?_
  exact W.eq (by simp [pj_tv]) (kk H locs ls I)
theorem pj_s_isub  (C : pj_Cx cI cZ dC dI b base L xs p s m args meth c i) (I : pj_Iv cI cZ dC dI b base L xs s i H locs ls loc sh M) (hd : decode (pj_b i) pc = .ok (.isub, 1))  (h : pj_n pc (.isub) ta tb tc tv loc stk sh M = some (pc', loc', stk', M')) (kk : ∀ (H1 : Heap) (locs1 : List Loc) (ls1 : Array Slot), pj_Iv cI cZ dC dI b base L xs s i H1 locs1 ls1 loc' sh M' → W p l e R s m args below meth c H1 locs1 cells slots Q (F0 m pc' ls1 (stk'.map (pj_tv (pj_ad b base))))) : W p l e R s m args below meth c H locs cells slots Q (F0 m pc ls (stk.map (pj_tv (pj_ad b base)))) := by
  obtain ⟨x, y, st, rfl, h1⟩ := pj_2I_some h
  cases h1
  refine lv_isub C.1 C.2.1 hd ?_
  exact W.eq (by simp [pj_tv]) (kk H locs ls I)
theorem pj_s_imul  (C : pj_Cx cI cZ dC dI b base L xs p s m args meth c i) (I : pj_Iv cI cZ dC dI b base L xs s i H locs ls loc sh M) (hd : decode (pj_b i) pc = .ok (.imul, 1))  (h : pj_n pc (.imul) ta tb tc tv loc stk sh M = some (pc', loc', stk', M')) (kk : ∀ (H1 : Heap) (locs1 : List Loc) (ls1 : Array Slot), pj_Iv cI cZ dC dI b base L xs s i H1 locs1 ls1 loc' sh M' → W p l e R s m args below meth c H1 locs1 cells slots Q (F0 m pc' ls1 (stk'.map (pj_tv (pj_ad b base))))) : W p l e R s m args below meth c H locs cells slots Q (F0 m pc ls (stk.map (pj_tv (pj_ad b base)))) := by
  obtain ⟨x, y, st, rfl, h1⟩ := pj_2I_some h
  cases h1
  refine lv_imul C.1 C.2.1 hd ?_
  exact W.eq (by simp [pj_tv]) (kk H locs ls I)
theorem pj_s_iand  (C : pj_Cx cI cZ dC dI b base L xs p s m args meth c i) (I : pj_Iv cI cZ dC dI b base L xs s i H locs ls loc sh M) (hd : decode (pj_b i) pc = .ok (.iand, 1))  (h : pj_n pc (.iand) ta tb tc tv loc stk sh M = some (pc', loc', stk', M')) (kk : ∀ (H1 : Heap) (locs1 : List Loc) (ls1 : Array Slot), pj_Iv cI cZ dC dI b base L xs s i H1 locs1 ls1 loc' sh M' → W p l e R s m args below meth c H1 locs1 cells slots Q (F0 m pc' ls1 (stk'.map (pj_tv (pj_ad b base))))) : W p l e R s m args below meth c H locs cells slots Q (F0 m pc ls (stk.map (pj_tv (pj_ad b base)))) := by
  obtain ⟨x, y, st, rfl, h1⟩ := pj_2I_some h
  cases h1
  refine lv_iand C.1 C.2.1 hd ?_
  exact W.eq (by simp [pj_tv, pj_and]) (kk H locs ls I)
theorem pj_s_ior  (C : pj_Cx cI cZ dC dI b base L xs p s m args meth c i) (I : pj_Iv cI cZ dC dI b base L xs s i H locs ls loc sh M) (hd : decode (pj_b i) pc = .ok (.ior, 1))  (h : pj_n pc (.ior) ta tb tc tv loc stk sh M = some (pc', loc', stk', M')) (kk : ∀ (H1 : Heap) (locs1 : List Loc) (ls1 : Array Slot), pj_Iv cI cZ dC dI b base L xs s i H1 locs1 ls1 loc' sh M' → W p l e R s m args below meth c H1 locs1 cells slots Q (F0 m pc' ls1 (stk'.map (pj_tv (pj_ad b base))))) : W p l e R s m args below meth c H locs cells slots Q (F0 m pc ls (stk.map (pj_tv (pj_ad b base)))) := by
  obtain ⟨x, y, st, rfl, h1⟩ := pj_2I_some h
  cases h1
  refine lv_ior C.1 C.2.1 hd ?_
  exact W.eq (by simp [pj_tv, pj_or]) (kk H locs ls I)
theorem pj_s_ixor  (C : pj_Cx cI cZ dC dI b base L xs p s m args meth c i) (I : pj_Iv cI cZ dC dI b base L xs s i H locs ls loc sh M) (hd : decode (pj_b i) pc = .ok (.ixor, 1))  (h : pj_n pc (.ixor) ta tb tc tv loc stk sh M = some (pc', loc', stk', M')) (kk : ∀ (H1 : Heap) (locs1 : List Loc) (ls1 : Array Slot), pj_Iv cI cZ dC dI b base L xs s i H1 locs1 ls1 loc' sh M' → W p l e R s m args below meth c H1 locs1 cells slots Q (F0 m pc' ls1 (stk'.map (pj_tv (pj_ad b base))))) : W p l e R s m args below meth c H locs cells slots Q (F0 m pc ls (stk.map (pj_tv (pj_ad b base)))) := by
  obtain ⟨x, y, st, rfl, h1⟩ := pj_2I_some h
  cases h1
  refine lv_ixor C.1 C.2.1 hd ?_
  exact W.eq (by simp [pj_tv, pj_xor]) (kk H locs ls I)
theorem pj_s_ishl  (C : pj_Cx cI cZ dC dI b base L xs p s m args meth c i) (I : pj_Iv cI cZ dC dI b base L xs s i H locs ls loc sh M) (hd : decode (pj_b i) pc = .ok (.ishl, 1))  (h : pj_n pc (.ishl) ta tb tc tv loc stk sh M = some (pc', loc', stk', M')) (kk : ∀ (H1 : Heap) (locs1 : List Loc) (ls1 : Array Slot), pj_Iv cI cZ dC dI b base L xs s i H1 locs1 ls1 loc' sh M' → W p l e R s m args below meth c H1 locs1 cells slots Q (F0 m pc' ls1 (stk'.map (pj_tv (pj_ad b base))))) : W p l e R s m args below meth c H locs cells slots Q (F0 m pc ls (stk.map (pj_tv (pj_ad b base)))) := by
  obtain ⟨x, y, st, rfl, h1⟩ := pj_2I_some h
  cases h1
  refine lv_ishl C.1 C.2.1 hd ?_
  exact W.eq (by simp [pj_tv, pj_shl]) (kk H locs ls I)
theorem pj_s_ishr  (C : pj_Cx cI cZ dC dI b base L xs p s m args meth c i) (I : pj_Iv cI cZ dC dI b base L xs s i H locs ls loc sh M) (hd : decode (pj_b i) pc = .ok (.ishr, 1))  (h : pj_n pc (.ishr) ta tb tc tv loc stk sh M = some (pc', loc', stk', M')) (kk : ∀ (H1 : Heap) (locs1 : List Loc) (ls1 : Array Slot), pj_Iv cI cZ dC dI b base L xs s i H1 locs1 ls1 loc' sh M' → W p l e R s m args below meth c H1 locs1 cells slots Q (F0 m pc' ls1 (stk'.map (pj_tv (pj_ad b base))))) : W p l e R s m args below meth c H locs cells slots Q (F0 m pc ls (stk.map (pj_tv (pj_ad b base)))) := by
  obtain ⟨x, y, st, rfl, h1⟩ := pj_2I_some h
  cases h1
  refine lv_ishr C.1 C.2.1 hd ?_
  exact W.eq (by simp [pj_tv, pj_shr]) (kk H locs ls I)
theorem pj_s_iushr  (C : pj_Cx cI cZ dC dI b base L xs p s m args meth c i) (I : pj_Iv cI cZ dC dI b base L xs s i H locs ls loc sh M) (hd : decode (pj_b i) pc = .ok (.iushr, 1))  (h : pj_n pc (.iushr) ta tb tc tv loc stk sh M = some (pc', loc', stk', M')) (kk : ∀ (H1 : Heap) (locs1 : List Loc) (ls1 : Array Slot), pj_Iv cI cZ dC dI b base L xs s i H1 locs1 ls1 loc' sh M' → W p l e R s m args below meth c H1 locs1 cells slots Q (F0 m pc' ls1 (stk'.map (pj_tv (pj_ad b base))))) : W p l e R s m args below meth c H locs cells slots Q (F0 m pc ls (stk.map (pj_tv (pj_ad b base)))) := by
  obtain ⟨x, y, st, rfl, h1⟩ := pj_2I_some h
  cases h1
  refine lv_iushr C.1 C.2.1 hd rfl ?_
  exact W.eq (by simp only [pj_tv, pj_ushr, List.map_cons, Int32.ofInt_toInt]) (kk H locs ls I)
theorem pj_s_ineg  (C : pj_Cx cI cZ dC dI b base L xs p s m args meth c i) (I : pj_Iv cI cZ dC dI b base L xs s i H locs ls loc sh M) (hd : decode (pj_b i) pc = .ok (.ineg, 1))  (h : pj_n pc (.ineg) ta tb tc tv loc stk sh M = some (pc', loc', stk', M')) (kk : ∀ (H1 : Heap) (locs1 : List Loc) (ls1 : Array Slot), pj_Iv cI cZ dC dI b base L xs s i H1 locs1 ls1 loc' sh M' → W p l e R s m args below meth c H1 locs1 cells slots Q (F0 m pc' ls1 (stk'.map (pj_tv (pj_ad b base))))) : W p l e R s m args below meth c H locs cells slots Q (F0 m pc ls (stk.map (pj_tv (pj_ad b base)))) := by
  obtain ⟨x, st, rfl, h1⟩ := pj_1I_some h
  cases h1
  refine lv_ineg C.1 C.2.1 hd ?_
  exact W.eq (by simp [pj_tv]) (kk H locs ls I)
theorem pj_s_idiv  (C : pj_Cx cI cZ dC dI b base L xs p s m args meth c i) (I : pj_Iv cI cZ dC dI b base L xs s i H locs ls loc sh M) (hd : decode (pj_b i) pc = .ok (.idiv, 1))  (h : pj_n pc (.idiv) ta tb tc tv loc stk sh M = some (pc', loc', stk', M')) (kk : ∀ (H1 : Heap) (locs1 : List Loc) (ls1 : Array Slot), pj_Iv cI cZ dC dI b base L xs s i H1 locs1 ls1 loc' sh M' → W p l e R s m args below meth c H1 locs1 cells slots Q (F0 m pc' ls1 (stk'.map (pj_tv (pj_ad b base))))) : W p l e R s m args below meth c H locs cells slots Q (F0 m pc ls (stk.map (pj_tv (pj_ad b base)))) := by
  obtain ⟨x, y, st, rfl, h1⟩ := pj_2I_some h
  split at h1
  · cases h1
  rename_i hy
  cases h1
  refine lv_idiv C.1 C.2.1 hd (fun z => hy (by unfold pj_nrm; rw [z]; rfl)) ?_
  exact W.eq (by simp only [pj_tv, pj_div, List.map_cons, Int32.ofInt_toInt]) (kk H locs ls I)
theorem pj_s_irem  (C : pj_Cx cI cZ dC dI b base L xs p s m args meth c i) (I : pj_Iv cI cZ dC dI b base L xs s i H locs ls loc sh M) (hd : decode (pj_b i) pc = .ok (.irem, 1))  (h : pj_n pc (.irem) ta tb tc tv loc stk sh M = some (pc', loc', stk', M')) (kk : ∀ (H1 : Heap) (locs1 : List Loc) (ls1 : Array Slot), pj_Iv cI cZ dC dI b base L xs s i H1 locs1 ls1 loc' sh M' → W p l e R s m args below meth c H1 locs1 cells slots Q (F0 m pc' ls1 (stk'.map (pj_tv (pj_ad b base))))) : W p l e R s m args below meth c H locs cells slots Q (F0 m pc ls (stk.map (pj_tv (pj_ad b base)))) := by
  obtain ⟨x, y, st, rfl, h1⟩ := pj_2I_some h
  split at h1
  · cases h1
  rename_i hy
  cases h1
  refine lv_irem C.1 C.2.1 hd (fun z => hy (by unfold pj_nrm; rw [z]; rfl)) ?_
  exact W.eq (by simp only [pj_tv, pj_rem, List.map_cons, Int32.ofInt_toInt]) (kk H locs ls I)
theorem pj_s_i2l  (C : pj_Cx cI cZ dC dI b base L xs p s m args meth c i) (I : pj_Iv cI cZ dC dI b base L xs s i H locs ls loc sh M) (hd : decode (pj_b i) pc = .ok (.i2l, 1))  (h : pj_n pc (.i2l) ta tb tc tv loc stk sh M = some (pc', loc', stk', M')) (kk : ∀ (H1 : Heap) (locs1 : List Loc) (ls1 : Array Slot), pj_Iv cI cZ dC dI b base L xs s i H1 locs1 ls1 loc' sh M' → W p l e R s m args below meth c H1 locs1 cells slots Q (F0 m pc' ls1 (stk'.map (pj_tv (pj_ad b base))))) : W p l e R s m args below meth c H locs cells slots Q (F0 m pc ls (stk.map (pj_tv (pj_ad b base)))) := by
  obtain ⟨x, st, rfl, h1⟩ := pj_1I_some h
  cases h1
  refine lv_i2l (v := Int64.ofInt (pj_nrm x)) C.1 C.2.1 hd ?_ ?_
  · unfold pj_nrm; rw [← Int32.toInt_toInt64, Int64.ofInt_toInt]
  exact kk H locs ls I
theorem pj_s_ladd  (C : pj_Cx cI cZ dC dI b base L xs p s m args meth c i) (I : pj_Iv cI cZ dC dI b base L xs s i H locs ls loc sh M) (hd : decode (pj_b i) pc = .ok (.ladd, 1))  (h : pj_n pc (.ladd) ta tb tc tv loc stk sh M = some (pc', loc', stk', M')) (kk : ∀ (H1 : Heap) (locs1 : List Loc) (ls1 : Array Slot), pj_Iv cI cZ dC dI b base L xs s i H1 locs1 ls1 loc' sh M' → W p l e R s m args below meth c H1 locs1 cells slots Q (F0 m pc' ls1 (stk'.map (pj_tv (pj_ad b base))))) : W p l e R s m args below meth c H locs cells slots Q (F0 m pc ls (stk.map (pj_tv (pj_ad b base)))) := by
  obtain ⟨x, y, st, rfl, h1⟩ := pj_2L_some h
  cases h1
  refine lv_ladd C.1 C.2.1 hd ?_
  exact W.eq (by simp [pj_tv]) (kk H locs ls I)
theorem pj_s_lmul  (C : pj_Cx cI cZ dC dI b base L xs p s m args meth c i) (I : pj_Iv cI cZ dC dI b base L xs s i H locs ls loc sh M) (hd : decode (pj_b i) pc = .ok (.lmul, 1))  (h : pj_n pc (.lmul) ta tb tc tv loc stk sh M = some (pc', loc', stk', M')) (kk : ∀ (H1 : Heap) (locs1 : List Loc) (ls1 : Array Slot), pj_Iv cI cZ dC dI b base L xs s i H1 locs1 ls1 loc' sh M' → W p l e R s m args below meth c H1 locs1 cells slots Q (F0 m pc' ls1 (stk'.map (pj_tv (pj_ad b base))))) : W p l e R s m args below meth c H locs cells slots Q (F0 m pc ls (stk.map (pj_tv (pj_ad b base)))) := by
  obtain ⟨x, y, st, rfl, h1⟩ := pj_2L_some h
  cases h1
  refine lv_lmul C.1 C.2.1 hd ?_
  exact W.eq (by simp [pj_tv]) (kk H locs ls I)
theorem pj_s_land  (C : pj_Cx cI cZ dC dI b base L xs p s m args meth c i) (I : pj_Iv cI cZ dC dI b base L xs s i H locs ls loc sh M) (hd : decode (pj_b i) pc = .ok (.land, 1))  (h : pj_n pc (.land) ta tb tc tv loc stk sh M = some (pc', loc', stk', M')) (kk : ∀ (H1 : Heap) (locs1 : List Loc) (ls1 : Array Slot), pj_Iv cI cZ dC dI b base L xs s i H1 locs1 ls1 loc' sh M' → W p l e R s m args below meth c H1 locs1 cells slots Q (F0 m pc' ls1 (stk'.map (pj_tv (pj_ad b base))))) : W p l e R s m args below meth c H locs cells slots Q (F0 m pc ls (stk.map (pj_tv (pj_ad b base)))) := by
  obtain ⟨x, y, st, rfl, h1⟩ := pj_2L_some h
  cases h1
  refine lv_land C.1 C.2.1 hd ?_
  exact W.eq (by simp [pj_tv, pj_land]) (kk H locs ls I)
theorem pj_s_lor  (C : pj_Cx cI cZ dC dI b base L xs p s m args meth c i) (I : pj_Iv cI cZ dC dI b base L xs s i H locs ls loc sh M) (hd : decode (pj_b i) pc = .ok (.lor, 1))  (h : pj_n pc (.lor) ta tb tc tv loc stk sh M = some (pc', loc', stk', M')) (kk : ∀ (H1 : Heap) (locs1 : List Loc) (ls1 : Array Slot), pj_Iv cI cZ dC dI b base L xs s i H1 locs1 ls1 loc' sh M' → W p l e R s m args below meth c H1 locs1 cells slots Q (F0 m pc' ls1 (stk'.map (pj_tv (pj_ad b base))))) : W p l e R s m args below meth c H locs cells slots Q (F0 m pc ls (stk.map (pj_tv (pj_ad b base)))) := by
  obtain ⟨x, y, st, rfl, h1⟩ := pj_2L_some h
  cases h1
  refine lv_lor C.1 C.2.1 hd ?_
  exact W.eq (by simp [pj_tv, pj_lor]) (kk H locs ls I)
theorem pj_s_ldiv  (C : pj_Cx cI cZ dC dI b base L xs p s m args meth c i) (I : pj_Iv cI cZ dC dI b base L xs s i H locs ls loc sh M) (hd : decode (pj_b i) pc = .ok (.ldiv, 1))  (h : pj_n pc (.ldiv) ta tb tc tv loc stk sh M = some (pc', loc', stk', M')) (kk : ∀ (H1 : Heap) (locs1 : List Loc) (ls1 : Array Slot), pj_Iv cI cZ dC dI b base L xs s i H1 locs1 ls1 loc' sh M' → W p l e R s m args below meth c H1 locs1 cells slots Q (F0 m pc' ls1 (stk'.map (pj_tv (pj_ad b base))))) : W p l e R s m args below meth c H locs cells slots Q (F0 m pc ls (stk.map (pj_tv (pj_ad b base)))) := by
  obtain ⟨x, y, st, rfl, h1⟩ := pj_2L_some h
  split at h1
  · cases h1
  rename_i hy
  cases h1
  refine lv_ldiv C.1 C.2.1 hd (fun z => hy (by unfold pj_nrl; rw [z]; rfl)) ?_
  exact W.eq (by simp only [pj_tv, pj_ldiv, List.map_cons, Int64.ofInt_toInt]) (kk H locs ls I)
theorem pj_s_lrem  (C : pj_Cx cI cZ dC dI b base L xs p s m args meth c i) (I : pj_Iv cI cZ dC dI b base L xs s i H locs ls loc sh M) (hd : decode (pj_b i) pc = .ok (.lrem, 1))  (h : pj_n pc (.lrem) ta tb tc tv loc stk sh M = some (pc', loc', stk', M')) (kk : ∀ (H1 : Heap) (locs1 : List Loc) (ls1 : Array Slot), pj_Iv cI cZ dC dI b base L xs s i H1 locs1 ls1 loc' sh M' → W p l e R s m args below meth c H1 locs1 cells slots Q (F0 m pc' ls1 (stk'.map (pj_tv (pj_ad b base))))) : W p l e R s m args below meth c H locs cells slots Q (F0 m pc ls (stk.map (pj_tv (pj_ad b base)))) := by
  obtain ⟨x, y, st, rfl, h1⟩ := pj_2L_some h
  split at h1
  · cases h1
  rename_i hy
  cases h1
  refine lv_lrem C.1 C.2.1 hd (fun z => hy (by unfold pj_nrl; rw [z]; rfl)) ?_
  exact W.eq (by simp only [pj_tv, pj_lrem, List.map_cons, Int64.ofInt_toInt]) (kk H locs ls I)
theorem pj_s_lshl  (C : pj_Cx cI cZ dC dI b base L xs p s m args meth c i) (I : pj_Iv cI cZ dC dI b base L xs s i H locs ls loc sh M) (hd : decode (pj_b i) pc = .ok (.lshl, 1))  (h : pj_n pc (.lshl) ta tb tc tv loc stk sh M = some (pc', loc', stk', M')) (kk : ∀ (H1 : Heap) (locs1 : List Loc) (ls1 : Array Slot), pj_Iv cI cZ dC dI b base L xs s i H1 locs1 ls1 loc' sh M' → W p l e R s m args below meth c H1 locs1 cells slots Q (F0 m pc' ls1 (stk'.map (pj_tv (pj_ad b base))))) : W p l e R s m args below meth c H locs cells slots Q (F0 m pc ls (stk.map (pj_tv (pj_ad b base)))) := by
  obtain ⟨x, y, st, rfl, h1⟩ := pj_IL_some h
  cases h1
  refine lv_lshl C.1 C.2.1 hd rfl ?_
  exact W.eq (by simp only [pj_tv, pj_lshl, List.map_cons, Int64.ofInt_toInt]) (kk H locs ls I)
theorem pj_s_lshr  (C : pj_Cx cI cZ dC dI b base L xs p s m args meth c i) (I : pj_Iv cI cZ dC dI b base L xs s i H locs ls loc sh M) (hd : decode (pj_b i) pc = .ok (.lshr, 1))  (h : pj_n pc (.lshr) ta tb tc tv loc stk sh M = some (pc', loc', stk', M')) (kk : ∀ (H1 : Heap) (locs1 : List Loc) (ls1 : Array Slot), pj_Iv cI cZ dC dI b base L xs s i H1 locs1 ls1 loc' sh M' → W p l e R s m args below meth c H1 locs1 cells slots Q (F0 m pc' ls1 (stk'.map (pj_tv (pj_ad b base))))) : W p l e R s m args below meth c H locs cells slots Q (F0 m pc ls (stk.map (pj_tv (pj_ad b base)))) := by
  obtain ⟨x, y, st, rfl, h1⟩ := pj_IL_some h
  cases h1
  refine lv_lshr C.1 C.2.1 hd rfl ?_
  exact W.eq (by simp only [pj_tv, pj_lshr, List.map_cons, Int64.ofInt_toInt]) (kk H locs ls I)
theorem pj_s_lcmp  (C : pj_Cx cI cZ dC dI b base L xs p s m args meth c i) (I : pj_Iv cI cZ dC dI b base L xs s i H locs ls loc sh M) (hd : decode (pj_b i) pc = .ok (.lcmp, 1))  (h : pj_n pc (.lcmp) ta tb tc tv loc stk sh M = some (pc', loc', stk', M')) (kk : ∀ (H1 : Heap) (locs1 : List Loc) (ls1 : Array Slot), pj_Iv cI cZ dC dI b base L xs s i H1 locs1 ls1 loc' sh M' → W p l e R s m args below meth c H1 locs1 cells slots Q (F0 m pc' ls1 (stk'.map (pj_tv (pj_ad b base))))) : W p l e R s m args below meth c H locs cells slots Q (F0 m pc ls (stk.map (pj_tv (pj_ad b base)))) := by
  obtain ⟨x, y, st, rfl, h1⟩ := pj_2L_some h
  cases h1
  refine W.lcmp C.1 C.2.1 hd ?_
  exact W.eq (by simp only [pj_tv, pj_lcmp, List.map_cons, Int32.ofInt_toInt]) (kk H locs ls I)
theorem pj_s_dup  (C : pj_Cx cI cZ dC dI b base L xs p s m args meth c i) (I : pj_Iv cI cZ dC dI b base L xs s i H locs ls loc sh M) (hd : decode (pj_b i) pc = .ok (.dup, 1))  (h : pj_n pc (.dup) ta tb tc tv loc stk sh M = some (pc', loc', stk', M')) (kk : ∀ (H1 : Heap) (locs1 : List Loc) (ls1 : Array Slot), pj_Iv cI cZ dC dI b base L xs s i H1 locs1 ls1 loc' sh M' → W p l e R s m args below meth c H1 locs1 cells slots Q (F0 m pc' ls1 (stk'.map (pj_tv (pj_ad b base))))) : W p l e R s m args below meth c H locs cells slots Q (F0 m pc ls (stk.map (pj_tv (pj_ad b base)))) := by
  match stk, h with
  | v :: st, h =>
    simp only [pj_n] at h
    split at h
    · cases h
    · rename_i hv
      cases h
      exact lv_dup C.1 C.2.1 hd (pj_cat1 (by simpa using hv)) (kk H locs ls I)
theorem pj_s_dup2  (C : pj_Cx cI cZ dC dI b base L xs p s m args meth c i) (I : pj_Iv cI cZ dC dI b base L xs s i H locs ls loc sh M) (hd : decode (pj_b i) pc = .ok (.dup2, 1))  (h : pj_n pc (.dup2) ta tb tc tv loc stk sh M = some (pc', loc', stk', M')) (kk : ∀ (H1 : Heap) (locs1 : List Loc) (ls1 : Array Slot), pj_Iv cI cZ dC dI b base L xs s i H1 locs1 ls1 loc' sh M' → W p l e R s m args below meth c H1 locs1 cells slots Q (F0 m pc' ls1 (stk'.map (pj_tv (pj_ad b base))))) : W p l e R s m args below meth c H locs cells slots Q (F0 m pc ls (stk.map (pj_tv (pj_ad b base)))) := by
  match stk, h with
  | v :: w :: st, h =>
    simp only [pj_n] at h
    split at h
    · cases h
    · rename_i hv
      cases h
      simp only [Bool.or_eq_true, not_or, Bool.not_eq_true] at hv
      exact lv_dup2_11 C.1 C.2.1 hd (pj_cat1 hv.1) (pj_cat1 hv.2) (kk H locs ls I)
theorem pj_s_pop  (C : pj_Cx cI cZ dC dI b base L xs p s m args meth c i) (I : pj_Iv cI cZ dC dI b base L xs s i H locs ls loc sh M) (hd : decode (pj_b i) pc = .ok (.pop, 1))  (h : pj_n pc (.pop) ta tb tc tv loc stk sh M = some (pc', loc', stk', M')) (kk : ∀ (H1 : Heap) (locs1 : List Loc) (ls1 : Array Slot), pj_Iv cI cZ dC dI b base L xs s i H1 locs1 ls1 loc' sh M' → W p l e R s m args below meth c H1 locs1 cells slots Q (F0 m pc' ls1 (stk'.map (pj_tv (pj_ad b base))))) : W p l e R s m args below meth c H locs cells slots Q (F0 m pc ls (stk.map (pj_tv (pj_ad b base)))) := by
  match stk, h with
  | v :: st, h =>
    simp only [pj_n] at h
    split at h
    · cases h
    · rename_i hv
      cases h
      exact lv_pop C.1 C.2.1 hd (pj_cat1 (by simpa using hv)) (kk H locs ls I)
theorem pj_s_goto {off : Int} (C : pj_Cx cI cZ dC dI b base L xs p s m args meth c i) (I : pj_Iv cI cZ dC dI b base L xs s i H locs ls loc sh M) (hd : decode (pj_b i) pc = .ok (.goto off, 3))  (h : pj_n pc (.goto off) ta tb tc tv loc stk sh M = some (pc', loc', stk', M')) (kk : ∀ (H1 : Heap) (locs1 : List Loc) (ls1 : Array Slot), pj_Iv cI cZ dC dI b base L xs s i H1 locs1 ls1 loc' sh M' → W p l e R s m args below meth c H1 locs1 cells slots Q (F0 m pc' ls1 (stk'.map (pj_tv (pj_ad b base))))) : W p l e R s m args below meth c H locs cells slots Q (F0 m pc ls (stk.map (pj_tv (pj_ad b base)))) := by
  have h0 : pj_tg pc off (fun t => some (t, loc, stk, M)) = some (pc', loc', stk', M') := h
  obtain ⟨t, ht, h9⟩ := pj_tg_some h0
  cases h9
  exact lv_goto C.1 C.2.1 hd ht (kk H locs ls I)
theorem pj_s_icmp {cd : Jvm.ClassFile.Cond} {off : Int} (C : pj_Cx cI cZ dC dI b base L xs p s m args meth c i) (I : pj_Iv cI cZ dC dI b base L xs s i H locs ls loc sh M) (hd : decode (pj_b i) pc = .ok (.if_icmp cd off, 3))  (h : pj_n pc (.if_icmp cd off) ta tb tc tv loc stk sh M = some (pc', loc', stk', M')) (kk : ∀ (H1 : Heap) (locs1 : List Loc) (ls1 : Array Slot), pj_Iv cI cZ dC dI b base L xs s i H1 locs1 ls1 loc' sh M' → W p l e R s m args below meth c H1 locs1 cells slots Q (F0 m pc' ls1 (stk'.map (pj_tv (pj_ad b base))))) : W p l e R s m args below meth c H locs cells slots Q (F0 m pc ls (stk.map (pj_tv (pj_ad b base)))) := by
  obtain ⟨x, y, st, rfl, h1⟩ := pj_2I_some h
  obtain ⟨t, ht, h2⟩ := pj_tg_some h1
  cases h2
  cases cd with
  | eq =>
    have hc : pj_cmp .eq (pj_nrm x) (pj_nrm y) = true ↔ Int32.ofInt x = Int32.ofInt y := by
      exact decide_eq_true_iff.trans Int32.toInt_inj
    refine lv_icmp_eq C.1 C.2.1 hd ht (fun q => ?_) (fun q => ?_)
    · have := kk H locs ls I
      rwa [if_pos (hc.mpr q)] at this
    · have := kk H locs ls I
      rwa [if_neg (fun z => q (hc.mp z))] at this
  | ne =>
    have hc : pj_cmp .ne (pj_nrm x) (pj_nrm y) = true ↔ ¬ Int32.ofInt x = Int32.ofInt y := by
      exact decide_eq_true_iff.trans (not_congr Int32.toInt_inj)
    refine lv_icmp_ne C.1 C.2.1 hd ht (fun q => ?_) (fun q => ?_)
    · have := kk H locs ls I
      rwa [if_pos (hc.mpr q)] at this
    · have := kk H locs ls I
      rwa [if_neg (fun z => (hc.mp z) q)] at this
  | lt =>
    have hc : pj_cmp .lt (pj_nrm x) (pj_nrm y) = true ↔ Int32.ofInt x < Int32.ofInt y := by
      exact decide_eq_true_iff.trans Int32.lt_iff_toInt_lt.symm
    refine lv_icmp_lt C.1 C.2.1 hd ht (fun q => ?_) (fun q => ?_)
    · have := kk H locs ls I
      rwa [if_pos (hc.mpr q)] at this
    · have := kk H locs ls I
      rwa [if_neg (fun z => q (hc.mp z))] at this
  | ge =>
    have hc : pj_cmp .ge (pj_nrm x) (pj_nrm y) = true ↔ Int32.ofInt y ≤ Int32.ofInt x := by
      exact decide_eq_true_iff.trans Int32.le_iff_toInt_le.symm
    refine lv_icmp_ge C.1 C.2.1 hd ht (fun q => ?_) (fun q => ?_)
    · have := kk H locs ls I
      rwa [if_pos (hc.mpr q)] at this
    · have := kk H locs ls I
      rwa [if_neg (fun z => q (hc.mp z))] at this
  | gt =>
    have hc : pj_cmp .gt (pj_nrm x) (pj_nrm y) = true ↔ Int32.ofInt y < Int32.ofInt x := by
      exact decide_eq_true_iff.trans Int32.lt_iff_toInt_lt.symm
    refine lv_icmp_gt C.1 C.2.1 hd ht (fun q => ?_) (fun q => ?_)
    · have := kk H locs ls I
      rwa [if_pos (hc.mpr q)] at this
    · have := kk H locs ls I
      rwa [if_neg (fun z => q (hc.mp z))] at this
  | le =>
    have hc : pj_cmp .le (pj_nrm x) (pj_nrm y) = true ↔ Int32.ofInt x ≤ Int32.ofInt y := by
      exact decide_eq_true_iff.trans Int32.le_iff_toInt_le.symm
    refine lv_icmp_le C.1 C.2.1 hd ht (fun q => ?_) (fun q => ?_)
    · have := kk H locs ls I
      rwa [if_pos (hc.mpr q)] at this
    · have := kk H locs ls I
      rwa [if_neg (fun z => q (hc.mp z))] at this
theorem pj_s_ifc {cd : Jvm.ClassFile.Cond} {off : Int} (C : pj_Cx cI cZ dC dI b base L xs p s m args meth c i) (I : pj_Iv cI cZ dC dI b base L xs s i H locs ls loc sh M) (hd : decode (pj_b i) pc = .ok (.ifCond cd off, 3))  (h : pj_n pc (.ifCond cd off) ta tb tc tv loc stk sh M = some (pc', loc', stk', M')) (kk : ∀ (H1 : Heap) (locs1 : List Loc) (ls1 : Array Slot), pj_Iv cI cZ dC dI b base L xs s i H1 locs1 ls1 loc' sh M' → W p l e R s m args below meth c H1 locs1 cells slots Q (F0 m pc' ls1 (stk'.map (pj_tv (pj_ad b base))))) : W p l e R s m args below meth c H locs cells slots Q (F0 m pc ls (stk.map (pj_tv (pj_ad b base)))) := by
  obtain ⟨x, st, rfl, h1⟩ := pj_1I_some h
  obtain ⟨t, ht, h2⟩ := pj_tg_some h1
  cases h2
  cases cd with
  | eq =>
    have hc : pj_cmp .eq (pj_nrm x) 0 = true ↔ Int32.ofInt x = 0 := by
      exact decide_eq_true_iff.trans (pj_zeq x)
    refine lv_if_eq C.1 C.2.1 hd ht (fun q => ?_) (fun q => ?_)
    · have := kk H locs ls I
      rwa [if_pos (hc.mpr q)] at this
    · have := kk H locs ls I
      rwa [if_neg (fun z => q (hc.mp z))] at this
  | ne =>
    have hc : pj_cmp .ne (pj_nrm x) 0 = true ↔ ¬ Int32.ofInt x = 0 := by
      exact decide_eq_true_iff.trans (pj_zne x)
    refine lv_if_ne C.1 C.2.1 hd ht (fun q => ?_) (fun q => ?_)
    · have := kk H locs ls I
      rwa [if_pos (hc.mpr q)] at this
    · have := kk H locs ls I
      rwa [if_neg (fun z => (hc.mp z) q)] at this
  | lt =>
    have hc : pj_cmp .lt (pj_nrm x) 0 = true ↔ Int32.ofInt x < 0 := by
      exact decide_eq_true_iff.trans (pj_zlt x)
    refine lv_if_lt C.1 C.2.1 hd ht (fun q => ?_) (fun q => ?_)
    · have := kk H locs ls I
      rwa [if_pos (hc.mpr q)] at this
    · have := kk H locs ls I
      rwa [if_neg (fun z => q (hc.mp z))] at this
  | ge =>
    have hc : pj_cmp .ge (pj_nrm x) 0 = true ↔ 0 ≤ Int32.ofInt x := by
      exact decide_eq_true_iff.trans (pj_zge x)
    refine lv_if_ge C.1 C.2.1 hd ht (fun q => ?_) (fun q => ?_)
    · have := kk H locs ls I
      rwa [if_pos (hc.mpr q)] at this
    · have := kk H locs ls I
      rwa [if_neg (fun z => q (hc.mp z))] at this
  | gt =>
    have hc : pj_cmp .gt (pj_nrm x) 0 = true ↔ 0 < Int32.ofInt x := by
      exact decide_eq_true_iff.trans (pj_zgt x)
    refine lv_if_gt C.1 C.2.1 hd ht (fun q => ?_) (fun q => ?_)
    · have := kk H locs ls I
      rwa [if_pos (hc.mpr q)] at this
    · have := kk H locs ls I
      rwa [if_neg (fun z => q (hc.mp z))] at this
  | le =>
    have hc : pj_cmp .le (pj_nrm x) 0 = true ↔ Int32.ofInt x ≤ 0 := by
      exact decide_eq_true_iff.trans (pj_zle x)
    refine lv_if_le C.1 C.2.1 hd ht (fun q => ?_) (fun q => ?_)
    · have := kk H locs ls I
      rwa [if_pos (hc.mpr q)] at this
    · have := kk H locs ls I
      rwa [if_neg (fun z => q (hc.mp z))] at this
theorem pj_s_tsw {d lo hi : Int} {offs : Array Int} {len : Nat} (C : pj_Cx cI cZ dC dI b base L xs p s m args meth c i) (I : pj_Iv cI cZ dC dI b base L xs s i H locs ls loc sh M) (hd : decode (pj_b i) pc = .ok (.tableswitch d lo hi offs, len))  (h : pj_n pc (.tableswitch d lo hi offs) ta tb tc tv loc stk sh M = some (pc', loc', stk', M')) (kk : ∀ (H1 : Heap) (locs1 : List Loc) (ls1 : Array Slot), pj_Iv cI cZ dC dI b base L xs s i H1 locs1 ls1 loc' sh M' → W p l e R s m args below meth c H1 locs1 cells slots Q (F0 m pc' ls1 (stk'.map (pj_tv (pj_ad b base))))) : W p l e R s m args below meth c H locs cells slots Q (F0 m pc ls (stk.map (pj_tv (pj_ad b base)))) := by
  obtain ⟨x, st, rfl, g1⟩ := pj_1I_some h
  split at g1
  next hc =>
    obtain ⟨t, ht, g2⟩ := pj_tg_some g1
    cases g2
    exact lv_tableOut C.1 C.2.1 hd hc ht (kk H locs ls I)
  next hc =>
    split at g1
    next off ho =>
      obtain ⟨t, ht, g2⟩ := pj_tg_some g1
      cases g2
      exact lv_tableIn C.1 C.2.1 hd (fun q => hc (Or.inl q)) (fun q => hc (Or.inr q)) (by rw [← Array.getElem?_toList]; exact ho) ht (kk H locs ls I)
    next => cases g1
end PJS
