/-! THE CLAIM OUT OF ONE WALK OF THE LAW'S BODY. Your part is whole_start (and what it stands on); all else here is the same for every law, but numbers. -/
def R_law : String := "FaultFinderLaw"
def lw_P (b : Addr) (xs : List Int32) (args : Array Value) (s : State) : Prop := args = #[.ref b] ∧ s.IntsAt b xs ∧ xs.length ≤ 2560 ∧ (Jvm.Cond.and given_1 narrow_1).before args s = true
def lw_Q (_ : Array Value) (s : State) (o : Outcome) (t : State) : Prop := o = .returned (some (.int 1)) ∧ Framed s o t [] 600000 7302250
def lw_Z (below : List Frame) (a : Array Value) (s : State) : State → Prop := fun t => ∃ o, t.status = .running ∧ Ended t below o ∧ lw_Q a s o t
/-- the law's own end, with 1 on the stack, nothing written that was there before, its room as the claim has it -/
theorem lw_ret {p : Program} {l : Launch} {e : Env} {s : State} {m : MethodId} {below : List Frame} {meth : Method} {c : Code} {b : Nat} (hx : p.tables.exec = Jvm.exec) (hb : c.code = code) (hr : meth.sig.returnType = ret) (hlocks : meth.locks = false) {pc : Nat} {H : Heap} {ls : Array Slot} (hdg : decode code pc = .ok (.ireturn, 1)) : W p l e room_1 s m #[Value.ref b] below meth c H [] 600000 7302250 (lw_Z below #[Value.ref b] s) (F0 m pc ls [.int 1]) := by
  intro T hT X
  obtain ⟨fs, hret, hrun, hended, hW, hframe⟩ := X.leave (v := some (.int 1)) (hlocks := hlocks) (fun h => by rw [hr] at h; cases h)
  have hmeth' : T.vm.method? m = some meth := X.method'
  refine ⟨T.setFrames fs, ?_, .returned (some (.int 1)), hrun, hended, rfl, ⟨_, rfl⟩, hW, hframe⟩
  jvm_step X.here [X.here.top, hx, hb, hdg, hmeth', hr, ret, narrow_b1]
  (try refine ⟨rfl, ?_⟩); (try refine ⟨rfl, ?_⟩)
  first | (intro acts; rw [hret _ acts rfl rfl rfl]) | rw [hret _ _ rfl rfl rfl]
  exact Steps.refl _
/-- what holds at the law's entry: the machine, the code, the tables' words (any of lw_tbl by 'hts w (by decide +kernel)'), the script of L ints xs at the cell b, what the Statement gives of the start (any of its parts by flat_of_before) -/
def lw_At (p : Program) (s : State) (m : MethodId) (meth : Method) (c : Code) (b L : Nat) (xs : Nat → Int32) : Prop :=
  p.tables.exec = Jvm.exec ∧ c.code = code ∧ meth.sig.returnType = ret ∧ c.maxLocals = 4 ∧ s.vm.findClass R_law = some m.cls ∧ (∀ w ∈ lw_tbl, w.before #[Value.ref b] s = true) ∧ va_X b L xs s s.heap ∧ b < s.heap.size ∧ meth.locks = false ∧ (Jvm.Cond.and given_1 narrow_1).before #[Value.ref b] s = true

/-- the memory at the start: the script -/
def pj_m0 (xs : Nat → Int32) : pj_M := fun a k => if a = 0 then (xs k).toInt else 0
/-- what is left to prove, of the pure machine alone: the law answers 1 on every script -/
def pj_runs : Prop := ∀ (L : Nat) (xs : Nat → Int32), L ≤ 2560 → ∃ (n : Nat) (sh' : List pj_S) (M' : pj_M), pj_x n 100 pj_iL_law 0 (pj_in pj_iL_law [pj_vR 0]) [] [.inr (0, L)] (pj_m0 xs) = some (some (.inl 1), sh', M') ∧ sh'.length - 1 ≤ 600000 ∧ pj_sz sh' - L ≤ 7302250
theorem pj_inst : ∀ k, k < 8 → ∃ q ∈ pj_ntab, q.2.2 = k := by decide +kernel
theorem pj_iL_b : pj_b pj_iL_law = code := rfl
theorem pj_iL_L : pj_L pj_iL_law = 4 := rfl
theorem pj_iL_own : pj_Rn (pj_own pj_iL_law) = R_law := rfl
theorem pj_arrK {s : State} {args : Array Value} {ty : FieldType} (h : (Cond.arrayClass ty).before args s = true) : ∃ cA : ClassId, ArrOfT s cA ty ∧ s.vm.findClass ("[" ++ ty.toString) = some cA := by
  obtain ⟨cA, kA, comp, h1, h2, h3⟩ := Cond.arrayClass_spec h
  exact ⟨cA, fun n z => ⟨fun k h => (by cases h), kA, h2, comp, h3⟩, h1⟩
set_option maxHeartbeats 4000000 in
theorem pj_start (hrun : pj_runs) {p : Program} {e : Env} {s : State} {m : MethodId} {below : List Frame} {meth : Method} {c : Code} (l : Launch) {b L : Nat} {xs : Nat → Int32} (hL : L ≤ 2560) (C0 : lw_At p s m meth c b L xs) : W p l e room_1 s m #[Value.ref b] below meth c s.heap [] 0 0 (lw_Z below #[Value.ref b] s) (entryFrame m ([Value.ref b] : List Value).toArray 4) := by
  obtain ⟨hx, hb, hr, hml, hown, hts, hX, hbl, hlocks, hgv⟩ := C0
  obtain ⟨n, sh', M', hrn, hc1, hc2⟩ := hrun L xs hL
  have htU : ∀ w ∈ pj_U, w.before #[Value.ref b] s = true := fun w hw => hts w (pj_U_good w hw).1
  have hkn : ∀ k : Nat, ∃ q : ClassId × (Nat → Nat), k < 8 → u_Kn s (pj_Rn k) (pj_T k) (pj_N k) q.1 q.2 := by
    have one : ∀ k, k < 8 → ∃ q : ClassId × (Nat → Nat), u_Kn s (pj_Rn k) (pj_T k) (pj_N k) q.1 q.2 := by
      intro k hk
      obtain ⟨q, hq, hqk⟩ := pj_inst k hk
      have hw : Cond.instantiable (pj_Rn k) (pj_N k) ∈ pj_U := pj_U6_m (List.mem_flatMap.mpr ⟨q, hq, by rw [← hqk]; exact List.mem_cons_of_mem _ List.mem_cons_self⟩)
      obtain ⟨cC, iS, h1⟩ := u_known (C := pj_Rn k) (T := pj_T k) (N := pj_N k) (n := pj_N k) htU (pj_lay_in hk) (htU _ hw)
      exact ⟨(cC, iS), h1⟩
    intro k
    by_cases hk : k < 8
    · obtain ⟨q, hq⟩ := one k hk
      exact ⟨q, fun _ => hq⟩
    · obtain ⟨q, -⟩ := one 0 (by decide)
      exact ⟨q, fun h => absurd h hk⟩
  obtain ⟨f, hf⟩ := Classical.axiomOfChoice hkn
  obtain ⟨cI, hI1, hI2⟩ := pj_arrK (htU (.arrayClass .int) (pj_U0_m (List.mem_cons_of_mem _ List.mem_cons_self)))
  obtain ⟨cZ, hZ1, hZ2⟩ := pj_arrK (htU (.arrayClass .boolean) (pj_U0_m (List.mem_cons_of_mem _ (List.mem_cons_of_mem _ List.mem_cons_self))))
  have hcl8 : pj_cl.length = 8 := rfl
  have hK : va_K (fun k => (f k).1, fun k => (f k).2) pj_cl [(cI, .int), (cZ, .boolean)] s := by
    refine ⟨fun k q hq => ?_, fun k q hq => ?_⟩
    · have hk : k < 8 := by
        have := (List.getElem?_eq_some_iff.mp hq).1
        omega
      rw [pj_cl_at k hk] at hq
      cases hq
      exact hf k hk
    · match k, hq with
      | 0, hq => cases hq; exact ⟨hI1, hI2⟩
      | 1, hq => cases hq; exact ⟨hZ1, hZ2⟩
      | k + 2, hq => simp at hq
  have C : pj_Cx cI cZ (fun k => (f k).1) (fun k => (f k).2) b s.heap.size L xs p s m #[Value.ref b] meth c pj_iL_law := ⟨hx, hb, hml, hown, htU, fun q => absurd q (by decide +kernel), hK, hX, hbl, Nat.le_refl _, fun w hw => va_Nw.of (pj_nest_on w hw) (hts w (pj_nest_in w hw)), by decide⟩
  rw [lg_entry_eq]
  obtain ⟨hl, hln⟩ := pj_entry (ad := pj_ad b s.heap.size) (vs := [pj_vR 0]) (j := pj_iL_law) (by decide +kernel)
  have I : pj_Iv cI cZ (fun k => (f k).1) (fun k => (f k).2) b s.heap.size L xs s pj_iL_law s.heap [] ((lg_sl ([pj_vR 0].map (pj_tv (pj_ad b s.heap.size))) ++ List.replicate (pj_L pj_iL_law - (lg_sl ([pj_vR 0].map (pj_tv (pj_ad b s.heap.size)))).length) Slot.unset).toArray) (pj_in pj_iL_law [pj_vR 0]) [.inr (0, L)] (pj_m0 xs) := by
    refine ⟨fun k q h => ?_, va_S.rf, rfl, hl, hln, rfl, fun k _ => ?_⟩
    · simp [pj_ws] at h
    · simp [pj_m0]
  have W0 := pj_sound l n 100 pj_iL_law 0 _ _ _ _ _ _ _ hrn (e := e) (below := below) (R := room_1) (Q := lw_Z below #[Value.ref b] s) (n0 := 1) (z0 := L) C I (by decide) (by decide) hc1 hc2 (Nat.le_refl _) (by show L ≤ L + 0; omega) (fun H1 locs1 ls1 loc1 stk1 pc1 len ta tb tc ins tv hat hr1 I1 => by
    obtain ⟨hd, hlen, -⟩ := pj_at_ok C.2.2.2.2.2.2.2.2.2.2.2 hat
    have hins : ins = .ireturn ∧ stk1 = [.inl 1] := by
      cases ins with
      | ireturn =>
        refine ⟨rfl, ?_⟩
        match stk1, hr1 with
        | [.inl x], hr1 =>
          simp only [pj_r] at hr1
          split at hr1
          · cases hr1; rfl
          · cases hr1
      | lreturn =>
        match stk1, hr1 with
        | [.inr (.inl x)], hr1 => cases hr1
      | areturn =>
        match stk1, hr1 with
        | [.inr (.inr (some x))], hr1 => cases hr1
      | return_ =>
        match stk1, hr1 with
        | [], hr1 => cases hr1
      | _ => exact absurd (show (none : Option (Option pj_V)) = some _ from hr1) (fun q => nomatch q)
    obtain ⟨rfl, rfl⟩ := hins
    obtain rfl := pj_len (k := 1) hlen rfl (by decide)
    refine va_forget (fun q hq => I1.2.1.2.2 q hq) ?_
    refine W.widen hc1 hc2 ?_
    exact lw_ret hx hb hr hlocks hd)
  rw [show ([Sum.inr (0, L)] : List pj_S).length - 1 = 0 from rfl, show pj_sz [Sum.inr (0, L)] - L = 0 by show L + 0 - L = 0; omega] at W0
  exact W0
