theorem pj_lg_cons (v : Value) (vs : List Value) : lg_sl (v :: vs) = (if v.category = 2 then [Slot.val v, Slot.second] else [Slot.val v]) ++ lg_sl vs := rfl
theorem pj_args_len {ad : Nat → Nat} : ∀ vs : List pj_V, (lg_sl (vs.map (pj_tv ad))).length = (pj_args vs).length
  | [] => rfl
  | .inl x :: vs => by
    rw [List.map_cons, pj_lg_cons, List.length_append, pj_args_len (ad := ad) vs]
    show 1 + (pj_args vs).length = (pj_args vs).length + 1
    omega
  | .inr (.inl x) :: vs => by
    rw [List.map_cons, pj_lg_cons, List.length_append, pj_args_len (ad := ad) vs]
    show 2 + (pj_args vs).length = (pj_args vs).length + 1 + 1
    omega
  | .inr (.inr (some k)) :: vs => by
    rw [List.map_cons, pj_lg_cons, List.length_append, pj_args_len (ad := ad) vs]
    show 1 + (pj_args vs).length = (pj_args vs).length + 1
    omega
  | .inr (.inr none) :: vs => by
    rw [List.map_cons, pj_lg_cons, List.length_append, pj_args_len (ad := ad) vs]
    show 1 + (pj_args vs).length = (pj_args vs).length + 1
    omega
theorem pj_args_at {ad : Nat → Nat} : ∀ (vs : List pj_V) (off k : Nat) (v : pj_V), (pj_args vs)[k]? = some v → v ≠ pj_vU → (off + k, pj_tv ad v) ∈ lv_args off (vs.map (pj_tv ad))
  | [], _, _, _, h, _ => by simp [pj_args] at h
  | .inl x :: vs, off, k, v, h, hv => by
    match k, h with
    | 0, h =>
      cases h
      exact List.mem_cons_self
    | k + 1, h =>
      have := pj_args_at (ad := ad) vs (off + 1) k v h hv
      refine List.mem_cons_of_mem _ ?_
      show (off + (k + 1), _) ∈ lv_args (if (1 : Nat) = 2 then off + 2 else off + 1) _
      rw [if_neg (by decide), show off + (k + 1) = off + 1 + k by omega]
      exact this
  | .inr (.inl x) :: vs, off, k, v, h, hv => by
    match k, h with
    | 0, h =>
      cases h
      exact List.mem_cons_self
    | 1, h =>
      cases h
      exact absurd rfl hv
    | k + 2, h =>
      have := pj_args_at (ad := ad) vs (off + 2) k v h hv
      refine List.mem_cons_of_mem _ ?_
      show (off + (k + 2), _) ∈ lv_args (if (2 : Nat) = 2 then off + 2 else off + 1) _
      rw [if_pos rfl, show off + (k + 2) = off + 2 + k by omega]
      exact this
  | .inr (.inr (some x)) :: vs, off, k, v, h, hv => by
    match k, h with
    | 0, h =>
      cases h
      exact List.mem_cons_self
    | k + 1, h =>
      have := pj_args_at (ad := ad) vs (off + 1) k v h hv
      refine List.mem_cons_of_mem _ ?_
      show (off + (k + 1), _) ∈ lv_args (if (1 : Nat) = 2 then off + 2 else off + 1) _
      rw [if_neg (by decide), show off + (k + 1) = off + 1 + k by omega]
      exact this
  | .inr (.inr none) :: vs, off, k, v, h, hv => by
    match k, h with
    | 0, h =>
      cases h
      exact absurd rfl hv
    | k + 1, h =>
      have := pj_args_at (ad := ad) vs (off + 1) k v h hv
      refine List.mem_cons_of_mem _ ?_
      show (off + (k + 1), _) ∈ lv_args (if (1 : Nat) = 2 then off + 2 else off + 1) _
      rw [if_neg (by decide), show off + (k + 1) = off + 1 + k by omega]
      exact this
theorem pj_entry {ad : Nat → Nat} {vs : List pj_V} {j : Nat} (h : (pj_args vs).length ≤ pj_L j) : lv_has ((lg_sl (vs.map (pj_tv ad)) ++ List.replicate (pj_L j - (lg_sl (vs.map (pj_tv ad))).length) Slot.unset).toArray) (pj_L j) (pj_ll ad (pj_in j vs)) ∧ (pj_in j vs).length = pj_L j := by
  have h0 := lv_entry (vs.map (pj_tv ad)) (n := pj_L j) (by rw [pj_args_len]; exact h)
  refine ⟨⟨h0.1, h0.2.1, fun q hq => h0.2.2 q ?_⟩, by simp [pj_in]; omega⟩
  obtain ⟨v, h1, h2, h3⟩ := pj_ll_mem.mp hq
  obtain ⟨k, z⟩ := q
  dsimp only at h1 h3
  subst h3
  unfold pj_in at h1
  rcases Nat.lt_or_ge k (pj_args vs).length with hk | hk
  · rw [List.getElem?_append_left hk] at h1
    have := pj_args_at (ad := ad) vs 0 k v h1 h2
    rwa [Nat.zero_add] at this
  · rw [List.getElem?_append_right hk] at h1
    exact absurd (List.eq_of_mem_replicate (List.mem_of_getElem? h1)) h2
def pj_Wd (cI cZ : ClassId) (dC : Nat → ClassId) (dI : Nat → Nat → Nat) (b base L : Nat) (xs : Nat → Int32) (sh : List pj_S) (M : pj_M) (U : State) : Prop := va_P (dC, dI) pj_cl (pj_ws (pj_ad b base) cI cZ sh M) U.heap ∧ U.heap.size + 1 = base + sh.length ∧ va_K (dC, dI) pj_cl [(cI, .int), (cZ, .boolean)] U ∧ va_X b L xs U U.heap ∧ ∀ w ∈ pj_nest, va_Nw w U
def pj_Ph (cI cZ : ClassId) (dC : Nat → ClassId) (dI : Nat → Nat → Nat) (b base : Nat) (sh : List pj_S) (M : pj_M) (X : Heap) : Prop := va_P (dC, dI) pj_cl (pj_ws (pj_ad b base) cI cZ sh M) X ∧ X.size + 1 = base + sh.length
def pj_Qc (cI cZ : ClassId) (dC : Nat → ClassId) (dI : Nat → Nat → Nat) (b base : Nat) (r : Option pj_V) (sh : List pj_S) (M : pj_M) : Array Value → State → Outcome → State → Prop := fun _ st oc t => oc = .returned (r.map (pj_tv (pj_ad b base))) ∧ pj_Ph cI cZ dC dI b base sh M t.heap ∧ va_F (fun q : Nat => base ≤ q) st t
def pj_rm (d mc ms : Nat) : Room := { frames := d + 1, cells := mc, slots := ms, locals := 64 * (d + 1) }
theorem pj_nest_warm {s U : State} (hW : s.WarmedH U.vm) (h : ∀ w ∈ pj_nest, va_Nw w s) : ∀ w ∈ pj_nest, va_Nw w U := fun w hw => by
  have h1 := h w hw
  obtain ⟨q, -, rfl⟩ := List.mem_map.mp hw
  exact va_Nw.warmM hW h1
section PJC
variable {p : Program} {l : Launch} {e : Env} {R : Room} {s : State} {m : MethodId} {args : Array Value} {below : List Frame} {meth : Method} {c : Code} {H : Heap} {locs : List Loc} {cells slots : Nat} {Q : State → Prop}
variable {cI cZ : ClassId} {dC : Nat → ClassId} {dI : Nat → Nat → Nat} {b base L : Nat} {xs : Nat → Int32} {i pc pc' len ta tb tc : Nat} {tv : Int} {ls : Array Slot} {loc loc' stk stk' : List pj_V} {sh : List pj_S} {M M' : pj_M} {ins : Instr}
/-- a call, from its run -/
theorem pj_call {st0 rest : List Value} {mc ms : Nat} (A : Nat → Prop) (P : Heap → Prop) (v1 : Option Value) (hr : va_Run p l e R s m args below meth c H locs cells slots mc ms (F0 m pc ls st0) rest (fun st oc t => oc = .returned v1 ∧ P t.heap ∧ va_F A st t) A) (hS : va_S A s.heap H locs)
    (kk : ∀ (H1 : Heap) (locs1 : List Loc), P H1 → va_S A s.heap H1 locs1 → W p l e R s m args below meth c H1 locs1 (cells + mc) (slots + ms) Q (F0 m (pc + 3) ls (v1.toList ++ rest))) : W p l e R s m args below meth c H locs cells slots Q (F0 m pc ls st0) := by
  intro T hT X
  obtain ⟨v, st₀, t, T', L', h0, X', hL, e1, e2, ⟨hv, hp, hz, hk⟩, st⟩ := hr T hT X
  cases hv
  rw [h0] at hz hk
  obtain ⟨t2, a1, b1⟩ := kk T'.heap (locs ++ L') (by rw [e1]; exact hp) ⟨Nat.le_trans hS.1 (by rw [e1]; exact hz), fun q h1 h2 => by rw [e1, hk q (Nat.lt_of_lt_of_le h1 hS.1) h2]; exact hS.2.1 q h1 h2, fun q hq => by
      rcases List.mem_append.mp hq with h | h
      · exact hS.2.2 q h
      · exact hL q h⟩ T' rfl X'
  exact ⟨t2, st t2 a1, b1⟩
theorem pj_pre (C : pj_Cx cI cZ dC dI b base L xs p s m args meth c i) (I : pj_Iv cI cZ dC dI b base L xs s i H locs ls loc sh M) (vs : List Value) : FrameBlind (va_Pc vs (pj_Wd cI cZ dC dI b base L xs sh M)) ∧ ∀ U : State, U.heap = H → s.WarmedH U.vm → va_Pc vs (pj_Wd cI cZ dC dI b base L xs sh M) vs.toArray U := by
  obtain ⟨-, -, -, -, -, -, hK, hX, hb, hbase, hN, -⟩ := C
  refine ⟨fun a U g mk q => ?_, fun U hU hW => ?_⟩
  · obtain ⟨q0, qP, qz, qK, qX, qN⟩ := q
    exact ⟨q0, qP, qz, va_K.moved (u := U) (U := U.calling g mk a) (Vm.Alike.refl U.vm) qK, va_X.moved (u := U) (U := U.calling g mk a) (Vm.Alike.refl U.vm) qX, fun w hw => va_Nw.same (u := U) (U := U.calling g mk a) (pj_nest_on w hw) rfl (qN w hw)⟩
  · refine ⟨rfl, by rw [hU]; exact I.1, by rw [hU]; exact I.2.2.1, va_K.moved hW.alike hK, ?_, pj_nest_warm hW hN⟩
    rw [hU]
    exact (va_X.moved hW.alike hX).kept (I.2.1.2.1 b (Nat.lt_of_lt_of_le hb hbase) (Nat.not_le.mpr hb))
theorem pj_ret (C : pj_Cx cI cZ dC dI b base L xs p s m args meth c i) (I : pj_Iv cI cZ dC dI b base L xs s i H locs ls loc sh M) (hr : meth.sig.returnType = pj_rt i) (hlocks : meth.locks = false) (hat : pj_at i pc = some (ins, len, ta, tb, tc, tv)) {r : Option pj_V} (h : pj_r ins ta stk = some r) : W p l e R s m args below meth c H locs cells slots (MQ below (pj_Qc cI cZ dC dI b base r sh M) args s cells slots (fun q : Nat => base ≤ q)) (F0 m pc ls (stk.map (pj_tv (pj_ad b base)))) := by
  obtain ⟨hd, hlen, hok⟩ := pj_at_ok C.2.2.2.2.2.2.2.2.2.2.2 hat
  have hq : ∀ t : State, t.heap = H → pj_Qc cI cZ dC dI b base r sh M args s (.returned (r.map (pj_tv (pj_ad b base)))) t := fun t ht => ⟨rfl, ⟨by rw [ht]; exact I.1, by rw [ht]; exact I.2.2.1⟩, I.2.1.F ht⟩
  cases ins with
  | ireturn =>
    obtain rfl := pj_len (k := 1) hlen rfl (by decide)
    match stk, h with
    | [.inl x], h =>
      simp only [pj_r] at h
      split at h
      next hx =>
        cases h
        simp only [pj_okI, Bool.or_eq_true, decide_eq_true_eq] at hok
        rcases hok with hk | hk
        · exact W.zret C.1 C.2.1 (hr.trans hk.2) rfl (fun t ht _ => hq t ht) I.2.1.2.2 hd hlocks
        · have hx1 : x = 0 ∨ x = 1 := by
            rcases hx with h0 | h0
            · omega
            · exact h0
          exact W.zret C.1 C.2.1 (hr.trans hk.2) (by rcases hx1 with rfl | rfl <;> rfl) (fun t ht _ => hq t ht) I.2.1.2.2 hd hlocks
      next => cases h
  | lreturn =>
    obtain rfl := pj_len (k := 1) hlen rfl (by decide)
    match stk, h with
    | [.inr (.inl x)], h =>
      cases h
      exact W.lret C.1 C.2.1 (hr.trans (of_decide_eq_true hok)) (fun t ht _ => hq t ht) I.2.1.2.2 hd hlocks
  | areturn =>
    obtain rfl := pj_len (k := 1) hlen rfl (by decide)
    match stk, h with
    | [.inr (.inr (some x))], h =>
      cases h
      exact W.aret C.1 C.2.1 (hr.trans (of_decide_eq_true hok)) (Or.inr ⟨_, rfl⟩) (Or.inr ⟨_, rfl⟩) (fun t ht _ => hq t ht) I.2.1.2.2 hd hlocks
  | return_ =>
    obtain rfl := pj_len (k := 1) hlen rfl (by decide)
    match stk, h with
    | [], h =>
      cases h
      exact W.vret C.1 C.2.1 (hr.trans (of_decide_eq_true hok)) (fun t ht _ => hq t ht) I.2.1.2.2 hd hlocks
  | _ => exact absurd (show (none : Option (Option pj_V)) = some _ from h) (fun q => nomatch q)
theorem pj_callB {Ts : List Cond} {own : String} {x j n d mc ms : Nat} (ht : ∀ w ∈ pj_U, w.before args s = true) (hj : j < pj_nm) (hf : d + 2 ≤ R.frames) (hlo : 64 * (d + 2) ≤ R.locals) (hini : Cond.initialized (pj_y j).cls ∈ pj_U) (hlk : Cond.methodLink own x (pj_y j) ∈ pj_U) (hpar : (parseMethodDescriptor (pj_y j).desc).map (fun d => d.parameters.length) = some n) : CallB R s args own x (pj_y j) (pj_b j) (pj_L j) (pj_rt j) (pj_wM (pj_me j) :: pj_U) (pj_rm d mc ms) mc ms n := by
  have hM : pj_okM j = true := List.all_eq_true.mp pj_okM_all j (List.mem_range.mpr (by omega))
  simp only [pj_okM, Bool.and_eq_true, decide_eq_true_eq] at hM
  exact callB_of n ht (pj_good_M hj) rfl rfl rfl (ht _ hini) (ht _ hlk) ⟨hM.2.2.2.1, hM.2.2.2.2, hpar⟩ ⟨hf, by have := hM.2.2.1; show 8 + (pj_L j + 11) + 64 * (d + 1) ≤ R.locals; omega⟩
theorem pj_kstep (C : pj_Cx cI cZ dC dI b base L xs p s m args meth c i) (I : pj_Iv cI cZ dC dI b base L xs s i H locs ls loc sh M) {d : Nat} (hf : d + 2 ≤ R.frames) (hlo : 64 * (d + 2) ≤ R.locals) (hat : pj_at i pc = some (ins, len, ta, tb, tc, tv)) {j : Nat} {vs st : List pj_V} (h : pj_k ins ta tb tc stk sh = some (j, vs, st)) {r1 : Option pj_V} {sh1 : List pj_S} {M1 : pj_M} {mc ms : Nat} (hcl : cells + mc ≤ R.cells) (hsl : slots + ms ≤ R.slots)
    (hMet : j < pj_nm → Met l (pj_y j) (pj_wM (pj_me j) :: pj_U) (pj_rm d mc ms) (va_Pc (vs.map (pj_tv (pj_ad b base))) (pj_Wd cI cZ dC dI b base L xs sh M)) (pj_Qc cI cZ dC dI b base r1 sh1 M1) mc ms (fun q : Nat => base ≤ q))
    (kk : ∀ (H1 : Heap) (locs1 : List Loc), pj_Ph cI cZ dC dI b base sh1 M1 H1 → va_S (fun q : Nat => base ≤ q) s.heap H1 locs1 → W p l e R s m args below meth c H1 locs1 (cells + mc) (slots + ms) Q (F0 m (pc + 3) ls ((r1.map (pj_tv (pj_ad b base))).toList ++ st.map (pj_tv (pj_ad b base))))) : W p l e R s m args below meth c H locs cells slots Q (F0 m pc ls (stk.map (pj_tv (pj_ad b base)))) := by
  obtain ⟨hd, hlen, hok⟩ := pj_at_ok C.2.2.2.2.2.2.2.2.2.2.2 hat
  have hpre := pj_pre C I (vs.map (pj_tv (pj_ad b base)))
  obtain ⟨hC1, hC2, hml, hown, hts, -, hK, -, -, -, hN, -⟩ := C
  have hroom : ∀ z : List pj_V, z.length ≤ 4 → 2 * (F0 m pc ls (stk.map (pj_tv (pj_ad b base)))).monitorRoom + ((z.map (pj_tv (pj_ad b base))).map fun v => v.category).sum ≤ 8 := fun z hz => lv_room (by have := pj_catsum (ad := pj_ad b base) z; omega)
  have hsize : ls.size = pj_L i := I.2.2.2.1.1
  cases ins with
  | invokevirtual x =>
    obtain rfl := pj_len (k := 3) hlen rfl (by decide)
    simp only [pj_k] at h
    split at h
    next h0 =>
      split at h
      next a st' hdrop =>
        split at h
        next hc =>
          cases h
          have hm : (pj_own i, x, 0, tb, tc) ∈ pj_ctab := of_decide_eq_true hok
          have hokc := List.all_eq_true.mp pj_okC_all _ hm
          simp only [pj_okC, Bool.and_eq_true, decide_eq_true_eq] at hokc
          obtain ⟨hj, hpar, h8⟩ := hokc
          have hw : ∀ w ∈ pj_wC (pj_own i, x, 0, tb, tc), w ∈ pj_U := fun w hw => pj_U4_m (List.mem_flatMap.mpr ⟨_, hm, hw⟩)
          have hMk : pj_okM tb = true := List.all_eq_true.mp pj_okM_all tb (List.mem_range.mpr (by omega))
          simp only [pj_okM, Bool.and_eq_true, decide_eq_true_eq] at hMk
          have hstk : stk = stk.take tc ++ .inr (.inr (some a)) :: st := by rw [← hdrop, List.take_append_drop]
          have hle : tc ≤ stk.length := by
            rcases Nat.lt_or_ge stk.length tc with q | q
            · rw [List.drop_eq_nil_of_le (by omega)] at hdrop
              cases hdrop
            · exact q
          obtain ⟨k, rfl⟩ : ∃ k, a = k + 1 := ⟨a - 1, by omega⟩
          refine pj_call (fun q : Nat => base ≤ q) (pj_Ph cI cZ dC dI b base sh1 M1) (r1.map (pj_tv (pj_ad b base))) (va_runV (n := tc) (As := (stk.take tc).reverse.map (pj_tv (pj_ad b base))) (rest := st.map (pj_tv (pj_ad b base))) (b := pj_ad b base (k + 1)) (C := (pj_y tb).cls) ⟨hC1, hC2, hml, hown, hts⟩ (hMet hj) ⟨pj_callB (Ts := pj_U) hts hj hf hlo (hw _ (by simp [pj_wC])) (hw _ (by simp [pj_wC])) hpar, hts _ (hw _ (by simp [pj_wC])), hts _ (hw _ (by simp [pj_wC]))⟩ ⟨hpre.1, ?_, hpre.2⟩ rfl ?_ hsize ?_ (hroom _ hc.2.2) hd ⟨hcl, hsl⟩) I.2.1 kk
          · rw [hMk.1]
            exact va_recv hK I.1 (pj_cl_at _ h8) (pj_ws_at hc.1)
          · simp
            omega
          · show stk.map _ = _
            rw [← List.map_reverse, List.reverse_reverse]
            rw [show (Value.ref (pj_ad b base (k + 1)) :: st.map (pj_tv (pj_ad b base))) = (pj_vR (k + 1) :: st).map (pj_tv (pj_ad b base)) from rfl, ← List.map_append, ← hstk]
        next => cases h
      next => cases h
    next => cases h
  | invokestatic x =>
    obtain rfl := pj_len (k := 3) hlen rfl (by decide)
    simp only [pj_k] at h
    split at h
    next h1 =>
      cases h
      simp only [pj_okI, Bool.or_eq_true, decide_eq_true_eq] at hok
      have hm : (pj_own i, x, 1, tb, tc) ∈ pj_ctab := by
        rcases hok with q | q
        · exact q.2
        · omega
      have hokc := List.all_eq_true.mp pj_okC_all _ hm
      simp only [pj_okC, Bool.and_eq_true, decide_eq_true_eq] at hokc
      obtain ⟨hj, hpar, -⟩ := hokc
      have hw : ∀ w ∈ pj_wC (pj_own i, x, 1, tb, tc), w ∈ pj_U := fun w hw => pj_U4_m (List.mem_flatMap.mpr ⟨_, hm, hw⟩)
      refine pj_call (fun q : Nat => base ≤ q) (pj_Ph cI cZ dC dI b base sh1 M1) (r1.map (pj_tv (pj_ad b base))) (va_runS (n := tc) (As := (stk.take tc).reverse.map (pj_tv (pj_ad b base))) (rest := (stk.drop tc).map (pj_tv (pj_ad b base))) ⟨hC1, hC2, hml, hown, hts⟩ (hMet hj) ⟨pj_callB (Ts := pj_U) hts hj hf hlo (hw _ (by simp [pj_wC])) (hw _ (by simp [pj_wC])) hpar, hts _ (hw _ (by simp [pj_wC]))⟩ hpre rfl ?_ hsize ?_ (hroom _ h1.2.2) hd ⟨hcl, hsl⟩) I.2.1 kk
      · simp
        omega
      · show stk.map _ = _
        rw [← List.map_reverse, List.reverse_reverse, ← List.map_append, List.take_append_drop]
    next => cases h
  | invokespecial x =>
    obtain rfl := pj_len (k := 3) hlen rfl (by decide)
    simp only [pj_k] at h
    split at h
    next h23 =>
      split at h
      next a st' hdrop =>
        split at h
        next hc =>
          cases h
          simp only [pj_okI, Bool.or_eq_true, decide_eq_true_eq] at hok
          have hm : (pj_own i, x, ta, tb, tc) ∈ pj_ctab := by
            rcases hok with q | q
            · exact q.2
            · omega
          have hokc := List.all_eq_true.mp pj_okC_all _ hm
          have hw : ∀ w ∈ pj_wC (pj_own i, x, ta, tb, tc), w ∈ pj_U := fun w hw => pj_U4_m (List.mem_flatMap.mpr ⟨_, hm, hw⟩)
          have hstk : stk = stk.take tc ++ .inr (.inr (some a)) :: st := by rw [← hdrop, List.take_append_drop]
          have hle : tc ≤ stk.length := by
            rcases Nat.lt_or_ge stk.length tc with q | q
            · rw [List.drop_eq_nil_of_le (by omega)] at hdrop
              cases hdrop
            · exact q
          have hst2 : stk.map (pj_tv (pj_ad b base)) = ((stk.take tc).reverse.map (pj_tv (pj_ad b base))).reverse ++ .ref (pj_ad b base a) :: st.map (pj_tv (pj_ad b base)) := by
            rw [← List.map_reverse, List.reverse_reverse]
            rw [show (Value.ref (pj_ad b base a) :: st.map (pj_tv (pj_ad b base))) = (pj_vR a :: st).map (pj_tv (pj_ad b base)) from rfl, ← List.map_append, ← hstk]
          have hlen2 : ((stk.take tc).reverse.map (pj_tv (pj_ad b base))).length = tc := by
            simp
            omega
          rcases h23 with h2 | h3
          · subst h2
            simp only [pj_okC, Bool.and_eq_true, decide_eq_true_eq] at hokc
            obtain ⟨hj, hpar, hnm, hrt⟩ := hokc
            have cb := pj_callB (Ts := pj_U) (own := pj_Rn (pj_own i)) (x := x) (R := R) (s := s) (args := args) (mc := mc) (ms := ms) hts hj hf hlo (hw _ (by simp [pj_wC])) (hw _ (by simp [pj_wC])) hpar
            rw [hrt] at cb
            exact pj_call (fun q : Nat => base ≤ q) (pj_Ph cI cZ dC dI b base sh1 M1) (r1.map (pj_tv (pj_ad b base))) (va_runI (n := tc) (As := (stk.take tc).reverse.map (pj_tv (pj_ad b base))) (rest := st.map (pj_tv (pj_ad b base))) (b := pj_ad b base a) ⟨hC1, hC2, hml, hown, hts⟩ (hMet hj) ⟨cb, hnm, hts _ (hw _ (by simp [pj_wC]))⟩ hpre rfl hlen2 hsize hst2 (hroom _ hc) hd ⟨hcl, hsl⟩) I.2.1 kk
          · subst h3
            simp only [pj_okC, Bool.and_eq_true, decide_eq_true_eq] at hokc
            obtain ⟨hj, hpar, hnm, hrt⟩ := hokc
            have hM : pj_okM tb = true := List.all_eq_true.mp pj_okM_all tb (List.mem_range.mpr (by omega))
            simp only [pj_okM, Bool.and_eq_true, decide_eq_true_eq] at hM
            have hnw : va_Nw (.methodLinkNest (pj_Rn (pj_own i)) x (pj_y tb) pj_host) s := hN _ (List.mem_map.mpr ⟨_, List.mem_filter.mpr ⟨hm, rfl⟩, rfl⟩)
            have hwd : pj_wM (pj_me tb) :: pj_U = Cond.code (pj_y tb) (pj_b tb) (pj_L tb) none :: pj_U := by
              rw [← hrt]
              rfl
            have cn := va_cnB (R := R) (s := s) (args := args) (bytes := pj_b tb) (maxL := pj_L tb) (ret := none) (mc := mc) (ms := ms) (rm := pj_rm d mc ms) tc hts (pj_good_M hj) hwd rfl rfl hnw (hts _ (hw _ (by simp [pj_wC]))) ⟨hM.2.2.2.1, hM.2.2.2.2, hpar⟩ ⟨hf, by have := hM.2.2.1; show 8 + (pj_L tb + 11) + 64 * (d + 1) ≤ R.locals; omega⟩
            exact pj_call (fun q : Nat => base ≤ q) (pj_Ph cI cZ dC dI b base sh1 M1) (r1.map (pj_tv (pj_ad b base))) (va_runIN (n := tc) (As := (stk.take tc).reverse.map (pj_tv (pj_ad b base))) (rest := st.map (pj_tv (pj_ad b base))) (b := pj_ad b base a) ⟨hC1, hC2, hml, hown, hts⟩ (hMet hj) ⟨cn, hnm, hts _ (hw _ (by simp [pj_wC]))⟩ hpre rfl hlen2 hsize hst2 (hroom _ hc) hd ⟨hcl, hsl⟩) I.2.1 kk
        next => cases h
      next => cases h
    next => cases h
  | _ => exact absurd (show (none : Option (Nat × List pj_V × List pj_V)) = some _ from h) (fun q => nomatch q)
end PJC
