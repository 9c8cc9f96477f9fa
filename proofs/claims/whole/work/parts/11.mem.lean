/-! Fields, arrays, Object's constructor, arraycopy. -/
theorem pj_U0_m {w : Cond} (h : w ∈ pj_U0) : w ∈ pj_U := List.mem_append_left _ h
theorem pj_U1_m {w : Cond} (h : w ∈ pj_U1) : w ∈ pj_U := List.mem_append_right _ (List.mem_append_left _ h)
theorem pj_U2_m {w : Cond} (h : w ∈ pj_U2) : w ∈ pj_U := List.mem_append_right _ (List.mem_append_right _ (List.mem_append_left _ h))
theorem pj_U3_m {w : Cond} (h : w ∈ pj_U3) : w ∈ pj_U := List.mem_append_right _ (List.mem_append_right _ (List.mem_append_right _ (List.mem_append_left _ h)))
theorem pj_U4_m {w : Cond} (h : w ∈ pj_U4) : w ∈ pj_U := List.mem_append_right _ (List.mem_append_right _ (List.mem_append_right _ (List.mem_append_right _ (List.mem_append_left _ h))))
theorem pj_U5_m {w : Cond} (h : w ∈ pj_U5) : w ∈ pj_U := List.mem_append_right _ (List.mem_append_right _ (List.mem_append_right _ (List.mem_append_right _ (List.mem_append_right _ (List.mem_append_left _ h)))))
theorem pj_U6_m {w : Cond} (h : w ∈ pj_U6) : w ∈ pj_U := List.mem_append_right _ (List.mem_append_right _ (List.mem_append_right _ (List.mem_append_right _ (List.mem_append_right _ (List.mem_append_right _ (List.mem_append_left _ h))))))
theorem pj_U7_m {w : Cond} (h : w ∈ pj_U7) : w ∈ pj_U := List.mem_append_right _ (List.mem_append_right _ (List.mem_append_right _ (List.mem_append_right _ (List.mem_append_right _ (List.mem_append_right _ (List.mem_append_right _ (List.mem_append_left _ h)))))))
theorem pj_U8_m {w : Cond} (h : w ∈ pj_U8) : w ∈ pj_U := List.mem_append_right _ (List.mem_append_right _ (List.mem_append_right _ (List.mem_append_right _ (List.mem_append_right _ (List.mem_append_right _ (List.mem_append_right _ (List.mem_append_right _ (List.mem_append_left _ h))))))))
theorem pj_U9_m {w : Cond} (h : w ∈ pj_U9) : w ∈ pj_U := List.mem_append_right _ (List.mem_append_right _ (List.mem_append_right _ (List.mem_append_right _ (List.mem_append_right _ (List.mem_append_right _ (List.mem_append_right _ (List.mem_append_right _ (List.mem_append_right _ h))))))))
theorem pj_lay_in {ci : Nat} (h : ci < 8) : ∀ w ∈ u_ws (pj_Rn ci) (pj_T ci) (pj_N ci), w ∈ pj_U := fun w hw => pj_U9_m (List.mem_flatMap.mpr ⟨ci, List.mem_range.mpr h, hw⟩)
theorem pj_fs_at {ad : Nat → Nat} {ci k : Nat} {f : Nat → Int} (hk : k < pj_N ci) : ((List.range (pj_N ci)).map (fun j => pj_fv ad (pj_ft ci j) (f j)))[k]? = some (pj_fv ad (pj_ft ci k) (f k)) := by
  rw [List.getElem?_map, List.getElem?_range hk]
  rfl
theorem pj_fs_set {ad : Nat → Nat} {ci k a : Nat} {M : pj_M} {x : Int} : ((List.range (pj_N ci)).map (fun j => pj_fv ad (pj_ft ci j) (M a j))).set k (pj_fv ad (pj_ft ci k) x) = (List.range (pj_N ci)).map (fun j => pj_fv ad (pj_ft ci j) (pj_up M a k x a j)) := by
  apply List.ext_getElem?
  intro j
  by_cases hj : j = k
  · subst hj
    rcases Nat.lt_or_ge j (pj_N ci) with h | h
    · rw [List.getElem?_set_self (by simpa using h), List.getElem?_map, List.getElem?_range h]
      simp [pj_up]
    · rw [List.getElem?_eq_none (by simpa using h), List.getElem?_eq_none (by simpa using h)]
  · rw [List.getElem?_set_ne (Ne.symm hj), List.getElem?_map, List.getElem?_map]
    rcases Nat.lt_or_ge j (pj_N ci) with h | h
    · rw [List.getElem?_range h]
      simp [pj_up, hj]
    · rw [List.getElem?_eq_none (by simpa using h)]
      rfl
theorem pj_up_ne {M : pj_M} {a k z : Nat} {x : Int} (h : z ≠ a) : pj_up M a k x z = M z := by
  funext j
  simp [pj_up, h]
theorem pj_up_arr {M : pj_M} {a k : Nat} {x : Int} : (fun j => Int32.ofInt (pj_up M a k x a j)) = upd (fun j => Int32.ofInt (M a j)) k (Int32.ofInt x) := by
  funext j
  by_cases h : j = k
  · simp [pj_up, upd, h]
  · simp [pj_up, upd, h]
section PJM
variable {p : Program} {l : Launch} {e : Env} {R : Room} {s : State} {m : MethodId} {args : Array Value} {below : List Frame} {meth : Method} {c : Code} {H : Heap} {locs : List Loc} {cells slots : Nat} {Q : State → Prop}
variable {cI cZ : ClassId} {dC : Nat → ClassId} {dI : Nat → Nat → Nat} {b base L : Nat} {xs : Nat → Int32} {i pc pc' ta tb tc : Nat} {tv : Int} {ls : Array Slot} {loc loc' stk stk' : List pj_V} {sh : List pj_S} {M M' : pj_M} {rest : List Value}
/-- the world behind a store at a place -/
theorem pj_Iv.put (I : pj_Iv cI cZ dC dI b base L xs s i H locs ls loc sh M) {k z : Nat} {h : pj_S} {H1 : Heap} {x : Int} {kk : Nat} (hk : sh[k + 1]? = some h) (he : va_at (dC, dI) pj_cl (pj_ad b base (k + 1), pj_cell (pj_ad b base) cI cZ h (pj_up M (k + 1) kk x (k + 1))) H1) (hz : H1.size = H.size) (oq : ∀ q : Nat, q ≠ pj_ad b base (k + 1) → H1[q]? = H[q]?) : pj_Iv cI cZ dC dI b base L xs s i H1 (locs ++ [⟨pj_ad b base (k + 1), z⟩]) ls loc sh (pj_up M (k + 1) kk x) := by
  refine ⟨?_, I.2.1.put hz oq (Nat.le_add_right base k), by rw [hz]; exact I.2.2.1, I.2.2.2.1, I.2.2.2.2.1, I.2.2.2.2.2.1, fun j hj => ?_⟩
  · have h1 := I.1.set (pj_ws_D (b := b) (base := base)) (pj_ws_at hk) he oq
    rwa [pj_ws_set hk (fun a ha => pj_up_ne ha)] at h1
  · rw [pj_up_ne (by omega)]
    exact I.2.2.2.2.2.2 j hj
theorem pj_s_iaload (C : pj_Cx cI cZ dC dI b base L xs p s m args meth c i) (I : pj_Iv cI cZ dC dI b base L xs s i H locs ls loc sh M) (hd : decode (pj_b i) pc = .ok (.iaload, 1)) (h : pj_n pc .iaload ta tb tc tv loc stk sh M = some (pc', loc', stk', M')) (kk : ∀ (H1 : Heap) (locs1 : List Loc) (ls1 : Array Slot), pj_Iv cI cZ dC dI b base L xs s i H1 locs1 ls1 loc' sh M' → W p l e R s m args below meth c H1 locs1 cells slots Q (F0 m pc' ls1 (stk'.map (pj_tv (pj_ad b base))))) : W p l e R s m args below meth c H locs cells slots Q (F0 m pc ls (stk.map (pj_tv (pj_ad b base)))) := by
  match stk, h with
  | .inl ix :: .inr (.inr (some a)) :: st, h =>
    simp only [pj_n] at h
    obtain ⟨n, hs, h0, h1, h2⟩ := pj_arr_some h
    cases h2
    match a, hs with
    | 0, hs =>
      have hn : n = L := by
        have := hs.symm.trans I.2.2.2.2.2.1
        simpa using this
      subst hn
      obtain ⟨hC1, hC2, -, -, -, -, -, hX, hb, hbase, -⟩ := C
      refine va_sld (b := b) hC1 hC2 hX (Nat.lt_of_lt_of_le hb hbase) (Nat.not_le.mpr hb) I.2.1 (pj_vin h0 h1) hd ?_
      refine W.eq ?_ (kk H locs ls I)
      show F0 m (pc + 1) ls (.int (xs (pj_nrm ix).toNat) :: _) = F0 m (pc + 1) ls (.int (Int32.ofInt (M 0 (pj_nrm ix).toNat)) :: _)
      rw [I.2.2.2.2.2.2 _ (by omega)]
    | k + 1, hs =>
      obtain ⟨hC1, hC2, -, -, -, -, hK, -⟩ := C
      exact va_iald hC1 hC2 hK I.1 k 0 (pj_ws_at hs) rfl (pj_vin h0 h1) hd (kk H locs ls I)
theorem pj_s_baload (C : pj_Cx cI cZ dC dI b base L xs p s m args meth c i) (I : pj_Iv cI cZ dC dI b base L xs s i H locs ls loc sh M) (hd : decode (pj_b i) pc = .ok (.baload, 1)) (h : pj_n pc .baload ta tb tc tv loc stk sh M = some (pc', loc', stk', M')) (kk : ∀ (H1 : Heap) (locs1 : List Loc) (ls1 : Array Slot), pj_Iv cI cZ dC dI b base L xs s i H1 locs1 ls1 loc' sh M' → W p l e R s m args below meth c H1 locs1 cells slots Q (F0 m pc' ls1 (stk'.map (pj_tv (pj_ad b base))))) : W p l e R s m args below meth c H locs cells slots Q (F0 m pc ls (stk.map (pj_tv (pj_ad b base)))) := by
  match stk, h with
  | .inl ix :: .inr (.inr (some a)) :: st, h =>
    simp only [pj_n] at h
    split at h
    · cases h
    · rename_i ha
      obtain ⟨n, hs, h0, h1, h2⟩ := pj_arr_some h
      cases h2
      match a, hs, ha with
      | k + 1, hs, _ =>
        obtain ⟨hC1, hC2, -, -, -, -, hK, -⟩ := C
        exact va_zald hC1 hC2 hK I.1 k 1 (pj_ws_at hs) rfl (pj_vin h0 h1) hd (kk H locs ls I)
theorem pj_s_iastore (C : pj_Cx cI cZ dC dI b base L xs p s m args meth c i) (I : pj_Iv cI cZ dC dI b base L xs s i H locs ls loc sh M) (hd : decode (pj_b i) pc = .ok (.iastore, 1)) (h : pj_n pc .iastore ta tb tc tv loc stk sh M = some (pc', loc', stk', M')) (kk : ∀ (H1 : Heap) (locs1 : List Loc) (ls1 : Array Slot), pj_Iv cI cZ dC dI b base L xs s i H1 locs1 ls1 loc' sh M' → W p l e R s m args below meth c H1 locs1 cells slots Q (F0 m pc' ls1 (stk'.map (pj_tv (pj_ad b base))))) : W p l e R s m args below meth c H locs cells slots Q (F0 m pc ls (stk.map (pj_tv (pj_ad b base)))) := by
  match stk, h with
  | .inl x :: .inl ix :: .inr (.inr (some a)) :: st, h =>
    simp only [pj_n] at h
    split at h
    · cases h
    · rename_i ha
      obtain ⟨n, hs, h0, h1, h2⟩ := pj_arr_some h
      cases h2
      match a, hs, ha with
      | k + 1, hs, _ =>
        obtain ⟨hC1, hC2, -, -, -, -, hK, -⟩ := C
        have hc : H[pj_ad b base (k + 1)]? = some (vp_cell cI (n, .inl (fun j => Int32.ofInt (M (k + 1) j)))) := I.1 k _ (pj_ws_at hs)
        refine W.iast (x := Int32.ofInt x) (j := Int32.ofInt ix) hC1 hC2 hc ((hK.2 0 _ rfl).1 n (fun j => .int (Int32.ofInt (M (k + 1) j)))) (fun q => by cases q) (by show ¬ (_ ∨ (arrV _ _ _).slots.size ≤ _); rw [arrV_size]; exact pj_vin h0 h1) rfl rfl hd fun H1 e1 z oq => ?_
        refine kk H1 _ ls (I.put hs ?_ z oq)
        show H1[pj_ad b base (k + 1)]? = some (vp_cell cI (n, .inl (fun j => Int32.ofInt (pj_up M (k + 1) (pj_nrm ix).toNat x (k + 1) j))))
        rw [e1, pj_up_arr, vp_cell_i, vp_cell_i, arrV_store]
        congr 2
        funext q
        by_cases hq : q = (Int32.ofInt ix).toNatClampNeg
        · simp [updV, upd, hq, pj_nrm, Int32.toNatClampNeg]
        · have hq' : ¬ q = (pj_nrm ix).toNat := hq
          simp [updV, upd, hq, hq']
theorem pj_s_bastore (C : pj_Cx cI cZ dC dI b base L xs p s m args meth c i) (I : pj_Iv cI cZ dC dI b base L xs s i H locs ls loc sh M) (hd : decode (pj_b i) pc = .ok (.bastore, 1)) (h : pj_n pc .bastore ta tb tc tv loc stk sh M = some (pc', loc', stk', M')) (kk : ∀ (H1 : Heap) (locs1 : List Loc) (ls1 : Array Slot), pj_Iv cI cZ dC dI b base L xs s i H1 locs1 ls1 loc' sh M' → W p l e R s m args below meth c H1 locs1 cells slots Q (F0 m pc' ls1 (stk'.map (pj_tv (pj_ad b base))))) : W p l e R s m args below meth c H locs cells slots Q (F0 m pc ls (stk.map (pj_tv (pj_ad b base)))) := by
  match stk, h with
  | .inl x :: .inl ix :: .inr (.inr (some a)) :: st, h =>
    simp only [pj_n] at h
    split at h
    · cases h
    · rename_i ha
      obtain ⟨n, hs, h0, h1, h2⟩ := pj_arr_some h
      cases h2
      have ha0 : ¬ a = 0 := fun q => ha (Or.inl q)
      have hx : narrow .boolean (.int (Int32.ofInt x)) = .int (Int32.ofInt x) := by
        rcases Decidable.of_not_not (fun q => ha (Or.inr q)) with rfl | rfl <;> rfl
      match a, hs, ha0 with
      | k + 1, hs, _ =>
        obtain ⟨hC1, hC2, -, -, -, -, hK, -⟩ := C
        have hc : H[pj_ad b base (k + 1)]? = some (vp_cell cZ (n, .inl (fun j => Int32.ofInt (M (k + 1) j)))) := I.1 k _ (pj_ws_at hs)
        refine W.zast (x := Int32.ofInt x) (j := Int32.ofInt ix) hC1 hC2 hc ((hK.2 1 _ rfl).1 n (fun j => .int (Int32.ofInt (M (k + 1) j)))) (fun q => by cases q) (by show ¬ (_ ∨ (arrV _ _ _).slots.size ≤ _); rw [arrV_size]; exact pj_vin h0 h1) rfl rfl hd fun H1 e1 z oq => ?_
        refine kk H1 _ ls (I.put hs ?_ z oq)
        show H1[pj_ad b base (k + 1)]? = some (vp_cell cZ (n, .inl (fun j => Int32.ofInt (pj_up M (k + 1) (pj_nrm ix).toNat x (k + 1) j))))
        rw [e1, hx, pj_up_arr, vp_cell_i, vp_cell_i, arrV_store]
        congr 2
        funext q
        by_cases hq : q = (Int32.ofInt ix).toNatClampNeg
        · simp [updV, upd, hq, pj_nrm, Int32.toNatClampNeg]
        · have hq' : ¬ q = (pj_nrm ix).toNat := hq
          simp [updV, upd, hq, hq']
theorem pj_s_alen (C : pj_Cx cI cZ dC dI b base L xs p s m args meth c i) (I : pj_Iv cI cZ dC dI b base L xs s i H locs ls loc sh M) (hd : decode (pj_b i) pc = .ok (.arraylength, 1)) (h : pj_n pc .arraylength ta tb tc tv loc stk sh M = some (pc', loc', stk', M')) (kk : ∀ (H1 : Heap) (locs1 : List Loc) (ls1 : Array Slot), pj_Iv cI cZ dC dI b base L xs s i H1 locs1 ls1 loc' sh M' → W p l e R s m args below meth c H1 locs1 cells slots Q (F0 m pc' ls1 (stk'.map (pj_tv (pj_ad b base))))) : W p l e R s m args below meth c H locs cells slots Q (F0 m pc ls (stk.map (pj_tv (pj_ad b base)))) := by
  match stk, h with
  | .inr (.inr (some a)) :: st, h =>
    simp only [pj_n] at h
    split at h
    next t n hs =>
      cases h
      obtain ⟨hC1, hC2, -, -, -, -, hK, hX, hb, hbase, -⟩ := C
      match a, hs with
      | 0, hs =>
        have hn : n = L := by
          have := hs.symm.trans I.2.2.2.2.2.1
          simp at this
          exact this.2
        subst hn
        refine va_slen (b := b) hC1 hC2 hX (Nat.lt_of_lt_of_le hb hbase) (Nat.not_le.mpr hb) I.2.1 hd ?_
        exact W.eq (by simp [pj_tv, Int32.ofInt_eq_ofNat]) (kk H locs ls I)
      | k + 1, hs =>
        refine va_alen (v := Int32.ofInt (n : Int)) hC1 hC2 hK I.1 k (if t = 0 then 0 else 1) (ty := if t = 0 then .int else .boolean) (pj_ws_at hs) ?_ (by simp [Int32.ofInt_eq_ofNat]) hd (kk H locs ls I)
        by_cases ht : t = 0
        · simp [ht]
        · simp [ht]
    next => cases h
theorem pj_s_getfield {x : Nat} (C : pj_Cx cI cZ dC dI b base L xs p s m args meth c i) (I : pj_Iv cI cZ dC dI b base L xs s i H locs ls loc sh M) (hd : decode (pj_b i) pc = .ok (.getfield x, 3)) (hl : pj_wF (pj_own i, x, tb, tc) ∈ pj_U) (hc : tc < pj_N tb) (hb : tb < 8) (hta : ta = pj_ft tb tc) (h : pj_n pc (.getfield x) ta tb tc tv loc stk sh M = some (pc', loc', stk', M')) (kk : ∀ (H1 : Heap) (locs1 : List Loc) (ls1 : Array Slot), pj_Iv cI cZ dC dI b base L xs s i H1 locs1 ls1 loc' sh M' → W p l e R s m args below meth c H1 locs1 cells slots Q (F0 m pc' ls1 (stk'.map (pj_tv (pj_ad b base))))) : W p l e R s m args below meth c H locs cells slots Q (F0 m pc ls (stk.map (pj_tv (pj_ad b base)))) := by
  match stk, h with
  | .inr (.inr (some a)) :: st, h =>
    have h' : pj_getf pc loc sh M ta tb tc a st = some (pc', loc', stk', M') := h
    unfold pj_getf at h'
    split at h'
    next hs =>
      obtain ⟨hC1, hC2, -, hown, hts, -, hK, -⟩ := C
      match a, hs with
      | k + 1, hs =>
        have key : ∀ v : Value, pj_fv (pj_ad b base) (pj_ft tb tc) (M (k + 1) tc) = v → W p l e R s m args below meth c H locs cells slots Q (F0 m (pc + 3) ls (v :: st.map (pj_tv (pj_ad b base)))) → W p l e R s m args below meth c H locs cells slots Q (F0 m pc ls (.ref (pj_ad b base (k + 1)) :: st.map (pj_tv (pj_ad b base)))) := by
          intro v hv kv
          exact va_get hC1 hC2 hts (pj_lay_in hb) hown hK I.1 k (pj_ws_at hs.1) (pj_cl_at tb hb) tc hc (hts _ hl) (fun _ h => h) (by rw [pj_fs_at hc, hv]) hd kv
        rw [hta] at h'
        split at h'
        next ht => cases h'; exact key _ (by rw [ht]; rfl) (kk H locs ls I)
        next ht => cases h'; exact key _ (by rw [ht]; rfl) (kk H locs ls I)
        next ht => cases h'; exact key _ (by rw [ht]; rfl) (kk H locs ls I)
        next ht =>
          split at h'
          next hm =>
            cases h'
            refine key _ ?_ (kk H locs ls I)
            rw [ht]
            show (if M (k + 1) tc < 0 then Value.null else .ref _) = _
            rw [if_neg (by omega)]
            rfl
          next => cases h'
        next => cases h'
    next => cases h'
/-- a field written -/
theorem pj_put {x : Nat} (C : pj_Cx cI cZ dC dI b base L xs p s m args meth c i) (I : pj_Iv cI cZ dC dI b base L xs s i H locs ls loc sh M) (hd : decode (pj_b i) pc = .ok (.putfield x, 3)) (hl : pj_wF (pj_own i, x, tb, tc) ∈ pj_U) (hc : tc < pj_N tb) (hb : tb < 8) (hfin : (pj_T tb tc).2.2.2 = false ∨ ((pj_y i).name = "<init>" ∧ (pj_T tb tc).1 = pj_Rn (pj_own i))) {k : Nat} (hs : sh[k + 1]? = some (.inl tb)) {y : Int} {v : Value} (hv : pj_fv (pj_ad b base) (pj_ft tb tc) y = v) (hn : narrow (pj_ty tb tc) v = v) (hfit : fits (pj_ty tb tc) v = true)
    (kk : ∀ (H1 : Heap) (locs1 : List Loc), pj_Iv cI cZ dC dI b base L xs s i H1 locs1 ls loc sh (pj_up M (k + 1) tc y) → W p l e R s m args below meth c H1 locs1 cells slots Q (F0 m (pc + 3) ls rest)) : W p l e R s m args below meth c H locs cells slots Q (F0 m pc ls (v :: .ref (pj_ad b base (k + 1)) :: rest)) := by
  obtain ⟨hC1, hC2, -, hown, hts, hnm, hK, -⟩ := C
  have hin := pj_lay_in hb
  have hcl := pj_cl_at tb hb
  have hap := va_apart (own := pj_Rn (pj_own i)) hts hin (pj_ty tb) (pj_ty_ok tb hb) (pj_nm_ok tb hb) hK hcl
  obtain ⟨r, h1, cell, q1, q2, q3, q4⟩ := I.1 k _ (pj_ws_at hs)
  have hr : r = (pj_Rn tb, pj_T tb, pj_N tb) := Option.some.inj (h1.symm.trans hcl)
  subst hr
  obtain ⟨hS, hfc, kC, hkC, hkind⟩ := hK.1 tb _ hcl
  obtain ⟨cf, kf, fi, f, hi, hsl⟩ := hS tc hc
  have hst := (u_facts hfc hkC (u_lays hts hin hc) hi).1
  have fin2 : ∀ (H' : Heap), H'[pj_ad b base (k + 1)]? = some (cell.setSlot f.slot v) → H'.size = H.size → (∀ q : Nat, q ≠ pj_ad b base (k + 1) → H'[q]? = H[q]?) → W p l e R s m args below meth c H' (locs ++ [⟨pj_ad b base (k + 1), f.slot⟩]) cells slots Q (F0 m (pc + 3) ls rest) := by
    intro H' e1 e2 e3
    rw [hsl] at e1
    refine kk H' _ (I.put hs ?_ e2 e3)
    refine ⟨_, hcl, t_OB.to (V := updV (vp_V ((List.range (pj_N tb)).map (fun j => pj_fv (pj_ad b base) (pj_ft tb j) (M (k + 1) j)))) tc v) ⟨_, e1, q2, q3, t_set q4 hap hc v⟩ (fun j _ => ?_)⟩
    rw [vp_updV_set (by simpa using hc), ← hv, pj_fs_set]
  have hlay := hts _ (hin _ (u_in_lay hc))
  by_cases hf : (pj_T tb tc).2.2.2 = false
  · unfold u_lay at hlay
    rw [if_neg (by rw [hf]; decide)] at hlay
    have h6 := u_store hfc hkC hkind hlay hi (pj_ty_ok tb hb tc hc) hn hfit
    exact W.putK hC1 hC2 (f := f) ⟨hown, hts _ hl, ⟨_, _, _, hi⟩, hst⟩ (by rw [q2]; exact h6) q1 q3 (by rw [hsl]; exact k2_hasslot (q4 tc hc)) rfl rfl hd fin2
  · have hf' : (pj_T tb tc).2.2.2 = true := by simpa using hf
    obtain ⟨hn1, hdecl⟩ := hfin.resolve_left hf
    unfold u_lay at hlay
    rw [if_pos hf'] at hlay
    have hcf : m.cls = cf := by
      obtain ⟨_, _, c', _, _, _, -, -, hf', -, -, -, hown2, -⟩ := Cond.laysFinal_spec hlay
      have e1 : c' = cf := by have := hi.symm.trans hf'; simp at this; exact this.1.symm
      rw [hdecl] at hown2
      rw [← e1]; exact Option.some.inj (hown.symm.trans hown2)
    have h6 := u_fits hfc hkC hkind (Or.inr hlay) hi (pj_ty_ok tb hb tc hc) hn hfit
    exact W.putFinK hC1 hC2 hown (hts _ hl) hi hst hcf (hnm hn1) (by rw [q2]; exact h6) q1 q3 (by rw [hsl]; exact k2_hasslot (q4 tc hc)) rfl rfl hd fin2
theorem pj_s_putfield {x : Nat} (C : pj_Cx cI cZ dC dI b base L xs p s m args meth c i) (I : pj_Iv cI cZ dC dI b base L xs s i H locs ls loc sh M) (hd : decode (pj_b i) pc = .ok (.putfield x, 3)) (hl : pj_wF (pj_own i, x, tb, tc) ∈ pj_U) (hc : tc < pj_N tb) (hb : tb < 8) (hta : ta = pj_ft tb tc) (hfin : (pj_T tb tc).2.2.2 = false ∨ ((pj_y i).name = "<init>" ∧ (pj_T tb tc).1 = pj_Rn (pj_own i))) (h : pj_n pc (.putfield x) ta tb tc tv loc stk sh M = some (pc', loc', stk', M')) (kk : ∀ (H1 : Heap) (locs1 : List Loc) (ls1 : Array Slot), pj_Iv cI cZ dC dI b base L xs s i H1 locs1 ls1 loc' sh M' → W p l e R s m args below meth c H1 locs1 cells slots Q (F0 m pc' ls1 (stk'.map (pj_tv (pj_ad b base))))) : W p l e R s m args below meth c H locs cells slots Q (F0 m pc ls (stk.map (pj_tv (pj_ad b base)))) := by
  match stk, h with
  | v :: .inr (.inr (some a)) :: st, h =>
    have h' : pj_putf pc loc sh M ta tb tc v a st = some (pc', loc', stk', M') := h
    unfold pj_putf at h'
    split at h'
    next hs =>
      match a, hs with
      | k + 1, hs =>
        rw [hta] at h'
        have hft : pj_ft tb tc = (match pj_ty tb tc with
          | .int => 0
          | .long => 1
          | .boolean => 3
          | .object _ => 2
          | .array _ => 2
          | _ => 4) := rfl
        split at h'
        next x ht =>
          cases h'
          refine pj_put C I hd hl hc hb hfin hs.1 (y := x) (by rw [ht]; rfl) ?_ ?_ (fun H1 locs1 I1 => kk H1 locs1 ls I1)
          · rw [hft] at ht
            split at ht <;> first | (rename_i hy; rw [hy]; rfl) | (exact absurd ht (by decide))
          · rw [hft] at ht
            split at ht <;> first | (rename_i hy; rw [hy]; rfl) | (exact absurd ht (by decide))
        next x ht =>
          split at h'
          next hx =>
            cases h'
            refine pj_put C I hd hl hc hb hfin hs.1 (y := x) (by rw [ht]; rfl) ?_ ?_ (fun H1 locs1 I1 => kk H1 locs1 ls I1)
            · rw [hft] at ht
              split at ht <;> first | (rename_i hy; rw [hy]; rcases hx with rfl | rfl <;> rfl) | (exact absurd ht (by decide))
            · rw [hft] at ht
              split at ht <;> first | (rename_i hy; rw [hy]; rcases hx with rfl | rfl <;> rfl) | (exact absurd ht (by decide))
          next => cases h'
        next x ht =>
          cases h'
          refine pj_put C I hd hl hc hb hfin hs.1 (y := x) (by rw [ht]; rfl) ?_ ?_ (fun H1 locs1 I1 => kk H1 locs1 ls I1)
          · rw [hft] at ht
            split at ht <;> first | (rename_i hy; rw [hy]; rfl) | (exact absurd ht (by decide))
          · rw [hft] at ht
            split at ht <;> first | (rename_i hy; rw [hy]; rfl) | (exact absurd ht (by decide))
        next q ht =>
          cases h'
          refine pj_put C I hd hl hc hb hfin hs.1 (y := (q : Int)) ?_ ?_ ?_ (fun H1 locs1 I1 => kk H1 locs1 ls I1)
          · rw [ht]
            show (if (q : Int) < 0 then Value.null else .ref _) = _
            rw [if_neg (by omega)]
            rfl
          · rw [hft] at ht
            split at ht <;> first | (rename_i hy; rw [hy]; rfl) | (exact absurd ht (by decide))
          · rw [hft] at ht
            split at ht <;> first | (rename_i hy; rw [hy]; rfl) | (exact absurd ht (by decide))
        next => cases h'
    next => cases h'
end PJM
