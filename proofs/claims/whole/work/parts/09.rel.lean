/-! How the pure machine's state stands in the machine's heap: place 0 is the script at b, place k + 1 the cell at base + k. -/
def pj_ad (b base : Nat) (k : Nat) : Nat := match k with
  | 0 => b
  | k + 1 => base + k
def pj_tv (ad : Nat → Nat) (v : pj_V) : Value := match v with
  | .inl x => .int (Int32.ofInt x)
  | .inr (.inl x) => .long (Int64.ofInt x)
  | .inr (.inr (some k)) => .ref (ad k)
  | .inr (.inr none) => .null
def pj_fv (ad : Nat → Nat) (t : Nat) (x : Int) : Value := match t with
  | 1 => .long (Int64.ofInt x)
  | 2 => if x < 0 then .null else .ref (ad x.toNat)
  | _ => .int (Int32.ofInt x)
def pj_cell (ad : Nat → Nat) (cI cZ : ClassId) (h : pj_S) (f : Nat → Int) : va_E := match h with
  | .inl ci => .inr (ci, (List.range (pj_N ci)).map (fun j => pj_fv ad (pj_ft ci j) (f j)))
  | .inr (t, n) => .inl (if t = 0 then cI else cZ, n, .inl (fun j => Int32.ofInt (f j)))
def pj_ws (ad : Nat → Nat) (cI cZ : ClassId) (sh : List pj_S) (M : pj_M) : va_W := (sh.drop 1).zipIdx.map (fun q => (ad (q.2 + 1), pj_cell ad cI cZ q.1 (M (q.2 + 1))))
theorem pj_ws_get (ad : Nat → Nat) (cI cZ : ClassId) (sh : List pj_S) (M : pj_M) (k : Nat) : (pj_ws ad cI cZ sh M)[k]? = (sh[k + 1]?).map (fun h => (ad (k + 1), pj_cell ad cI cZ h (M (k + 1)))) := by
  unfold pj_ws
  rw [List.getElem?_map, List.getElem?_zipIdx, List.getElem?_drop, Nat.add_comm 1 k]
  cases sh[k + 1]? <;> simp
theorem pj_ws_at {ad : Nat → Nat} {cI cZ : ClassId} {sh : List pj_S} {M : pj_M} {k : Nat} {h : pj_S} (hk : sh[k + 1]? = some h) : (pj_ws ad cI cZ sh M)[k]? = some (ad (k + 1), pj_cell ad cI cZ h (M (k + 1))) := by
  rw [pj_ws_get, hk]
  rfl
theorem pj_ws_set {ad : Nat → Nat} {cI cZ : ClassId} {sh : List pj_S} {M M' : pj_M} {k : Nat} {h : pj_S} (hk : sh[k + 1]? = some h) (hM : ∀ a, a ≠ k + 1 → M' a = M a) : (pj_ws ad cI cZ sh M).set k (ad (k + 1), pj_cell ad cI cZ h (M' (k + 1))) = pj_ws ad cI cZ sh M' := by
  apply List.ext_getElem?
  intro j
  by_cases hj : j = k
  · subst hj
    rw [pj_ws_at hk, List.getElem?_set_self]
    have := pj_ws_at (ad := ad) (cI := cI) (cZ := cZ) (M := M) hk
    exact (List.getElem?_eq_some_iff.mp this).1
  · rw [List.getElem?_set_ne (Ne.symm hj), pj_ws_get, pj_ws_get, hM (j + 1) (by omega)]
theorem pj_ws_push {ad : Nat → Nat} {cI cZ : ClassId} {sh : List pj_S} {M M' : pj_M} {h : pj_S} (hs : 0 < sh.length) (hM : ∀ a, a ≠ sh.length → M' a = M a) : pj_ws ad cI cZ (sh ++ [h]) M' = pj_ws ad cI cZ sh M ++ [(ad sh.length, pj_cell ad cI cZ h (M' sh.length))] := by
  have hlen : (pj_ws ad cI cZ sh M).length = sh.length - 1 := by simp [pj_ws]
  apply List.ext_getElem?
  intro j
  rw [pj_ws_get]
  rcases Nat.lt_or_ge (j + 1) sh.length with h1 | h1
  · rw [List.getElem?_append_left h1, List.getElem?_append_left (by omega), pj_ws_get, hM (j + 1) (by omega)]
  · rw [List.getElem?_append_right h1, List.getElem?_append_right (by omega), hlen]
    by_cases h2 : j + 1 = sh.length
    · rw [h2]
      simp [show j - (sh.length - 1) = 0 by omega]
    · obtain ⟨q, hq⟩ : ∃ q, j + 1 - sh.length = q + 1 := ⟨j - sh.length, by omega⟩
      obtain ⟨q', hq'⟩ : ∃ q, j - (sh.length - 1) = q + 1 := ⟨j - (sh.length - 1) - 1, by omega⟩
      rw [hq, hq']
      rfl
theorem pj_ws_ad {ad : Nat → Nat} {cI cZ : ClassId} {sh : List pj_S} {M : pj_M} {k : Nat} {q : Nat × va_E} (h : (pj_ws ad cI cZ sh M)[k]? = some q) : q.1 = ad (k + 1) := by
  rw [pj_ws_get] at h
  cases hs : sh[k + 1]? with
  | none => rw [hs] at h; cases h
  | some z => rw [hs] at h; cases h; rfl
theorem pj_ws_D {b base : Nat} {cI cZ : ClassId} {sh : List pj_S} {M : pj_M} : va_D (fun q : Nat => base ≤ q) (pj_ws (pj_ad b base) cI cZ sh M) := by
  refine ⟨fun i j p q hi hj e => ?_, fun k q hk => ?_⟩
  · rw [pj_ws_ad hi, pj_ws_ad hj] at e
    have e' : base + i = base + j := e
    omega
  · rw [pj_ws_ad hk]
    exact Nat.le_add_right base k
def pj_ll (ad : Nat → Nat) (loc : List pj_V) : List (Nat × Value) := (loc.zipIdx.filter (fun q => decide (q.1 ≠ pj_vU))).map (fun q => (q.2, pj_tv ad q.1))
theorem pj_ll_mem {ad : Nat → Nat} {loc : List pj_V} {q : Nat × Value} : q ∈ pj_ll ad loc ↔ ∃ v, loc[q.1]? = some v ∧ v ≠ pj_vU ∧ q.2 = pj_tv ad v := by
  obtain ⟨k, w⟩ := q
  simp only [pj_ll, List.mem_map, List.mem_filter, decide_eq_true_eq, Prod.mk.injEq, Prod.exists]
  constructor
  · rintro ⟨v, j, ⟨h1, h2⟩, rfl, rfl⟩
    exact ⟨v, List.mem_zipIdx_iff_getElem?.mp h1, h2, rfl⟩
  · rintro ⟨v, h1, h2, rfl⟩
    exact ⟨v, k, ⟨List.mem_zipIdx_iff_getElem?.mpr h1, h2⟩, rfl, rfl⟩
theorem pj_lget {ad : Nat → Nat} {loc : List pj_V} {ls : Array Slot} {n k : Nat} {v : pj_V} (hl : lv_has ls n (pj_ll ad loc)) (h : loc[k]? = some v) (hv : v ≠ pj_vU) : ls[k]? = some (.val (pj_tv ad v)) := hl.2.2 (k, pj_tv ad v) (pj_ll_mem.mpr ⟨v, h, hv, rfl⟩)
theorem pj_cat2 {ad : Nat → Nat} {v : pj_V} (h : pj_long (some v) = false) : ¬ (pj_tv ad v).category = 2 := by
  match v, h with
  | .inl x, _ => simp [pj_tv, Value.category]
  | .inr (.inr (some k)), _ => simp [pj_tv, Value.category]
  | .inr (.inr none), _ => simp [pj_tv, Value.category]
theorem pj_cat1 {ad : Nat → Nat} {v : pj_V} (h : pj_long (some v) = false) : (pj_tv ad v).category = 1 := by
  rcases lv_cat (pj_tv ad v) with h1 | h1
  · exact h1
  · exact absurd h1 (pj_cat2 h)
theorem pj_st1 {ad : Nat → Nat} {loc : List pj_V} {ls : Array Slot} {n k : Nat} {v : pj_V} {w : Value} (hw : pj_tv ad v = w) (hp : pj_prev loc k = false)
    (h : lv_has ls n ((k, w) :: (pj_ll ad loc).filter (fun q => !(q.1 == k) && !(q.1 + 1 == k && q.2.category == 2)))) : lv_has ls n (pj_ll ad (loc.set k v)) := by
  subst hw
  refine ⟨h.1, h.2.1, fun q hq => h.2.2 q ?_⟩
  obtain ⟨u, h1, h2, h3⟩ := pj_ll_mem.mp hq
  obtain ⟨j, z⟩ := q
  dsimp only at h1 h3
  subst h3
  by_cases hj : j = k
  · subst hj
    have hl : j < loc.length := by
      have := (List.getElem?_eq_some_iff.mp h1).1
      simpa using this
    rw [List.getElem?_set_self hl] at h1
    cases h1
    exact List.mem_cons_self
  · rw [List.getElem?_set_ne (Ne.symm hj)] at h1
    refine List.mem_cons_of_mem _ (List.mem_filter.mpr ⟨pj_ll_mem.mpr ⟨u, h1, h2, rfl⟩, ?_⟩)
    by_cases hk : j + 1 = k
    · subst hk
      have hp' : pj_long loc[j]? = false := hp
      rw [h1] at hp'
      have := pj_cat2 (ad := ad) hp'
      simp [this]
    · simp [hj, hk]
theorem pj_st2 {ad : Nat → Nat} {loc : List pj_V} {ls : Array Slot} {n k : Nat} {v : pj_V} {w : Value} (hw : pj_tv ad v = w) (hp : pj_prev loc k = false)
    (h : lv_has ls n ((k, w) :: (pj_ll ad loc).filter (fun q => !(q.1 == k) && (!(q.1 == k + 1) && !(q.1 + 1 == k && q.2.category == 2))))) : lv_has ls n (pj_ll ad ((loc.set k v).set (k + 1) pj_vU)) := by
  subst hw
  refine ⟨h.1, h.2.1, fun q hq => h.2.2 q ?_⟩
  obtain ⟨u, h1, h2, h3⟩ := pj_ll_mem.mp hq
  obtain ⟨j, z⟩ := q
  dsimp only at h1 h3
  subst h3
  by_cases hj1 : j = k + 1
  · subst hj1
    have hl : k + 1 < (loc.set k v).length := by
      have := (List.getElem?_eq_some_iff.mp h1).1
      simpa using this
    rw [List.getElem?_set_self hl] at h1
    cases h1
    exact absurd rfl h2
  · rw [List.getElem?_set_ne (Ne.symm hj1)] at h1
    by_cases hj : j = k
    · subst hj
      have hl : j < loc.length := by
        have := (List.getElem?_eq_some_iff.mp h1).1
        simpa using this
      rw [List.getElem?_set_self hl] at h1
      cases h1
      exact List.mem_cons_self
    · rw [List.getElem?_set_ne (Ne.symm hj)] at h1
      refine List.mem_cons_of_mem _ (List.mem_filter.mpr ⟨pj_ll_mem.mpr ⟨u, h1, h2, rfl⟩, ?_⟩)
      by_cases hk : j + 1 = k
      · subst hk
        have hp' : pj_long loc[j]? = false := hp
        rw [h1] at hp'
        have := pj_cat2 (ad := ad) hp'
        simp [this, hj1]
      · simp [hj, hk, hj1]
/-- what stands at a place of a method's code -/
theorem pj_lookup_mem {β : Type} : ∀ (l : List (Nat × β)) (k : Nat) (v : β), l.lookup k = some v → (k, v) ∈ l
  | [], k, v, h => by cases h
  | (a, w) :: l, k, v, h => by
    rw [List.lookup_cons] at h
    by_cases hk : k = a
    · subst hk
      simp at h
      subst h
      exact List.mem_cons_self
    · have : (k == a) = false := by simp [hk]
      rw [this] at h
      exact List.mem_cons_of_mem _ (pj_lookup_mem l k v h)
theorem pj_at_ok {i pc len ta tb tc : Nat} {ins : Instr} {tv : Int} (hi : i < pj_nm + 1) (h : pj_at i pc = some (ins, len, ta, tb, tc, tv)) : decode (pj_b i) pc = .ok (ins, len) ∧ (pj_plen ins = 0 ∨ pj_plen ins = len) ∧ pj_okI i ins ta tb tc tv = true := by
  have hm := pj_lookup_mem _ _ _ h
  have h1 := List.all_eq_true.mp (pj_d_all i hi) _ hm
  have h2 := List.all_eq_true.mp (List.all_eq_true.mp pj_okE_all i (List.mem_range.mpr hi)) _ hm
  simp only [pj_okE, Bool.and_eq_true, Bool.or_eq_true, decide_eq_true_eq] at h2
  exact ⟨by simpa [pj_okD] using h1, h2.1, h2.2⟩
theorem pj_1I_some {stk : List pj_V} {f : Int → List pj_V → pj_O} {r : Nat × List pj_V × List pj_V × pj_M} (h : pj_1I stk f = some r) : ∃ x st, stk = .inl x :: st ∧ f x st = some r := by
  unfold pj_1I at h
  split at h
  · exact ⟨_, _, rfl, h⟩
  · cases h
theorem pj_2I_some {stk : List pj_V} {f : Int → Int → List pj_V → pj_O} {r : Nat × List pj_V × List pj_V × pj_M} (h : pj_2I stk f = some r) : ∃ x y st, stk = .inl y :: .inl x :: st ∧ f x y st = some r := by
  unfold pj_2I at h
  split at h
  · exact ⟨_, _, _, rfl, h⟩
  · cases h
theorem pj_1L_some {stk : List pj_V} {f : Int → List pj_V → pj_O} {r : Nat × List pj_V × List pj_V × pj_M} (h : pj_1L stk f = some r) : ∃ x st, stk = .inr (.inl x) :: st ∧ f x st = some r := by
  unfold pj_1L at h
  split at h
  · exact ⟨_, _, rfl, h⟩
  · cases h
theorem pj_2L_some {stk : List pj_V} {f : Int → Int → List pj_V → pj_O} {r : Nat × List pj_V × List pj_V × pj_M} (h : pj_2L stk f = some r) : ∃ x y st, stk = .inr (.inl y) :: .inr (.inl x) :: st ∧ f x y st = some r := by
  unfold pj_2L at h
  split at h
  · exact ⟨_, _, _, rfl, h⟩
  · cases h
theorem pj_IL_some {stk : List pj_V} {f : Int → Int → List pj_V → pj_O} {r : Nat × List pj_V × List pj_V × pj_M} (h : pj_IL stk f = some r) : ∃ x y st, stk = .inl y :: .inr (.inl x) :: st ∧ f x y st = some r := by
  unfold pj_IL at h
  split at h
  · exact ⟨_, _, _, rfl, h⟩
  · cases h
theorem pj_1R_some {stk : List pj_V} {f : Nat → List pj_V → pj_O} {r : Nat × List pj_V × List pj_V × pj_M} (h : pj_1R stk f = some r) : ∃ k st, stk = .inr (.inr (some k)) :: st ∧ f k st = some r := by
  unfold pj_1R at h
  split at h
  · exact ⟨_, _, rfl, h⟩
  · cases h
theorem pj_lI_some {loc : List pj_V} {k : Nat} {f : Int → pj_O} {r : Nat × List pj_V × List pj_V × pj_M} (h : pj_lI loc k f = some r) : ∃ x, loc[k]? = some (.inl x) ∧ f x = some r := by
  unfold pj_lI at h
  split at h
  · exact ⟨_, by assumption, h⟩
  · cases h
theorem pj_lL_some {loc : List pj_V} {k : Nat} {f : Int → pj_O} {r : Nat × List pj_V × List pj_V × pj_M} (h : pj_lL loc k f = some r) : ∃ x, loc[k]? = some (.inr (.inl x)) ∧ f x = some r := by
  unfold pj_lL at h
  split at h
  · exact ⟨_, by assumption, h⟩
  · cases h
theorem pj_lR_some {loc : List pj_V} {k : Nat} {f : Nat → pj_O} {r : Nat × List pj_V × List pj_V × pj_M} (h : pj_lR loc k f = some r) : ∃ x, loc[k]? = some (.inr (.inr (some x))) ∧ f x = some r := by
  unfold pj_lR at h
  split at h
  · exact ⟨_, by assumption, h⟩
  · cases h
theorem pj_set_some {loc : List pj_V} {k : Nat} {v : pj_V} {f : List pj_V → pj_O} {r : Nat × List pj_V × List pj_V × pj_M} (h : pj_set loc k v f = some r) : k < loc.length ∧ pj_prev loc k = false ∧ f (loc.set k v) = some r := by
  unfold pj_set at h
  split at h
  next hc => exact ⟨hc.1, hc.2, h⟩
  next => cases h
theorem pj_set2_some {loc : List pj_V} {k : Nat} {v : pj_V} {f : List pj_V → pj_O} {r : Nat × List pj_V × List pj_V × pj_M} (h : pj_set2 loc k v f = some r) : k + 1 < loc.length ∧ pj_prev loc k = false ∧ f ((loc.set k v).set (k + 1) pj_vU) = some r := by
  unfold pj_set2 at h
  split at h
  next hc => exact ⟨hc.1, hc.2, h⟩
  next => cases h
theorem pj_tg_some {pc : Nat} {off : Int} {f : Nat → pj_O} {r : Nat × List pj_V × List pj_V × pj_M} (h : pj_tg pc off f = some r) : ∃ t : Nat, (pc : Int) + off = (t : Int) ∧ f t = some r := by
  unfold pj_tg at h
  split at h
  next hc => exact ⟨_, (Int.toNat_of_nonneg hc).symm, h⟩
  next => cases h
theorem pj_arr_some {sh : List pj_S} {a t : Nat} {i : Int} {f : Nat → pj_O} {r : Nat × List pj_V × List pj_V × pj_M} (h : pj_arr sh a t i f = some r) : ∃ n : Nat, sh[a]? = some (.inr (t, n)) ∧ 0 ≤ pj_nrm i ∧ pj_nrm i < n ∧ f (pj_nrm i).toNat = some r := by
  unfold pj_arr at h
  split at h
  next t' n hs =>
    split at h
    next hc => exact ⟨n, by rw [hs, hc.1], hc.2.1, hc.2.2, h⟩
    next => cases h
  next => cases h
theorem pj_vin {i : Int} {n : Nat} (h0 : 0 ≤ pj_nrm i) (h : pj_nrm i < n) : vp_in (Int32.ofInt i) n := vp_in_iff.mpr ⟨h0, h⟩
