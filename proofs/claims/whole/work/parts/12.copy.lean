theorem pj_catsum {ad : Nat → Nat} : ∀ st : List pj_V, ((st.map (pj_tv ad)).map fun v => v.category).sum ≤ 2 * st.length
  | [] => by simp
  | v :: st => by
    have ih := pj_catsum (ad := ad) st
    have hc : (pj_tv ad v).category ≤ 2 := by
      rcases lv_cat (pj_tv ad v) with h | h <;> omega
    simp only [List.map_cons, List.sum_cons, List.length_cons]
    omega
theorem pj_cpy_ne {M : pj_M} {a0 a sp dp n z : Nat} (h : z ≠ a) : pj_cpy M a0 a sp dp n z = M z := by
  funext j
  simp [pj_cpy, h]
theorem pj_cpy_arr {M : pj_M} {a0 a sp dp n : Nat} : (fun j => Int32.ofInt (pj_cpy M a0 a sp dp n a j)) = va_cpy (fun j => Int32.ofInt (M a0 j)) (fun j => Int32.ofInt (M a j)) sp dp n := by
  funext j
  by_cases h : dp ≤ j ∧ j < dp + n
  · simp [pj_cpy, va_cpy, h]
  · simp [pj_cpy, va_cpy, h]
theorem pj_acp_some {pc : Nat} {loc stk : List pj_V} {sh : List pj_S} {M : pj_M} {r : Nat × List pj_V × List pj_V × pj_M} (h : pj_acp pc loc sh M stk = some r) : ∃ (n dp sp : Int) (k k0 n0 n1 : Nat) (st : List pj_V), stk = .inl n :: .inl dp :: .inr (.inr (some (k + 1))) :: .inl sp :: .inr (.inr (some (k0 + 1))) :: st ∧ sh[k0 + 1]? = some (.inr (0, n0)) ∧ sh[k + 1]? = some (.inr (0, n1)) ∧ 0 ≤ pj_nrm n ∧ 0 ≤ pj_nrm dp ∧ 0 ≤ pj_nrm sp ∧ pj_nrm sp + pj_nrm n ≤ n0 ∧ pj_nrm dp + pj_nrm n ≤ n1 ∧ st.length ≤ 4 ∧ r = (pc + 3, loc, st, pj_cpy M (k0 + 1) (k + 1) (pj_nrm sp).toNat (pj_nrm dp).toNat (pj_nrm n).toNat) := by
  unfold pj_acp at h
  split at h
  next n dp a sp a0 st =>
    split at h
    next n0 n1 h1 h2 =>
      split at h
      next hc =>
        obtain ⟨ha, ha0, c1, c2, c3, c4, c5, c6⟩ := hc
        match a, a0, ha, ha0, h1, h2 with
        | k + 1, k0 + 1, _, _, h1, h2 =>
          exact ⟨n, dp, sp, k, k0, n0, n1, st, rfl, h1, h2, c1, c2, c3, c4, c5, c6, (Option.some.inj h).symm⟩
      next => cases h
    next => cases h
  next => cases h
theorem pj_nn (z : Int) (h : 0 ≤ pj_nrm z) : ¬ Int32.ofInt z < 0 := fun q => by
  have := (pj_zlt z).mpr q
  omega
section PJO
variable {p : Program} {l : Launch} {e : Env} {R : Room} {s : State} {m : MethodId} {args : Array Value} {below : List Frame} {meth : Method} {c : Code} {H : Heap} {locs : List Loc} {cells slots : Nat} {Q : State → Prop}
variable {cI cZ : ClassId} {dC : Nat → ClassId} {dI : Nat → Nat → Nat} {b base L : Nat} {xs : Nat → Int32} {i pc pc' ta tb tc : Nat} {tv : Int} {ls : Array Slot} {loc loc' stk stk' : List pj_V} {sh : List pj_S} {M M' : pj_M} {rest : List Value}
theorem pj_s_objinit {x : Nat} (C : pj_Cx cI cZ dC dI b base L xs p s m args meth c i) (I : pj_Iv cI cZ dC dI b base L xs s i H locs ls loc sh M) (hf : 1 ≤ R.frames) (hlo : 64 ≤ R.locals) (hd : decode (pj_b i) pc = .ok (.invokespecial x, 3)) (ho : ta = 4 → (pj_own i, x) ∈ pj_otab) (h : pj_n pc (.invokespecial x) ta tb tc tv loc stk sh M = some (pc', loc', stk', M')) (kk : ∀ (H1 : Heap) (locs1 : List Loc) (ls1 : Array Slot), pj_Iv cI cZ dC dI b base L xs s i H1 locs1 ls1 loc' sh M' → W p l e R s m args below meth c H1 locs1 cells slots Q (F0 m pc' ls1 (stk'.map (pj_tv (pj_ad b base))))) : W p l e R s m args below meth c H locs cells slots Q (F0 m pc ls (stk.map (pj_tv (pj_ad b base)))) := by
  simp only [pj_n] at h
  split at h
  next h4 =>
    obtain ⟨a, st, rfl, h1⟩ := pj_1R_some h
    split at h1
    next hst =>
      cases h1
      obtain ⟨hC1, hC2, hml, hown, hts, -⟩ := C
      have hsum := pj_catsum (ad := pj_ad b base) stk'
      refine W.objInit hC1 hC2 hown (hts _ (pj_U1_m (List.mem_map.mpr ⟨_, ho h4, rfl⟩))) (hts _ (pj_U0_m List.mem_cons_self)) (hts _ (pj_U5_m List.mem_cons_self)) rfl (I.2.2.2.1.1.trans hml.symm) rfl hd hf ?_ (kk H locs ls I)
      show 2 * 0 + _ + 12 ≤ _
      omega
    next => cases h1
  next => cases h
theorem pj_s_acopy {x : Nat} (C : pj_Cx cI cZ dC dI b base L xs p s m args meth c i) (I : pj_Iv cI cZ dC dI b base L xs s i H locs ls loc sh M) (hf : 1 ≤ R.frames) (hlo : 64 ≤ R.locals) (hd : decode (pj_b i) pc = .ok (.invokestatic x, 3)) (ho : ta = 5 → (pj_own i, x) ∈ pj_ytab) (h : pj_n pc (.invokestatic x) ta tb tc tv loc stk sh M = some (pc', loc', stk', M')) (kk : ∀ (H1 : Heap) (locs1 : List Loc) (ls1 : Array Slot), pj_Iv cI cZ dC dI b base L xs s i H1 locs1 ls1 loc' sh M' → W p l e R s m args below meth c H1 locs1 cells slots Q (F0 m pc' ls1 (stk'.map (pj_tv (pj_ad b base))))) : W p l e R s m args below meth c H locs cells slots Q (F0 m pc ls (stk.map (pj_tv (pj_ad b base)))) := by
  simp only [pj_n] at h
  split at h
  next h5 =>
    obtain ⟨n, dp, sp, k, k0, n0, n1, st, rfl, hs0, hs1, c1, c2, c3, c4, c5, c6, hr⟩ := pj_acp_some h
    cases hr
    obtain ⟨hC1, hC2, hml, hown, hts, -, hK, -⟩ := C
    have hsum := pj_catsum (ad := pj_ad b base) stk'
    have hlen : ∀ z : Int, 0 ≤ pj_nrm z → (Int32.ofInt z).toInt = ((pj_nrm z).toNat : Int) := fun z hz => (Int.toNat_of_nonneg hz).symm
    intro T hT X
    have hc0 : H[pj_ad b base (k0 + 1)]? = some (vp_cell cI (n0, .inl (fun j => Int32.ofInt (M (k0 + 1) j)))) := I.1 k0 _ (pj_ws_at hs0)
    have hc1 : H[pj_ad b base (k + 1)]? = some (vp_cell cI (n1, .inl (fun j => Int32.ofInt (M (k + 1) j)))) := I.1 k _ (pj_ws_at hs1)
    obtain ⟨-, k0', hk0, cm0, hkk0⟩ := (hK.2 0 _ rfl).1 n0 (fun j => .int (Int32.ofInt (M (k0 + 1) j)))
    obtain ⟨-, k1', hk1, cm1, hkk1⟩ := (hK.2 0 _ rfl).1 n1 (fun j => .int (Int32.ofInt (M (k + 1) j)))
    obtain ⟨vm', X', step⟩ := X.arraycopy hC1 hown (hts _ (pj_U2_m (List.mem_map.mpr ⟨_, ho h5, rfl⟩))) (hts _ (pj_U0_m (by decide +kernel))) (hts _ (pj_U0_m (by decide +kernel))) (hts _ (pj_U0_m (by decide +kernel))) (src := pj_ad b base (k0 + 1)) (dst := pj_ad b base (k + 1)) (cs := vp_cell cI (n0, .inl (fun j => Int32.ofInt (M (k0 + 1) j)))) (cd := vp_cell cI (n1, .inl (fun j => Int32.ofInt (M (k + 1) j)))) (srcPos := Int32.ofInt sp) (destPos := Int32.ofInt dp) (n := Int32.ofInt n) (by rw [hT]; exact hc0) (by rw [hT]; exact hc1)
      (fun _ h => by cases h) (fun _ h => by cases h) (fun h => by cases h) (fun h => by cases h) hk0 hk1 hkk0 hkk1 (by simp [refKind]) (pj_nn sp c3) (pj_nn dp c2) (pj_nn n c1)
      (by rw [hlen sp c3, hlen n c1]; show ¬ _ > ((arrV cI n0 (fun j => .int (Int32.ofInt (M (k0 + 1) j)))).slots.size : Int); rw [arrV_size]; omega)
      (by rw [hlen dp c2, hlen n c1]; show ¬ _ > ((arrV cI n1 (fun j => .int (Int32.ofInt (M (k + 1) j)))).slots.size : Int); rw [arrV_size]; omega)
      (fun vm₁ _ j hj => by
        have hj' : j < (pj_nrm n).toNat := hj
        have e : (vp_cell cI (n0, .inl (fun j => Int32.ofInt (M (k0 + 1) j)))).slots.getD ((Int32.ofInt sp).toNatClampNeg + j) .null = .int (Int32.ofInt (M (k0 + 1) ((Int32.ofInt sp).toNatClampNeg + j))) := by
          show (arrV cI n0 (fun j => .int (Int32.ofInt (M (k0 + 1) j)))).slots.getD _ _ = _
          rw [Array.getD_eq_getD_getElem?, arrV_read _ _ (by show (pj_nrm sp).toNat + j < n0; omega)]
          rfl
        refine ⟨?_, ?_⟩
        · rw [e]
          rfl
        · rw [e]
          exact trivial)
      (g := F0 m pc ls (.int (Int32.ofInt n) :: .int (Int32.ofInt dp) :: .ref (pj_ad b base (k + 1)) :: .int (Int32.ofInt sp) :: .ref (pj_ad b base (k0 + 1)) :: stk'.map (pj_tv (pj_ad b base)))) rfl (I.2.2.2.1.1.trans hml.symm) (rest := stk'.map (pj_tv (pj_ad b base))) rfl (by rw [hC2]; exact hd) hf (by show 2 * 0 + _ + (5 + 2 + 11) ≤ _; omega)
    have e1 : copied (vp_cell cI (n0, .inl (fun j => Int32.ofInt (M (k0 + 1) j)))) (vp_cell cI (n1, .inl (fun j => Int32.ofInt (M (k + 1) j)))) (Int32.ofInt sp) (Int32.ofInt dp) (Int32.ofInt n) = vp_cell cI (n1, .inl (va_cpy (fun j => Int32.ofInt (M (k0 + 1) j)) (fun j => Int32.ofInt (M (k + 1) j)) (pj_nrm sp).toNat (pj_nrm dp).toNat (pj_nrm n).toNat)) := va_copied (fun z => .int z) cI cI (fun j => Int32.ofInt (M (k0 + 1) j)) (fun j => Int32.ofInt (M (k + 1) j)) (by show (pj_nrm sp).toNat + (pj_nrm n).toNat ≤ n0; omega)
    rw [e1, ← pj_cpy_arr] at X' step
    have hl : pj_ad b base (k + 1) < H.size := (Array.getElem?_eq_some_iff.mp hc1).1
    have oq : ∀ q : Nat, q ≠ pj_ad b base (k + 1) → (H.setIfInBounds (pj_ad b base (k + 1)) (vp_cell cI (n1, .inl (fun j => Int32.ofInt (pj_cpy M (k0 + 1) (k + 1) (pj_nrm sp).toNat (pj_nrm dp).toNat (pj_nrm n).toNat (k + 1) j)))))[q]? = H[q]? := fun q hq => by simp [Array.getElem?_setIfInBounds, Ne.symm hq]
    have h1 := I.1.set (pj_ws_D (b := b) (base := base)) (pj_ws_at hs1) (e := pj_cell (pj_ad b base) cI cZ (.inr (0, n1)) (pj_cpy M (k0 + 1) (k + 1) (pj_nrm sp).toNat (pj_nrm dp).toNat (pj_nrm n).toNat (k + 1))) (by show (H.setIfInBounds _ _)[_]? = some _; simp [Array.getElem?_setIfInBounds, hl, pj_cell]) oq
    rw [pj_ws_set hs1 (fun a ha => pj_cpy_ne ha)] at h1
    obtain ⟨t, a1, b1⟩ := kk _ _ ls ⟨h1, ⟨by rw [Array.size_setIfInBounds]; exact I.2.1.1, fun q g1 g2 => by
        rw [oq q (fun hq => g2 (by rw [hq]; exact Nat.le_add_right base k))]
        exact I.2.1.2.1 q g1 g2, fun q hq => by
        rcases List.mem_append.mp hq with h | h
        · exact I.2.1.2.2 q h
        · obtain ⟨z, -, hz⟩ := List.mem_map.mp h
          rw [← hz]
          exact Nat.le_add_right base k⟩, by rw [Array.size_setIfInBounds]; exact I.2.2.1, I.2.2.2.1, I.2.2.2.2.1, I.2.2.2.2.2.1, fun j hj => by rw [pj_cpy_ne (by omega)]; exact I.2.2.2.2.2.2 j hj⟩ _ (by rw [← hT]; rfl) X'
    exact ⟨t, step t a1, b1⟩
  next => cases h
end PJO
