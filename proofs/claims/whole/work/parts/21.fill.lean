/-! Numbers in range, and the first loop: Arrays.fill, over any world. -/
theorem pj_nrm_id {x : Int} (h1 : -2147483648 ≤ x) (h2 : x < 2147483648) : pj_nrm x = x := Int32.toInt_ofInt_of_le (by omega) (by omega)
theorem pj_nrl_id {x : Int} (h1 : -9223372036854775808 ≤ x) (h2 : x < 9223372036854775808) : pj_nrl x = x := Int64.toInt_ofInt_of_le (by omega) (by omega)
theorem pj_nrm_lt (x : Int) : pj_nrm x < 2147483648 := Int32.toInt_lt _
theorem pj_nrm_ge (x : Int) : -2147483648 ≤ pj_nrm x := Int32.le_toInt _
theorem pj_nrm_nrm (x : Int) : pj_nrm (pj_nrm x) = pj_nrm x := pj_nrm_id (pj_nrm_ge x) (pj_nrm_lt x)
theorem pj_up_same {M : pj_M} {a k : Nat} {x : Int} : pj_up M a k x a k = x := by simp [pj_up]
theorem pj_up_slot {M : pj_M} {a k j : Nat} {x : Int} (h : j ≠ k) : pj_up M a k x a j = M a j := by simp [pj_up, h]
theorem pj_up_else {M : pj_M} {a b k j : Nat} {x : Int} (h : b ≠ a) : pj_up M a k x b j = M b j := by simp [pj_up, h]
/-- a row filled up to a place -/
def pj_fil (M : pj_M) (a k : Nat) (v : Int) : pj_M := fun z j => if z = a ∧ j < k then v else M z j
theorem pj_fil_0 {M : pj_M} {a : Nat} {v : Int} : pj_fil M a 0 v = M := by
  funext z j
  simp [pj_fil]
theorem pj_fil_up {M : pj_M} {a k : Nat} {v : Int} : pj_up (pj_fil M a k v) a k v = pj_fil M a (k + 1) v := by
  funext z j
  by_cases hz : z = a
  · by_cases hj : j = k
    · simp [pj_up, pj_fil, hz, hj]
    · by_cases hl : j < k
      · simp [pj_up, pj_fil, hz, hj, hl, show j < k + 1 by omega]
      · simp [pj_up, pj_fil, hz, hj, hl, show ¬ j < k + 1 by omega]
  · simp [pj_up, pj_fil, hz]
section PJL
variable {d a n : Nat} {v : Int} {sh : List pj_S} {M : pj_M} {Q : Option pj_V → pj_M → Prop}
theorem pj_fill_loop (hs : sh[a + 1]? = some (.inr (0, n))) (hn : n < 2147483648) (h : Q none (pj_fil M (a + 1) n v)) : ∀ (r k : Nat), k + r = n → pj_F d pj_iJ7_fill_53178 5 [pj_vR (a + 1), pj_vI v, pj_vI (k : Int), pj_vI (n : Int)] [] sh (pj_fil M (a + 1) k v) Q := by
  intro r
  induction r with
  | zero =>
    intro k hk
    obtain rfl : k = n := by omega
    refine (pj_F_n (pc' := 6) (stk' := [pj_vI (k : Int)]) rfl rfl).mpr ?_
    refine (pj_F_n (pc' := 7) (stk' := [pj_vI (k : Int), pj_vI (k : Int)]) rfl rfl).mpr ?_
    refine (pj_F_n (pc' := 20) (stk' := []) (loc' := [pj_vR (a + 1), pj_vI v, pj_vI (k : Int), pj_vI (k : Int)]) (M' := pj_fil M (a + 1) k v) rfl ?_).mpr ?_
    · show some ((if pj_cmp .ge (pj_nrm (k : Int)) (pj_nrm (k : Int)) then 20 else 7 + 3), _, _, _) = _
      rw [if_pos (show pj_cmp .ge (pj_nrm (k : Int)) (pj_nrm (k : Int)) = true from decide_eq_true (Int.le_refl _))]
    · exact (pj_F_r rfl rfl rfl).mpr h
  | succ r ih =>
    intro k hk
    have e1 : pj_nrm (k : Int) = k := pj_nrm_id (by omega) (by omega)
    have e2 : pj_nrm (n : Int) = n := pj_nrm_id (by omega) (by omega)
    refine (pj_F_n (pc' := 6) (stk' := [pj_vI (k : Int)]) rfl rfl).mpr ?_
    refine (pj_F_n (pc' := 7) (stk' := [pj_vI (n : Int), pj_vI (k : Int)]) rfl rfl).mpr ?_
    refine (pj_F_n (pc' := 10) (stk' := []) (loc' := [pj_vR (a + 1), pj_vI v, pj_vI (k : Int), pj_vI (n : Int)]) (M' := pj_fil M (a + 1) k v) rfl ?_).mpr ?_
    · show some ((if pj_cmp .ge (pj_nrm (k : Int)) (pj_nrm (n : Int)) then 20 else 7 + 3), _, _, _) = _
      rw [if_neg (by
        intro z
        have := of_decide_eq_true z
        omega)]
    refine (pj_F_n (pc' := 11) (stk' := [pj_vR (a + 1)]) rfl rfl).mpr ?_
    refine (pj_F_n (pc' := 12) (stk' := [pj_vI (k : Int), pj_vR (a + 1)]) rfl rfl).mpr ?_
    refine (pj_F_n (pc' := 13) (stk' := [pj_vI v, pj_vI (k : Int), pj_vR (a + 1)]) rfl rfl).mpr ?_
    refine (pj_F_n (pc' := 14) (stk' := []) (loc' := [pj_vR (a + 1), pj_vI v, pj_vI (k : Int), pj_vI (n : Int)]) (M' := pj_fil M (a + 1) (k + 1) v) rfl ?_).mpr ?_
    · show pj_arr sh (a + 1) 0 (k : Int) (fun j => some (13 + 1, _, _, pj_up (pj_fil M (a + 1) k v) (a + 1) j v)) = _
      rw [pj_arr_mk hs (by omega) (by omega), e1, Int.toNat_natCast, pj_fil_up]
    refine (pj_F_n (pc' := 17) (stk' := []) (loc' := [pj_vR (a + 1), pj_vI v, pj_vI ((k : Int) + 1), pj_vI (n : Int)]) rfl rfl).mpr ?_
    refine (pj_F_n (pc' := 5) rfl rfl).mpr ?_
    exact ih (k + 1) (by omega)
/-- Arrays.fill of a row of ints -/
theorem pj_fill (hs : sh[a + 1]? = some (.inr (0, n))) (hn : n < 2147483648) (h : Q none (pj_fil M (a + 1) n v)) : pj_F d pj_iJ7_fill_53178 0 [pj_vR (a + 1), pj_vI v, pj_vU, pj_vU] [] sh M Q := by
  refine (pj_F_n (pc' := 1) (stk' := [pj_vI 0]) rfl rfl).mpr ?_
  refine (pj_F_n (pc' := 2) (stk' := []) (loc' := [pj_vR (a + 1), pj_vI v, pj_vI 0, pj_vU]) rfl rfl).mpr ?_
  refine (pj_F_n (pc' := 3) (stk' := [pj_vR (a + 1)]) rfl rfl).mpr ?_
  refine (pj_F_n (pc' := 4) (stk' := [pj_vI (n : Int)]) (loc' := [pj_vR (a + 1), pj_vI v, pj_vI 0, pj_vU]) (M' := M) rfl ?_).mpr ?_
  · simp only [pj_n, hs]
  refine (pj_F_n (pc' := 5) (stk' := []) (loc' := [pj_vR (a + 1), pj_vI v, pj_vI 0, pj_vI (n : Int)]) rfl rfl).mpr ?_
  have := pj_fill_loop (d := d) (M := M) hs hn h n 0 (by omega)
  rw [pj_fil_0] at this
  exact this
end PJL
