/-! THE LAW'S LOOP, out of its 32 cases; and pj_runs out of an invariant. -/
/-- a case of the law's switch (at pc): if the invariant holds, both sides answer alike, and it holds behind them -/
def pj_Case (Inv : Nat → pj_M → Prop) (pc : Nat) : Prop := ∀ (L d : Nat) (Q : Option pj_V → pj_M → Prop) (M : pj_M) (x : Int), 0 ≤ x → x + 5 ≤ (L : Int) → L ≤ 2560 → Inv L M → (∀ M', Inv L M' → pj_G L (d + 40) 152 1116 [pj_vR 0, pj_vR 1, pj_vR 38, pj_vI x] [] M' Q) → pj_G L (d + 40) 152 pc [pj_vR 0, pj_vR 1, pj_vR 38, pj_vI x] [] M Q
def pj_cases : List Nat := [176, 199, 252, 295, 328, 361, 394, 417, 460, 509, 542, 575, 618, 631, 664, 677, 700, 723, 747, 760, 810, 823, 846, 869, 912, 945, 958, 991, 1014, 1027, 1050, 1093]
theorem pj_loop {Inv : Nat → pj_M → Prop} (hc : ∀ pc ∈ pj_cases, pj_Case Inv pc) {L d : Nat} (hL : L ≤ 2560) {Q : Option pj_V → pj_M → Prop} (hend : ∀ M, Inv L M → Q (some (pj_vI 1)) M) : ∀ (r : Nat) (x : Int) (M : pj_M), 0 ≤ x → x ≤ 2600 → (L : Int) - x ≤ r → Inv L M → pj_G L (d + 40) 152 18 [pj_vR 0, pj_vR 1, pj_vR 38, pj_vI x] [] M Q := by
  intro r
  induction r with
  | zero =>
    intro x M h0 hx hr hI
    have e1 : pj_nrm x = x := pj_nrm_id (by omega) (by omega)
    have e2 : pj_nrm ((L : Int) - 5) = (L : Int) - 5 := pj_nrm_id (by omega) (by omega)
    exact pj_B152_18 (fun _ => pj_B152_1122 (hend M hI)) (fun h => by omega)
  | succ r ih =>
    intro x M h0 hx hr hI
    have e1 : pj_nrm x = x := pj_nrm_id (by omega) (by omega)
    have e2 : pj_nrm ((L : Int) - 5) = (L : Int) - 5 := pj_nrm_id (by omega) (by omega)
    refine pj_B152_18 (fun _ => pj_B152_1122 (hend M hI)) (fun h => ?_)
    have h5 : x + 5 ≤ (L : Int) := by omega
    have go : ∀ M', Inv L M' → pj_G L (d + 40) 152 1116 [pj_vR 0, pj_vR 1, pj_vR 38, pj_vI x] [] M' Q := fun M' hI' => pj_B152_1116 (ih (x + 5) M' (by omega) (by omega) (by omega) hI')
    have one : ∀ pc ∈ pj_cases, pj_G L (d + 40) 152 pc [pj_vR 0, pj_vR 1, pj_vR 38, pj_vI x] [] M Q := fun pc hpc => hc pc hpc L d Q M x h0 h5 hL hI go
    exact pj_B152_26 ⟨by omega, by omega⟩ (fun _ => one 176 (by decide)) (fun _ => one 199 (by decide)) (fun _ => one 252 (by decide)) (fun _ => one 295 (by decide)) (fun _ => one 328 (by decide)) (fun _ => one 361 (by decide)) (fun _ => one 394 (by decide)) (fun _ => one 417 (by decide)) (fun _ => one 460 (by decide)) (fun _ => one 509 (by decide)) (fun _ => one 542 (by decide)) (fun _ => one 575 (by decide)) (fun _ => one 618 (by decide)) (fun _ => one 631 (by decide)) (fun _ => one 664 (by decide)) (fun _ => one 677 (by decide)) (fun _ => one 700 (by decide)) (fun _ => one 723 (by decide)) (fun _ => one 747 (by decide)) (fun _ => one 760 (by decide)) (fun _ => one 810 (by decide)) (fun _ => one 823 (by decide)) (fun _ => one 846 (by decide)) (fun _ => one 869 (by decide)) (fun _ => one 912 (by decide)) (fun _ => one 945 (by decide)) (fun _ => one 958 (by decide)) (fun _ => one 991 (by decide)) (fun _ => one 1014 (by decide)) (fun _ => one 1027 (by decide)) (fun _ => one 1050 (by decide)) (fun _ => one 1093 (by decide)) (fun _ => go M hI)
theorem pj_refs_fld : ∀ q ∈ pj_refs, (q.1, q.2.1, (q.2.2 : Int)) ∈ pj_fld0 := by decide +kernel
/-- all that is left: an invariant, true at the beginning, kept by the 32 cases -/
theorem pj_runs_of {Inv : Nat → pj_M → Prop} (hc : ∀ pc ∈ pj_cases, pj_Case Inv pc) (h0 : ∀ (L : Nat) (xs : Nat → Int32) (M : pj_M), L ≤ 2560 → pj_M0ok (pj_m0 xs) M → Inv L M) : pj_runs := by
  intro L xs hL
  obtain ⟨M0, hb, hm⟩ := pj_boot L (pj_m0 xs) 92 (fun r sh' _ => r = some (pj_vI 1) ∧ sh' = pj_sh L)
  have hok : pj_ok M0 := fun q hq => hm.2.1 _ (pj_refs_fld q hq)
  obtain ⟨n, r, M1, hx, hr⟩ := pj_B152_16 (pj_loop (d := 60) (Q := fun r _ => r = some (pj_vI 1)) hc hL (fun _ _ => rfl) L 0 M0 (by omega) (by omega) (by omega) (h0 L xs M0 hL hm)) hok
  obtain ⟨n', r', sh', M', h1, h2, h3⟩ := hb ⟨n, r, pj_sh L, M1, hx, hr, rfl⟩
  subst h2
  subst h3
  refine ⟨n', pj_sh L, M', h1, by show 67 ≤ 600000; omega, ?_⟩
  have e : pj_sz (pj_sh L) = L + 5895 := by
    show (L :: pj_shT.map pj_s1).sum = _
    rw [List.sum_cons]
    rfl
  omega
