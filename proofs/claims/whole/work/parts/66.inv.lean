/-! THE INVARIANT. -/
def qf_cY (D : qf_D) (M : pj_M) : Prop := M 38 35 = 0 ∨ (M 38 35 = 1 ∧ qf_FY D M)
/-- the row, the refusals, the script -/
def qf_R (L : Nat) (M : pj_M) : Prop := M 1 5 = M 38 39 ∧ -1 ≤ M 1 5 ∧ M 1 5 ≤ 14 ∧ (∀ i : Nat, (i : Int) < M 1 5 → M 36 i = M 66 i) ∧ (∀ w, w < 9 → M 37 w = M 56 w) ∧ ∀ k, k < L → -2147483648 ≤ M 0 k ∧ M 0 k < 2147483648
def qf_IP (D : qf_D) (L : Nat) (M : pj_M) : Prop := qf_okD D ∧ qf_okE D ∧ qf_X D M ∧ qf_cX D M ∧ qf_Y D M ∧ qf_cY D M ∧ qf_R L M
def qf_I (L : Nat) (M : pj_M) : Prop := ∃ D, qf_IP D L M
theorem qf_cX.far {D : qf_D} {M M' : pj_M} (h : qf_cX D M) (hm : ∀ a, 22 ≤ a → a ≤ 35 → M' a = M a) : qf_cX D M' := by
  obtain ⟨a1, a2, a3, a4, a5⟩ := h
  have e22 := hm 22 (by omega) (by omega)
  refine ⟨by rw [hm 28 (by omega) (by omega)]; exact a1, by rw [hm 31 (by omega) (by omega)]; exact a2, ?_, ?_, ?_⟩
  · rw [e22]
    rcases a3 with z | ⟨z, N, hN⟩
    · exact Or.inl z
    · exact Or.inr ⟨z, N, hN.keep (hm 27 (by omega) (by omega)) (by rw [hm 26 (by omega) (by omega)]) (by rw [hm 26 (by omega) (by omega)]) (hN.2.2.2.2.2.same (hm 33 (by omega) (by omega)))⟩
  · unfold qf_lst
    rw [e22, hm 23 (by omega) (by omega), hm 25 (by omega) (by omega)]
    exact a4
  · unfold qf_lst
    rw [e22, hm 24 (by omega) (by omega)]
    exact a5
theorem qf_cY.far {D : qf_D} {M M' : pj_M} (h : qf_cY D M) (h34 : M' 38 34 = M 38 34) (h35 : M' 38 35 = M 38 35) (h64 : M' 64 = M 64) (h65 : M' 65 = M 65) : qf_cY D M' := by
  unfold qf_cY qf_FY qf_lst
  rw [h34, h35, h64, h65]
  exact h
theorem qf_Y.far {D : qf_D} {M M' : pj_M} (h : qf_Y D M) (k1 : ∀ a, 39 ≤ a → a ≤ 55 → M' a = M a) (k2 : ∀ k, 17 ≤ k → k ≤ 21 → M' 38 k = M 38 k) : qf_Y D M' := ⟨(k2 17 (by omega) (by omega)).trans h.W, (k2 18 (by omega) (by omega)).trans h.P, (k2 19 (by omega) (by omega)).trans h.S, (k2 20 (by omega) (by omega)).trans h.T, (k2 21 (by omega) (by omega)).trans h.K, by rw [k1 39 (by omega) (by omega)]; exact h.rg, by rw [k1 40 (by omega) (by omega)]; exact h.dv, by rw [k1 41 (by omega) (by omega)]; exact h.pr, by rw [k1 42 (by omega) (by omega)]; exact h.np, by rw [k1 43 (by omega) (by omega)]; exact h.kd, by rw [k1 44 (by omega) (by omega)]; exact h.wk, by rw [k1 45 (by omega) (by omega)]; exact h.wo, by rw [k1 46 (by omega) (by omega)]; exact h.dx, by rw [k1 47 (by omega) (by omega)]; exact h.dy, by rw [k1 48 (by omega) (by omega)]; exact h.tb, by rw [k1 49 (by omega) (by omega)]; exact h.wy, by rw [k1 50 (by omega) (by omega)]; exact h.od, by rw [k1 51 (by omega) (by omega)]; exact h.st, by rw [k1 52 (by omega) (by omega)]; exact h.sn, by rw [k1 53 (by omega) (by omega)]; exact h.lt, by rw [k1 54 (by omega) (by omega)]; exact h.lw, by rw [k1 55 (by omega) (by omega)]; exact h.lv⟩
/-- the machine at first -/
def qf_D0 : qf_D := fun a k => if a = 0 ∧ k = 2 then 1 else 0
theorem qf_D0_ok : qf_okD qf_D0 := by
  have hW : qf_dW qf_D0 = 0 := rfl
  have hP : qf_dP qf_D0 = 0 := rfl
  have hT : qf_dT qf_D0 = 1 := rfl
  have hK : qf_dK qf_D0 = 0 := rfl
  have hS : qf_dS qf_D0 = 0 := rfl
  refine ⟨⟨by omega, by omega, by omega, by omega, by omega, by omega⟩, fun w hw => by omega, fun w hw => by omega, fun p hp => by omega, fun k _ => Nat.zero_le _, fun t w _ hw => by omega, fun k hk => by omega, fun p hp => by omega, fun z => by omega, fun k hk => by omega, fun j k _ hk => by omega, fun i hi => by omega, fun i j _ hj => by omega, fun p hp => by omega⟩
theorem qf_D0_okE : qf_okE qf_D0 := ⟨fun k _ => show 0 < 7 by omega, fun _ _ _ => rfl, ⟨fun _ _ _ => rfl, fun _ _ _ _ _ => rfl⟩, fun p _ => show 0 ≤ 1 by omega⟩
theorem qf_I_0 (L : Nat) (xs : Nat → Int32) (M : pj_M) (_ : L ≤ 2560) (h : pj_M0ok (pj_m0 xs) M) : qf_I L M := by
  obtain ⟨h1, h2, h3, h4, h5⟩ := h
  have f : ∀ a k v, (a, k, v) ∈ pj_fld0 → M a k = v := fun a k v hq => h2 (a, k, v) hq
  have z : ∀ a, a ∈ pj_arr0 → ∀ k, M a k = 0 := h3
  have hW : qf_dW qf_D0 = 0 := rfl
  have hP : qf_dP qf_D0 = 0 := rfl
  have hT : qf_dT qf_D0 = 1 := rfl
  have hK : qf_dK qf_D0 = 0 := rfl
  have hS : qf_dS qf_D0 = 0 := rfl
  refine ⟨qf_D0, qf_D0_ok, qf_D0_okE, ?_, ?_, ?_, Or.inl (f 38 35 0 (by decide)), ?_⟩
  · exact ⟨f 2 0 0 (by decide), f 7 0 0 (by decide), f 7 12 0 (by decide), f 2 1 1 (by decide), f 19 0 0 (by decide), fun _ hh => absurd hh (by omega), fun _ hh => absurd hh (by omega), fun _ hh => absurd hh (by omega), fun k _ => z 6 (by decide) k, fun _ hh => absurd hh (by omega), fun _ hh => absurd hh (by omega), fun _ hh => absurd hh (by omega), fun _ hh => absurd hh (by omega), fun _ hh => absurd hh (by omega), fun k _ => z 15 (by decide) k, fun _ hh => absurd hh (by omega), fun _ hh => absurd hh (by omega), fun k _ => z 18 (by decide) k, fun _ _ _ hh => absurd hh (by omega), fun _ hh => absurd hh (by omega), ⟨0, f 7 13 0 (by decide), by omega, fun p => by rw [Nat.zero_testBit]; exact (decide_eq_false (fun w => absurd w.1 (by omega))).symm⟩, ⟨0, f 7 14 0 (by decide), by omega, fun p => by rw [Nat.zero_testBit]; exact (decide_eq_false (fun w => absurd (show (0 : Nat) = 1 from w.2) (by decide))).symm⟩, fun _ hh => absurd hh (by omega), fun _ hh => absurd hh (by omega), fun l hl _ => h4 l hl⟩
  · exact ⟨h5, f 31 7 0 (by decide), Or.inl (f 22 8 0 (by decide)), Or.inl (f 22 3 (-1) (by decide)), Or.inl (f 22 5 (-1) (by decide))⟩
  · exact ⟨f 38 17 0 (by decide), f 38 18 0 (by decide), f 38 19 0 (by decide), f 38 20 1 (by decide), f 38 21 0 (by decide), fun _ hh => absurd hh (by omega), fun _ hh => absurd hh (by omega), fun _ hh => absurd hh (by omega), fun k _ => z 42 (by decide) k, fun _ hh => absurd hh (by omega), fun _ hh => absurd hh (by omega), fun _ hh => absurd hh (by omega), fun _ hh => absurd hh (by omega), fun _ hh => absurd hh (by omega), fun k _ => z 48 (by decide) k, fun _ hh => absurd hh (by omega), fun _ hh => absurd hh (by omega), fun k _ => z 51 (by decide) k, fun k _ => z 52 (by decide) k, fun _ hh => absurd hh (by omega), fun _ hh => absurd hh (by omega), fun _ hh => absurd hh (by omega)⟩
  · have e5 := f 1 5 (-1) (by decide)
    refine ⟨by rw [e5, f 38 39 (-1) (by decide)], by omega, by omega, fun i hi => by omega, fun w _ => by rw [z 37 (by decide), z 56 (by decide)], fun k _ => ?_⟩
    rw [h1 k]
    exact pj_op_rng _
