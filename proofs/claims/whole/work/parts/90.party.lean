/-! part, of the reference; the case. -/
section QFPY
variable {L d : Nat} {Q : Option pj_V → pj_M → Prop} {D : qf_D} {M : pj_M} {x1 x2 x3 x4 : Int}
theorem qf_nc {m n : Nat} {x : Int} (h : x = (m : Int)) (h' : x = (n : Int)) : n = m := by omega
theorem qf_pP_uniq {k wk w a b k' wk' w' a' b' : Nat} (h : qf_pP D x1 x2 x3 x4 k wk w a b) (h' : qf_pP D x1 x2 x3 x4 k' wk' w' a' b') : k' = k ∧ wk' = wk ∧ w' = w ∧ a' = a ∧ b' = b := by
  obtain ⟨-, -, -, -, c5, -, c7, c8, c9, c10, c11, c12, c13, -, -⟩ := h
  obtain ⟨-, -, -, -, e5, -, e7, e8, e9, e10, e11, e12, e13, -, -⟩ := h'
  obtain rfl : k' = k := qf_nc c7 e7
  refine ⟨rfl, ?_, qf_nc c5 e5, ?_, ?_⟩
  · by_cases z : k' ≤ 2
    · exact qf_nc (c8 z) (e8 z)
    · rw [c9 (Nat.lt_of_not_le z), e9 (Nat.lt_of_not_le z)]
  · by_cases z : k' = 3
    · rw [c11 z, e11 z]
    · exact qf_nc (c10 z).1 (e10 z).1
  · by_cases z : k' ≤ 2
    · exact qf_nc (c12 z).1 (e12 z).1
    · rw [c13 (Nat.lt_of_not_le z), e13 (Nat.lt_of_not_le z)]
theorem qf_part1Y (hr1 : -2147483648 ≤ x1 ∧ x1 < 2147483648) (h : ∀ x5 a6 a7 : Int, (-2147483648 ≤ x5 ∧ x5 < 2147483648) → (0 ≤ x1 → x5 = x1 / 10) → (x1 < 0 → x5 = -1) → qf_bb a6 (qf_hX x1) → qf_bb a7 (qf_hY x1) → pj_G L (d + 1) 91 50 [pj_vR 38, pj_vI x1, pj_vI x2, pj_vI x3, pj_vI x4, pj_vI x5, pj_vI a6, pj_vU, pj_vU] [pj_vI a7] M Q) : pj_G L (d + 1) 91 0 [pj_vR 38, pj_vI x1, pj_vI x2, pj_vI x3, pj_vI x4, pj_vU, pj_vU, pj_vU, pj_vU] [] M Q := by
  have at12 : ∀ x5 : Int, (-2147483648 ≤ x5 ∧ x5 < 2147483648) → (0 ≤ x1 → x5 = x1 / 10) → (x1 < 0 → x5 = -1) → pj_G L (d + 1) 91 12 [pj_vR 38, pj_vI x1, pj_vI x2, pj_vI x3, pj_vI x4, pj_vU, pj_vU, pj_vU, pj_vU] [pj_vI x5] M Q := by
    intro x5 r5 h5 h5'
    have tY : (0 ≤ x5 ∧ x5 ≤ 2) ↔ qf_hY x1 := by
      unfold qf_hY
      by_cases z : 0 ≤ x1
      · have := h5 z
        omega
      · have := h5' (by omega)
        omega
    have tX : (0 ≤ x5 ∧ x5 ≤ 2) ∨ x5 = 4 ↔ qf_hX x1 := by
      unfold qf_hX
      by_cases z : 0 ≤ x1
      · have := h5 z
        omega
      · have := h5' (by omega)
        omega
    have c38 : ∀ a6 : Int, qf_bb a6 (qf_hX x1) → pj_G L (d + 1) 91 38 [pj_vR 38, pj_vI x1, pj_vI x2, pj_vI x3, pj_vI x4, pj_vI x5, pj_vU, pj_vU, pj_vU] [pj_vI a6] M Q := fun a6 b6 => pj_C91_38 r5 (qf_isInY r5 (by decide) (by decide) (fun g1 g2 => h x5 a6 1 r5 h5 h5' b6 (qf_bb_1 (tY.mp ⟨g1, g2⟩))) (fun g => h x5 a6 0 r5 h5 h5' b6 (qf_bb_0 (fun y => g (tY.mpr y)))))
    refine pj_C91_12 r5 (qf_isInY r5 (by decide) (by decide) (fun g1 g2 => pj_C91_24 (by decide) (fun _ => pj_C91_33 (c38 1 (qf_bb_1 (tX.mp (Or.inl ⟨g1, g2⟩))))) (fun z => absurd z (by decide))) (fun g => pj_C91_24 (by decide) (fun z => absurd rfl z) (fun _ => pj_C91_27 r5 (fun n4 => pj_C91_37 (c38 0 (qf_bb_0 (fun y => ?_)))) (fun e4 => pj_C91_33 (c38 1 (qf_bb_1 (tX.mp (Or.inr e4))))))))
    rcases tX.mpr y with y | y
    · exact g y
    · exact n4 y
  refine pj_C91_0 hr1 (fun g => pj_C91_8 ?_) (fun g => pj_C91_4 (at12 (-1) (by decide) (fun y => by omega) (fun _ => rfl)))
  obtain ⟨e1, -⟩ := qf_div10 hr1 g
  rw [e1]
  exact at12 (x1 / 10) (by omega) (fun _ => rfl) (fun y => by omega)
theorem qf_partY (hD : qf_okD D) (hY : qf_Y D M) (hr1 : -2147483648 ≤ x1 ∧ x1 < 2147483648) (hr2 : -2147483648 ≤ x2 ∧ x2 < 2147483648) (hr3 : -2147483648 ≤ x3 ∧ x3 < 2147483648) (hr4 : -2147483648 ≤ x4 ∧ x4 < 2147483648)
    (hb : ∀ w : Nat, w ≠ 0 → qf_w_part D x1 x2 x3 x4 = w → Q (some (pj_vI (-(w : Int)))) (pj_rfY M w))
    (h : qf_w_part D x1 x2 x3 x4 = 0 → ∀ (k wk w a b : Nat) (M' : pj_M), qf_pP D x1 x2 x3 x4 k wk w a b → qf_Y (qf_paD D k wk w a b) M' → (∀ a, a < 38 ∨ 55 < a → M' a = M a) → M' 38 39 = M 38 39 → M' 38 35 = 0 → Q (some (pj_vI (qf_dP D : Int))) M') : pj_G L (d + 1) 91 0 [pj_vR 38, pj_vI x1, pj_vI x2, pj_vI x3, pj_vI x4, pj_vU, pj_vU, pj_vU, pj_vU] [] M Q := by
  have hb14 := hD.b
  have no3 : qf_c3 D x1 x2 x3 x4 → pj_G L (d + 1) 91 87 [pj_vR 38, pj_vU, pj_vU, pj_vU, pj_vU, pj_vU, pj_vU, pj_vU, pj_vU] [] M Q := fun g => pj_C91_87 (pj_no 3 (by decide) (pj_C91_93 (hb 3 (by decide) (qf_wp3 g))))
  refine qf_part1Y hr1 (fun x5 a6 a7 r5 r5' r5n r6 r7 => pj_C91_50 (qf_isWireY hD hY hr2 (fun w ew hw => pj_C91_57 (by decide) (fun z => absurd z (by decide)) (fun _ => ?_)) (fun hno => pj_C91_57 (by decide) (fun _ => no3 (Or.inl (qf_out hno))) (fun z => absurd rfl z))))
  have ed : qf_dv D x2.toNat = qf_dv D w := by rw [ew]; rfl
  have edv := hY.dv w hw
  have eP := hY.P
  have eS := hY.S
  have h14 : w < 14 := by omega
  have hr4w : (-2147483648 ≤ M 40 w ∧ M 40 w < 2147483648) ∧ (0 ≤ M 40 w → qf_dv D w ≠ 0) := by
    have hdv := hD.dv w hw
    exact ⟨by omega, by omega⟩
  have hP0 : (-2147483648 ≤ M 38 18 ∧ M 38 18 < 2147483648) ∧ (-2147483648 ≤ M 38 19 ∧ M 38 19 < 2147483648) := by omega
  have at187 : ¬ qf_c3 D x1 x2 x3 x4 → ¬ qf_c7 D x1 x2 x3 x4 → ¬ qf_c8 D x1 → pj_G L (d + 1) 91 187 [pj_vR 38, pj_vI x1, pj_vI x2, pj_vI x3, pj_vI x4, pj_vI x5, pj_vI a6, pj_vI a7, pj_vU] [] M Q := by
    intro n3 n7 n8
    have e0 := qf_wp0 n3 n7 n8
    have gK : qf_hK x1 := Classical.byContradiction (fun y => n7 (Or.inl y))
    have g0 : 0 ≤ x1 := gK.1
    have g50 : x1 < 50 := gK.2
    obtain ⟨-, er⟩ := qf_div10 hr1 g0
    have e5 := r5' g0
    have h7 : qf_dP D < 7 := Nat.lt_of_not_le (fun y => n8 (Or.inl y))
    have c274 : ∀ (k wk a b : Nat) (xa yb : Int), qf_pP D x1 x2 x3 x4 k wk w a b → (xa = if k = 3 then -1 else (a : Int)) → (yb = if k ≤ 2 then (b : Int) else -1) → pj_G L (d + 1) 91 274 [pj_vR 38, pj_vU, pj_vI x2, pj_vU, pj_vU, pj_vI x5, pj_vU, pj_vU, pj_vI (M 38 18)] [pj_vI yb, pj_vI (M 38 18), pj_vR 47] (pj_up (pj_up (pj_up (pj_up (pj_up M 38 18 (M 38 18 + 1)) 43 (qf_dP D) x5) 44 (qf_dP D) (wk : Int)) 45 (qf_dP D) x2) 46 (qf_dP D) xa) Q := by
      intro k wk a b xa yb hP hxa hyb
      have hP' := hP
      obtain ⟨c1, -, -, -, -, -, c7, -, -, -, -, -, -, -, c15⟩ := hP'
      have e5k : x5 = (k : Int) := e5.trans c7
      have c298 : ∀ wy : Int, (wy = if k = 1 ∨ k = 2 then 1 else 0) → pj_G L (d + 1) 91 298 [pj_vR 38, pj_vU, pj_vI x2, pj_vU, pj_vU, pj_vI x5, pj_vU, pj_vU, pj_vI (M 38 18)] [pj_vI wy, pj_vI (M 38 18), pj_vR 49] (pj_up (pj_up (pj_up (pj_up (pj_up (pj_up M 38 18 (M 38 18 + 1)) 43 (qf_dP D) x5) 44 (qf_dP D) (wk : Int)) 45 (qf_dP D) x2) 46 (qf_dP D) xa) 47 (qf_dP D) yb) Q := by
        intro wy hwy
        refine pj_C91_298 (qf_dP D) (qf_dP D) w eP h7 eP h7 ew h14 r5 (fun n2 => pj_C91_342 ?_) (fun k2 => ?_)
        · have hk2 : ¬ k = 2 := fun y => n2 (by rw [e5k, y]; rfl)
          rw [eP, e5k, ew, hwy]
          have fr : qf_fr [38, 40, 43, 44, 45, 46, 47, 49, 50, 51] M (pj_up (pj_up (pj_up (pj_up (pj_up (pj_up (pj_up (pj_up (pj_up (pj_up M 38 18 ((qf_dP D : Int) + 1)) 43 (qf_dP D) (k : Int)) 44 (qf_dP D) (wk : Int)) 45 (qf_dP D) (w : Int)) 46 (qf_dP D) xa) 47 (qf_dP D) yb) 49 (qf_dP D) (if k = 1 ∨ k = 2 then 1 else 0)) 50 (qf_dP D) 1) 40 w (qf_dP D : Int)) 38 35 0) := fun c hc => by
            simp only [List.mem_cons, List.not_mem_nil, or_false, not_or] at hc
            obtain ⟨h1, h2, h3, h4, h5, h6, h7, h8, h9, h10⟩ := hc
            rw [pj_up_ne h1, pj_up_ne h2, pj_up_ne h9, pj_up_ne h8, pj_up_ne h7, pj_up_ne h6, pj_up_ne h5, pj_up_ne h4, pj_up_ne h3, pj_up_ne h1]
          have fs : qf_fs 38 [18, 19, 35] M (pj_up (pj_up (pj_up (pj_up (pj_up (pj_up (pj_up (pj_up (pj_up (pj_up M 38 18 ((qf_dP D : Int) + 1)) 43 (qf_dP D) (k : Int)) 44 (qf_dP D) (wk : Int)) 45 (qf_dP D) (w : Int)) 46 (qf_dP D) xa) 47 (qf_dP D) yb) 49 (qf_dP D) (if k = 1 ∨ k = 2 then 1 else 0)) 50 (qf_dP D) 1) 40 w (qf_dP D : Int)) 38 35 0) := fun c hc => by
            simp only [List.mem_cons, List.not_mem_nil, or_false, not_or] at hc
            rw [pj_up_slot hc.2.2, pj_up_else (by decide), pj_up_else (by decide), pj_up_else (by decide), pj_up_else (by decide), pj_up_else (by decide), pj_up_else (by decide), pj_up_else (by decide), pj_up_else (by decide), pj_up_slot hc.1]
          refine h e0 k wk w a b _ hP (hY.part hD hxa hyb fr fs (by rw [pj_up_slot (by decide), pj_up_else (by decide), pj_up_else (by decide), pj_up_else (by decide), pj_up_else (by decide), pj_up_else (by decide), pj_up_else (by decide), pj_up_else (by decide), pj_up_else (by decide), pj_up_same]) ?_ (fun q => qf_upi (M := M) (c := 40)) (fun q => qf_upi (M := M) (c := 43)) (fun q => qf_upi (M := M) (c := 44)) (fun q => qf_upi (M := M) (c := 45)) (fun q => qf_upi (M := M) (c := 46)) (fun q => qf_upi (M := M) (c := 47)) (fun q => qf_upi (M := M) (c := 49)) (fun q => qf_upi (M := M) (c := 50)) (fun q => ?_)) (fun c hc => fr c ?_) (fs 39 (by decide)) pj_up_same
          · rw [pj_up_slot (by decide), pj_up_else (by decide), pj_up_else (by decide), pj_up_else (by decide), pj_up_else (by decide), pj_up_else (by decide), pj_up_else (by decide), pj_up_else (by decide), pj_up_else (by decide), pj_up_slot (by decide), if_neg hk2]
            exact eS
          · rw [pj_up_else (by decide), pj_up_else (by decide), pj_up_else (by decide), pj_up_else (by decide), pj_up_else (by decide), pj_up_else (by decide), pj_up_else (by decide), pj_up_else (by decide), pj_up_else (by decide), pj_up_else (by decide)]
            exact (if_neg (fun y => hk2 y.1)).symm
          · simp only [List.mem_cons, List.not_mem_nil, or_false, not_or]
            clear hY hD h hb no3 c15
            omega
        · have hk2 : k = 2 := qf_nc (x := 2) rfl (k2.symm.trans e5k)
          refine pj_C91_321 (qf_dS D) (by rw [pj_up_else (by decide), pj_up_else (by decide), pj_up_else (by decide), pj_up_else (by decide), pj_up_else (by decide), pj_up_else (by decide), pj_up_else (by decide), pj_up_else (by decide), pj_up_slot (by decide)]; exact eS) (c15 hk2) (pj_C91_342 ?_)
          rw [show (pj_up (pj_up (pj_up (pj_up (pj_up (pj_up (pj_up (pj_up (pj_up M 38 18 (M 38 18 + 1)) 43 (qf_dP D) x5) 44 (qf_dP D) (wk : Int)) 45 (qf_dP D) x2) 46 (qf_dP D) xa) 47 (qf_dP D) yb) 49 (qf_dP D) wy) 50 (qf_dP D) 1) 40 w (M 38 18)) 38 19 = (qf_dS D : Int) from by rw [pj_up_else (by decide), pj_up_else (by decide), pj_up_else (by decide), pj_up_else (by decide), pj_up_else (by decide), pj_up_else (by decide), pj_up_else (by decide), pj_up_else (by decide), pj_up_slot (by decide)]; exact eS]
          rw [eP, e5k, ew, hwy]
          have fr : qf_fr [38, 40, 43, 44, 45, 46, 47, 49, 50, 51] M (pj_up (pj_up (pj_up (pj_up (pj_up (pj_up (pj_up (pj_up (pj_up (pj_up (pj_up (pj_up M 38 18 ((qf_dP D : Int) + 1)) 43 (qf_dP D) (k : Int)) 44 (qf_dP D) (wk : Int)) 45 (qf_dP D) (w : Int)) 46 (qf_dP D) xa) 47 (qf_dP D) yb) 49 (qf_dP D) (if k = 1 ∨ k = 2 then 1 else 0)) 50 (qf_dP D) 1) 40 w (qf_dP D : Int)) 51 (qf_dS D) (qf_dP D : Int)) 38 19 ((qf_dS D : Int) + 1)) 38 35 0) := fun c hc => by
            simp only [List.mem_cons, List.not_mem_nil, or_false, not_or] at hc
            obtain ⟨h1, h2, h3, h4, h5, h6, h7, h8, h9, h10⟩ := hc
            rw [pj_up_ne h1, pj_up_ne h1, pj_up_ne h10, pj_up_ne h2, pj_up_ne h9, pj_up_ne h8, pj_up_ne h7, pj_up_ne h6, pj_up_ne h5, pj_up_ne h4, pj_up_ne h3, pj_up_ne h1]
          have fs : qf_fs 38 [18, 19, 35] M (pj_up (pj_up (pj_up (pj_up (pj_up (pj_up (pj_up (pj_up (pj_up (pj_up (pj_up (pj_up M 38 18 ((qf_dP D : Int) + 1)) 43 (qf_dP D) (k : Int)) 44 (qf_dP D) (wk : Int)) 45 (qf_dP D) (w : Int)) 46 (qf_dP D) xa) 47 (qf_dP D) yb) 49 (qf_dP D) (if k = 1 ∨ k = 2 then 1 else 0)) 50 (qf_dP D) 1) 40 w (qf_dP D : Int)) 51 (qf_dS D) (qf_dP D : Int)) 38 19 ((qf_dS D : Int) + 1)) 38 35 0) := fun c hc => by
            simp only [List.mem_cons, List.not_mem_nil, or_false, not_or] at hc
            rw [pj_up_slot hc.2.2, pj_up_slot hc.2.1, pj_up_else (by decide), pj_up_else (by decide), pj_up_else (by decide), pj_up_else (by decide), pj_up_else (by decide), pj_up_else (by decide), pj_up_else (by decide), pj_up_else (by decide), pj_up_else (by decide), pj_up_slot hc.1]
          refine h e0 k wk w a b _ hP (hY.part hD hxa hyb fr fs (by rw [pj_up_slot (by decide), pj_up_slot (by decide), pj_up_else (by decide), pj_up_else (by decide), pj_up_else (by decide), pj_up_else (by decide), pj_up_else (by decide), pj_up_else (by decide), pj_up_else (by decide), pj_up_else (by decide), pj_up_else (by decide), pj_up_same]) ?_ (fun q => qf_upi (M := M) (c := 40)) (fun q => qf_upi (M := M) (c := 43)) (fun q => qf_upi (M := M) (c := 44)) (fun q => qf_upi (M := M) (c := 45)) (fun q => qf_upi (M := M) (c := 46)) (fun q => qf_upi (M := M) (c := 47)) (fun q => qf_upi (M := M) (c := 49)) (fun q => qf_upi (M := M) (c := 50)) (fun q => ?_)) (fun c hc => fr c ?_) (fs 39 (by decide)) pj_up_same
          · rw [pj_up_slot (by decide), pj_up_same, if_pos hk2]
            rfl
          · rw [pj_up_else (by decide), pj_up_else (by decide), qf_upi, pj_up_else (by decide), pj_up_else (by decide), pj_up_else (by decide), pj_up_else (by decide), pj_up_else (by decide), pj_up_else (by decide), pj_up_else (by decide), pj_up_else (by decide), pj_up_else (by decide)]
            by_cases z : q = qf_dS D
            · rw [if_pos z, if_pos ⟨hk2, z⟩]
            · rw [if_neg z, if_neg (fun y => z y.2)]
          · simp only [List.mem_cons, List.not_mem_nil, or_false, not_or]
            clear hY hD h hb no3 c15
            omega
      refine pj_C91_274 (qf_dP D) eP h7 r5 (fun k1 => pj_C91_293 (c298 1 ?_)) (fun m1 => pj_C91_287 r5 (fun m2 => pj_C91_297 (c298 0 ?_)) (fun k2 => pj_C91_293 (c298 1 ?_)))
      · rw [if_pos (Or.inl (qf_nc (x := 1) rfl (k1.symm.trans e5k)))]
      · rw [if_neg (fun y => by
          rcases y with y | y
          · exact m1 (by rw [e5k, y]; rfl)
          · exact m2 (by rw [e5k, y]; rfl))]
      · rw [if_pos (Or.inr (qf_nc (x := 2) rfl (k2.symm.trans e5k)))]
    by_cases z8 : qf_hY x1
    · obtain rfl : a7 = 1 := r7.one z8
      obtain rfl : a6 = 1 := r6.one (qf_hY_X z8)
      have b30 : x1 < 30 := z8.2
      have q3 : ¬ qf_bo (qf_dW D) x3 := fun y => n3 (Or.inr (Or.inl ⟨qf_hY_X z8, y⟩))
      have q4 : ¬ qf_bo (qf_dW D) x4 := fun y => n3 (Or.inr (Or.inr ⟨z8, y⟩))
      have p3 : 0 ≤ x3 := Int.not_lt.mp (fun y => q3 (Or.inl y))
      have p4 : 0 ≤ x4 := Int.not_lt.mp (fun y => q4 (Or.inl y))
      have hP : qf_pP D x1 x2 x3 x4 (x1 / 10).toNat (x1 % 10).toNat w x3.toNat x4.toNat := qf_pP_of hw ew n3 n7 n8 (by omega) (fun _ => by omega) (fun _ => by omega) (fun _ => by omega) (fun _ => by omega) (fun _ => by omega) (fun _ => by omega)
      have := c274 (x1 / 10).toNat (x1 % 10).toNat x3.toNat x4.toNat x3 x4 hP (by rw [if_neg (by omega)]; omega) (by rw [if_pos (by omega)]; omega)
      rw [show (((x1 % 10).toNat : Nat) : Int) = x1 % 10 by omega] at this
      refine pj_C91_187 (qf_dP D) eP h7 (by decide) (fun z => absurd z (by decide)) (fun _ => pj_C91_223 ?_)
      rw [er]
      exact pj_C91_231 (qf_dP D) (qf_dP D) eP h7 eP h7 (by decide) (fun z => absurd z (by decide)) (fun _ => pj_C91_251 (pj_C91_256 (qf_dP D) eP h7 (by decide) (fun z => absurd z (by decide)) (fun _ => pj_C91_268 this)))
    · obtain rfl : a7 = 0 := r7.zero z8
      have b30 : 30 ≤ x1 := Int.not_lt.mp (fun y => z8 ⟨g0, y⟩)
      by_cases z7 : qf_hX x1
      · obtain rfl : a6 = 1 := r6.one z7
        have b40 : 40 ≤ x1 := by
          rcases z7 with y | y
          · exact absurd y z8
          · exact y.1
        have q3 : ¬ qf_bo (qf_dW D) x3 := fun y => n3 (Or.inr (Or.inl ⟨z7, y⟩))
        have p3 : 0 ≤ x3 := Int.not_lt.mp (fun y => q3 (Or.inl y))
        have hP : qf_pP D x1 x2 x3 x4 (x1 / 10).toNat 0 w x3.toNat 0 := qf_pP_of hw ew n3 n7 n8 (by omega) (fun _ => by omega) (fun _ => rfl) (fun _ => by omega) (fun _ => by omega) (fun _ => by omega) (fun _ => rfl)
        have := c274 (x1 / 10).toNat 0 x3.toNat 0 x3 (-1) hP (by rw [if_neg (by omega)]; omega) (by rw [if_neg (by omega)])
        exact pj_C91_187 (qf_dP D) eP h7 (by decide) (fun _ => pj_C91_230 (pj_C91_231 (qf_dP D) (qf_dP D) eP h7 eP h7 (by decide) (fun z => absurd z (by decide)) (fun _ => pj_C91_251 (pj_C91_256 (qf_dP D) eP h7 (by decide) (fun _ => pj_C91_273 this) (fun z => absurd rfl z))))) (fun z => absurd rfl z)
      · obtain rfl : a6 = 0 := r6.zero z7
        have b40 : x1 < 40 := Int.not_le.mp (fun y => z7 (Or.inr ⟨y, g50⟩))
        have hP : qf_pP D x1 x2 x3 x4 (x1 / 10).toNat 0 w 0 0 := qf_pP_of hw ew n3 n7 n8 (by omega) (fun _ => by omega) (fun _ => rfl) (fun _ => by omega) (fun _ => rfl) (fun _ => by omega) (fun _ => rfl)
        have := c274 (x1 / 10).toNat 0 0 0 (-1) (-1) hP (by rw [if_pos (by omega)]) (by rw [if_neg (by omega)])
        exact pj_C91_187 (qf_dP D) eP h7 (by decide) (fun _ => pj_C91_230 (pj_C91_231 (qf_dP D) (qf_dP D) eP h7 eP h7 (by decide) (fun _ => pj_C91_255 (pj_C91_256 (qf_dP D) eP h7 (by decide) (fun _ => pj_C91_273 this) (fun z => absurd rfl z))) (fun z => absurd rfl z))) (fun z => absurd rfl z)
  have at94 : ¬ qf_c3 D x1 x2 x3 x4 → pj_G L (d + 1) 91 94 [pj_vR 38, pj_vI x1, pj_vI x2, pj_vI x3, pj_vI x4, pj_vI x5, pj_vI a6, pj_vI a7, pj_vU] [] M Q := by
    intro n3
    have no7 : qf_c7 D x1 x2 x3 x4 → pj_G L (d + 1) 91 150 [pj_vR 38, pj_vU, pj_vU, pj_vU, pj_vU, pj_vU, pj_vU, pj_vU, pj_vU] [] M Q := fun g => pj_C91_150 (pj_no 7 (by decide) (pj_C91_156 (hb 7 (by decide) (qf_wp7 n3 g))))
    have tK : (0 ≤ x5 ∧ x5 ≤ 4) ↔ qf_hK x1 := by
      clear r6 r7 n3 no3 no7 at187 hb h
      unfold qf_hK
      by_cases z : 0 ≤ x1
      · have := r5' z
        omega
      · have := r5n (by omega)
        omega
    refine pj_C91_94 r5 (qf_isInY r5 (by decide) (by decide) (fun g1 g2 => pj_C91_104 (by decide) (fun z => absurd z (by decide)) (fun _ => ?_)) (fun g => pj_C91_104 (by decide) (fun _ => no7 (Or.inl (fun y => g (tK.mpr y)))) (fun z => absurd rfl z)))
    have gK : qf_hK x1 := tK.mp ⟨g1, g2⟩
    have e5 := r5' gK.1
    obtain ⟨-, er⟩ := qf_div10 hr1 gK.1
    have at157 : ¬ qf_c7 D x1 x2 x3 x4 → pj_G L (d + 1) 91 157 [pj_vR 38, pj_vI x1, pj_vI x2, pj_vI x3, pj_vI x4, pj_vI x5, pj_vI a6, pj_vI a7, pj_vU] [] M Q := by
      intro n7
      have no8 : qf_c8 D x1 → pj_G L (d + 1) 91 180 [pj_vR 38, pj_vU, pj_vU, pj_vU, pj_vU, pj_vU, pj_vU, pj_vU, pj_vU] [] M Q := fun g => pj_C91_180 (pj_no 8 (by decide) (pj_C91_186 (hb 8 (by decide) (qf_wp8 n3 n7 g))))
      refine pj_C91_157 hP0.1 (fun g => no8 (Or.inl (by omega))) (fun g => pj_C91_166 r5 (fun g2 => at187 n3 n7 (fun y => ?_)) (fun g2 => pj_C91_172 hP0.2 (fun g3 => at187 n3 n7 (fun y => ?_)) (fun g3 => no8 (Or.inr ⟨⟨by omega, by omega⟩, by omega⟩))))
      · rcases y with y | ⟨y, -⟩
        · omega
        · have := y.1
          have := y.2
          omega
      · rcases y with y | ⟨-, y⟩
        · omega
        · omega
    have at141 : (qf_hY x1 → ¬ 5 < x1 % 10) → (qf_hX x1 → ¬ x2 ≤ x3) → (qf_hY x1 → ¬ x2 ≤ x4) → pj_G L (d + 1) 91 141 [pj_vR 38, pj_vI x1, pj_vI x2, pj_vI x3, pj_vI x4, pj_vI x5, pj_vI a6, pj_vI a7, pj_vU] [] M Q := fun gw gx gy => pj_C91_141 w ew h14 hr4w.1 (fun g => at157 (fun y => by
      rcases y with y | y | y | y | y
      · exact y gK
      · exact gw y.1 y.2
      · exact gx y.1 y.2
      · exact gy y.1 y.2
      · rw [ed] at y
        omega)) (fun g => no7 (Or.inr (Or.inr (Or.inr (Or.inr (by rw [ed]; exact hr4w.2 g))))))
    have at130 : (qf_hY x1 → ¬ 5 < x1 % 10) → (qf_hX x1 → ¬ x2 ≤ x3) → pj_G L (d + 1) 91 130 [pj_vR 38, pj_vI x1, pj_vI x2, pj_vI x3, pj_vI x4, pj_vI x5, pj_vI a6, pj_vI a7, pj_vU] [] M Q := fun gw gx => pj_C91_130 r7.rg (fun z => at141 gw gx (fun y => absurd y (r7.no z))) (fun z => pj_C91_135 hr4 hr2 (fun g => no7 (Or.inr (Or.inr (Or.inr (Or.inl ⟨r7.yes z, g⟩))))) (fun g => at141 gw gx (fun _ => Int.not_le.mpr g)))
    have at120 : (qf_hY x1 → ¬ 5 < x1 % 10) → pj_G L (d + 1) 91 120 [pj_vR 38, pj_vI x1, pj_vI x2, pj_vI x3, pj_vI x4, pj_vI x5, pj_vI a6, pj_vI a7, pj_vU] [] M Q := fun gw => pj_C91_120 r6.rg (fun z => at130 gw (fun y => absurd y (r6.no z))) (fun z => pj_C91_125 hr3 hr2 (fun g => no7 (Or.inr (Or.inr (Or.inl ⟨r6.yes z, g⟩)))) (fun g => at130 gw (fun _ => Int.not_le.mpr g)))
    exact pj_C91_107 r7.rg (fun z => at120 (fun y => absurd y (r7.no z))) (fun z => pj_C91_112 (fun g => no7 (Or.inr (Or.inl ⟨r7.yes z, by rw [← er]; exact g⟩))) (fun g => at120 (fun _ => by rw [← er]; exact Int.not_lt.mpr g)))
  have n2 : ¬ qf_bo (qf_dW D) x2 := qf_nbo ew hw
  have at73 : (qf_hX x1 → ¬ qf_bo (qf_dW D) x3) → pj_G L (d + 1) 91 73 [pj_vR 38, pj_vI x1, pj_vI x2, pj_vI x3, pj_vI x4, pj_vI x5, pj_vI a6, pj_vI a7, pj_vU] [] M Q := fun q3 => pj_C91_73 r7.rg (fun z => at94 (fun y => by
    rcases y with y | y | y
    · exact n2 y
    · exact q3 y.1 y.2
    · exact r7.no z y.1)) (fun z => pj_C91_78 (qf_isWireY hD hY hr4 (fun v ev hv => pj_C91_84 (by decide) (fun _ => at94 (fun y => by
    rcases y with y | y | y
    · exact n2 y
    · exact q3 y.1 y.2
    · exact qf_nbo ev hv y.2)) (fun z => absurd z (by decide))) (fun hno => pj_C91_84 (by decide) (fun z => absurd rfl z) (fun _ => no3 (Or.inr (Or.inr ⟨r7.yes z, qf_out hno⟩))))))
  exact pj_C91_60 r6.rg (fun z => at73 (fun y => absurd y (r6.no z))) (fun z => pj_C91_65 (qf_isWireY hD hY hr3 (fun v ev hv => pj_C91_70 (by decide) (fun z => absurd z (by decide)) (fun _ => at73 (fun _ => qf_nbo ev hv))) (fun hno => pj_C91_70 (by decide) (fun _ => no3 (Or.inr (Or.inl ⟨r6.yes z, qf_out hno⟩))) (fun z => absurd rfl z))))
end QFPY
theorem qf_case_part : pj_Case qf_I 199 := by
  rintro L d Q M x h0 h5 hL ⟨D, hI⟩ go
  obtain ⟨X, rfl⟩ : ∃ X : Nat, x = (X : Int) := ⟨x.toNat, by omega⟩
  have hr1 := hI.rng (X + 1) (by omega)
  have hr2 := hI.rng (X + 2) (by omega)
  have hr3 := hI.rng (X + 3) (by omega)
  have hr4 := hI.rng (X + 4) (by omega)
  have eZ : ∀ w, (pj_rfX M w) 0 = M 0 := fun w => rfl
  refine pj_C152_199 (X + 1) (X + 2) (X + 3) (X + 4) hL (by omega) (by omega) (by omega) (by omega) (by omega) (by omega) (by omega) (by omega) (qf_partX (d := d + 37) hI.ok hI.X hr1 hr2 hr3 hr4 (fun w hw0 ew => ?_) (fun e0 k wk wi a b M1 hP hX1 f1 zz => ?_))
  · have hw := hI.rfX w
    refine pj_C152_223 (X + 1) (X + 2) (X + 3) (X + 4) hL (by omega) (by omega) (by omega) (by omega) (by omega) (by omega) (by omega) (by omega) ?_
    rw [eZ w]
    refine qf_partY (d := d + 38) hw.ok hw.Y hr1 hr2 hr3 hr4 (fun w' _ ew' => ?_) (fun e0 => absurd (ew.symm.trans e0) hw0)
    obtain rfl : w' = w := ew'.symm.trans ew
    exact pj_B152_247 (fun _ => go _ ⟨D, hw.rfY⟩) (fun c => absurd rfl c)
  · have hY1 := hI.Y.offX f1
    refine pj_C152_223 (X + 1) (X + 2) (X + 3) (X + 4) hL (by omega) (by omega) (by omega) (by omega) (by omega) (by omega) (by omega) (by omega) ?_
    rw [f1 0 (by omega)]
    refine qf_partY (d := d + 38) hI.ok hY1 hr1 hr2 hr3 hr4 (fun w' hw' ew' => absurd (ew'.symm.trans e0) hw') (fun _ k' wk' w' a' b' M2 hP' hY2 f2 f39 z35 => ?_)
    obtain ⟨rfl, rfl, rfl, rfl, rfl⟩ := qf_pP_uniq hP hP'
    exact pj_B152_247 (fun _ => go _ ⟨_, hI.new (hI.ok.part hI.E hP) (hI.E.part hP.2.2.2.2.2.2.2.2.2.2.2.2.2.1) hX1 hY2 f1 zz f2 f39 z35⟩) (fun c => absurd rfl c)
