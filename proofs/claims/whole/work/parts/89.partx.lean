/-! part, of the class. -/
def qf_hX (x : Int) : Prop := (0 ≤ x ∧ x < 30) ∨ (40 ≤ x ∧ x < 50)
def qf_hY (x : Int) : Prop := 0 ≤ x ∧ x < 30
def qf_hK (x : Int) : Prop := 0 ≤ x ∧ x < 50
def qf_hS (x : Int) : Prop := 20 ≤ x ∧ x < 30
def qf_bo (n : Nat) (x : Int) : Prop := x < 0 ∨ (n : Int) ≤ x
def qf_bb (c : Int) (P : Prop) : Prop := (c = 0 ∧ ¬ P) ∨ (c = 1 ∧ P)
def qf_c3 (D : qf_D) (x1 x2 x3 x4 : Int) : Prop := qf_bo (qf_dW D) x2 ∨ (qf_hX x1 ∧ qf_bo (qf_dW D) x3) ∨ (qf_hY x1 ∧ qf_bo (qf_dW D) x4)
def qf_c7 (D : qf_D) (x1 x2 x3 x4 : Int) : Prop := ¬ qf_hK x1 ∨ (qf_hY x1 ∧ 5 < x1 % 10) ∨ (qf_hX x1 ∧ x2 ≤ x3) ∨ (qf_hY x1 ∧ x2 ≤ x4) ∨ qf_dv D x2.toNat ≠ 0
def qf_c8 (D : qf_D) (x1 : Int) : Prop := 7 ≤ qf_dP D ∨ (qf_hS x1 ∧ 2 ≤ qf_dS D)
noncomputable def qf_w_part (D : qf_D) (x1 x2 x3 x4 : Int) : Nat := @ite Nat (qf_c3 D x1 x2 x3 x4) (Classical.propDecidable _) 3 (@ite Nat (qf_c7 D x1 x2 x3 x4) (Classical.propDecidable _) 7 (@ite Nat (qf_c8 D x1) (Classical.propDecidable _) 8 0))
section QFPC
variable {L d : Nat} {Q : Option pj_V → pj_M → Prop} {D : qf_D} {M : pj_M} {x1 x2 x3 x4 c : Int} {P : Prop}
theorem qf_wp3 (h : qf_c3 D x1 x2 x3 x4) : qf_w_part D x1 x2 x3 x4 = 3 := if_pos h
theorem qf_wp7 (n : ¬ qf_c3 D x1 x2 x3 x4) (h : qf_c7 D x1 x2 x3 x4) : qf_w_part D x1 x2 x3 x4 = 7 := (if_neg n).trans (if_pos h)
theorem qf_wp8 (n : ¬ qf_c3 D x1 x2 x3 x4) (n7 : ¬ qf_c7 D x1 x2 x3 x4) (h : qf_c8 D x1) : qf_w_part D x1 x2 x3 x4 = 8 := (if_neg n).trans ((if_neg n7).trans (if_pos h))
theorem qf_wp0 (n : ¬ qf_c3 D x1 x2 x3 x4) (n7 : ¬ qf_c7 D x1 x2 x3 x4) (h : ¬ qf_c8 D x1) : qf_w_part D x1 x2 x3 x4 = 0 := (if_neg n).trans ((if_neg n7).trans (if_neg h))
theorem qf_bb.rg (h : qf_bb c P) : -2147483648 ≤ c ∧ c < 2147483648 := by
  rcases h with ⟨h, -⟩ | ⟨h, -⟩
  · rw [h]; decide
  · rw [h]; decide
theorem qf_bb.no (h : qf_bb c P) (z : c = 0) : ¬ P := by
  rcases h with ⟨-, h⟩ | ⟨h, -⟩
  · exact h
  · omega
theorem qf_bb.yes (h : qf_bb c P) (z : c ≠ 0) : P := by
  rcases h with ⟨h, -⟩ | ⟨-, h⟩
  · exact absurd h z
  · exact h
theorem qf_bb.one (h : qf_bb c P) (p : P) : c = 1 := by
  rcases h with ⟨-, h⟩ | ⟨h, -⟩
  · exact absurd p h
  · exact h
theorem qf_bb.zero (h : qf_bb c P) (p : ¬ P) : c = 0 := by
  rcases h with ⟨h, -⟩ | ⟨-, h⟩
  · exact h
  · exact absurd h p
theorem qf_bb_0 (p : ¬ P) : qf_bb 0 P := Or.inl ⟨rfl, p⟩
theorem qf_bb_1 (p : P) : qf_bb 1 P := Or.inr ⟨rfl, p⟩
theorem qf_nbo {n m : Nat} (e : c = (m : Int)) (h : m < n) : ¬ qf_bo n c := by
  unfold qf_bo
  omega
theorem qf_hY_X (h : qf_hY x1) : qf_hX x1 := Or.inl h
theorem qf_div10 (hr : -2147483648 ≤ x1 ∧ x1 < 2147483648) (h0 : 0 ≤ x1) : pj_div x1 10 = x1 / 10 ∧ pj_rem x1 10 = x1 % 10 := by
  obtain ⟨n, rfl⟩ : ∃ n : Nat, x1 = (n : Int) := ⟨x1.toNat, by omega⟩
  have e1 : pj_div (n : Int) 10 = ((n / 10 : Nat) : Int) := pj_div_nat (b := 10) (by omega) (by omega) (by omega)
  have e2 : pj_rem (n : Int) 10 = ((n % 10 : Nat) : Int) := pj_rem_nat (b := 10) (by omega) (by omega) (by omega)
  rw [e1, e2]
  omega
theorem qf_part1X (hr1 : -2147483648 ≤ x1 ∧ x1 < 2147483648) (h : ∀ x5 a6 a7 a8 : Int, qf_bb a6 (qf_hK x1) → qf_bb a7 (qf_hX x1) → qf_bb a8 (qf_hY x1) → (0 ≤ x1 → x5 = x1 / 10) → pj_G L d 46 57 [pj_vR 1, pj_vI x1, pj_vI x2, pj_vI x3, pj_vI x4, pj_vI x5, pj_vI a6, pj_vI a7, pj_vU, pj_vU, pj_vU] [pj_vI a8] M Q) : pj_G L d 46 0 [pj_vR 1, pj_vI x1, pj_vI x2, pj_vI x3, pj_vI x4, pj_vU, pj_vU, pj_vU, pj_vU, pj_vU, pj_vU] [] M Q := by
  have k0 : ∀ x5 : Int, ¬ (0 ≤ x1 ∧ x1 < 50) → (0 ≤ x1 → x5 = x1 / 10) → pj_G L d 46 20 [pj_vR 1, pj_vI x1, pj_vI x2, pj_vI x3, pj_vI x4, pj_vI x5, pj_vU, pj_vU, pj_vU, pj_vU, pj_vU] [] M Q := fun x5 hc h5 => pj_C46_20 (pj_C46_21 (by decide) (fun _ => pj_C46_38 (pj_C46_39 (by decide) (fun _ => pj_C46_56 (h x5 0 0 0 (qf_bb_0 hc) (qf_bb_0 (fun y => by unfold qf_hX at y; omega)) (qf_bb_0 (fun y => by unfold qf_hY at y; omega)) h5)) (fun z => absurd rfl z))) (fun z => absurd rfl z))
  refine pj_C46_0 hr1 (fun g => k0 _ (by omega) (fun y => by omega)) (fun g => ?_)
  obtain ⟨e1, -⟩ := qf_div10 hr1 g
  rw [e1]
  refine pj_C46_10 (by omega) (fun g4 => k0 _ (by omega) (fun _ => rfl)) (fun g4 => pj_C46_16 (pj_C46_21 (by decide) (fun z => absurd z (by decide)) (fun _ => ?_)))
  have hK : qf_hK x1 := ⟨g, by omega⟩
  refine pj_C46_28 (by omega) (fun e3 => pj_C46_38 (pj_C46_39 (by decide) (fun _ => pj_C46_56 (h _ 1 0 0 (qf_bb_1 hK) (qf_bb_0 (fun y => by unfold qf_hX at y; omega)) (qf_bb_0 (fun y => by unfold qf_hY at y; omega)) (fun _ => rfl))) (fun z => absurd rfl z))) (fun n3 => pj_C46_34 (pj_C46_39 (by decide) (fun z => absurd z (by decide)) (fun _ => ?_)))
  have hX : qf_hX x1 := by
    unfold qf_hX
    omega
  exact pj_C46_46 (by omega) (fun e4 => pj_C46_56 (h _ 1 1 0 (qf_bb_1 hK) (qf_bb_1 hX) (qf_bb_0 (fun y => by unfold qf_hY at y; omega)) (fun _ => rfl))) (fun n4 => pj_C46_52 (h _ 1 1 1 (qf_bb_1 hK) (qf_bb_1 hX) (qf_bb_1 ⟨g, by omega⟩) (fun _ => rfl)))
/-- a part that both sides take -/
theorem qf_pP_of {k wk w a b : Nat} (hw : w < qf_dW D) (ew : x2 = (w : Int)) (n3 : ¬ qf_c3 D x1 x2 x3 x4) (n7 : ¬ qf_c7 D x1 x2 x3 x4) (n8 : ¬ qf_c8 D x1) (hk : x1 / 10 = (k : Int)) (h1 : k ≤ 2 → x1 % 10 = (wk : Int)) (h2 : 2 < k → wk = 0) (h3 : k ≠ 3 → x3 = (a : Int)) (h4 : k = 3 → a = 0) (h5 : k ≤ 2 → x4 = (b : Int)) (h6 : 2 < k → b = 0) : qf_pP D x1 x2 x3 x4 k wk w a b := by
  have ed : qf_dv D x2.toNat = qf_dv D w := by rw [ew]; rfl
  have gK : qf_hK x1 := Classical.byContradiction (fun y => n7 (Or.inl y))
  have gw : qf_hY x1 → ¬ 5 < x1 % 10 := fun y z => n7 (Or.inr (Or.inl ⟨y, z⟩))
  have gx : qf_hX x1 → ¬ x2 ≤ x3 := fun y z => n7 (Or.inr (Or.inr (Or.inl ⟨y, z⟩)))
  have gy : qf_hY x1 → ¬ x2 ≤ x4 := fun y z => n7 (Or.inr (Or.inr (Or.inr (Or.inl ⟨y, z⟩))))
  have gd : qf_dv D w = 0 := Classical.byContradiction (fun y => n7 (Or.inr (Or.inr (Or.inr (Or.inr (by rw [ed]; exact y))))))
  have g7 : ¬ 7 ≤ qf_dP D := fun y => n8 (Or.inl y)
  have gS : qf_hS x1 → ¬ 2 ≤ qf_dS D := fun y z => n8 (Or.inr ⟨y, z⟩)
  have y1 : 0 ≤ x1 := gK.1
  have y2 : x1 < 50 := gK.2
  have Yof : k ≤ 2 → qf_hY x1 := fun z => ⟨y1, by omega⟩
  have Xof : k ≠ 3 → qf_hX x1 := fun z => by
    unfold qf_hX
    omega
  refine ⟨by omega, ?_, hw, gd, ew, y1, hk, h1, h2, fun z => ⟨h3 z, ?_⟩, h4, fun z => ⟨h5 z, ?_⟩, h6, by omega, fun z => ?_⟩
  · by_cases z : k ≤ 2
    · have := gw (Yof z)
      have := h1 z
      omega
    · have := h2 (by omega)
      omega
  · have := gx (Xof z)
    have := h3 z
    omega
  · have := gy (Yof z)
    have := h5 z
    omega
  · have := gS ⟨by omega, by omega⟩
    omega
theorem qf_partX (hD : qf_okD D) (hX : qf_X D M) (hr1 : -2147483648 ≤ x1 ∧ x1 < 2147483648) (hr2 : -2147483648 ≤ x2 ∧ x2 < 2147483648) (hr3 : -2147483648 ≤ x3 ∧ x3 < 2147483648) (hr4 : -2147483648 ≤ x4 ∧ x4 < 2147483648)
    (hb : ∀ w : Nat, w ≠ 0 → qf_w_part D x1 x2 x3 x4 = w → Q (some (pj_vI (-(w : Int)))) (pj_rfX M w))
    (h : qf_w_part D x1 x2 x3 x4 = 0 → ∀ (k wk w a b : Nat) (M' : pj_M), qf_pP D x1 x2 x3 x4 k wk w a b → qf_X (qf_paD D k wk w a b) M' → (∀ a, a < 2 ∨ 22 < a → M' a = M a) → (M' 22 8 = 0 ∧ M' 22 3 = -1 ∧ M' 22 5 = -1) → Q (some (pj_vI (qf_dP D : Int))) M') : pj_G L (d + 2) 46 0 [pj_vR 1, pj_vI x1, pj_vI x2, pj_vI x3, pj_vI x4, pj_vU, pj_vU, pj_vU, pj_vU, pj_vU, pj_vU] [] M Q := by
  have hb14 := hD.b
  have no3 : qf_c3 D x1 x2 x3 x4 → pj_G L (d + 2) 46 94 [pj_vR 1, pj_vU, pj_vU, pj_vU, pj_vU, pj_vU, pj_vU, pj_vU, pj_vU, pj_vU, pj_vU] [] M Q := fun g => pj_C46_94 (pj_refuse 3 (by decide) (pj_C46_100 (hb 3 (by decide) (qf_wp3 g))))
  refine qf_part1X hr1 (fun x5 a6 a7 a8 r6 r7 r8 r5 => pj_C46_57 (qf_isWireX hD hX hr2 (fun w ew hw => pj_C46_64 (by decide) (fun z => absurd z (by decide)) (fun _ => ?_)) (fun hno => pj_C46_64 (by decide) (fun _ => no3 (Or.inl (qf_out hno))) (fun z => absurd rfl z))))
  have ed : qf_dv D x2.toNat = qf_dv D w := by rw [ew]; rfl
  have edv := hX.dv w hw
  have eP := hX.P
  have eS := hX.S
  have h14 : w < 14 := by omega
  have hr4w : (-2147483648 ≤ M 4 w ∧ M 4 w < 2147483648) ∧ (M 4 w ≠ -1 → qf_dv D w ≠ 0) := by
    have hdv := hD.dv w hw
    exact ⟨by omega, by omega⟩
  have hP0 : (-2147483648 ≤ M 7 0 ∧ M 7 0 < 2147483648) ∧ (-2147483648 ≤ M 7 12 ∧ M 7 12 < 2147483648) := by omega
  have at208 : ¬ qf_c3 D x1 x2 x3 x4 → ¬ qf_c7 D x1 x2 x3 x4 → ¬ qf_c8 D x1 → pj_G L (d + 2) 46 208 [pj_vR 1, pj_vI x1, pj_vI x2, pj_vI x3, pj_vI x4, pj_vI x5, pj_vU, pj_vI a7, pj_vI a8, pj_vU, pj_vU] [] M Q := by
    intro n3 n7 n8
    have e0 := qf_wp0 n3 n7 n8
    have gK : qf_hK x1 := Classical.byContradiction (fun y => n7 (Or.inl y))
    have g0 : 0 ≤ x1 := gK.1
    have g50 : x1 < 50 := gK.2
    obtain ⟨-, er⟩ := qf_div10 hr1 g0
    have e5 := r5 g0
    have hXf := hX.fg
    have main : ∀ (k wk a b : Nat) (xa yb : Int), qf_pP D x1 x2 x3 x4 k wk w a b → (xa = if k = 3 then -1 else (a : Int)) → (yb = if k ≤ 2 then (b : Int) else -1) → pj_G L (d + 2) 46 256 [pj_vR 1, pj_vU, pj_vI x2, pj_vU, pj_vU, pj_vU, pj_vU, pj_vU, pj_vU, pj_vU, pj_vU] [pj_vI yb, pj_vI xa, pj_vI x2, pj_vI (wk : Int), pj_vI x5, pj_vR 7] (qf_fgX M) Q := by
      intro k wk a b xa yb hP hxa hyb
      have hP' := hP
      obtain ⟨c1, c2, c3, c4, c5, c6, c7, c8, c9, c10, c11, c12, c13, c14, c15⟩ := hP'
      rw [show x5 = (k : Int) from e5.trans c7, ew]
      have hrg := hD.rg w hw
      refine pj_C46_256 (qf_addX (D := D) hD hXf c1 c14 c15 h14 (fun M2 ha h70 hor => pj_C46_259 w rfl h14 ?_))
      have fr := ha.2.2.2.2.2.2.2.2.2.2.2
      have e3 : M2 3 w = (qf_rg D w : Int) := by rw [fr 3 (by decide)]; exact hXf.rg w hw
      rw [e3]
      refine qf_layWorkX (D := qf_paD D k wk w a b) c14 ⟨hrg.1, hrg.2.1⟩ (by rw [ha.1, qf_paD_kd, if_pos rfl, if_pos rfl]) (by rw [qf_paD_kd, if_pos rfl]; exact c1) (by rw [ha.2.1, qf_paD_wk, if_pos rfl, if_pos rfl]) (by rw [qf_paD_wk, if_pos rfl]; exact c2) (by rw [fr 15 (by decide)]; exact hXf.tb) hD.tb (fun M3 f16 g1 g2 => pj_C46_279 w rfl h14 ?_)
      have hX' := hXf.part hD hP hxa hyb ha h70 hor f16 g1 g2
      refine h e0 k wk w a b _ hP hX' (fun c hc => ?_) ?_
      · have hne : c ≠ 4 ∧ c ≠ 16 ∧ c ≠ 22 ∧ c ∉ [7, 8, 9, 10, 11, 12, 13, 14, 17, 18] := by
          clear c10 c12 c15 c8 c9 c11 c13
          simp only [List.mem_cons, List.not_mem_nil, or_false, not_or]
          omega
        rw [pj_up_ne hne.1, f16 c (by simp only [List.mem_cons, List.not_mem_nil, or_false]; exact hne.2.1), fr c hne.2.2.2, qf_fgX_ne hne.2.2.1]
      · have e22 : pj_up M3 4 w (qf_dP D : Int) 22 = (qf_fgX M) 22 := by rw [pj_up_ne (by decide), f16 22 (by decide), fr 22 (by decide)]
        rw [e22]
        exact qf_fgX_z
    refine pj_C46_208 (qf_forgetX ?_)
    by_cases z8 : qf_hY x1
    · obtain rfl : a8 = 1 := r8.one z8
      obtain rfl : a7 = 1 := r7.one (qf_hY_X z8)
      have b30 : x1 < 30 := z8.2
      have q3 : ¬ qf_bo (qf_dW D) x3 := fun y => n3 (Or.inr (Or.inl ⟨qf_hY_X z8, y⟩))
      have q4 : ¬ qf_bo (qf_dW D) x4 := fun y => n3 (Or.inr (Or.inr ⟨z8, y⟩))
      have p3 : 0 ≤ x3 := Int.not_lt.mp (fun y => q3 (Or.inl y))
      have p4 : 0 ≤ x4 := Int.not_lt.mp (fun y => q4 (Or.inl y))
      refine pj_C46_215 (by decide) (fun z => absurd z (by decide)) (fun _ => pj_C46_226 (pj_C46_234 (by decide) (fun z => absurd z (by decide)) (fun _ => pj_C46_240 (pj_C46_245 (by decide) (fun z => absurd z (by decide)) (fun _ => pj_C46_250 ?_)))))
      have kk : (x1 / 10).toNat ≤ 2 := by omega
      have hP : qf_pP D x1 x2 x3 x4 (x1 / 10).toNat (x1 % 10).toNat w x3.toNat x4.toNat := qf_pP_of hw ew n3 n7 n8 (by omega) (fun _ => by omega) (fun _ => by omega) (fun _ => by omega) (fun _ => by omega) (fun _ => by omega) (fun _ => by omega)
      have := main (x1 / 10).toNat (x1 % 10).toNat x3.toNat x4.toNat x3 x4 hP (by rw [if_neg (by omega)]; omega) (by rw [if_pos (by omega)]; omega)
      rw [er, show x1 % 10 = (((x1 % 10).toNat : Nat) : Int) by omega]
      exact this
    · obtain rfl : a8 = 0 := r8.zero z8
      have b30 : 30 ≤ x1 := Int.not_lt.mp (fun y => z8 ⟨g0, y⟩)
      by_cases z7 : qf_hX x1
      · obtain rfl : a7 = 1 := r7.one z7
        have b40 : 40 ≤ x1 := by
          rcases z7 with y | y
          · exact absurd y z8
          · exact y.1
        have q3 : ¬ qf_bo (qf_dW D) x3 := fun y => n3 (Or.inr (Or.inl ⟨z7, y⟩))
        have p3 : 0 ≤ x3 := Int.not_lt.mp (fun y => q3 (Or.inl y))
        refine pj_C46_215 (by decide) (fun _ => pj_C46_233 (pj_C46_234 (by decide) (fun z => absurd z (by decide)) (fun _ => pj_C46_240 (pj_C46_245 (by decide) (fun _ => pj_C46_255 ?_) (fun z => absurd rfl z))))) (fun z => absurd rfl z)
        have hP : qf_pP D x1 x2 x3 x4 (x1 / 10).toNat 0 w x3.toNat 0 := qf_pP_of hw ew n3 n7 n8 (by omega) (fun _ => by omega) (fun _ => rfl) (fun _ => by omega) (fun _ => by omega) (fun _ => by omega) (fun _ => rfl)
        exact main (x1 / 10).toNat 0 x3.toNat 0 x3 (-1) hP (by rw [if_neg (by omega)]; omega) (by rw [if_neg (by omega)])
      · obtain rfl : a7 = 0 := r7.zero z7
        have b40 : x1 < 40 := Int.not_le.mp (fun y => z7 (Or.inr ⟨y, g50⟩))
        refine pj_C46_215 (by decide) (fun _ => pj_C46_233 (pj_C46_234 (by decide) (fun _ => pj_C46_244 (pj_C46_245 (by decide) (fun _ => pj_C46_255 ?_) (fun z => absurd rfl z))) (fun z => absurd rfl z))) (fun z => absurd rfl z)
        have hP : qf_pP D x1 x2 x3 x4 (x1 / 10).toNat 0 w 0 0 := qf_pP_of hw ew n3 n7 n8 (by omega) (fun _ => by omega) (fun _ => rfl) (fun _ => by omega) (fun _ => rfl) (fun _ => by omega) (fun _ => rfl)
        exact main (x1 / 10).toNat 0 0 0 (-1) (-1) hP (by rw [if_pos (by omega)]) (by rw [if_neg (by omega)])
  have at101 : ¬ qf_c3 D x1 x2 x3 x4 → pj_G L (d + 2) 46 101 [pj_vR 1, pj_vI x1, pj_vI x2, pj_vI x3, pj_vI x4, pj_vI x5, pj_vI a6, pj_vI a7, pj_vI a8, pj_vU, pj_vU] [] M Q := by
    intro n3
    have no7 : qf_c7 D x1 x2 x3 x4 → pj_G L (d + 2) 46 165 [pj_vR 1, pj_vU, pj_vU, pj_vU, pj_vU, pj_vU, pj_vU, pj_vU, pj_vU, pj_vU, pj_vU] [] M Q := fun g => pj_C46_165 (pj_refuse 7 (by decide) (pj_C46_171 (hb 7 (by decide) (qf_wp7 n3 g))))
    refine pj_C46_101 r6.rg (fun z => pj_C46_123 (pj_C46_124 (by decide) (fun _ => no7 (Or.inl (r6.no z))) (fun z => absurd rfl z))) (fun z6 => ?_)
    have gK : qf_hK x1 := r6.yes z6
    have e5 := r5 gK.1
    have r5r : -2147483648 ≤ x5 ∧ x5 < 2147483648 := by
      have := gK.1
      have := gK.2
      omega
    obtain ⟨-, er⟩ := qf_div10 hr1 gK.1
    have at172 : ¬ qf_c7 D x1 x2 x3 x4 → pj_G L (d + 2) 46 172 [pj_vR 1, pj_vI x1, pj_vI x2, pj_vI x3, pj_vI x4, pj_vI x5, pj_vU, pj_vI a7, pj_vI a8, pj_vU, pj_vU] [] M Q := by
      intro n7
      have no8 : qf_c8 D x1 → pj_G L (d + 2) 46 201 [pj_vR 1, pj_vU, pj_vU, pj_vU, pj_vU, pj_vU, pj_vU, pj_vU, pj_vU, pj_vU, pj_vU] [] M Q := fun g => pj_C46_201 (pj_refuse 8 (by decide) (pj_C46_207 (hb 8 (by decide) (qf_wp8 n3 n7 g))))
      refine pj_C46_172 hP0.1 (fun g => no8 (Or.inl (by omega))) (fun g => pj_C46_184 r5r (fun g2 => at208 n3 n7 (fun y => ?_)) (fun g2 => pj_C46_190 hP0.2 (fun g3 => at208 n3 n7 (fun y => ?_)) (fun g3 => no8 (Or.inr ⟨⟨by omega, by omega⟩, by omega⟩))))
      · rcases y with y | ⟨y, -⟩
        · omega
        · have := y.1
          have := y.2
          omega
      · rcases y with y | ⟨-, y⟩
        · omega
        · omega
    have at152 : (qf_hY x1 → ¬ 5 < x1 % 10) → (qf_hX x1 → ¬ x2 ≤ x3) → (qf_hY x1 → ¬ x2 ≤ x4) → pj_G L (d + 2) 46 152 [pj_vR 1, pj_vI x1, pj_vI x2, pj_vI x3, pj_vI x4, pj_vI x5, pj_vU, pj_vI a7, pj_vI a8, pj_vU, pj_vU] [] M Q := fun gw gx gy => pj_C46_152 w ew h14 hr4w.1 (fun g => at172 (fun y => by
      rcases y with y | y | y | y | y
      · exact y gK
      · exact gw y.1 y.2
      · exact gx y.1 y.2
      · exact gy y.1 y.2
      · rw [ed] at y
        omega)) (fun g => no7 (Or.inr (Or.inr (Or.inr (Or.inr (by rw [ed]; exact hr4w.2 g))))))
    have at141 : (qf_hY x1 → ¬ 5 < x1 % 10) → (qf_hX x1 → ¬ x2 ≤ x3) → pj_G L (d + 2) 46 141 [pj_vR 1, pj_vI x1, pj_vI x2, pj_vI x3, pj_vI x4, pj_vI x5, pj_vU, pj_vI a7, pj_vI a8, pj_vU, pj_vU] [] M Q := fun gw gx => pj_C46_141 r8.rg (fun z => at152 gw gx (fun y => absurd y (r8.no z))) (fun z => pj_C46_146 hr4 hr2 (fun g => no7 (Or.inr (Or.inr (Or.inr (Or.inl ⟨r8.yes z, g⟩))))) (fun g => at152 gw gx (fun _ => Int.not_le.mpr g)))
    have at131 : (qf_hY x1 → ¬ 5 < x1 % 10) → pj_G L (d + 2) 46 131 [pj_vR 1, pj_vI x1, pj_vI x2, pj_vI x3, pj_vI x4, pj_vI x5, pj_vU, pj_vI a7, pj_vI a8, pj_vU, pj_vU] [] M Q := fun gw => pj_C46_131 r7.rg (fun z => at141 gw (fun y => absurd y (r7.no z))) (fun z => pj_C46_136 hr3 hr2 (fun g => no7 (Or.inr (Or.inr (Or.inl ⟨r7.yes z, g⟩)))) (fun g => at141 gw (fun _ => Int.not_le.mpr g)))
    exact pj_C46_106 r8.rg (fun z => pj_C46_119 (pj_C46_124 (by decide) (fun z => absurd z (by decide)) (fun _ => at131 (fun y => absurd y (r8.no z))))) (fun z => pj_C46_111 (fun g => pj_C46_123 (pj_C46_124 (by decide) (fun _ => no7 (Or.inr (Or.inl ⟨r8.yes z, by rw [← er]; exact g⟩))) (fun z => absurd rfl z))) (fun g => pj_C46_119 (pj_C46_124 (by decide) (fun z => absurd z (by decide)) (fun _ => at131 (fun _ => by rw [← er]; exact Int.not_lt.mpr g)))))
  have n2 : ¬ qf_bo (qf_dW D) x2 := qf_nbo ew hw
  have at80 : (qf_hX x1 → ¬ qf_bo (qf_dW D) x3) → pj_G L (d + 2) 46 80 [pj_vR 1, pj_vI x1, pj_vI x2, pj_vI x3, pj_vI x4, pj_vI x5, pj_vI a6, pj_vI a7, pj_vI a8, pj_vU, pj_vU] [] M Q := fun q3 => pj_C46_80 r8.rg (fun z => at101 (fun y => by
    rcases y with y | y | y
    · exact n2 y
    · exact q3 y.1 y.2
    · exact r8.no z y.1)) (fun z => pj_C46_85 (qf_isWireX hD hX hr4 (fun v ev hv => pj_C46_91 (by decide) (fun _ => at101 (fun y => by
    rcases y with y | y | y
    · exact n2 y
    · exact q3 y.1 y.2
    · exact qf_nbo ev hv y.2)) (fun z => absurd z (by decide))) (fun hno => pj_C46_91 (by decide) (fun z => absurd rfl z) (fun _ => no3 (Or.inr (Or.inr ⟨r8.yes z, qf_out hno⟩))))))
  exact pj_C46_67 r7.rg (fun z => at80 (fun y => absurd y (r7.no z))) (fun z => pj_C46_72 (qf_isWireX hD hX hr3 (fun v ev hv => pj_C46_77 (by decide) (fun z => absurd z (by decide)) (fun _ => at80 (fun _ => qf_nbo ev hv))) (fun hno => pj_C46_77 (by decide) (fun _ => no3 (Or.inr (Or.inl ⟨r7.yes z, qf_out hno⟩))) (fun z => absurd rfl z))))
end QFPC
