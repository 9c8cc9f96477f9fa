/-! THE CLASS: arrive, enter, reachedFrom. -/
section QFXC
variable {L d : Nat} {Q : Option pj_V → pj_M → Prop} {D : qf_D} {ro : Nat → Nat} {N : Nat → Bool} {e t g : Nat} {b : Nat → Nat}
/-- the state that follows, by the streams that owe (as bits) -/
def qf_cg (D : qf_D) (g : Nat) (u : Nat → Nat) : Nat := (if g.testBit 0 then qf_mk D u (qf_st D 0) else 0) + 3 * (if g.testBit 1 then qf_mk D u (qf_st D 1) else 0)
/-- what owing streams read is known -/
def qf_og (D : qf_D) (N : Nat → Bool) (e g : Nat) : Prop := g < 4 ∧ ∀ k, k < 2 → g.testBit k = true → k < qf_dS D ∧ qf_bas D N e (qf_dx D (qf_st D k)) ∧ qf_bas D N e (qf_dy D (qf_st D k))
theorem qf_g1 : ∀ g : Fin 4, (pj_and (g.val : Int) 1 ≠ 0 ↔ g.val.testBit 0 = true) ∧ (pj_and (g.val : Int) 2 ≠ 0 ↔ g.val.testBit 1 = true) := by decide +kernel
theorem qf_cg_lt (hD : qf_okD D) (hg : qf_og D N e g) (u : Nat → Nat) : (if g.testBit 0 then qf_mk D u (qf_st D 0) else 0) < 3 ∧ (if g.testBit 1 then qf_mk D u (qf_st D 1) else 0) < 3 := by
  have one : ∀ k, k < 2 → g.testBit k = true → qf_mk D u (qf_st D k) < 3 := by
    intro k hk hb
    have h1 := hD.st k (hg.2 k hk hb).1
    have h2 := qf_rgp hD h1.1
    have := qf_mk_lt (D := D) (p := qf_st D k) (by omega) u
    omega
  constructor
  · split
    · exact one 0 (by omega) (by assumption)
    · omega
  · split
    · exact one 1 (by omega) (by assumption)
    · omega
theorem qf_cg_congr (hD : qf_okD D) (hg : qf_og D N e g) {u u' : Nat → Nat} (h : ∀ w, qf_bas D N e w → u' w = u w) : qf_cg D g u' = qf_cg D g u := by
  have one : ∀ k, k < 2 → g.testBit k = true → qf_mk D u' (qf_st D k) = qf_mk D u (qf_st D k) := by
    intro k hk hb
    have h1 := hg.2 k hk hb
    exact qf_mk_congr (fun _ => h _ h1.2.1) (fun _ => h _ h1.2.2)
  unfold qf_cg
  cases h0 : g.testBit 0 <;> cases h1 : g.testBit 1 <;> simp only [if_true, if_false, Bool.false_eq_true]
  · rw [one 1 (by omega) h1]
  · rw [one 0 (by omega) h0]
  · rw [one 0 (by omega) h0, one 1 (by omega) h1]
/-- the state is told -/
theorem qf_arriveX_st (hD : qf_okD D) (hE : qf_okE D) (ht : t < 3) (hg : qf_og D N e g) {M : pj_M} {u : Nat → Nat} (hmo : qf_mo D ro N t b M) (hnow : qf_now D N t e u M) (h11 : M 31 11 = (g : Int)) (h : pj_G L (d + 2) 21 54 [pj_vR 31, pj_vI (qf_cg D g u : Int), pj_vU, pj_vU] [] M Q) : pj_G L (d + 2) 21 0 [pj_vR 31, pj_vU, pj_vU, pj_vU] [] M Q := by
  have hX := hmo.1
  have hgg := qf_g1 ⟨g, hg.1⟩
  dsimp only at hgg
  have one : ∀ k, k < 2 → g.testBit k = true → ∀ (Q' : Option pj_V → pj_M → Prop), Q' (some (pj_vI (qf_mk D u (qf_st D k) : Int))) M → pj_G L (d + 1) 23 0 [pj_vR 31, pj_vI (M 18 k), pj_vU, pj_vU, pj_vU] [] M Q' := by
    intro k hk hb Q' hq
    have h1 := hg.2 k hk hb
    have h2 := hD.st k h1.1
    rw [hX.st k hk]
    exact qf_makesX hD hX h2.1 ht hmo.2.1 (fun _ => hnow _ h1.2.1) (fun _ => hnow _ h1.2.2) hq
  -- the second stream
  have two : ∀ x : Nat, qf_cg D g u = x + 3 * (if g.testBit 1 then qf_mk D u (qf_st D 1) else 0) → pj_G L (d + 2) 21 27 [pj_vR 31, pj_vI (x : Int), pj_vU, pj_vU] [] M Q := by
    intro x hx
    refine pj_C21_27 (fun z => ?_) (fun z => ?_)
    · have hb : g.testBit 1 = false := by
        cases hq : g.testBit 1 with
        | false => rfl
        | true => rw [h11] at z; exact absurd z (hgg.2.mpr hq)
      rw [hb, if_neg (by decide)] at hx
      rw [show x = qf_cg D g u by omega]
      exact h
    · rw [h11] at z
      have hb := hgg.2.mp z
      rw [hb, if_pos rfl] at hx
      refine pj_C21_36 (one 1 (by omega) hb _ (pj_C21_51 ?_))
      rw [show (x : Int) + 3 * (qf_mk D u (qf_st D 1) : Int) = (qf_cg D g u : Int) by omega]
      exact h
  refine pj_C21_0 (fun z => ?_) (fun z => ?_)
  · have hb : g.testBit 0 = false := by
      cases hq : g.testBit 0 with
      | false => rfl
      | true => rw [h11] at z; exact absurd z (hgg.1.mpr hq)
    refine two 0 ?_
    unfold qf_cg
    rw [hb, if_neg (by decide)]
  · rw [h11] at z
    have hb := hgg.1.mp z
    refine pj_C21_11 (one 0 (by omega) hb _ (pj_C21_25 ?_))
    rw [show (0 : Int) + (qf_mk D u (qf_st D 0) : Int) = (qf_mk D u (qf_st D 0) : Int) by omega]
    refine two _ ?_
    unfold qf_cg
    rw [hb, if_pos rfl]
/-- while not recording: the states reached -/
def qf_J0 (D : qf_D) (g : Nat) (F : Nat → Int) (R0 RB : Int) (S : (Nat → Nat) → Prop) (M : pj_M) : Prop := M 35 = F ∧ M 31 7 = 0 ∧ M 31 11 = (g : Int) ∧ M 31 13 = RB ∧ (-2147483648 ≤ M 31 12 ∧ M 31 12 < 2147483648) ∧ ∀ z, z < 32 → (pj_bt (M 31 12) z = true ↔ pj_bt R0 z = true ∨ ∃ u, S u ∧ qf_cg D g u = z)
theorem qf_arriveX0 (hD : qf_okD D) (hE : qf_okE D) (ht : t < 3) (hg : qf_og D N e g) {F : Nat → Int} {R0 RB : Int} (hRr : -2147483648 ≤ RB ∧ RB < 2147483648) (hRB : ∀ u, pj_bt RB (qf_cg D g u) = true) (S : (Nat → Nat) → Prop) (M : pj_M) (u : Nat → Nat) (hJ : qf_J0 D g F R0 RB S M) (hmo : qf_mo D ro N t b M) (hnow : qf_now D N t e u M)
    (h : ∀ (M' : pj_M) (x : Int), (x = 0 ∨ x = 1) → qf_fr [31, 35] M M' → qf_fs 31 [12] M M' → qf_J0 D g F R0 RB (fun u' => S u' ∨ qf_ext D ro N e t b e u u') M' → (x = 1 → ∀ S', (∀ u', (S u' ∨ qf_ext D ro N e t b e u u') → S' u') → qf_J0 D g F R0 RB S' M') → Q (some (pj_vI x)) M') : pj_G L (d + 2) 21 0 [pj_vR 31, pj_vU, pj_vU, pj_vU] [] M Q := by
  obtain ⟨j0, j1, j2, j3, j4, j5⟩ := hJ
  have hlt := qf_cg_lt hD hg u
  have hc9 : qf_cg D g u < 9 := by unfold qf_cg; omega
  have hself : qf_ext D ro N e t b e u u := ⟨fun _ _ => rfl, fun i h1 h2 => absurd h1 (by omega)⟩
  refine qf_arriveX_st hD hE ht hg hmo hnow j2 (pj_C21_54 (by omega) (fun z => absurd j1 z) (fun _ => ?_))
  have newJ : qf_J0 D g F R0 RB (fun u' => S u' ∨ qf_ext D ro N e t b e u u') (pj_up M 31 12 (pj_or (M 31 12) (pj_shl 1 (qf_cg D g u : Int)))) := by
    refine ⟨by rw [← j0]; funext k; exact pj_up_else (by decide), by rw [pj_up_slot (by decide)]; exact j1, by rw [pj_up_slot (by decide)]; exact j2, by rw [pj_up_slot (by decide)]; exact j3, by rw [pj_up_same]; exact pj_or_rng _ _, fun z hz => ?_⟩
    rw [pj_up_same, qf_bt_or1 _ (by omega) hz, Bool.or_eq_true, decide_eq_true_iff, j5 z hz]
    constructor
    · rintro ((y | ⟨v, y1, y2⟩) | y)
      · exact Or.inl y
      · exact Or.inr ⟨v, Or.inl y1, y2⟩
      · exact Or.inr ⟨u, Or.inr hself, y.symm⟩
    · rintro (y | ⟨v, y1 | y1, y2⟩)
      · exact Or.inl (Or.inl y)
      · exact Or.inl (Or.inr ⟨v, y1, y2⟩)
      · refine Or.inr ?_
        rw [← y2]
        exact qf_cg_congr hD hg y1.1
  have fr1 : qf_fr [31, 35] M (pj_up M 31 12 (pj_or (M 31 12) (pj_shl 1 (qf_cg D g u : Int)))) := qf_fr.refl.up (by decide)
  have fs1 : qf_fs 31 [12] M (pj_up M 31 12 (pj_or (M 31 12) (pj_shl 1 (qf_cg D g u : Int)))) := qf_fs.refl.up (by decide)
  refine pj_C21_61 (by omega) (fun z => pj_C21_88 (pj_C21_89 (Or.inl rfl) (h _ 0 (Or.inl rfl) fr1 fs1 newJ (fun y => absurd y (by decide))))) (fun z => pj_C21_84 (pj_C21_89 (Or.inr rfl) (h _ 1 (Or.inr rfl) fr1 fs1 newJ (fun _ S' hS' => ?_))))
  obtain ⟨k0, k1, k2, k3, k4, k5⟩ := newJ
  refine ⟨k0, k1, k2, k3, k4, fun y hy => ?_⟩
  constructor
  · intro w
    rcases (k5 y hy).mp w with q | ⟨v, q1, q2⟩
    · exact Or.inl q
    · exact Or.inr ⟨v, hS' v q1, q2⟩
  · rintro (q | ⟨v, -, q2⟩)
    · exact (k5 y hy).mpr (Or.inl q)
    · rw [pj_up_same, z, j3, ← q2]
      exact hRB v
/-- while recording: the numbers found -/
def qf_J1 (D : qf_D) (t g : Nat) (Wn : Int) (m : Nat → Nat) (S : (Nat → Nat) → Prop) (M : pj_M) : Prop := M 31 7 = 1 ∧ M 31 11 = (g : Int) ∧ M 31 8 = Wn ∧ ∃ m1 : Nat → Nat, qf_fnd M 35 m1 ∧ (∀ w, w < qf_dW D → ∀ j, ((m1 (14 * t + w)).testBit j = true ↔ (m (14 * t + w)).testBit j = true ∨ ∃ u, S u ∧ pj_bt Wn (qf_cg D g u) = true ∧ u w = j)) ∧ ∀ l, l < 42 → (l < 14 * t ∨ 14 * t + qf_dW D ≤ l) → m1 l = m l
theorem qf_arriveX1 (hD : qf_okD D) (hE : qf_okE D) (ht : t < 3) (hg : qf_og D N e g) (hall : ∀ w, w < qf_dW D → qf_bas D N e w) {Wn : Int} {m : Nat → Nat} (S : (Nat → Nat) → Prop) (M : pj_M) (u : Nat → Nat) (hJ : qf_J1 D t g Wn m S M) (hmo : qf_mo D ro N t b M) (hnow : qf_now D N t e u M)
    (h : ∀ (M' : pj_M) (x : Int), (x = 0 ∨ x = 1) → qf_fr [31, 35] M M' → qf_fs 31 [12] M M' → qf_J1 D t g Wn m (fun u' => S u' ∨ qf_ext D ro N e t b e u u') M' → (x = 1 → ∀ S', (∀ u', (S u' ∨ qf_ext D ro N e t b e u u') → S' u') → qf_J1 D t g Wn m S' M') → Q (some (pj_vI x)) M') : pj_G L (d + 2) 21 0 [pj_vR 31, pj_vU, pj_vU, pj_vU] [] M Q := by
  obtain ⟨j1, j2, j3, m1, j4, j5, j6⟩ := hJ
  have hb14 := hD.b
  have hlt := qf_cg_lt hD hg u
  have hc9 : qf_cg D g u < 9 := by unfold qf_cg; omega
  have hself : qf_ext D ro N e t b e u u := ⟨fun _ _ => rfl, fun i h1 h2 => absurd h1 (by omega)⟩
  have hX := hmo.1
  have hW := hX.W
  have h9 := hmo.2.1
  refine qf_arriveX_st hD hE ht hg hmo hnow j2 (pj_C21_54 (by omega) (fun _ => ?_) (fun z => by omega))
  refine pj_C21_90 (qf_cg D g u) rfl (by omega) (fun z => pj_C21_147 ?_) (fun z => pj_C21_101 ?_)
  · rw [j3] at z
    refine h M 0 (Or.inl rfl) qf_fr.refl qf_fs.refl ⟨j1, j2, j3, m1, j4, fun w hw j => ?_, j6⟩ (fun y => absurd y (by decide))
    rw [j5 w hw j]
    constructor
    · rintro (y | ⟨v, y1, y2⟩)
      · exact Or.inl y
      · exact Or.inr ⟨v, Or.inl y1, y2⟩
    · rintro (y | ⟨v, y1 | y1, y2⟩)
      · exact Or.inl y
      · exact Or.inr ⟨v, y1, y2⟩
      · rw [qf_cg_congr hD hg y1.1, z] at y2
        exact absurd y2.1 (by decide)
  · rw [j3] at z
    have loop : ∀ (q n : Nat) (M1 : pj_M) (m2 : Nat → Nat), n + q = qf_dW D → qf_fr [35] M M1 → qf_fnd M1 35 m2 → (∀ w, w < n → ∀ j, (m2 (14 * t + w)).testBit j = ((m1 (14 * t + w)).testBit j || decide (u w = j))) → (∀ l, l < 42 → (l < 14 * t ∨ 14 * t + n ≤ l) → m2 l = m1 l) → pj_G L (d + 2) 21 111 [pj_vR 31, pj_vU, pj_vI (M 31 9 * 14), pj_vI ((14 * t + n : Nat) : Int)] [] M1 Q := by
      intro q
      induction q with
      | zero =>
        intro n M1 m2 en hm1 c1 c2 c3
        have e2 : M1 2 0 = (qf_dW D : Int) := by rw [hm1 2 (by decide)]; exact hW
        obtain rfl : n = qf_dW D := by omega
        refine pj_C21_111 (by omega) (by omega) (fun _ => pj_C21_147 ?_) (fun c => by omega)
        refine h M1 0 (Or.inl rfl) (hm1.wide (by decide)) (fun k _ => by rw [hm1 31 (by decide)]) ⟨by rw [hm1 31 (by decide)]; exact j1, by rw [hm1 31 (by decide)]; exact j2, by rw [hm1 31 (by decide)]; exact j3, m2, c1, fun w hw j => ?_, fun l hl hl2 => ?_⟩ (fun y => absurd y (by decide))
        · rw [c2 w hw j, Bool.or_eq_true, decide_eq_true_iff, j5 w hw j]
          constructor
          · rintro ((y | ⟨v, y1, y2⟩) | y)
            · exact Or.inl y
            · exact Or.inr ⟨v, Or.inl y1, y2⟩
            · exact Or.inr ⟨u, Or.inr hself, z, y⟩
          · rintro (y | ⟨v, y1 | y1, y2⟩)
            · exact Or.inl (Or.inl y)
            · exact Or.inl (Or.inr ⟨v, y1, y2⟩)
            · refine Or.inr ?_
              rw [← y2.2]
              exact (y1.1 w (hall w hw)).symm
        · rw [c3 l hl hl2]
          exact j6 l hl hl2
      | succ q ih =>
        intro n M1 m2 en hm1 c1 c2 c3
        have e2 : M1 2 0 = (qf_dW D : Int) := by rw [hm1 2 (by decide)]; exact hW
        have ev := hnow n (hall n (by omega))
        have e33 : M1 33 (14 * t + n) = (u n : Int) := by rw [hm1 33 (by decide)]; exact ev.1
        have hc := c1 (14 * t + n) (by omega)
        obtain ⟨p1, p2, p3⟩ := qf_put hc.2 ev.2
        refine pj_C21_111 (by omega) (by omega) (fun c => by omega) (fun _ => pj_C21_124 (14 * t + n) rfl (by omega) ?_)
        rw [e33, hc.1, p1]
        have := ih (n + 1) (pj_up M1 35 (14 * t + n) ((m2 (14 * t + n) ||| 2 ^ u n : Nat) : Int)) (fun l => if l = 14 * t + n then m2 (14 * t + n) ||| 2 ^ u n else m2 l) (by omega) (hm1.up (by decide)) (fun l hl => ?_) (fun w hw j => ?_) (fun l hl hl2 => ?_)
        · have e3 : ((14 * t + (n + 1) : Nat) : Int) = ((14 * t + n : Nat) : Int) + 1 := by omega
          rw [e3] at this
          exact this
        · dsimp only
          by_cases y : l = 14 * t + n
          · rw [if_pos y, y, pj_up_same]
            exact ⟨rfl, p2⟩
          · rw [if_neg y, pj_up_slot y]
            exact c1 l hl
        · by_cases y : w = n
          · rw [y, if_pos rfl, p3 j, c3 (14 * t + n) (by omega) (by omega)]
          · rw [if_neg (by omega)]
            exact c2 w (by omega) j
        · rw [if_neg (by omega)]
          exact c3 l hl (by omega)
    have e0 : M 31 9 * 14 = ((14 * t + 0 : Nat) : Int) := by omega
    have := loop (qf_dW D) 0 M m1 (by omega) qf_fr.refl j4 (fun w hw => absurd hw (by omega)) (fun l _ _ => rfl)
    rw [← e0] at this
    exact this
/-- a state of the class as it may be -/
def qf_leg (D : qf_D) (c : Nat) : Prop := c < 9 ∧ ∀ p, p < qf_dP D → qf_kd D p = 2 → qf_bC D c p < qf_rg D (qf_wo D p)
/-- inputs lie in the class's row -/
def qf_inX (D : qf_D) (M : pj_M) : Prop := ∀ t w, t < 3 → w < qf_dW D → qf_dv D w = 0 → M 33 (14 * t + w) = (qf_np0 D (14 * t + w) : Int)
theorem qf_ext_0 {c : Nat} {u0 u : Nat → Nat} (h0 : ∀ w, w < qf_dW D → qf_dv D w = 0 → u0 w = qf_np0 D (14 * t + w)) : qf_ext D ro N e t (qf_bC D c) 0 u0 u ↔ qf_ck D ro N e t (qf_bC D c) u := by
  constructor
  · rintro ⟨h1, h2⟩
    exact ⟨fun w hw hd => (h1 w ⟨hw, Or.inl hd⟩).trans (h0 w hw hd), fun i hi hn => h2 i (by omega) hi hn⟩
  · rintro ⟨h1, h2⟩
    refine ⟨fun w hw => ?_, fun i _ hi hn => h2 i hi hn⟩
    rcases hw with ⟨hw, hd | ⟨i, hi, -⟩⟩
    · exact (h1 w hw hd).trans (h0 w hw hd).symm
    · omega
/-- what a tick's beginning lays down -/
def qf_mo0 (D : qf_D) (ro : Nat → Nat) (N : Nat → Bool) (t g : Nat) (M : pj_M) : Prop := qf_X D M ∧ M 31 9 = (t : Int) ∧ (∀ w, w < 14 → pj_bt (M 31 10) w = N w) ∧ (∀ p, p < qf_dP D → M 32 p = (ro p : Int)) ∧ M 31 11 = (g : Int)
/-- what reachedFrom leaves -/
def qf_frR (D : qf_D) (t : Nat) (M M' : pj_M) : Prop := qf_fr [31, 33, 34, 35] M M' ∧ qf_fs 31 [12] M M' ∧ ∀ l, (∀ i, i < qf_dP D → l ≠ 14 * t + qf_wo D (qf_or0 D i)) → M' 33 l = M 33 l
theorem qf_inX.keep (hD : qf_okD D) {M M' : pj_M} (h : qf_inX D M) (hm : qf_frR D t M M') : qf_inX D M' := by
  intro t' w ht' hw hd
  rw [hm.2.2 _ (fun i hi z => ?_)]
  · exact h t' w ht' hw hd
  · have h1 := hD.pt _ (hD.or i hi)
    have hb := hD.b
    have : w = qf_wo D (qf_or0 D i) := by omega
    rw [this] at hd
    omega
/-- reachedFrom, out of what the walk keeps -/
theorem qf_reachedX (hD : qf_okD D) (hE : qf_okE D) (hc : qf_cl1 D N) (he : e ≤ qf_dP D) (hrk : qf_rok D ro) (h16 : ∀ p, p < qf_dP D → ro p = 16 → qf_kd D p ≠ 4) (ht : t < 3) {c : Nat} (hl : qf_leg D c) {M : pj_M} (hmo : qf_mo0 D ro N t g M) (hin : qf_inX D M)
    {J : ((Nat → Nat) → Prop) → pj_M → Prop}
    (hJ1 : ∀ S M M', J S M → qf_fr [33] M M' → J S M')
    (hJ2 : ∀ S S' M, (∀ u, S u ↔ S' u) → J S M → J S' M)
    (harr : ∀ (d : Nat) (S : (Nat → Nat) → Prop) (M : pj_M) (u : Nat → Nat) (Q : Option pj_V → pj_M → Prop), J S M → qf_mo D ro N t (qf_bC D c) M → qf_now D N t e u M → (∀ (M' : pj_M) (x : Int), (x = 0 ∨ x = 1) → qf_fr [31, 35] M M' → qf_fs 31 [12] M M' → J (fun u' => S u' ∨ qf_ext D ro N e t (qf_bC D c) e u u') M' → (x = 1 → ∀ S', (∀ u', (S u' ∨ qf_ext D ro N e t (qf_bC D c) e u u') → S' u') → J S' M') → Q (some (pj_vI x)) M') → pj_G L (d + 2) 21 0 [pj_vR 31, pj_vU, pj_vU, pj_vU] [] M Q)
    (h0 : ∀ M', qf_fr [31, 34] M M' → qf_fs 31 [12] M M' → M' 31 12 = 0 → J (fun _ => False) M')
    (h : ∀ M', qf_frR D t M M' → J (fun u => qf_ck D ro N e t (qf_bC D c) u) M' → Q (some (pj_vI (M' 31 12))) M') : pj_G L (d + 11) 19 0 [pj_vR 31, pj_vI (c : Int), pj_vI (e : Int)] [] M Q := by
  have hb14 := hD.b
  have hX := hmo.1
  have s0 := hX.st 0 (by omega)
  have s1 := hX.st 1 (by omega)
  have l0 := hE.1 0 (by omega)
  have l1 := hE.1 1 (by omega)
  have hS := hX.S
  have n3 : (3 : Int) = ((3 : Nat) : Int) := rfl
  have e1 : pj_rem (c : Int) 3 = ((c % 3 : Nat) : Int) := by rw [n3]; exact pj_rem_nat (by have := hl.1; omega) (by omega) (by omega)
  have e2 : pj_div (c : Int) 3 = ((c / 3 : Nat) : Int) := by rw [n3]; exact pj_div_nat (by have := hl.1; omega) (by omega) (by omega)
  -- the walk
  have go : ∀ M1, qf_fr [34] M M1 → (∀ p, p < qf_dP D → qf_kd D p = 2 → M1 34 p = (qf_bC D c p : Int)) → pj_G L (d + 11) 19 45 [pj_vR 31, pj_vU, pj_vI (e : Int)] [] M1 Q := by
    intro M1 hm1 ho
    refine pj_C19_45 (pj_C20_0 ?_)
    have e31 : ∀ k, k ≠ 12 → (pj_up M1 31 12 0) 31 k = M 31 k := by
      intro k hk
      rw [pj_up_slot hk, hm1 31 (by decide)]
    have hm2 : qf_fr [31, 34] M (pj_up M1 31 12 0) := (hm1.wide (by decide)).up (by decide)
    have hmo1 : qf_mo D ro N t (qf_bC D c) (pj_up M1 31 12 0) := by
      refine ⟨hX.keep (qf_kX.of hm2 (by decide)), by rw [e31 9 (by decide)]; exact hmo.2.1, ?_, ?_, fun p hp hk => ?_⟩
      · rw [e31 10 (by decide)]; exact hmo.2.2.1
      · rw [hm2 32 (by decide)]; exact hmo.2.2.2.1
      · rw [pj_up_else (by decide)]
        exact ⟨ho p hp hk, hl.2 p hp hk⟩
    have hnow : qf_now D N t 0 (fun w => qf_np0 D (14 * t + w)) (pj_up M1 31 12 0) := by
      intro w hw
      rcases hw with ⟨hw, hd | ⟨i, hi, -⟩⟩
      · rw [hm2 33 (by decide)]
        refine ⟨hin t w ht hw hd, ?_⟩
        show qf_np0 D (14 * t + w) < 3
        have := hD.np t w ht hw
        have := hD.rg w hw
        omega
      · omega
    have fs2 : qf_fs 31 [12] M (pj_up M1 31 12 0) := fun k hk => e31 k (by simpa using hk)
    have wk := qf_walkX (L := L) hD hc he hrk h16 ht hJ1 hJ2 harr e 0 (d + 7 - e) (pj_up M1 31 12 0) (fun w => qf_np0 D (14 * t + w)) (fun _ => False) (fun r M1' => pj_G L (d + 10 + 1) 19 56 [pj_vR 31, pj_vU, pj_vU] (r.toList ++ []) M1' Q) (by omega) (h0 _ hm2 fs2 pj_up_same) hmo1 hnow (fun M' x hx hm' hJ' _ => ?_)
    · rw [show d + 7 - e + e + 3 = d + 10 by omega] at wk
      exact wk
    · refine pj_C19_56 (h M' ⟨(hm2.wide (by decide)).trans hm'.1 (by decide), fs2.trans hm'.2.1 (fun _ z => z), fun l hl' => ?_⟩ (hJ2 _ _ _ (fun u => ?_) hJ'))
      · rw [hm'.2.2 l (fun i _ hi => hl' i hi), hm2 33 (by decide)]
      · rw [qf_ext_0 (fun w _ _ => rfl)]
        exact ⟨fun z => z.resolve_left id, fun z => Or.inr z⟩
  refine pj_C19_0 (qf_st D 0) s0 l0 (by omega) (fun z => ?_) (fun z => ?_)
  · rw [e1]
    refine go _ (qf_fr.refl.up (by decide)) (fun p hp hk => ?_)
    obtain ⟨k, k1, k2⟩ := hD.ts p hp hk
    have : k = 0 := by omega
    rw [this] at k2
    rw [← k2, pj_up_same]
    unfold qf_bC
    rw [if_pos rfl]
  · have hS2 : qf_dS D = 2 := by omega
    have hne := hD.s2 hS2
    refine pj_C19_28 (qf_st D 1) (by rw [pj_up_else (by decide)]; exact s1) l1 ?_
    rw [e1, e2]
    refine go _ ((qf_fr.refl.up (by decide)).up (by decide)) (fun p hp hk => ?_)
    obtain ⟨k, k1, k2⟩ := hD.ts p hp hk
    unfold qf_bC
    obtain rfl | rfl : k = 0 ∨ k = 1 := by omega
    · rw [← k2, pj_up_slot hne, pj_up_same, if_pos rfl]
    · rw [← k2, pj_up_same, if_neg (Ne.symm hne)]
end QFXC
