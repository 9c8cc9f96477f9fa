/-! THE CLASS: enter, enterTick. -/
section QFXD
variable {L d : Nat} {Q : Option pj_V → pj_M → Prop} {D : qf_D} {ro : Nat → Nat} {N : Nat → Nat → Bool} {e t g : Nat}
theorem qf_leg_0 (hD : qf_okD D) : qf_leg D 0 := by
  refine ⟨by omega, fun p hp _ => ?_⟩
  have := qf_rgp hD hp
  unfold qf_bC
  split <;> omega
theorem qf_oC_rg (hD : qf_okD D) {k : Nat} (hk : k < qf_dS D) {u : Nat → Nat} : qf_oC D ro N e k t u < qf_rg D (qf_wo D (qf_st D k)) := by
  have h1 := hD.st k hk
  have h2 := qf_rgp hD h1.1
  unfold qf_oC
  split
  · exact qf_mk_lt (by omega) u
  · omega
theorem qf_leg_st (hD : qf_okD D) {u : Nat → Nat} : qf_leg D (qf_stC D ro N e t u) := by
  refine ⟨qf_stC_lt hD, fun p hp hk => ?_⟩
  have h0 := qf_oC_lt (ro := ro) (N := N) (e := e) (t := t + 1) (u := u) hD 0
  have h1 := qf_oC_lt (ro := ro) (N := N) (e := e) (t := t + 1) (u := u) hD 1
  obtain ⟨k, k1, k2⟩ := hD.ts p hp hk
  have hb := hD.b
  have hl := qf_oC_rg (ro := ro) (N := N) (e := e) (t := t + 1) (u := u) hD k1
  rw [k2] at hl
  unfold qf_bC qf_stC
  by_cases hz : p = qf_st D 0
  · rw [if_pos hz]
    have : k = 0 := by
      rcases Nat.lt_or_ge k 1 with h | h
      · omega
      · have hk1' : k = 1 := by omega
        have hne := hD.s2 (by omega)
        rw [hk1'] at k2
        exact absurd (hz.symm.trans k2.symm) hne
    rw [this] at hl
    omega
  · rw [if_neg hz]
    have : k = 1 := by
      have : k ≠ 0 := fun z => hz (by rw [← k2, z])
      omega
    rw [this] at hl
    omega
theorem qf_rch_leg (hD : qf_okD D) {c : Nat} : qf_rch (qf_RC D ro N e) (qf_stC D ro N e) t c → qf_leg D c := by
  intro h
  cases t with
  | zero =>
    have : c = 0 := h
    rw [this]
    exact qf_leg_0 hD
  | succ t =>
    obtain ⟨c', u, -, -, h3⟩ := h
    rw [← h3]
    exact qf_leg_st hD
/-- a tick in which no wire is needed changes no state -/
theorem qf_rch_skip (hD : qf_okD D) (hc : qf_clo D N) (he : e ≤ qf_dP D) (ht : t < qf_dT D) (hn : ∀ w, w < 14 → N t w = false) (z : Nat) : qf_rch (qf_RC D ro N e) (qf_stC D ro N e) (t + 1) z ↔ qf_rch (qf_RC D ro N e) (qf_stC D ro N e) t z := by
  have hb := hD.b
  have no1 : ∀ k, ¬ qf_owes D ro N e k (t + 1) := by
    rintro k ⟨h1, -, -, h4, h5⟩
    have h6 := hD.st k h1
    have h7 := hc.2.2 t _ h4 h6.1 h6.2 h5
    have h8 := hD.pt _ h6.1
    have h9 := h8.2.2.2.2.1 (by omega)
    rw [hn _ (by omega)] at h7
    cases h7.1
  have no0 : ∀ k, ¬ qf_owes D ro N e k t := by
    rintro k ⟨h1, -, -, h4, h5⟩
    have h6 := hD.st k h1
    have h8 := hD.pt _ h6.1
    rw [hn _ (by omega)] at h5
    cases h5
  have st1 : ∀ u, qf_stC D ro N e t u = 0 := by
    intro u
    unfold qf_stC qf_oC
    rw [if_neg (no1 0), if_neg (no1 1)]
  have st0 : ∀ c, qf_rch (qf_RC D ro N e) (qf_stC D ro N e) t c → c = 0 := by
    intro c h
    cases t with
    | zero => exact h
    | succ t' =>
      obtain ⟨c', u, -, -, h3⟩ := h
      rw [← h3]
      unfold qf_stC qf_oC
      rw [if_neg (no0 0), if_neg (no0 1)]
  constructor
  · rintro ⟨c, u, h1, h2, h3⟩
    rw [st1 u] at h3
    rw [← h3, ← st0 c h1]
    exact h1
  · intro h
    have hz := st0 z h
    rw [hz] at h ⊢
    refine ⟨0, fun w => qf_np0 D (14 * t + w), h, ⟨fun w _ _ => rfl, fun i hi hn' => ?_⟩, st1 _⟩
    have h8 := hD.pt _ (hD.or i (by omega))
    rw [hn _ (by omega)] at hn'
    cases hn'
theorem qf_first : ∀ n : Fin 4, ∀ s : Fin 3, ∀ q : Fin 3, q.val < n.val → pj_bt (pj_shl (pj_shl 1 (n.val : Int) - 1) (3 * (s.val : Int))) (q.val + 3 * s.val) = true := by decide +kernel
/-- enter -/
theorem qf_enterX (hD : qf_okD D) {M : pj_M} (hX : qf_X D M) (hg4 : g < 4) (hg : ∀ k, k < 2 → g.testBit k = true → k < qf_dS D) {nd : Int}
    (h : ∀ M' RB, qf_fr [31] M M' → qf_fs 31 [9, 10, 11, 13] M M' → M' 31 9 = (t : Int) → M' 31 10 = nd → M' 31 11 = (g : Int) → M' 31 13 = RB → (-2147483648 ≤ RB ∧ RB < 2147483648) → (∀ u, pj_bt RB (qf_cg D g u) = true) → Q none M') : pj_G L (d + 1) 17 0 [pj_vR 31, pj_vI (t : Int), pj_vI nd, pj_vI (g : Int), pj_vU, pj_vU] [] M Q := by
  have hb := hD.b
  have owed : ∀ (k : Nat) (M1 : pj_M) (Q' : Option pj_V → pj_M → Prop), k < 2 → qf_X D M1 → M1 31 11 = (g : Int) → (∀ n : Nat, n < 4 → 0 < n → (∀ u, (if g.testBit k then qf_mk D u (qf_st D k) else 0) < n) → Q' (some (pj_vI (n : Int))) M1) → pj_G L d 18 0 [pj_vR 31, pj_vI (k : Int)] [] M1 Q' := by
    intro k M1 Q' hk hX1 h11 hq
    refine pj_C18_0 k rfl (by omega) (fun z => pj_C18_39 (pj_C18_40 ?_)) (fun z => ?_)
    · rw [h11, pj_bt_nat k (by omega)] at z
      refine hq 1 (by omega) (by omega) (fun u => ?_)
      rw [z, if_neg (by decide)]
      omega
    · rw [h11, pj_bt_nat k (by omega)] at z
      have h1 := hg k hk z
      have h2 := hD.st k h1
      have h3 := qf_rgp hD h2.1
      refine pj_C18_11 k (qf_st D k) (qf_wo D (qf_st D k)) rfl (by omega) (hX1.st k hk) (by omega) (hX1.wo _ h2.1) (by omega) ?_
      rw [hX1.rg _ (hD.pt _ h2.1).1]
      refine pj_C18_40 (hq _ (by omega) (by omega) (fun u => ?_))
      rw [z, if_pos rfl]
      exact qf_mk_lt (by omega) u
  have fr0 : qf_fr [31] M (pj_up (pj_up (pj_up M 31 9 (t : Int)) 31 10 nd) 31 11 (g : Int)) := ((qf_fr.refl.up (by decide)).up (by decide)).up (by decide)
  have fs0 : qf_fs 31 [9, 10, 11, 13] M (pj_up (pj_up (pj_up M 31 9 (t : Int)) 31 10 nd) 31 11 (g : Int)) := ((qf_fs.refl.up (by decide)).up (by decide)).up (by decide)
  refine pj_C17_0 (owed 0 _ _ (by omega) (hX.keep (qf_kX.of fr0 (by decide))) pj_up_same (fun n0 hn0 hn0' hc0 => pj_C17_21 ?_))
  have loop : ∀ (r s : Nat) (M1 : pj_M), s + r = 3 → qf_fr [31] M M1 → qf_fs 31 [9, 10, 11, 13] M M1 → M1 31 9 = (t : Int) → M1 31 10 = nd → M1 31 11 = (g : Int) → (-2147483648 ≤ M1 31 13 ∧ M1 31 13 < 2147483648) → (∀ q s', q < n0 → s' < s → pj_bt (M1 31 13) (q + 3 * s') = true) → pj_G L (d + 1) 17 34 [pj_vR 31, pj_vU, pj_vU, pj_vU, pj_vI (pj_shl 1 (n0 : Int) - 1), pj_vI (s : Int)] [] M1 Q := by
    intro r
    induction r with
    | zero =>
      intro s M1 es hm hs h9 h10 h11 hr hbit
      refine pj_C17_34 (owed 1 M1 _ (by omega) (hX.keep (qf_kX.of hm (by decide))) h11 (fun n1 hn1 hn1' hc1 => pj_C17_41 (by omega) (by omega) (fun z => pj_C17_66 (h M1 _ hm hs h9 h10 h11 rfl hr (fun u => ?_))) (fun z => by omega)))
      exact hbit _ _ (hc0 u) (Nat.lt_of_lt_of_le (hc1 u) (by omega))
    | succ r ih =>
      intro s M1 es hm hs h9 h10 h11 hr hbit
      refine pj_C17_34 (owed 1 M1 _ (by omega) (hX.keep (qf_kX.of hm (by decide))) h11 (fun n1 hn1 hn1' hc1 => pj_C17_41 (by omega) (by omega) (fun z => pj_C17_66 (h M1 _ hm hs h9 h10 h11 rfl hr (fun u => ?_))) (fun z => pj_C17_44 ?_)))
      · exact hbit _ _ (hc0 u) (Nat.lt_of_lt_of_le (hc1 u) (by omega))
      · refine ih (s + 1) _ (by omega) (hm.up (by decide)) (hs.up (by decide)) (by rw [pj_up_slot (by decide)]; exact h9) (by rw [pj_up_slot (by decide)]; exact h10) (by rw [pj_up_slot (by decide)]; exact h11) (by rw [pj_up_same]; exact pj_or_rng _ _) (fun q s' hq hs' => ?_)
        rw [pj_up_same, pj_bt_or, Bool.or_eq_true]
        by_cases y : s' = s
        · rw [y]
          exact Or.inr (qf_first ⟨n0, hn0⟩ ⟨s, by omega⟩ ⟨q, by omega⟩ hq)
        · exact Or.inl (hbit q s' hq (by omega))
  refine loop 3 0 _ (by omega) (fr0.up (by decide)) (fs0.up (by decide)) ?_ ?_ ?_ (by rw [pj_up_same]; omega) (fun q s' _ hs' => absurd hs' (by omega))
  · rw [pj_up_slot (by decide), pj_up_slot (by decide), pj_up_slot (by decide), pj_up_same]
  · rw [pj_up_slot (by decide), pj_up_slot (by decide), pj_up_same]
  · rw [pj_up_slot (by decide), pj_up_same]
/-- the wires that are needed, as the class holds them -/
def qf_nd (D : qf_D) (N : Nat → Nat → Bool) (M : pj_M) : Prop := ∃ a : Nat, (a = 27 ∨ a = 28) ∧ M 26 6 = (a : Int) ∧ ∀ t, t < qf_dT D → (-2147483648 ≤ M a t ∧ M a t < 2147483648) ∧ ∀ w, w < 14 → pj_bt (M a t) w = N t w
/-- the bits of streams that owe a number to a tick -/
def qf_gO (D : qf_D) (ro : Nat → Nat) (N : Nat → Nat → Bool) (e t g : Nat) : Prop := g < 4 ∧ ∀ k, k < 2 → (g.testBit k = true ↔ qf_owes D ro N e k t)
theorem qf_gO.cg {u : Nat → Nat} (h : qf_gO D ro N e (t + 1) g) : qf_cg D g u = qf_stC D ro N e t u := by
  unfold qf_cg qf_stC qf_oC
  have h0 := h.2 0 (by omega)
  have h1 := h.2 1 (by omega)
  by_cases c0 : qf_owes D ro N e 0 (t + 1)
  · rw [if_pos (h0.mpr c0), if_pos c0]
    by_cases c1 : qf_owes D ro N e 1 (t + 1)
    · rw [if_pos (h1.mpr c1), if_pos c1]
    · rw [if_neg (fun z => c1 (h1.mp z)), if_neg c1]
  · rw [if_neg (fun z => c0 (h0.mp z)), if_neg c0]
    by_cases c1 : qf_owes D ro N e 1 (t + 1)
    · rw [if_pos (h1.mpr c1), if_pos c1]
    · rw [if_neg (fun z => c1 (h1.mp z)), if_neg c1]
theorem qf_bas_le {n : Nat → Bool} {a a' w : Nat} (h : a ≤ a') (hw : qf_bas D n a w) : qf_bas D n a' w := by
  rcases hw with ⟨h1, h2 | ⟨i, h3, h4⟩⟩
  · exact ⟨h1, Or.inl h2⟩
  · exact ⟨h1, Or.inr ⟨i, by omega, h4⟩⟩
theorem qf_clo.c1 (hc : qf_clo D N) (ht : t < qf_dT D) : qf_cl1 D (N t) := fun p hp hn => hc.2.1 t p ht hp hn
theorem qf_gO.og (hD : qf_okD D) (hc : qf_clo D N) (he : e ≤ qf_dP D) (ht : t < qf_dT D) (h : qf_gO D ro N e (t + 1) g) : qf_og D (N t) e g := by
  refine ⟨h.1, fun k hk hb => ?_⟩
  obtain ⟨h1, ⟨i, hi1, hi2⟩, -, h4, h5⟩ := (h.2 k hk).mp hb
  have h6 := hD.st k h1
  have h7 := hc.2.2 t _ h4 h6.1 h6.2 h5
  have h8 := hD.pt _ h6.1
  have hx := h8.2.2.2.2.1 (by omega)
  have hy := h8.2.2.2.2.2.1 (by omega)
  refine ⟨h1, qf_bas_le (Nat.le_of_lt hi1) (qf_bas_in hD (hc.c1 ht) (by omega) (by rw [hi2]; exact hx) h7.1), qf_bas_le (Nat.le_of_lt hi1) (qf_bas_in hD (hc.c1 ht) (by omega) (by rw [hi2]; exact hy) h7.2)⟩
theorem qf_g_or : ∀ g : Fin 4, pj_or (g.val : Int) 1 = ((g.val ||| 1 : Nat) : Int) ∧ pj_or (g.val : Int) 2 = ((g.val ||| 2 : Nat) : Int) ∧ (g.val ||| 1) < 4 ∧ (g.val ||| 2) < 4 ∧ (g.val ||| 1).testBit 0 = true ∧ (g.val ||| 1).testBit 1 = g.val.testBit 1 ∧ (g.val ||| 2).testBit 1 = true ∧ (g.val ||| 2).testBit 0 = g.val.testBit 0 := by decide +kernel
theorem qf_enterTickX (hD : qf_okD D) (hE : qf_okE D) (hrk : qf_rok D ro) (he : e ≤ qf_dP D) (ht : t < qf_dT D) {M : pj_M} (hX : qf_X D M) (hro : ∀ p, p < qf_dP D → M 32 p = (ro p : Int)) (hnd : qf_nd D N M)
    (h : ∀ M' g RB, qf_fr [31] M M' → qf_fs 31 [9, 10, 11, 13] M M' → qf_gO D ro N e (t + 1) g → qf_mo0 D ro (N t) t g M' → M' 31 13 = RB → (-2147483648 ≤ RB ∧ RB < 2147483648) → (∀ u, pj_bt RB (qf_cg D g u) = true) → Q none M') : pj_G L (d + 2) 39 0 [pj_vR 26, pj_vI (t : Int), pj_vI (e : Int), pj_vU, pj_vU, pj_vU, pj_vU, pj_vU, pj_vU] [] M Q := by
  have hb := hD.b
  obtain ⟨na, hna, h6, hN⟩ := hnd
  have hT := hX.T
  -- the end: the tick is entered
  have fin : ∀ g, qf_gO D ro N e (t + 1) g → pj_G L (d + 2) 39 145 [pj_vR 26, pj_vI (t : Int), pj_vU, pj_vI (g : Int), pj_vU, pj_vU, pj_vU, pj_vU, pj_vU] [] M Q := by
    intro g hg
    have done : ∀ nd : Int, (∀ w, w < 14 → pj_bt nd w = N t w) → pj_G L (d + 1) 17 0 [pj_vR 31, pj_vI (t : Int), pj_vI nd, pj_vI (g : Int), pj_vU, pj_vU] [] M (fun r M1 => pj_G L (d + 1 + 1) 39 160 [pj_vU, pj_vU, pj_vU, pj_vU, pj_vU, pj_vU, pj_vU, pj_vU, pj_vU] (r.toList ++ []) M1 Q) := by
      intro nd hndb
      refine qf_enterX hD hX hg.1 (fun k hk hbk => ((hg.2 k hk).mp hbk).1) (fun M' RB hm hs e9 e10 e11 e13 hr hRB => pj_C39_160 (h M' g RB hm hs hg ⟨hX.keep (qf_kX.of hm (by decide)), e9, ?_, ?_, e11⟩ e13 hr hRB))
      · rw [e10]; exact hndb
      · rw [hm 32 (by decide)]; exact hro
    rcases hna with rfl | rfl
    · exact pj_C39_145 (Or.inl h6) (fun _ => pj_C39_154 t rfl (by omega) (done _ (hN t ht).2)) (fun z => by omega)
    · exact pj_C39_145 (Or.inr h6) (fun z => by omega) (fun _ => pj_C39_154v1 t rfl (by omega) (done _ (hN t ht).2))
  -- the streams ahead
  have loop : ∀ lat : Int, (∀ w, w < 14 → (pj_bt lat w = true ↔ t + 1 < qf_dT D ∧ N (t + 1) w = true)) → ∀ (r a g : Nat), a + r = e → (g < 4 ∧ ∀ k, k < 2 → (g.testBit k = true ↔ qf_owes D ro N a k (t + 1))) → pj_G L (d + 2) 39 32 [pj_vR 26, pj_vI (t : Int), pj_vI (e : Int), pj_vI (g : Int), pj_vI lat, pj_vI (a : Int), pj_vU, pj_vU, pj_vU] [] M Q := by
    intro lat hlat r
    induction r with
    | zero =>
      intro a g ea hg
      obtain rfl : a = e := by omega
      exact pj_C39_32 (by omega) (by omega) (fun _ => fin g hg) (fun z => by omega)
    | succ r ih =>
      intro a g ea hg
      have hp := hD.or a (by omega)
      have hpt := hD.pt _ hp
      have eo := hX.or a (by omega)
      have ek := hX.kd _ hp
      have er := hro _ hp
      have hrr := hrk _ hp
      have s0 := hX.st 0 (by omega)
      have l0 := hE.1 0 (by omega)
      -- no stream that owes
      have skip : ¬ (qf_kd D (qf_or0 D a) = 2 ∧ (ro (qf_or0 D a) = 0 ∨ ro (qf_or0 D a) = 4) ∧ t + 1 < qf_dT D ∧ N (t + 1) (qf_wo D (qf_or0 D a)) = true) → pj_G L (d + 2) 39 139 [pj_vR 26, pj_vI (t : Int), pj_vI (e : Int), pj_vI (g : Int), pj_vI lat, pj_vI (a : Int), pj_vU, pj_vU, pj_vU] [] M Q := by
        intro hn
        refine pj_C39_139 (ih (a + 1) g (by omega) ⟨hg.1, fun k hk => ?_⟩)
        rw [hg.2 k hk]
        constructor
        · rintro ⟨q1, ⟨i, q2, q3⟩, q4⟩
          exact ⟨q1, ⟨i, by omega, q3⟩, q4⟩
        · rintro ⟨q1, ⟨i, q2, q3⟩, q4, q5, q6⟩
          refine ⟨q1, ⟨i, ?_, q3⟩, q4, q5, q6⟩
          have : i ≠ a := fun z => hn (by rw [← z, q3]; exact ⟨(hD.st k q1).2, q4, q5, q6⟩)
          omega
      have zero : ¬ (qf_kd D (qf_or0 D a) = 2 ∧ (ro (qf_or0 D a) = 0 ∨ ro (qf_or0 D a) = 4)) → pj_G L (d + 2) 39 91 [pj_vR 26, pj_vI (t : Int), pj_vI (e : Int), pj_vI (g : Int), pj_vI lat, pj_vI (a : Int), pj_vI (M 17 a), pj_vU, pj_vU] [] M Q := fun hn => pj_C39_91 (pj_C39_92 (by omega) (fun _ => skip (fun z => hn ⟨z.1, z.2.1⟩)) (fun z => absurd rfl z))
      have one : (qf_kd D (qf_or0 D a) = 2 ∧ (ro (qf_or0 D a) = 0 ∨ ro (qf_or0 D a) = 4)) → pj_G L (d + 2) 39 87 [pj_vR 26, pj_vI (t : Int), pj_vI (e : Int), pj_vI (g : Int), pj_vI lat, pj_vI (a : Int), pj_vI (M 17 a), pj_vU, pj_vU] [] M Q := by
        intro hy
        refine pj_C39_87 (pj_C39_92 (by omega) (fun z => absurd z (by decide)) (fun _ => ?_))
        refine pj_C39_99 (qf_or0 D a) (qf_wo D (qf_or0 D a)) eo (by omega) (hX.wo _ hp) (by omega) (fun z => skip (fun y => ?_)) (fun z => ?_)
        · have := (hlat _ (by omega)).mpr y.2.2
          rw [z] at this
          cases this
        · have hz := (hlat _ (by omega)).mp z
          obtain ⟨k, k1, k2⟩ := hD.ts _ hp hy.1
          have hgo := qf_g_or ⟨g, hg.1⟩
          dsimp only at hgo
          have now : qf_owes D ro N (a + 1) k (t + 1) := ⟨k1, ⟨a, by omega, k2.symm⟩, by rw [k2]; exact hy.2, hz.1, by rw [k2]; exact hz.2⟩
          have other : ∀ k', k' < 2 → k' ≠ k → (qf_owes D ro N (a + 1) k' (t + 1) ↔ qf_owes D ro N a k' (t + 1)) := by
            intro k' hk' hne
            constructor
            · rintro ⟨q1, ⟨i, q2, q3⟩, q4⟩
              refine ⟨q1, ⟨i, ?_, q3⟩, q4⟩
              have : i ≠ a := by
                intro z2
                rw [z2, ← k2] at q3
                have hs2 := hD.s2 (by omega)
                obtain ⟨rfl, rfl⟩ | ⟨rfl, rfl⟩ : (k = 0 ∧ k' = 1) ∨ (k = 1 ∧ k' = 0) := by omega
                · exact hs2 q3
                · exact hs2 q3.symm
              omega
            · rintro ⟨q1, ⟨i, q2, q3⟩, q4⟩
              exact ⟨q1, ⟨i, by omega, q3⟩, q4⟩
          refine pj_C39_117 (by omega) (by omega) (fun y => pj_C39_136 (pj_C39_137 (pj_C39_139 ?_))) (fun y => pj_C39_132 (pj_C39_137 (pj_C39_139 ?_)))
          · have hk1 : k = 1 := by
              have : k ≠ 0 := fun z2 => by rw [z2] at k2; omega
              omega
            rw [hgo.2.1]
            refine ih (a + 1) (g ||| 2) (by omega) ⟨hgo.2.2.2.1, fun k' hk' => ?_⟩
            obtain rfl | rfl : k' = 0 ∨ k' = 1 := by omega
            · rw [hgo.2.2.2.2.2.2.2, hg.2 0 (by omega), other 0 (by omega) (by omega)]
            · rw [hk1] at now
              exact ⟨fun _ => now, fun _ => hgo.2.2.2.2.2.2.1⟩
          · have hk0 : k = 0 := by
              rcases Nat.lt_or_ge k 1 with z2 | z2
              · omega
              · have hk1 : k = 1 := by omega
                have hs2 := hD.s2 (by omega)
                rw [hk1] at k2
                exact absurd (show qf_st D 0 = qf_st D 1 by omega) hs2
            rw [hgo.1]
            refine ih (a + 1) (g ||| 1) (by omega) ⟨hgo.2.2.1, fun k' hk' => ?_⟩
            obtain rfl | rfl : k' = 0 ∨ k' = 1 := by omega
            · rw [hk0] at now
              exact ⟨fun _ => now, fun _ => hgo.2.2.2.2.1⟩
            · rw [hgo.2.2.2.2.2.1, hg.2 1 (by omega), other 1 (by omega) (by omega)]
      refine pj_C39_32 (by omega) (by omega) (fun z => by omega) (fun _ => ?_)
      refine pj_C39_38 a (qf_or0 D a) rfl (by omega) eo (by omega) (by omega) (fun z => zero (by omega)) (fun z => ?_)
      exact pj_C39_76 (by omega) (fun y => one (by omega)) (fun y => pj_C39_81 (by omega) (fun y2 => zero (by omega)) (fun y2 => one (by omega)))
  have start : ∀ lat : Int, (∀ w, w < 14 → (pj_bt lat w = true ↔ t + 1 < qf_dT D ∧ N (t + 1) w = true)) → pj_G L (d + 2) 39 27 [pj_vR 26, pj_vI (t : Int), pj_vI (e : Int), pj_vI 0, pj_vU, pj_vU, pj_vU, pj_vU, pj_vU] [pj_vI lat] M Q := by
    intro lat hlat
    refine pj_C39_27 (loop lat hlat e 0 0 (by omega) ⟨by omega, fun k hk => ?_⟩)
    rw [Nat.zero_testBit]
    constructor
    · intro z
      cases z
    · rintro ⟨-, ⟨i, q, -⟩, -⟩
      omega
  refine pj_C39_0 (by omega) (by omega) (fun z => pj_C39_26 (start 0 (fun w hw => ?_))) (fun z => ?_)
  · rw [pj_bt_0]
    constructor
    · intro y
      cases y
    · intro y
      omega
  · have hlt : t + 1 < qf_dT D := by omega
    have lat : ∀ x : Int, (∀ w, w < 14 → pj_bt x w = N (t + 1) w) → (∀ w, w < 14 → (pj_bt x w = true ↔ t + 1 < qf_dT D ∧ N (t + 1) w = true)) := by
      intro x hx w hw
      rw [hx w hw]
      exact ⟨fun y => ⟨hlt, y⟩, fun y => y.2⟩
    rcases hna with rfl | rfl
    · exact pj_C39_15 (Or.inl h6) (fun _ => pj_C39_19 (t + 1) (by omega) (by omega) (start _ (lat _ (hN (t + 1) hlt).2))) (fun y => by omega)
    · exact pj_C39_15 (Or.inr h6) (fun y => by omega) (fun _ => pj_C39_19v1 (t + 1) (by omega) (by omega) (start _ (lat _ (hN (t + 1) hlt).2)))
end QFXD
