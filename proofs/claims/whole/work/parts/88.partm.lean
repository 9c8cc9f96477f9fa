/-! part. -/
section QFPB
variable {L d : Nat} {Q : Option pj_V → pj_M → Prop} {D : qf_D} {M : pj_M} {x1 x2 x3 x4 : Int} {k wk w a b : Nat}
theorem qf_X.part (hD : qf_okD D) (h : qf_X D M) (hP : qf_pP D x1 x2 x3 x4 k wk w a b) {xa yb : Int} (hxa : xa = if k = 3 then -1 else (a : Int)) (hyb : yb = if k ≤ 2 then (b : Int) else -1) {M2 M3 : pj_M} (ha : qf_ad D M k wk w xa yb M2) (h70 : M2 7 0 = (qf_dP D : Int) + 1) (hor : ∀ i, i < qf_dP D + 1 → M2 17 i = ((if i < qf_ps D w (qf_dP D) then qf_or0 D i else if i = qf_ps D w (qf_dP D) then qf_dP D else qf_or0 D (i - 1) : Nat) : Int)) (f16 : qf_fr [16] M2 M3) (g1 : ∀ a' b', a' < 3 → b' < 3 → M3 16 (9 * qf_dP D + 3 * a' + b') = ((qf_wk0 (qf_paD D k wk w a b) (qf_dP D) a' b' % qf_rg D w : Nat) : Int)) (g2 : ∀ l, l < 9 * qf_dP D ∨ 9 * qf_dP D + 9 ≤ l → M3 16 l = M2 16 l) : qf_X (qf_paD D k wk w a b) (pj_up M3 4 w (qf_dP D : Int)) := by
  obtain ⟨c1, c2, c3, c4, c5, c6, c7, c8, c9, c10, c11, c12, c13, c14, c15⟩ := hP
  obtain ⟨a8, a9, a10, a11, a12, a13, a14, a18, b12, b13, b7, fr⟩ := ha
  have e3 : ∀ c, c ≠ 4 → c ≠ 16 → pj_up M3 4 w (qf_dP D : Int) c = M2 c := fun c h4 h16 => (pj_up_ne h4).trans (f16 c (by simp only [List.mem_cons, List.not_mem_nil, or_false]; exact h16))
  have e : ∀ c, c ≠ 4 → c ≠ 16 → c ∉ [7, 8, 9, 10, 11, 12, 13, 14, 17, 18] → pj_up M3 4 w (qf_dP D : Int) c = M c := fun c h4 h16 hc => (e3 c h4 h16).trans (fr c hc)
  have e4 : M3 4 = M 4 := (f16 4 (by decide)).trans (fr 4 (by decide))
  have e7 := e3 7 (by decide) (by decide)
  refine ⟨?_, ?_, ?_, ?_, ?_, ?_, fun v hv => ?_, ?_, ?_, fun q hq => ?_, fun q hq => ?_, fun q hq => ?_, fun q hq => ?_, fun q hq => ?_, ?_, fun q hq => ?_, fun q hq => ?_, fun q hq => ?_, fun q a' b' hq ha' hb' => ?_, fun i hi => ?_, ?_, ?_, ?_, ?_, ?_⟩
  · rw [e 2 (by decide) (by decide) (by decide)]; exact h.W
  · rw [e7]; exact h70
  · rw [e7]; exact b12
  · rw [e 2 (by decide) (by decide) (by decide)]; exact h.T
  · rw [e 19 (by decide) (by decide) (by decide)]; exact h.K
  · rw [e 3 (by decide) (by decide) (by decide)]; exact h.rg
  · rw [qf_upi, qf_paD_dv, e4]
    by_cases z : v = w
    · rw [if_pos z, if_pos z]
      omega
    · rw [if_neg z, if_neg z]
      exact h.dv v hv
  · rw [e 5 (by decide) (by decide) (by decide)]; exact h.pr
  · rw [e 6 (by decide) (by decide) (by decide)]; exact h.np
  · rw [qf_paD_P] at hq
    rw [e3 8 (by decide) (by decide), a8 q, qf_paD_kd]
    by_cases z : q = qf_dP D
    · rw [if_pos z, if_pos z]
    · rw [if_neg z, if_neg z]
      exact h.kd q (by omega)
  · rw [qf_paD_P] at hq
    rw [e3 9 (by decide) (by decide), a9 q, qf_paD_wk]
    by_cases z : q = qf_dP D
    · rw [if_pos z, if_pos z]
    · rw [if_neg z, if_neg z]
      exact h.wk q (by omega)
  · rw [qf_paD_P] at hq
    rw [e3 10 (by decide) (by decide), a10 q, qf_paD_wo]
    by_cases z : q = qf_dP D
    · rw [if_pos z, if_pos z]
    · rw [if_neg z, if_neg z]
      exact h.wo q (by omega)
  · rw [qf_paD_P] at hq
    rw [e3 11 (by decide) (by decide), a11 q, qf_paD_kd, qf_paD_dx]
    by_cases z : q = qf_dP D
    · rw [if_pos z, if_pos z, if_pos z, hxa]
    · rw [if_neg z, if_neg z, if_neg z]
      exact h.dx q (by omega)
  · rw [qf_paD_P] at hq
    rw [e3 12 (by decide) (by decide), a12 q, qf_paD_kd, qf_paD_dy]
    by_cases z : q = qf_dP D
    · rw [if_pos z, if_pos z, if_pos z, hyb]
    · rw [if_neg z, if_neg z, if_neg z]
      exact h.dy q (by omega)
  · rw [e 15 (by decide) (by decide) (by decide)]; exact h.tb
  · rw [qf_paD_P] at hq
    rw [e3 13 (by decide) (by decide), a13 q, qf_paD_wy]
    by_cases z : q = qf_dP D
    · rw [if_pos z, if_pos z]
      by_cases y : k = 1 ∨ k = 2
      · rw [if_pos y, if_pos y]; rfl
      · rw [if_neg y, if_neg y]; rfl
    · rw [if_neg z, if_neg z]
      exact h.wy q (by omega)
  · rw [qf_paD_P] at hq
    rw [e3 14 (by decide) (by decide), a14 q, qf_paD_od]
    by_cases z : q = qf_dP D
    · rw [if_pos z, if_pos z]; rfl
    · rw [if_neg z, if_neg z]
      exact h.od q (by omega)
  · rw [e3 18 (by decide) (by decide), a18 q, qf_paD_st]
    by_cases z : k = 2 ∧ q = qf_dS D
    · rw [if_pos z, if_pos z]
    · rw [if_neg z, if_neg z]
      exact h.st q hq
  · rw [qf_paD_P] at hq
    rw [pj_up_else (by decide)]
    by_cases z : q = qf_dP D
    · rw [z, g1 a' b' ha' hb']
      show _ = ((qf_wk0 (qf_paD D k wk w a b) (qf_dP D) a' b' % qf_rg D (qf_wo (qf_paD D k wk w a b) (qf_dP D)) : Nat) : Int)
      rw [qf_paD_wo, if_pos rfl]
    · rw [g2 _ (by omega), fr 16 (by decide), qf_wks_pa z]
      exact h.md q a' b' (by omega) ha' hb'
  · rw [qf_paD_P] at hi
    rw [e3 17 (by decide) (by decide), hor i hi, qf_paD_or]
  · rw [e7]
    obtain ⟨m, m1, m2, m3⟩ := b13
    refine ⟨m, m1, m2, fun q => ?_⟩
    rw [m3 q, qf_paD_P, qf_paD_kd]
    by_cases z : q = qf_dP D
    · rw [if_pos z]
      exact decide_eq_decide.mpr ⟨fun y => by omega, fun y => Or.inr ⟨z, y.2⟩⟩
    · rw [if_neg z]
      exact decide_eq_decide.mpr ⟨fun y => by omega, fun y => Or.inl ⟨by omega, y.2⟩⟩
  · rw [e7, b7 14 (by decide)]; exact h.sb
  · rw [e 20 (by decide) (by decide) (by decide)]; exact h.pl
  · rw [e 21 (by decide) (by decide) (by decide)]; exact h.sv
  · rw [e 21 (by decide) (by decide) (by decide)]; exact h.no
theorem qf_Y.part (hD : qf_okD D) (h : qf_Y D M) {xa yb : Int} (hxa : xa = if k = 3 then -1 else (a : Int)) (hyb : yb = if k ≤ 2 then (b : Int) else -1) {M' : pj_M} (fr : qf_fr [38, 40, 43, 44, 45, 46, 47, 49, 50, 51] M M') (fs : qf_fs 38 [18, 19, 35] M M') (eP : M' 38 18 = (qf_dP D : Int) + 1) (eS : M' 38 19 = ((qf_dS D + if k = 2 then 1 else 0 : Nat) : Int)) (a40 : ∀ v, M' 40 v = if v = w then (qf_dP D : Int) else M 40 v) (a43 : ∀ q, M' 43 q = if q = qf_dP D then (k : Int) else M 43 q) (a44 : ∀ q, M' 44 q = if q = qf_dP D then (wk : Int) else M 44 q) (a45 : ∀ q, M' 45 q = if q = qf_dP D then (w : Int) else M 45 q) (a46 : ∀ q, M' 46 q = if q = qf_dP D then xa else M 46 q) (a47 : ∀ q, M' 47 q = if q = qf_dP D then yb else M 47 q) (a49 : ∀ q, M' 49 q = if q = qf_dP D then (if k = 1 ∨ k = 2 then 1 else 0) else M 49 q) (a50 : ∀ q, M' 50 q = if q = qf_dP D then 1 else M 50 q) (a51 : ∀ q, M' 51 q = if k = 2 ∧ q = qf_dS D then (qf_dP D : Int) else M 51 q) : qf_Y (qf_paD D k wk w a b) M' := by
  refine ⟨?_, eP, eS, ?_, ?_, ?_, fun v hv => ?_, ?_, ?_, fun q hq => ?_, fun q hq => ?_, fun q hq => ?_, fun q hq => ?_, fun q hq => ?_, ?_, fun q hq => ?_, fun q hq => ?_, fun q hq => ?_, ?_, ?_, ?_, ?_⟩
  · rw [fs 17 (by decide)]; exact h.W
  · rw [fs 20 (by decide)]; exact h.T
  · rw [fs 21 (by decide)]; exact h.K
  · rw [fr 39 (by decide)]; exact h.rg
  · rw [a40 v, qf_paD_dv]
    by_cases z : v = w
    · rw [if_pos z, if_pos z]
      omega
    · rw [if_neg z, if_neg z]
      exact h.dv v hv
  · rw [fr 41 (by decide)]; exact h.pr
  · rw [fr 42 (by decide)]; exact h.np
  · rw [qf_paD_P] at hq
    rw [a43 q, qf_paD_kd]
    by_cases z : q = qf_dP D
    · rw [if_pos z, if_pos z]
    · rw [if_neg z, if_neg z]
      exact h.kd q (by omega)
  · rw [qf_paD_P] at hq
    rw [a44 q, qf_paD_wk]
    by_cases z : q = qf_dP D
    · rw [if_pos z, if_pos z]
    · rw [if_neg z, if_neg z]
      exact h.wk q (by omega)
  · rw [qf_paD_P] at hq
    rw [a45 q, qf_paD_wo]
    by_cases z : q = qf_dP D
    · rw [if_pos z, if_pos z]
    · rw [if_neg z, if_neg z]
      exact h.wo q (by omega)
  · rw [qf_paD_P] at hq
    rw [a46 q, qf_paD_kd, qf_paD_dx]
    by_cases z : q = qf_dP D
    · rw [if_pos z, if_pos z, if_pos z, hxa]
    · rw [if_neg z, if_neg z, if_neg z]
      exact h.dx q (by omega)
  · rw [qf_paD_P] at hq
    rw [a47 q, qf_paD_kd, qf_paD_dy]
    by_cases z : q = qf_dP D
    · rw [if_pos z, if_pos z, if_pos z, hyb]
    · rw [if_neg z, if_neg z, if_neg z]
      exact h.dy q (by omega)
  · rw [fr 48 (by decide)]; exact h.tb
  · rw [qf_paD_P] at hq
    rw [a49 q, qf_paD_wy]
    by_cases z : q = qf_dP D
    · rw [if_pos z, if_pos z]
      by_cases y : k = 1 ∨ k = 2
      · rw [if_pos y, if_pos y]; rfl
      · rw [if_neg y, if_neg y]; rfl
    · rw [if_neg z, if_neg z]
      exact h.wy q (by omega)
  · rw [qf_paD_P] at hq
    rw [a50 q, qf_paD_od]
    by_cases z : q = qf_dP D
    · rw [if_pos z, if_pos z]; rfl
    · rw [if_neg z, if_neg z]
      exact h.od q (by omega)
  · rw [a51 q, qf_paD_st]
    by_cases z : k = 2 ∧ q = qf_dS D
    · rw [if_pos z, if_pos z]
    · rw [if_neg z, if_neg z]
      exact h.st q hq
  · rw [fr 52 (by decide)]; exact h.sn
  · rw [fr 53 (by decide)]; exact h.lt
  · rw [fr 54 (by decide)]; exact h.lw
  · rw [fr 55 (by decide)]; exact h.lv
end QFPB
