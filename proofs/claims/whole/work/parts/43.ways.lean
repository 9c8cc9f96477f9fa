/-! WAYS: the roles of a story, an odometer of ways. -/
def qf_rup : Nat → Nat → Nat → Nat
  | 0, _, e => e
  | r + 1, wy, e => if wy.testBit e then e else qf_rup r wy (e + 1)
/-- the first way from e on (4: none) -/
def qf_upw (wy e : Nat) : Nat := qf_rup (4 - e) wy e
/-- how many ways lie ahead of e -/
def qf_rk (wy e : Nat) : Nat := ((List.range e).filter (fun k => wy.testBit k)).length
theorem qf_upw_all : ∀ wy : Fin 16, ∀ e : Fin 4, wy.val.testBit e.val = true → (qf_upw wy.val (e.val + 1) < 4 → wy.val.testBit (qf_upw wy.val (e.val + 1)) = true ∧ qf_rk wy.val (qf_upw wy.val (e.val + 1)) = qf_rk wy.val e.val + 1) ∧ (¬ qf_upw wy.val (e.val + 1) < 4 → qf_rk wy.val e.val + 1 = qf_rk wy.val 4) ∧ qf_rk wy.val e.val < qf_rk wy.val 4 ∧ qf_upw wy.val (e.val + 1) ≤ 4 := by decide +kernel
theorem qf_upw_0 : ∀ wy : Fin 16, wy.val ≠ 0 → qf_upw wy.val 0 < 4 ∧ wy.val.testBit (qf_upw wy.val 0) = true ∧ qf_rk wy.val (qf_upw wy.val 0) = 0 ∧ 0 < qf_rk wy.val 4 := by decide +kernel
theorem qf_rk_inj : ∀ wy : Fin 16, ∀ e e' : Fin 4, wy.val.testBit e.val = true → wy.val.testBit e'.val = true → qf_rk wy.val e.val = qf_rk wy.val e'.val → e.val = e'.val := by decide +kernel
theorem qf_upw_step : ∀ wy : Fin 16, ∀ e : Fin 4, wy.val.testBit e.val = false → qf_upw wy.val e.val = qf_upw wy.val (e.val + 1) := by decide +kernel
theorem qf_upw_here : ∀ wy : Fin 16, ∀ e : Fin 5, (e.val = 4 ∨ wy.val.testBit e.val = true) → qf_upw wy.val e.val = e.val := by decide +kernel
theorem qf_and_bit : ∀ wy : Fin 16, ∀ e : Fin 4, (pj_and (wy.val : Int) ((2 ^ e.val : Nat) : Int) ≠ 0 ↔ wy.val.testBit e.val = true) := by decide +kernel
section QFM6
variable {D : qf_D} {set : Nat} {e e' : Nat → Nat}
/-- the role of each part of a story, by its way's number -/
def qf_roE (D : qf_D) (set : Nat) (e : Nat → Nat) (p : Nat) : Nat := if set.testBit p then (if qf_wy D p = 0 then 16 else 2 ^ e p) else 0
def qf_acW (D : qf_D) (set p : Nat) : Bool := decide (p < qf_dP D ∧ set.testBit p = true ∧ qf_wy D p ≠ 0)
def qf_bsW (D : qf_D) (p : Nat) : Nat := if p < qf_dP D ∧ qf_wy D p ≠ 0 then qf_rk (qf_wy D p) 4 else 1
def qf_ev (D : qf_D) (set : Nat) (e : Nat → Nat) : Prop := ∀ p, p < qf_dP D → set.testBit p = true → qf_wy D p ≠ 0 → e p < 4 ∧ (qf_wy D p).testBit (e p) = true
def qf_rkf (D : qf_D) (e : Nat → Nat) (p : Nat) : Nat := qf_rk (qf_wy D p) (e p)
def qf_codW (D : qf_D) (set : Nat) (e : Nat → Nat) : Nat := qf_cod (qf_acW D set) (qf_bsW D) (qf_rkf D e) (qf_dP D)
def qf_totW (D : qf_D) (set : Nat) : Nat := qf_wt (qf_acW D set) (qf_bsW D) (qf_dP D)
theorem qf_bsW_pos (hD : qf_okD D) (p : Nat) : 0 < qf_bsW D p := by
  unfold qf_bsW
  split
  next h =>
    have h1 := hD.pt p h.1
    exact (qf_upw_0 ⟨qf_wy D p, by omega⟩ h.2).2.2.2
  · omega
theorem qf_rkf_lt (hD : qf_okD D) (he : qf_ev D set e) : ∀ p, p < qf_dP D → qf_acW D set p = true → qf_rkf D e p < qf_bsW D p := by
  intro p hp ha
  have h := of_decide_eq_true ha
  have h1 := hD.pt p hp
  have h2 := he p hp h.2.1 h.2.2
  unfold qf_bsW qf_rkf
  rw [if_pos ⟨hp, h.2.2⟩]
  exact (qf_upw_all ⟨qf_wy D p, by omega⟩ ⟨e p, h2.1⟩ h2.2).2.2.1
theorem qf_codW_lt (hD : qf_okD D) (he : qf_ev D set e) : qf_codW D set e < qf_totW D set := qf_cod_lt _ (qf_rkf_lt hD he)
theorem qf_codW_inj (hD : qf_okD D) (he : qf_ev D set e) (he' : qf_ev D set e') (h : qf_codW D set e = qf_codW D set e') : ∀ p, p < qf_dP D → qf_roE D set e p = qf_roE D set e' p := by
  intro p hp
  unfold qf_roE
  by_cases h1 : set.testBit p = true
  · rw [if_pos h1, if_pos h1]
    by_cases h2 : qf_wy D p = 0
    · rw [if_pos h2, if_pos h2]
    · rw [if_neg h2, if_neg h2]
      have h3 := hD.pt p hp
      have a1 := he p hp h1 h2
      have a2 := he' p hp h1 h2
      have := qf_cod_inj _ (qf_rkf_lt hD he) (qf_rkf_lt hD he') h p hp (decide_eq_true ⟨hp, h1, h2⟩)
      have e1 := qf_rk_inj ⟨qf_wy D p, by omega⟩ ⟨e p, a1.1⟩ ⟨e' p, a2.1⟩ a1.2 a2.2 this
      dsimp only at e1
      rw [e1]
  · rw [if_neg h1, if_neg h1]
/-- the roles that a story allows -/
def qf_rs (D : qf_D) (set : Nat) (ro : Nat → Nat) : Prop := ∀ p, p < qf_dP D → (set.testBit p = true → (qf_wy D p = 0 → ro p = 16) ∧ (qf_wy D p ≠ 0 → ∃ e, e < 4 ∧ (qf_wy D p).testBit e = true ∧ ro p = 2 ^ e)) ∧ (set.testBit p = false → ro p = 0)
def qf_agr (D : qf_D) (set : Nat) : Prop := ∃ ro, qf_rs D set ro ∧ ∃ v, qf_run D ro v
theorem qf_rs_roE (he : qf_ev D set e) : qf_rs D set (qf_roE D set e) := by
  intro p hp
  unfold qf_roE
  refine ⟨fun h1 => ?_, fun h1 => by rw [if_neg (by rw [h1]; decide)]⟩
  rw [if_pos h1]
  refine ⟨fun h2 => by rw [if_pos h2], fun h2 => ?_⟩
  rw [if_neg h2]
  exact ⟨e p, (he p hp h1 h2).1, (he p hp h1 h2).2, rfl⟩
theorem qf_pow_inj : ∀ a b : Fin 4, 2 ^ a.val = 2 ^ b.val → a.val = b.val := by decide +kernel
theorem qf_rs_ex {ro : Nat → Nat} (h : qf_rs D set ro) : ∃ e, qf_ev D set e ∧ ∀ p, p < qf_dP D → qf_roE D set e p = ro p := by
  refine ⟨fun p => if ro p = 1 then 0 else if ro p = 2 then 1 else if ro p = 4 then 2 else 3, ?_, ?_⟩
  · intro p hp h1 h2
    obtain ⟨e, a1, a2, a3⟩ := ((h p hp).1 h1).2 h2
    dsimp only
    obtain rfl | rfl | rfl | rfl : e = 0 ∨ e = 1 ∨ e = 2 ∨ e = 3 := by omega
    · rw [a3]; exact ⟨by decide, a2⟩
    · rw [a3]; exact ⟨by decide, a2⟩
    · rw [a3]; exact ⟨by decide, a2⟩
    · rw [a3]; exact ⟨by decide, a2⟩
  · intro p hp
    unfold qf_roE
    by_cases h1 : set.testBit p = true
    · rw [if_pos h1]
      by_cases h2 : qf_wy D p = 0
      · rw [if_pos h2]
        exact (((h p hp).1 h1).1 h2).symm
      · rw [if_neg h2]
        obtain ⟨e, a1, a2, a3⟩ := ((h p hp).1 h1).2 h2
        dsimp only
        obtain rfl | rfl | rfl | rfl : e = 0 ∨ e = 1 ∨ e = 2 ∨ e = 3 := by omega
        · rw [a3]; rfl
        · rw [a3]; rfl
        · rw [a3]; rfl
        · rw [a3]; rfl
    · rw [if_neg h1]
      exact ((h p hp).2 (by simpa using h1)).symm
/-- runs ask for the roles of the parts alone -/
theorem qf_run_congr (hD : qf_okD D) {ro ro' : Nat → Nat} (h : ∀ p, p < qf_dP D → ro p = ro' p) {v : Nat → Nat → Nat} (hv : qf_run D ro v) : qf_run D ro' v := by
  intro t ht w hw
  refine ⟨(hv t ht w hw).1, fun p hp => ?_, (hv t ht w hw).2.2⟩
  have h3 := hD.dv w hw (by omega)
  rw [hp, Nat.add_sub_cancel] at h3
  have := (hv t ht w hw).2.1 p hp
  unfold qf_gz at this ⊢
  rw [← h p h3.1]
  exact this
theorem qf_agr_iff (hD : qf_okD D) : qf_agr D set ↔ ∃ e, qf_ev D set e ∧ qf_codW D set e < qf_totW D set ∧ ∃ v, qf_run D (qf_roE D set e) v := by
  constructor
  · rintro ⟨ro, h1, v, h2⟩
    obtain ⟨e, a1, a2⟩ := qf_rs_ex h1
    exact ⟨e, a1, qf_codW_lt hD a1, v, qf_run_congr hD (fun p hp => (a2 p hp).symm) h2⟩
  · rintro ⟨e, h1, -, v, h2⟩
    exact ⟨_, qf_rs_roE h1, v, h2⟩
end QFM6
