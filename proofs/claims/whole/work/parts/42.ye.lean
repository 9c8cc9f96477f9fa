/-! THE REFERENCE: tries that gathers; canBe; collects. -/
section QFE
variable {L d : Nat} {Q : Option pj_V → pj_M → Prop} {D : qf_D} {ro : Nat → Nat} {t s : Nat}
/-- one number put into a small set -/
theorem qf_put {m z : Nat} (hm : m < 8) (hz : z < 3) : pj_or (m : Int) (pj_shl 1 (z : Int)) = ((m ||| 2 ^ z : Nat) : Int) ∧ (m ||| 2 ^ z) < 8 ∧ ∀ j, (m ||| 2 ^ z).testBit j = (m.testBit j || decide (z = j)) := by
  have h2 : (2 : Nat) ^ z < 8 := by
    have : (2 : Nat) ^ z < 2 ^ 3 := Nat.pow_lt_pow_right (by omega) hz
    omega
  refine ⟨?_, Nat.or_lt_two_pow (n := 3) (by omega) (by omega), fun j => ?_⟩
  · rw [pj_shl1_nat (by omega), qf_or_nat (by omega) (by omega)]
  · rw [Nat.testBit_or, Nat.testBit_two_pow]
/-- the gathering loop of tries: all wires' numbers of the tick are put into the sets -/
theorem qf_tries2_in (hD : qf_okD D) (ht : t < 3) {u : Nat → Nat} {M1 : pj_M} (hY : qf_Y D M1) (hv : qf_vY D M1 (qf_dW D) u) {to : Nat} (hto : to < 324) (hg : M1 62 to = 1) {m : Nat → Nat} (hm : qf_fnd M1 63 m)
    (h : ∀ M' m', qf_fr [63] M1 M' → qf_fnd M' 63 m' → (∀ w, w < qf_dW D → ∀ j, (m' (14 * t + w)).testBit j = ((m (14 * t + w)).testBit j || decide (u w = j))) → (∀ l, l < 42 → (l < 14 * t ∨ 14 * t + qf_dW D ≤ l) → m' l = m l) → pj_G L d 111 157 [pj_vR 38, pj_vI (t : Int), pj_vI (s : Int), pj_vI 2, pj_vU, pj_vU, pj_vU] [] M' Q) : ∀ (r n : Nat) (M : pj_M) (m1 : Nat → Nat), n + r = qf_dW D → qf_fr [63] M1 M → qf_fnd M 63 m1 → (∀ w, w < n → ∀ j, (m1 (14 * t + w)).testBit j = ((m (14 * t + w)).testBit j || decide (u w = j))) → (∀ l, l < 42 → (l < 14 * t ∨ 14 * t + n ≤ l) → m1 l = m l) → pj_G L d 111 103 [pj_vR 38, pj_vI (t : Int), pj_vI (s : Int), pj_vI 2, pj_vU, pj_vI (to : Int), pj_vI (n : Int)] [] M Q := by
  intro r
  have hb14 := hD.b
  induction r with
  | zero =>
    intro n M m1 e hf a1 a2 a3
    have hW := (hY.keep (qf_kY.of hf (by decide)) : qf_Y D M).W
    obtain rfl : n = qf_dW D := by omega
    exact pj_C111_103 (by omega) (by omega) (fun _ => h M m1 hf a1 a2 a3) (fun c => by omega)
  | succ r ih =>
    intro n M m1 e hf a1 a2 a3
    have hW := (hY.keep (qf_kY.of hf (by decide)) : qf_Y D M).W
    have e62 : M 62 to = 1 := by rw [hf 62 (by decide)]; exact hg
    have e59 : M 59 n = (u n : Int) ∧ u n < 3 := by rw [hf 59 (by decide)]; exact hv n (by omega)
    have hc := a1 (14 * t + n) (by omega)
    obtain ⟨p1, p2, p3⟩ := qf_put hc.2 e59.2
    refine pj_C111_103 (by omega) (by omega) (fun c => by omega) (fun _ => ?_)
    refine pj_C111_112 (by omega) (fun z => absurd rfl z) (fun _ => pj_C111_117 to rfl hto (by omega) (fun z => by omega) (fun _ => ?_))
    refine pj_C111_127 (14 * t + n) n (by omega) (by omega) rfl (by omega) ?_
    rw [e59.1, hc.1, p1]
    refine ih (n + 1) _ (fun l => if l = 14 * t + n then m1 (14 * t + n) ||| 2 ^ u n else m1 l) (by omega) (hf.up (by decide)) ?_ ?_ ?_
    · intro l hl
      dsimp only
      by_cases z : l = 14 * t + n
      · rw [if_pos z, z, pj_up_same]
        exact ⟨rfl, p2⟩
      · rw [if_neg z, pj_up_slot z]
        exact a1 l hl
    · intro w hw j
      by_cases z : w = n
      · rw [z, if_pos rfl, p3 j, a3 (14 * t + n) (by omega) (by omega)]
      · rw [if_neg (by omega)]
        exact a2 w (by omega) j
    · intro l hl hl2
      rw [if_neg (by omega)]
      exact a3 l hl (by omega)
/-- tries, gathering -/
theorem qf_tries2 (hD : qf_okD D) (hE : qf_okE D) (ht : t < 3) (hs : s < 81) {M0 : pj_M} (hY : qf_Y D M0) (hR : qf_roY D M0 ro) (hb : ∀ k, k < 324 → M0 62 k = 0 ∨ M0 62 k = 1) {m : Nat → Nat} (hm : qf_fnd M0 63 m)
    (h : ∀ M' m', qf_fr [57, 59, 60, 63] M0 M' → qf_fnd M' 63 m' → (∀ w, w < qf_dW D → ∀ j, (m' (14 * t + w)).testBit j = true ↔ ((m (14 * t + w)).testBit j = true ∨ ∃ u, qf_RR D ro t s u ∧ M0 62 (81 * (t + 1) + qf_stR D t u) = 1 ∧ u w = j)) → (∀ l, l < 42 → (l < 14 * t ∨ 14 * t + qf_dW D ≤ l) → m' l = m l) → Q none M') : pj_G L (d + 4) 111 0 [pj_vR 38, pj_vI (t : Int), pj_vI (s : Int), pj_vI 2, pj_vU, pj_vU, pj_vU] [] M0 Q := by
  have hPc : ∀ w, w < qf_dW D → ∀ j, ∀ u v : Nat → Nat, (∀ w, w < qf_dW D → u w = v w) → (M0 62 (81 * (t + 1) + qf_stR D t u) = 1 ∧ u w = j) → (M0 62 (81 * (t + 1) + qf_stR D t v) = 1 ∧ v w = j) := by
    intro w hw j u v hh e
    rw [← qf_stR_congr (q := t) hD hh, ← hh w hw]
    exact e
  refine qf_triesY (J := fun c M => M 61 = M0 61 ∧ M 62 = M0 62 ∧ ∃ m1 : Nat → Nat, qf_fnd M 63 m1 ∧ (∀ w, w < qf_dW D → ∀ j, (m1 (14 * t + w)).testBit j = true ↔ ((m (14 * t + w)).testBit j = true ∨ qf_ex D ro t s c (fun u => M0 62 (81 * (t + 1) + qf_stR D t u) = 1 ∧ u w = j))) ∧ (∀ l, l < 42 → (l < 14 * t ∨ 14 * t + qf_dW D ≤ l) → m1 l = m l)) hD hE ht hs hY hR ?_ ?_ ?_ ?_ ?_
  · rintro c M M' ⟨a1, a2, m1, a3, a4, a5⟩ hmm
    rw [hmm 61 (by decide), hmm 62 (by decide)]
    refine ⟨a1, a2, m1, fun l hl => ?_, a4, a5⟩
    rw [hmm 63 (by decide)]
    exact a3 l hl
  · rintro c M f ⟨a1, a2, m1, a3, a4, a5⟩ hf hc hn
    refine ⟨a1, a2, m1, a3, fun w hw j => ?_, a5⟩
    rw [qf_ex_step hD (hPc w hw j) hf hc, a4 w hw j]
    constructor
    · rintro (z | z)
      · exact Or.inl z
      · exact Or.inr (Or.inl z)
    · rintro (z | z | z)
      · exact Or.inl z
      · exact Or.inr z
      · exact absurd z.1 hn
  · rintro c M f ⟨a1, a2, m1, a3, a4, a5⟩ hY1 hf hc hseen hv go
    have hst := qf_stR_lt (q := t) hD (qf_uf_lt (s := s) hD ht hf)
    have hW := hY1.W
    have hb14 := hD.b
    have hbc := hb (81 * (t + 1) + qf_stR D t (qf_uf D ro t s f)) (by omega)
    refine pj_C111_48 (qf_stateNowY (q := t) hD hY1 hv (pj_C111_58 (by omega) (fun _ => ?_) (fun z => absurd z (by decide))))
    have eto : 81 * ((t : Int) + 1) + (qf_stR D t (qf_uf D ro t s f) : Int) = ((81 * (t + 1) + qf_stR D t (qf_uf D ro t s f) : Nat) : Int) := by omega
    rw [eto]
    refine pj_C111_73 (by omega) (fun _ => pj_C111_100 ?_) (fun z => absurd z (by decide))
    rcases hbc with hz | hz
    · -- not good: nothing is put
      have g : pj_G L (d + 4) 111 157 [pj_vR 38, pj_vI (t : Int), pj_vI (s : Int), pj_vI 2, pj_vU, pj_vU, pj_vU] [] M Q := by
        refine go M ⟨a1, a2, m1, a3, fun w hw j => ?_, a5⟩ qf_fr.refl
        rw [qf_ex_step hD (hPc w hw j) hf hc, a4 w hw j]
        constructor
        · rintro (z | z)
          · exact Or.inl z
          · exact Or.inr (Or.inl z)
        · rintro (z | z | z)
          · exact Or.inl z
          · exact Or.inr z
          · have := z.2.1
            omega
      refine pj_C111_103 (by omega) (by omega) (fun _ => g) (fun _ => pj_C111_112 (by omega) (fun z => absurd rfl z) (fun _ => pj_C111_117 _ rfl (by omega) (by rw [a2]; omega) (fun _ => g) (fun z => ?_)))
      rw [a2] at z
      omega
    · refine qf_tries2_in hD ht hY1 hv (to := 81 * (t + 1) + qf_stR D t (qf_uf D ro t s f)) (by omega) (by rw [a2]; exact hz) a3 (fun M' m' hf' b1 b2 b3 => ?_) (qf_dW D) 0 M m1 (by omega) qf_fr.refl a3 (fun w hw => absurd hw (by omega)) (fun l hl _ => rfl)
      refine go M' ⟨by rw [hf' 61 (by decide)]; exact a1, by rw [hf' 62 (by decide)]; exact a2, m', b1, fun w hw j => ?_, fun l hl hl2 => ?_⟩ (hf'.wide (by decide))
      · rw [qf_ex_step hD (hPc w hw j) hf hc, b2 w hw j, Bool.or_eq_true, decide_eq_true_iff, a4 w hw j]
        constructor
        · rintro ((z | z) | z)
          · exact Or.inl z
          · exact Or.inr (Or.inl z)
          · exact Or.inr (Or.inr ⟨hseen, hz, z⟩)
        · rintro (z | z | z)
          · exact Or.inl (Or.inl z)
          · exact Or.inl (Or.inr z)
          · exact Or.inr z.2.2
      · rw [b3 l hl hl2]
        exact a5 l hl hl2
  · refine ⟨rfl, rfl, m, hm, fun w hw j => ⟨fun z => Or.inl z, ?_⟩, fun l _ _ => rfl⟩
    rintro (z | z)
    · exact z
    · exact absurd z qf_ex_0
  · rintro M' ⟨a1, a2, m1, a3, a4, a5⟩ hmm
    refine h M' m1 (fun a ha => ?_) a3 (fun w hw j => ?_) a5
    · by_cases e2 : a = 61
      · rw [e2]; exact a1
      · by_cases e3 : a = 62
        · rw [e3]; exact a2
        · exact hmm a (by simp only [List.mem_cons, List.not_mem_nil, or_false, not_or] at ha ⊢; omega)
    · rw [a4 w hw j]
      unfold qf_ex
      rw [qf_ex_RR hD (hPc w hw j)]
/-- the states reached, as canBe leaves them -/
def qf_rchY (D : qf_D) (ro : Nat → Nat) (M : pj_M) : Prop := (∀ k, k < 324 → M 61 k = 0 ∨ M 61 k = 1) ∧ ∀ t s, t ≤ qf_dT D → s < 81 → (M 61 (81 * t + s) = 1 ↔ qf_rch (qf_RR D ro) (qf_stR D) t s)
theorem qf_RR_st (hD : qf_okD D) {u : Nat → Nat} {q : Nat} (ht : t < qf_dT D) (h : qf_RR D ro t s u) : qf_stR D q u < 81 := by
  refine qf_stR_lt hD (fun w hw => ?_)
  have h1 := qf_tk_lt hD ht (qf_bR_lt hD t s) h w hw
  have h2 := hD.rg w hw
  omega
theorem qf_canBeY_in (hD : qf_okD D) (hE : qf_okE D) {M0 : pj_M} (hY : qf_Y D M0) (hR : qf_roY D M0 ro) (ht : t < qf_dT D)
    (h : ∀ M', qf_fr [57, 59, 60, 61] M0 M' → (∀ k, k < 324 → M' 61 k = 0 ∨ M' 61 k = 1) → (∀ t' s', t' ≤ t + 1 → s' < 81 → (M' 61 (81 * t' + s') = 1 ↔ qf_rch (qf_RR D ro) (qf_stR D) t' s')) → (∀ k, 81 * (t + 2) ≤ k → k < 324 → M' 61 k = 0) → pj_G L (d + 5) 112 32 [pj_vR 38, pj_vI ((t + 1 : Nat) : Int), pj_vU] [] M' Q) : ∀ (r n : Nat) (M : pj_M), n + r = 81 → qf_fr [57, 59, 60, 61] M0 M → (∀ k, k < 324 → M 61 k = 0 ∨ M 61 k = 1) → (∀ t' s', t' ≤ t → s' < 81 → (M 61 (81 * t' + s') = 1 ↔ qf_rch (qf_RR D ro) (qf_stR D) t' s')) → (∀ s', s' < 81 → (M 61 (81 * (t + 1) + s') = 1 ↔ ∃ c u, c < n ∧ qf_rch (qf_RR D ro) (qf_stR D) t c ∧ qf_RR D ro t c u ∧ qf_stR D t u = s')) → (∀ k, 81 * (t + 2) ≤ k → k < 324 → M 61 k = 0) → pj_G L (d + 5) 112 42 [pj_vR 38, pj_vI (t : Int), pj_vI (n : Int)] [] M Q := by
  intro r
  have hb := hD.b
  have rlt : ∀ c, qf_rch (qf_RR D ro) (qf_stR D) t c → c < 81 := by
    intro c hc
    cases t with
    | zero =>
      have : c = 0 := hc
      omega
    | succ t' =>
      obtain ⟨c', u, h1, h2, h3⟩ := hc
      rw [← h3]
      exact qf_RR_st hD (by omega) h2
  induction r with
  | zero =>
    intro n M e hm a1 a2 a3 a4
    refine pj_C112_42 (by omega) (fun _ => pj_C112_75 (h M hm a1 (fun t' s' ht' hs' => ?_) a4)) (fun c => by omega)
    by_cases z : t' = t + 1
    · rw [z, a3 s' hs']
      constructor
      · rintro ⟨c, u, _, b1, b2, b3⟩
        exact ⟨c, u, b1, b2, b3⟩
      · rintro ⟨c, u, b1, b2, b3⟩
        exact ⟨c, u, by have := rlt c b1; omega, b1, b2, b3⟩
    · exact a2 t' s' (by omega) hs'
  | succ r ih =>
    intro n M e hm a1 a2 a3 a4
    have e38 : M 38 = M0 38 := hm 38 (by decide)
    have hY' : qf_Y D M := hY.keep (qf_kY.of hm (by decide))
    have hR' : qf_roY D M ro := hR.keep (by rw [e38]) (by rw [e38]) (hm 58 (by decide))
    have hc := a1 (81 * t + n) (by omega)
    have hrn := a2 t n (by omega) (by omega)
    refine pj_C112_42 (by omega) (fun c => by omega) (fun _ => pj_C112_48 (81 * t + n) (by omega) (by omega) (by omega) (fun z => pj_C112_69 ?_) (fun z => ?_))
    · refine ih (n + 1) M (by omega) hm a1 a2 (fun s' hs' => ?_) a4
      rw [a3 s' hs']
      constructor
      · rintro ⟨c, u, b0, b1, b2, b3⟩
        exact ⟨c, u, by omega, b1, b2, b3⟩
      · rintro ⟨c, u, b0, b1, b2, b3⟩
        have : c ≠ n := fun y => by
          rw [y] at b1
          have := hrn.mpr b1
          omega
        exact ⟨c, u, by omega, b1, b2, b3⟩
    · have hr1 := hrn.mp (by omega)
      refine pj_C112_62 (qf_tries0 hD hE (by omega) (by omega) hY' hR' a1 (fun M1 hm1 b1 => pj_C112_69 ?_))
      refine ih (n + 1) M1 (by omega) (hm.trans hm1 (by decide)) (fun k hk => (b1 k hk).1) (fun t' s' ht' hs' => ?_) (fun s' hs' => ?_) (fun k hk1 hk2 => ?_)
      · rw [(b1 _ (by omega)).2, ← a2 t' s' ht' hs']
        constructor
        · rintro (y | ⟨u, y1, y2⟩)
          · exact y
          · omega
        · exact fun y => Or.inl y
      · rw [(b1 _ (by omega)).2, a3 s' hs']
        constructor
        · rintro (⟨c, u, b0, b2, b3, b4⟩ | ⟨u, y1, y2⟩)
          · exact ⟨c, u, by omega, b2, b3, b4⟩
          · exact ⟨n, u, by omega, hr1, y1, by omega⟩
        · rintro ⟨c, u, b0, b2, b3, b4⟩
          by_cases y : c = n
          · rw [y] at b3
            exact Or.inr ⟨u, b3, by omega⟩
          · exact Or.inl ⟨c, u, by omega, b2, b3, b4⟩
      · have h1 := b1 k hk2
        rcases h1.1 with y | y
        · exact y
        · rcases h1.2.mp y with y2 | ⟨u, y1, y2⟩
          · have := a4 k hk1 hk2
            omega
          · have := qf_RR_st (q := t) hD ht y1
            omega
theorem qf_canBeY_out (hD : qf_okD D) (hE : qf_okE D) {M0 : pj_M} (hY : qf_Y D M0) (hR : qf_roY D M0 ro)
    (h : ∀ M', qf_fr [57, 59, 60, 61] M0 M' → qf_rchY D ro M' → pj_G L (d + 5) 112 81 [pj_vR 38, pj_vU, pj_vU] [] M' Q) : ∀ (r t : Nat) (M : pj_M), t + r = qf_dT D → qf_fr [57, 59, 60, 61] M0 M → (∀ k, k < 324 → M 61 k = 0 ∨ M 61 k = 1) → (∀ t' s', t' ≤ t → s' < 81 → (M 61 (81 * t' + s') = 1 ↔ qf_rch (qf_RR D ro) (qf_stR D) t' s')) → (∀ k, 81 * (t + 1) ≤ k → k < 324 → M 61 k = 0) → pj_G L (d + 5) 112 32 [pj_vR 38, pj_vI (t : Int), pj_vU] [] M Q := by
  intro r
  have hb := hD.b
  induction r with
  | zero =>
    intro t M e hm a1 a2 a4
    have hT := (hY.keep (qf_kY.of hm (by decide)) : qf_Y D M).T
    exact pj_C112_32 (by omega) (by omega) (fun _ => h M hm ⟨a1, fun t' s' h1 h2 => a2 t' s' (by omega) h2⟩) (fun c => by omega)
  | succ r ih =>
    intro t M e hm a1 a2 a4
    have e38 : M 38 = M0 38 := hm 38 (by decide)
    have hY' : qf_Y D M := hY.keep (qf_kY.of hm (by decide))
    have hR' : qf_roY D M ro := hR.keep (by rw [e38]) (by rw [e38]) (hm 58 (by decide))
    have hT := hY'.T
    refine pj_C112_32 (by omega) (by omega) (fun c => by omega) (fun _ => pj_C112_40 ?_)
    refine qf_canBeY_in hD hE hY' hR' (t := t) (by omega) (fun M' hm' c1 c2 c3 => ih (t + 1) M' (by omega) (hm.trans hm' (by decide)) c1 c2 c3) 81 0 M (by omega) qf_fr.refl a1 a2 (fun s' hs' => ?_) (fun k h1 h2 => a4 k (by omega) h2)
    constructor
    · intro z
      have := a4 (81 * (t + 1) + s') (by omega) (by omega)
      omega
    · rintro ⟨c, u, b0, -⟩
      omega
theorem qf_canBeY (hD : qf_okD D) (hE : qf_okE D) {M0 : pj_M} (hY : qf_Y D M0) (hR : qf_roY D M0 ro)
    (h1 : (∃ v, qf_run D ro v) → ∀ M', qf_fr [57, 59, 60, 61] M0 M' → qf_rchY D ro M' → Q (some (pj_vI 1)) M')
    (h0 : (¬ ∃ v, qf_run D ro v) → ∀ M', qf_fr [57, 59, 60, 61] M0 M' → qf_rchY D ro M' → Q (some (pj_vI 0)) M') : pj_G L (d + 5) 112 0 [pj_vR 38, pj_vU, pj_vU] [] M0 Q := by
  have hb := hD.b
  have hex : (∃ v, qf_run D ro v) ↔ ∃ c, qf_rch (qf_RR D ro) (qf_stR D) (qf_dT D) c := by
    rw [qf_aut_ex]
    constructor
    · rintro ⟨v, h⟩
      exact ⟨v, (qf_run_R hD v).mpr h⟩
    · rintro ⟨v, h⟩
      exact ⟨v, (qf_run_R hD v).mp h⟩
  -- the end: is some state reached
  have fin : ∀ (M' : pj_M), qf_fr [57, 59, 60, 61] M0 M' → qf_rchY D ro M' → ∀ (r n : Nat) (x : Int), n + r = 81 → (x = 0 ∨ x = 1) → (x = 1 ↔ ∃ c, c < n ∧ qf_rch (qf_RR D ro) (qf_stR D) (qf_dT D) c) → pj_G L (d + 5) 112 85 [pj_vR 38, pj_vI x, pj_vI (n : Int)] [] M' Q := by
    intro M' hm hr r
    have hT := (hY.keep (qf_kY.of hm (by decide)) : qf_Y D M').T
    induction r with
    | zero =>
      intro n x e hx hxc
      refine pj_C112_85 (by omega) (fun _ => pj_C112_124 hx ?_) (fun c => by omega)
      rcases hx with rfl | rfl
      · refine h0 (fun z => ?_) M' hm hr
        obtain ⟨c, hc⟩ := hex.mp z
        have hlt : c < 81 := by
          obtain ⟨T', hT'⟩ : ∃ T', qf_dT D = T' + 1 := ⟨qf_dT D - 1, by omega⟩
          rw [hT'] at hc
          obtain ⟨c', u, h1, h2, h3⟩ := hc
          rw [← h3]
          exact qf_RR_st hD (by omega) h2
        have := hxc.mpr ⟨c, by omega, hc⟩
        omega
      · obtain ⟨c, _, hc⟩ := hxc.mp rfl
        exact h1 (hex.mpr ⟨c, hc⟩) M' hm hr
    | succ r ih =>
      intro n x e hx hxc
      have hrn := hr.2 (qf_dT D) n (Nat.le_refl _) (by omega)
      have hcell := hr.1 (81 * qf_dT D + n) (by omega)
      have yes : (∃ c, c < n + 1 ∧ qf_rch (qf_RR D ro) (qf_stR D) (qf_dT D) c) → pj_G L (d + 5) 112 112 [pj_vR 38, pj_vU, pj_vI (n : Int)] [] M' Q := fun z => pj_C112_112 (pj_C112_117 (ih (n + 1) 1 (by omega) (Or.inr rfl) ⟨fun _ => z, fun _ => rfl⟩))
      refine pj_C112_85 (by omega) (fun c => by omega) (fun _ => pj_C112_91 (by omega) (fun z => yes ?_) (fun z => ?_))
      · obtain ⟨c, b1, b2⟩ := hxc.mp (by omega)
        exact ⟨c, by omega, b2⟩
      · refine pj_C112_95 (81 * qf_dT D + n) (by omega) (by omega) (by omega) (fun y => pj_C112_116 (pj_C112_117 (ih (n + 1) 0 (by omega) (Or.inl rfl) ⟨fun w => absurd w (by decide), ?_⟩))) (fun y => yes ⟨n, by omega, hrn.mp (by omega)⟩)
        rintro ⟨c, b1, b2⟩
        by_cases e2 : c = n
        · rw [e2] at b2
          have := hrn.mpr b2
          omega
        · have := hxc.mpr ⟨c, by omega, b2⟩
          omega
  -- the beginning: one state of tick 0
  have init : ∀ (r n : Nat) (M : pj_M), n + r = 324 → qf_fr [57, 59, 60, 61] M0 M → (∀ k, k < n → M 61 k = if k = 0 then 1 else 0) → pj_G L (d + 5) 112 2 [pj_vR 38, pj_vI (n : Int), pj_vU] [] M Q := by
    intro r
    induction r with
    | zero =>
      intro n M e hm a
      refine pj_C112_2 (by omega) (fun _ => pj_C112_30 ?_) (fun c => by omega)
      refine qf_canBeY_out hD hE hY hR (fun M' hm' hr' => pj_C112_81 (fin M' hm' hr' 81 0 0 (by omega) (Or.inl rfl) ⟨fun z => absurd z (by decide), fun ⟨c, hc, _⟩ => absurd hc (by omega)⟩)) (qf_dT D) 0 M (by omega) hm (fun k hk => ?_) (fun t' s' ht' hs' => ?_) (fun k hk1 hk2 => ?_)
      · rw [a k (by omega)]
        split <;> omega
      · obtain rfl : t' = 0 := by omega
        rw [a _ (by omega)]
        show _ ↔ s' = 0
        split <;> omega
      · rw [a k (by omega), if_neg (by omega)]
    | succ r ih =>
      intro n M e hm a
      have next : ∀ y : Int, y = (if n = 0 then 1 else 0) → pj_G L (d + 5) 112 23 [pj_vR 38, pj_vI (n : Int), pj_vU] [pj_vI y, pj_vI (n : Int), pj_vR 61] M Q := by
        intro y hy
        refine pj_C112_23 n (by rw [hy]; split <;> omega) rfl (by omega) (ih (n + 1) _ (by omega) (hm.up (by decide)) (fun k hk => ?_))
        by_cases z : k = n
        · rw [z, pj_up_same, hy]
        · rw [pj_up_slot z]
          exact a k (by omega)
      refine pj_C112_2 (by omega) (fun c => by omega) (fun _ => pj_C112_9 (by omega) (fun z => pj_C112_22 (next 0 (by rw [if_neg (by omega)]))) (fun z => pj_C112_18 (next 1 (by rw [if_pos (by omega)]))))
  exact pj_C112_0 (init 324 0 M0 (by omega) qf_fr.refl (fun k hk => absurd hk (by omega)))
end QFE
