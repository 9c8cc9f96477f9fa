/-! THE REFERENCE: tries in each of its ways. -/
section QFD
variable {L d : Nat} {Q : Option pj_V → pj_M → Prop} {D : qf_D} {ro : Nat → Nat} {t s : Nat}
/-- the free numbers with codes below c whose ticks are as seen, and of whose numbers P holds -/
def qf_ex (D : qf_D) (ro : Nat → Nat) (t s c : Nat) (P : (Nat → Nat) → Prop) : Prop := ∃ f, qf_fv D ro f ∧ qf_codF D ro f < c ∧ qf_seen D t (qf_uf D ro t s f) ∧ P (qf_uf D ro t s f)
theorem qf_seen_congr (hD : qf_okD D) {u v : Nat → Nat} (h : ∀ w, w < qf_dW D → u w = v w) (hs : qf_seen D t u) : qf_seen D t v := by
  intro k hk h1
  rw [← h _ (hD.lk k hk).2.1]
  exact hs k hk h1
theorem qf_ex_0 {P : (Nat → Nat) → Prop} : ¬ qf_ex D ro t s 0 P := by
  rintro ⟨f, -, h, -⟩
  omega
theorem qf_ex_step (hD : qf_okD D) {P : (Nat → Nat) → Prop} (hP : ∀ u v : Nat → Nat, (∀ w, w < qf_dW D → u w = v w) → P u → P v) {f : Nat → Nat} {c : Nat} (hf : qf_fv D ro f) (hc : qf_codF D ro f = c) : qf_ex D ro t s (c + 1) P ↔ qf_ex D ro t s c P ∨ (qf_seen D t (qf_uf D ro t s f) ∧ P (qf_uf D ro t s f)) := by
  constructor
  · rintro ⟨g, h1, h2, h3, h4⟩
    by_cases e : qf_codF D ro g = c
    · have hcg := qf_uf_congr (t := t) (s := s) hD (qf_codF_inj h1 hf (by omega))
      exact Or.inr ⟨qf_seen_congr hD hcg h3, hP _ _ hcg h4⟩
    · exact Or.inl ⟨g, h1, by omega, h3, h4⟩
  · rintro (⟨g, h1, h2, h3, h4⟩ | ⟨h3, h4⟩)
    · exact ⟨g, h1, by omega, h3, h4⟩
    · exact ⟨f, hf, by omega, h3, h4⟩
theorem qf_uf_lt (hD : qf_okD D) (ht : t < 3) {f : Nat → Nat} (hf : qf_fv D ro f) : ∀ w, w < qf_dW D → qf_uf D ro t s f w < 3 := by
  intro w hw
  have h1 := qf_sol_rng (n := qf_dW D) hD ht hf (qf_bR_lt hD t s) (Nat.le_refl _) w hw
  have h2 := hD.rg w hw
  unfold qf_uf
  omega
theorem qf_P_st (hD : qf_okD D) {k q : Nat} : ∀ u v : Nat → Nat, (∀ w, w < qf_dW D → u w = v w) → k = q + qf_stR D t u → k = q + qf_stR D t v := by
  intro u v h e
  rw [← qf_stR_congr (q := t) hD h]
  exact e
/-- tries, marking states reached -/
theorem qf_tries0 (hD : qf_okD D) (hE : qf_okE D) (ht : t < 3) (hs : s < 81) {M0 : pj_M} (hY : qf_Y D M0) (hR : qf_roY D M0 ro) (hb : ∀ k, k < 324 → M0 61 k = 0 ∨ M0 61 k = 1)
    (h : ∀ M', qf_fr [57, 59, 60, 61] M0 M' → (∀ k, k < 324 → (M' 61 k = 0 ∨ M' 61 k = 1) ∧ (M' 61 k = 1 ↔ M0 61 k = 1 ∨ ∃ u, qf_RR D ro t s u ∧ k = 81 * (t + 1) + qf_stR D t u)) → Q none M') : pj_G L (d + 4) 111 0 [pj_vR 38, pj_vI (t : Int), pj_vI (s : Int), pj_vI 0, pj_vU, pj_vU, pj_vU] [] M0 Q := by
  refine qf_triesY (J := fun c M => M 62 = M0 62 ∧ M 63 = M0 63 ∧ ∀ k, k < 324 → (M 61 k = 0 ∨ M 61 k = 1) ∧ (M 61 k = 1 ↔ M0 61 k = 1 ∨ qf_ex D ro t s c (fun u => k = 81 * (t + 1) + qf_stR D t u))) hD hE ht hs hY hR ?_ ?_ ?_ ?_ ?_
  · rintro c M M' ⟨a1, a2, a3⟩ hm
    rw [hm 62 (by decide), hm 63 (by decide), hm 61 (by decide)]
    exact ⟨a1, a2, a3⟩
  · rintro c M f ⟨a1, a2, a3⟩ hf hc hn
    refine ⟨a1, a2, fun k hk => ⟨(a3 k hk).1, ?_⟩⟩
    rw [qf_ex_step hD (qf_P_st hD) hf hc, (a3 k hk).2]
    constructor
    · rintro (z | z)
      · exact Or.inl z
      · exact Or.inr (Or.inl z)
    · rintro (z | z | z)
      · exact Or.inl z
      · exact Or.inr z
      · exact absurd z.1 hn
  · rintro c M f ⟨a1, a2, a3⟩ hY1 hf hc hseen hv go
    have hst := qf_stR_lt (q := t) hD (qf_uf_lt (s := s) hD ht hf)
    refine pj_C111_48 (qf_stateNowY (q := t) hD hY1 hv (pj_C111_58 (by omega) (fun z => absurd rfl z) (fun _ => ?_)))
    refine pj_C111_65 (81 * (t + 1) + qf_stR D t (qf_uf D ro t s f)) (by omega) (by omega) ?_
    refine pj_C111_73 (by omega) (fun _ => pj_C111_100 ?_) (fun z => absurd z (by decide))
    have hW := hY1.W
    have hb14 := hD.b
    have fin : pj_G L (d + 4) 111 157 [pj_vR 38, pj_vI (t : Int), pj_vI (s : Int), pj_vI 0, pj_vU, pj_vU, pj_vU] [] (pj_up M 61 (81 * (t + 1) + qf_stR D t (qf_uf D ro t s f)) 1) Q := by
      refine go _ ⟨?_, ?_, fun k hk => ?_⟩ (qf_fr.refl.up (by decide))
      · rw [← a1]; funext k; exact pj_up_else (by decide)
      · rw [← a2]; funext k; exact pj_up_else (by decide)
      · rw [qf_ex_step hD (qf_P_st hD) hf hc]
        by_cases e : k = 81 * (t + 1) + qf_stR D t (qf_uf D ro t s f)
        · rw [e, pj_up_same]
          exact ⟨Or.inr rfl, fun _ => Or.inr (Or.inr ⟨hseen, rfl⟩), fun _ => rfl⟩
        · rw [pj_up_slot e]
          refine ⟨(a3 k hk).1, ?_⟩
          rw [(a3 k hk).2]
          constructor
          · rintro (z | z)
            · exact Or.inl z
            · exact Or.inr (Or.inl z)
          · rintro (z | z | z)
            · exact Or.inl z
            · exact Or.inr z
            · exact absurd z.2 e
    refine pj_C111_103 (by omega) (by rw [pj_up_else (by decide)]; omega) (fun _ => fin) (fun _ => pj_C111_112 (by omega) (fun _ => fin) (fun z => absurd z (by decide)))
  · refine ⟨rfl, rfl, fun k hk => ⟨hb k hk, fun z => Or.inl z, ?_⟩⟩
    rintro (z | z)
    · exact z
    · exact absurd z qf_ex_0
  · rintro M' ⟨a1, a2, a3⟩ hm
    refine h M' (fun a ha => ?_) (fun k hk => ⟨(a3 k hk).1, ?_⟩)
    · by_cases e2 : a = 62
      · rw [e2]; exact a1
      · by_cases e3 : a = 63
        · rw [e3]; exact a2
        · exact hm a (by simp only [List.mem_cons, List.not_mem_nil, or_false, not_or] at ha ⊢; omega)
    · rw [(a3 k hk).2]
      unfold qf_ex
      rw [qf_ex_RR hD (qf_P_st hD)]
/-- tries, marking a state as good -/
theorem qf_tries1 (hD : qf_okD D) (hE : qf_okE D) (ht : t < 3) (hs : s < 81) {M0 : pj_M} (hY : qf_Y D M0) (hR : qf_roY D M0 ro) (hb : ∀ k, k < 324 → M0 62 k = 0 ∨ M0 62 k = 1)
    (h : ∀ M', qf_fr [57, 59, 60, 62] M0 M' → (∀ k, k ≠ 81 * t + s → M' 62 k = M0 62 k) → (M' 62 (81 * t + s) = 0 ∨ M' 62 (81 * t + s) = 1) → (M' 62 (81 * t + s) = 1 ↔ M0 62 (81 * t + s) = 1 ∨ ∃ u, qf_RR D ro t s u ∧ M0 62 (81 * (t + 1) + qf_stR D t u) = 1) → Q none M') : pj_G L (d + 4) 111 0 [pj_vR 38, pj_vI (t : Int), pj_vI (s : Int), pj_vI 1, pj_vU, pj_vU, pj_vU] [] M0 Q := by
  have hPc : ∀ u v : Nat → Nat, (∀ w, w < qf_dW D → u w = v w) → M0 62 (81 * (t + 1) + qf_stR D t u) = 1 → M0 62 (81 * (t + 1) + qf_stR D t v) = 1 := by
    intro u v hh e
    rw [← qf_stR_congr (q := t) hD hh]
    exact e
  refine qf_triesY (J := fun c M => M 61 = M0 61 ∧ M 63 = M0 63 ∧ (∀ k, k ≠ 81 * t + s → M 62 k = M0 62 k) ∧ (M 62 (81 * t + s) = 0 ∨ M 62 (81 * t + s) = 1) ∧ (M 62 (81 * t + s) = 1 ↔ M0 62 (81 * t + s) = 1 ∨ qf_ex D ro t s c (fun u => M0 62 (81 * (t + 1) + qf_stR D t u) = 1))) hD hE ht hs hY hR ?_ ?_ ?_ ?_ ?_
  · rintro c M M' ⟨a1, a2, a3, a4, a5⟩ hm
    rw [hm 61 (by decide), hm 63 (by decide), hm 62 (by decide)]
    exact ⟨a1, a2, a3, a4, a5⟩
  · rintro c M f ⟨a1, a2, a3, a4, a5⟩ hf hc hn
    refine ⟨a1, a2, a3, a4, ?_⟩
    rw [qf_ex_step hD hPc hf hc, a5]
    constructor
    · rintro (z | z)
      · exact Or.inl z
      · exact Or.inr (Or.inl z)
    · rintro (z | z | z)
      · exact Or.inl z
      · exact Or.inr z
      · exact absurd z.1 hn
  · rintro c M f ⟨a1, a2, a3, a4, a5⟩ hY1 hf hc hseen hv go
    have hst := qf_stR_lt (q := t) hD (qf_uf_lt (s := s) hD ht hf)
    have hW := hY1.W
    have hb14 := hD.b
    have ecell : M 62 (81 * (t + 1) + qf_stR D t (qf_uf D ro t s f)) = M0 62 (81 * (t + 1) + qf_stR D t (qf_uf D ro t s f)) := a3 _ (by omega)
    have hbc := hb (81 * (t + 1) + qf_stR D t (qf_uf D ro t s f)) (by omega)
    have fin : ∀ M', M' 61 = M0 61 ∧ M' 63 = M0 63 ∧ (∀ k, k ≠ 81 * t + s → M' 62 k = M0 62 k) ∧ (M' 62 (81 * t + s) = 0 ∨ M' 62 (81 * t + s) = 1) ∧ (M' 62 (81 * t + s) = 1 ↔ M0 62 (81 * t + s) = 1 ∨ qf_ex D ro t s (c + 1) (fun u => M0 62 (81 * (t + 1) + qf_stR D t u) = 1)) → qf_fr [61, 62, 63] M M' → M' 38 = M 38 → pj_G L (d + 4) 111 100 [pj_vR 38, pj_vI (t : Int), pj_vI (s : Int), pj_vI 1, pj_vU, pj_vI (81 * ((t : Int) + 1) + (qf_stR D t (qf_uf D ro t s f) : Int)), pj_vU] [] M' Q := by
      intro M' hJ hm e38
      have g := go M' hJ hm
      refine pj_C111_100 (pj_C111_103 (by omega) (by rw [e38]; omega) (fun _ => g) (fun _ => pj_C111_112 (by omega) (fun _ => g) (fun z => absurd z (by decide))))
    refine pj_C111_48 (qf_stateNowY (q := t) hD hY1 hv (pj_C111_58 (by omega) (fun _ => ?_) (fun z => absurd z (by decide))))
    refine pj_C111_73 (by omega) (fun z => absurd rfl z) (fun _ => ?_)
    refine pj_C111_78 (81 * (t + 1) + qf_stR D t (qf_uf D ro t s f)) (by omega) (by omega) (by omega) (fun z => fin M ⟨a1, a2, a3, a4, ?_⟩ qf_fr.refl rfl) (fun z => ?_)
    · rw [qf_ex_step hD hPc hf hc, a5]
      constructor
      · rintro (z | z)
        · exact Or.inl z
        · exact Or.inr (Or.inl z)
      · rintro (y | y | y)
        · exact Or.inl y
        · exact Or.inr y
        · have := y.2
          omega
    · refine pj_C111_88 (81 * t + s) (by omega) (by omega) (fin _ ⟨?_, ?_, fun k hk => ?_, Or.inr pj_up_same, fun _ => Or.inr ?_, fun _ => pj_up_same⟩ (qf_fr.refl.up (by decide)) ?_)
      · rw [← a1]; funext k; exact pj_up_else (by decide)
      · rw [← a2]; funext k; exact pj_up_else (by decide)
      · rw [pj_up_slot hk]
        exact a3 k hk
      · rw [qf_ex_step hD hPc hf hc]
        exact Or.inr ⟨hseen, by omega⟩
      · funext k; exact pj_up_else (by decide)
  · refine ⟨rfl, rfl, fun k hk => rfl, hb _ (by omega), fun z => Or.inl z, ?_⟩
    rintro (z | z)
    · exact z
    · exact absurd z qf_ex_0
  · rintro M' ⟨a1, a2, a3, a4, a5⟩ hm
    refine h M' (fun a ha => ?_) a3 a4 ?_
    · by_cases e2 : a = 61
      · rw [e2]; exact a1
      · by_cases e3 : a = 63
        · rw [e3]; exact a2
        · exact hm a (by simp only [List.mem_cons, List.not_mem_nil, or_false, not_or] at ha ⊢; omega)
    · rw [a5]
      unfold qf_ex
      rw [qf_ex_RR hD hPc]
theorem qf_or_nat {a b : Nat} (ha : a < 1073741824) (hb : b < 1073741824) : pj_or (a : Int) (b : Int) = ((a ||| b : Nat) : Int) := by
  have hab : a ||| b < 2 ^ 30 := Nat.or_lt_two_pow (by omega) (by omega)
  refine pj_bt_ext (pj_or_rng _ _).1 (pj_or_rng _ _).2 (by omega) (by omega) (fun k hk => ?_)
  rw [pj_bt_or, pj_bt_nat k (by omega), pj_bt_nat k (by omega), pj_bt_nat k (by omega), Nat.testBit_or]
theorem qf_and_nat {a b : Nat} (ha : a < 1073741824) (hb : b < 1073741824) : pj_and (a : Int) (b : Int) = ((a &&& b : Nat) : Int) := by
  have hab : a &&& b < 2 ^ 30 := Nat.and_lt_two_pow a (by omega)
  refine pj_bt_ext (pj_and_rng _ _).1 (pj_and_rng _ _).2 (by omega) (by omega) (fun k hk => ?_)
  rw [pj_bt_and, pj_bt_nat k (by omega), pj_bt_nat k (by omega), pj_bt_nat k (by omega), Nat.testBit_and]
/-- a row of found numbers: small sets -/
def qf_fnd (M : pj_M) (a : Nat) (m : Nat → Nat) : Prop := ∀ l, l < 42 → M a l = (m l : Int) ∧ m l < 8
theorem qf_bit8 : ∀ z j : Fin 3, (2 ^ z.val).testBit j.val = decide (z.val = j.val) := by decide +kernel
end QFD
