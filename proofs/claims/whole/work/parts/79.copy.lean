/-! copy. -/
section QFCO
variable {L d : Nat} {Q : Option pj_V → pj_M → Prop} {M : pj_M}
theorem qf_lci {a b : Int} (ha1 : -9223372036854775808 ≤ a) (ha2 : a < 9223372036854775808) (hb1 : -9223372036854775808 ≤ b) (hb2 : b < 9223372036854775808) : 0 < pj_lcmp a b ↔ b < a := by
  rw [pj_lcmp_id ha1 ha2 hb1 hb2]
  by_cases z : b < a
  · rw [if_pos z]; omega
  · rw [if_neg z]
    by_cases y : a = b
    · rw [if_pos y]; omega
    · rw [if_neg y]; omega
theorem qf_copyX {x y z : Int} (hx : -2147483648 ≤ x ∧ x < 2147483648) (hy : -2147483648 ≤ y ∧ y < 2147483648) (hz : -2147483648 ≤ z ∧ z < 2147483648) (c1 : -1 ≤ M 1 5) (c2 : M 1 5 ≤ 14)
    (hm : M 1 5 = -1 → Q (some (pj_vI (-2))) (pj_rfX M 2))
    (hl : M 1 5 ≠ -1 → z < 0 → Q (some (pj_vI (-4))) (pj_rfX M 4))
    (hc : M 1 5 ≠ -1 → 0 ≤ z → ¬ (0 ≤ x ∧ 0 ≤ y ∧ x + z ≤ M 1 5 ∧ y + z ≤ M 1 5) → Q (some (pj_vI (-6))) (pj_rfX M 6))
    (h : M 1 5 ≠ -1 → 0 ≤ z → 0 ≤ x → 0 ≤ y → x + z ≤ M 1 5 → y + z ≤ M 1 5 → Q (some (pj_vI z)) (pj_cpy M 36 36 x.toNat y.toNat z.toNat)) : pj_G L (d + 1) 75 0 [pj_vR 1, pj_vI x, pj_vI y, pj_vI z] [] M Q := by
  have no : M 1 5 ≠ -1 → 0 ≤ z → ¬ (0 ≤ x ∧ 0 ≤ y ∧ x + z ≤ M 1 5 ∧ y + z ≤ M 1 5) → pj_G L (d + 1) 75 54 [pj_vR 1, pj_vU, pj_vU, pj_vU] [] M Q := fun a b c => pj_C75_54 (pj_refuse 6 (by decide) (pj_C75_60 (hc a b c)))
  refine pj_C75_0 (by omega) (fun e => pj_C75_15 hz (fun z0 => ?_) (fun g => pj_C75_19 (pj_refuse 4 (by decide) (pj_C75_25 (hl e g))))) (fun e => pj_C75_8 (pj_refuse 2 (by decide) (pj_C75_14 (hm e))))
  refine pj_C75_26 hx (fun g => no e z0 (by omega)) (fun x0 => pj_C75_30 hy (fun g => no e z0 (by omega)) (fun y0 => pj_C75_34 hz (by omega) (fun g => no e z0 (by omega)) (fun x1 => pj_C75_44 hz (by omega) (fun y1 => ?_) (fun g => no e z0 (by omega)))))
  exact pj_C75_61 x.toNat y.toNat z.toNat (by omega) (by omega) (by omega) (by omega) (by omega) (pj_C75_75 (h e z0 x0 y0 (by omega) (by omega)))
theorem qf_copyY {x y z : Int} (hx : -2147483648 ≤ x ∧ x < 2147483648) (hy : -2147483648 ≤ y ∧ y < 2147483648) (hz : -2147483648 ≤ z ∧ z < 2147483648) (c1 : -1 ≤ M 38 39) (c2 : M 38 39 ≤ 14)
    (hm : M 38 39 = -1 → Q (some (pj_vI (-2))) (pj_rfY M 2))
    (hl : M 38 39 ≠ -1 → z < 0 → Q (some (pj_vI (-4))) (pj_rfY M 4))
    (hc : M 38 39 ≠ -1 → 0 ≤ z → ¬ (0 ≤ x ∧ 0 ≤ y ∧ x + z ≤ M 38 39 ∧ y + z ≤ M 38 39) → Q (some (pj_vI (-6))) (pj_rfY M 6))
    (h : M 38 39 ≠ -1 → 0 ≤ z → 0 ≤ x → 0 ≤ y → x + z ≤ M 38 39 → y + z ≤ M 38 39 → ∀ M', qf_fr [66, 67] M M' → (∀ s, M' 66 s = if y.toNat ≤ s ∧ s < y.toNat + z.toNat then M 66 (x.toNat + (s - y.toNat)) else M 66 s) → Q (some (pj_vI z)) M') : pj_G L (d + 1) 148 0 [pj_vR 38, pj_vI x, pj_vI y, pj_vI z, pj_vU] [] M Q := by
  have no : M 38 39 ≠ -1 → 0 ≤ z → ¬ (0 ≤ x ∧ 0 ≤ y ∧ x + z ≤ M 38 39 ∧ y + z ≤ M 38 39) → pj_G L (d + 1) 148 61 [pj_vR 38, pj_vU, pj_vU, pj_vU, pj_vU] [] M Q := fun a b c => pj_C148_61 (pj_no 6 (by decide) (pj_C148_67 (hc a b c)))
  have t1 : 0 < pj_lcmp (x + z) (M 38 39) ↔ M 38 39 < x + z := qf_lci (by omega) (by omega) (by omega) (by omega)
  have t2 : 0 < pj_lcmp (y + z) (M 38 39) ↔ M 38 39 < y + z := qf_lci (by omega) (by omega) (by omega) (by omega)
  refine pj_C148_0 (by omega) (fun e => pj_C148_14 hz (fun z0 => ?_) (fun g => pj_C148_18 (pj_no 4 (by decide) (pj_C148_24 (hl (by omega) g))))) (fun e => pj_C148_7 (pj_no 2 (by decide) (pj_C148_13 (hm (by omega)))))
  refine pj_C148_25 hx (fun g => no (by omega) z0 (by omega)) (fun x0 => pj_C148_29 hy (fun g => no (by omega) z0 (by omega)) (fun y0 => pj_C148_33 hx hz (by omega) (fun g => no (by omega) z0 (by have := t1.mp g; omega)) (fun x1 => pj_C148_47 hy hz (by omega) (fun y1 => pj_C148_68 ?_) (fun g => no (by omega) z0 (by have := t2.mp g; omega)))))
  have x2 : x + z ≤ M 38 39 := by
    by_cases g : M 38 39 < x + z
    · have := t1.mpr g; omega
    · omega
  have y2 : y + z ≤ M 38 39 := by
    by_cases g : M 38 39 < y + z
    · have := t2.mpr g; omega
    · omega
  have ans := h (by omega) z0 x0 y0 x2 y2
  obtain ⟨i, rfl⟩ : ∃ i : Nat, x = (i : Int) := ⟨x.toNat, by omega⟩
  obtain ⟨j, rfl⟩ : ∃ i : Nat, y = (i : Int) := ⟨y.toNat, by omega⟩
  obtain ⟨n, rfl⟩ : ∃ i : Nat, z = (i : Int) := ⟨z.toNat, by omega⟩
  rw [Int.toNat_natCast, Int.toNat_natCast, Int.toNat_natCast] at ans
  have loop2 : ∀ (q k : Nat) (M1 : pj_M), k + q = n → qf_fr [66, 67] M M1 → (∀ s, s < n → M1 67 s = M 66 (i + s)) → (∀ s, M1 66 s = if j ≤ s ∧ s < j + k then M 66 (i + (s - j)) else M 66 s) → pj_G L (d + 1) 148 102 [pj_vR 38, pj_vU, pj_vI (j : Int), pj_vI (n : Int), pj_vI (k : Int)] [] M1 Q := by
    intro q
    induction q with
    | zero =>
      intro k M1 e f1 f2 f3
      obtain rfl : k = n := by omega
      exact pj_C148_102 (by omega) (by omega) (fun _ => pj_C148_130 (ans M1 f1 f3)) (fun c => by omega)
    | succ q ih =>
      intro k M1 e f1 f2 f3
      refine pj_C148_102 (by omega) (by omega) (fun c => by omega) (fun _ => pj_C148_108 k (j + k) rfl (by omega) (by omega) (by omega) (ih (k + 1) _ (by omega) (f1.up (by decide)) (fun s hs => by rw [pj_up_else (by decide)]; exact f2 s hs) (fun s => ?_)))
      by_cases g : s = j + k
      · subst g
        rw [pj_up_same, if_pos (by omega), f2 k (by omega), show j + k - j = k by omega]
      · rw [pj_up_slot g, f3 s]
        by_cases g2 : j ≤ s ∧ s < j + k
        · rw [if_pos g2, if_pos (by omega)]
        · rw [if_neg g2, if_neg (by omega)]
  have loop1 : ∀ (q k : Nat) (M1 : pj_M), k + q = n → qf_fr [67] M M1 → (∀ s, s < k → M1 67 s = M 66 (i + s)) → pj_G L (d + 1) 148 71 [pj_vR 38, pj_vI (i : Int), pj_vI (j : Int), pj_vI (n : Int), pj_vI (k : Int)] [] M1 Q := by
    intro q
    induction q with
    | zero =>
      intro k M1 e f1 f2
      obtain rfl : k = n := by omega
      refine pj_C148_71 (by omega) (by omega) (fun _ => pj_C148_99 (loop2 k 0 M1 (by omega) (f1.wide (by decide)) f2 (fun s => ?_))) (fun c => by omega)
      rw [if_neg (by omega), f1 66 (by decide)]
    | succ q ih =>
      intro k M1 e f1 f2
      refine pj_C148_71 (by omega) (by omega) (fun c => by omega) (fun _ => pj_C148_77 (i + k) k (by omega) (by omega) rfl (by omega) (ih (k + 1) _ (by omega) (f1.up (by decide)) (fun s hs => ?_)))
      by_cases g : s = k
      · subst g
        rw [pj_up_same, f1 66 (by decide)]
      · rw [pj_up_slot g]
        exact f2 s (by omega)
  exact loop1 n 0 M (by omega) qf_fr.refl (fun s hs => by omega)
end QFCO
theorem qf_case_copy : pj_Case qf_I 1050 := by
  rintro L d Q M x h0 h5 hL ⟨D, hI⟩ go
  obtain ⟨X, rfl⟩ : ∃ X : Nat, x = (X : Int) := ⟨x.toNat, by omega⟩
  have hr1 := hI.rng (X + 1) (by omega)
  have hr2 := hI.rng (X + 2) (by omega)
  have hr3 := hI.rng (X + 3) (by omega)
  obtain ⟨b1, b2, b3, b4, b5, b6⟩ := hI.R
  have eX : ∀ w, (pj_rfX M w) 38 39 = M 38 39 := fun w => rfl
  have eZ : ∀ w, (pj_rfX M w) 0 = M 0 := fun w => rfl
  refine pj_C152_1050 (X + 1) (X + 2) (X + 3) hL (by omega) (by omega) (by omega) (by omega) (by omega) (by omega) (qf_copyX (d := d + 38) hr1 hr2 hr3 b2 b3 (fun e => ?_) (fun e e2 => ?_) (fun e e2 e3 => ?_) (fun e z0 x0 y0 x1 y1 => ?_))
  · have hw := hI.rfX 2
    refine pj_C152_1069 (X + 1) (X + 2) (X + 3) hL (by omega) (by omega) (by omega) (by omega) (by omega) (by omega) ?_
    rw [eZ]
    exact qf_copyY (d := d + 38) hr1 hr2 hr3 (by rw [eX]; omega) (by rw [eX]; omega) (fun _ => pj_B152_1088 (fun _ => go _ ⟨D, hw.rfY⟩) (fun c => absurd rfl c)) (fun z => by rw [eX] at z; omega) (fun z => by rw [eX] at z; omega) (fun z => by rw [eX] at z; omega)
  · have hw := hI.rfX 4
    refine pj_C152_1069 (X + 1) (X + 2) (X + 3) hL (by omega) (by omega) (by omega) (by omega) (by omega) (by omega) ?_
    rw [eZ]
    exact qf_copyY (d := d + 38) hr1 hr2 hr3 (by rw [eX]; omega) (by rw [eX]; omega) (fun z => by rw [eX] at z; omega) (fun _ _ => pj_B152_1088 (fun _ => go _ ⟨D, hw.rfY⟩) (fun c => absurd rfl c)) (fun _ z => by omega) (fun _ z => by omega)
  · have hw := hI.rfX 6
    refine pj_C152_1069 (X + 1) (X + 2) (X + 3) hL (by omega) (by omega) (by omega) (by omega) (by omega) (by omega) ?_
    rw [eZ]
    exact qf_copyY (d := d + 38) hr1 hr2 hr3 (by rw [eX]; omega) (by rw [eX]; omega) (fun z => by rw [eX] at z; omega) (fun _ z => by omega) (fun _ _ _ => pj_B152_1088 (fun _ => go _ ⟨D, hw.rfY⟩) (fun c => absurd rfl c)) (fun _ g1 g2 g3 g4 g5 => by rw [eX] at g4 g5; omega)
  · have eC : ∀ a, a ≠ 36 → (pj_cpy M 36 36 (M 0 (X + 1)).toNat (M 0 (X + 2)).toNat (M 0 (X + 3)).toNat) a = M a := fun a ha => pj_cpy_ne ha
    refine pj_C152_1069 (X + 1) (X + 2) (X + 3) hL (by omega) (by omega) (by omega) (by omega) (by omega) (by omega) ?_
    rw [eC 0 (by decide)]
    refine qf_copyY (d := d + 38) hr1 hr2 hr3 (by rw [eC 38 (by decide)]; omega) (by rw [eC 38 (by decide)]; omega) (fun z => by rw [eC 38 (by decide)] at z; omega) (fun _ z => by omega) (fun _ _ z => by rw [eC 38 (by decide)] at z; omega) (fun _ _ _ _ _ _ M2 hm h66 => ?_)
    rw [eC 66 (by decide)] at h66
    have e' : ∀ a, a ≠ 36 → a ≠ 66 → a ≠ 67 → M2 a = M a := fun a h1 h2 h3 => (hm a (by simp only [List.mem_cons, List.not_mem_nil, or_false, not_or]; omega)).trans (eC a h1)
    have e36 : ∀ s, M2 36 s = if (M 0 (X + 2)).toNat ≤ s ∧ s < (M 0 (X + 2)).toNat + (M 0 (X + 3)).toNat then M 36 ((M 0 (X + 1)).toNat + (s - (M 0 (X + 2)).toNat)) else M 36 s := by
      intro s
      rw [hm 36 (by decide)]
      simp [pj_cpy]
    refine pj_B152_1088 (fun _ => go _ ⟨D, hI.ok, hI.E, hI.X.keep (fun a h1 h2 => e' a (by omega) (by omega) (by omega)), hI.cX.far (fun a h1 h2 => e' a (by omega) (by omega) (by omega)), hI.Y.far (fun a h1 h2 => e' a (by omega) (by omega) (by omega)) (fun k _ _ => by rw [e' 38 (by decide) (by decide) (by decide)]), hI.cY.far (by rw [e' 38 (by decide) (by decide) (by decide)]) (by rw [e' 38 (by decide) (by decide) (by decide)]) (e' 64 (by decide) (by decide) (by decide)) (e' 65 (by decide) (by decide) (by decide)), ?_⟩) (fun c => absurd rfl c)
    unfold qf_R
    rw [e' 1 (by decide) (by decide) (by decide), e' 38 (by decide) (by decide) (by decide), e' 37 (by decide) (by decide) (by decide), e' 56 (by decide) (by decide) (by decide), e' 0 (by decide) (by decide) (by decide)]
    refine ⟨b1, b2, b3, fun s hs => ?_, b5, b6⟩
    rw [e36, h66]
    by_cases g : (M 0 (X + 2)).toNat ≤ s ∧ s < (M 0 (X + 2)).toNat + (M 0 (X + 3)).toNat
    · rw [if_pos g, if_pos g]
      exact b4 _ (by omega)
    · rw [if_neg g, if_neg g]
      exact b4 s hs
