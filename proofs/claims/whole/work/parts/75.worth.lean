/-! worthOf, tells, isMeter, on both sides. -/
section QFWO
variable {L d : Nat} {Q : Option pj_V → pj_M → Prop} {D : qf_D} {M : pj_M}
/-- how many stories have v among their values -/
noncomputable def qf_cnt (D : qf_D) (k v : Nat) : Nat → Nat
  | 0 => 0
  | n + 1 => qf_cnt D k v n + if (qf_vm D ((qf_sl D).getD n 0) k).testBit v then 1 else 0
noncomputable def qf_wsum (D : qf_D) (k : Nat) : Nat → Nat
  | 0 => 0
  | v + 1 => qf_wsum D k v + qf_cnt D k v (qf_sl D).length * qf_cnt D k v (qf_sl D).length
theorem qf_cnt_0 {k v : Nat} (h : ∀ s, (qf_vm D s k).testBit v = false) : ∀ n, qf_cnt D k v n = 0
  | 0 => rfl
  | n + 1 => by
    rw [qf_cnt, qf_cnt_0 h n, h, if_neg (by decide)]
theorem qf_cnt_le {k v : Nat} : ∀ n, qf_cnt D k v n ≤ n
  | 0 => Nat.le_refl _
  | n + 1 => by
    have := qf_cnt_le (k := k) (v := v) n
    rw [qf_cnt]
    split <;> omega
theorem qf_wsum_rg (hD : qf_okD D) {t w : Nat} (ht : t < 3) (hw : w < qf_dW D) : qf_wsum D (14 * t + w) 3 = qf_wsum D (14 * t + w) (qf_rg D w) := by
  have hb := hD.b
  have hr := hD.rg w hw
  by_cases h3 : qf_rg D w = 3
  · rw [h3]
  · have h2 : qf_rg D w = 2 := by omega
    rw [h2]
    show qf_wsum D _ 2 + _ = qf_wsum D _ 2
    rw [qf_cnt_0 (fun s => ?_), Nat.mul_zero, Nat.add_zero]
    cases hq : (qf_vm D s (14 * t + w)).testBit 2 with
    | false => rfl
    | true =>
      obtain ⟨-, h4, h5, ro, -, v, h6, h7⟩ := qf_vm_bit.mp hq
      have e1 : (14 * t + w) % 14 = w := by omega
      have e2 : (14 * t + w) / 14 = t := by omega
      rw [e1, e2] at h7
      rw [e2] at h5
      have := qf_run_lt hD h6 t h5 w hw
      omega
theorem qf_sq (n : Nat) : (n : Int) * (n : Int) = ((n * n : Nat) : Int) := by rw [Int.natCast_mul]
theorem qf_worthX (h3 : M 22 3 = ((qf_sl D).length : Int)) (hk : qf_kn D M 0 (qf_sl D).length) {k : Nat} (hk42 : k < 42) (h : Q (some (pj_vI (qf_wsum D k 3 : Int))) M) : pj_G L d 10 0 [pj_vR 22, pj_vI (k : Int), pj_vU, pj_vU, pj_vU, pj_vU] [] M Q := by
  have hl := qf_sl_len D
  have outer : ∀ (r v : Nat), v + r = 3 → pj_G L d 10 4 [pj_vR 22, pj_vI (k : Int), pj_vI (qf_wsum D k v : Int), pj_vI (v : Int), pj_vU, pj_vU] [] M Q := by
    intro r
    induction r with
    | zero =>
      intro v e
      obtain rfl : v = 3 := by omega
      exact pj_C10_4 (by omega) (fun _ => pj_C10_65 h) (fun c => by omega)
    | succ r ih =>
      intro v e
      refine pj_C10_4 (by omega) (fun c => by omega) (fun _ => pj_C10_9 ?_)
      have inner : ∀ (q n : Nat), n + q = (qf_sl D).length → pj_G L d 10 15 [pj_vR 22, pj_vI (k : Int), pj_vI (qf_wsum D k v : Int), pj_vI (v : Int), pj_vI (qf_cnt D k v n : Int), pj_vI (n : Int)] [] M Q := by
        intro q
        induction q with
        | zero =>
          intro n en
          obtain rfl : n = (qf_sl D).length := by omega
          refine pj_C10_15 (by omega) (by omega) (fun _ => pj_C10_51 ?_) (fun c => by omega)
          rw [qf_sq, show (qf_wsum D k v : Int) + ((qf_cnt D k v (qf_sl D).length * qf_cnt D k v (qf_sl D).length : Nat) : Int) = (qf_wsum D k (v + 1) : Int) by rw [qf_wsum]; omega]
          exact ih (v + 1) (by omega)
        | succ q ih2 =>
          intro n en
          have hv := hk n (by omega) (by omega) k hk42
          have hlt := qf_vm_lt (D := D) (set := (qf_sl D).getD n 0) (k := k)
          refine pj_C10_15 (by omega) (by omega) (fun c => by omega) (fun _ => pj_C10_24 (42 * n + k) (by omega) (by omega) ?_)
          rw [hv, pj_bit1 _ rfl (by omega), pj_bt_nat v (by omega), show (qf_cnt D k v n : Int) + (if (qf_vm D ((qf_sl D).getD n 0) k).testBit v then 1 else 0) = (qf_cnt D k v (n + 1) : Int) by rw [qf_cnt]; split <;> omega]
          exact ih2 (n + 1) (by omega)
      exact inner (qf_sl D).length 0 (by omega)
  exact pj_C10_0 (outer 3 0 (by omega))
theorem qf_worthY (hD : qf_okD D) (hY : qf_Y D M) (hF : qf_FY D M) {t w : Nat} (ht : t < 3) (hw : w < qf_dW D) (h : Q (some (pj_vI (qf_wsum D (14 * t + w) 3 : Int))) M) : pj_G L d 139 0 [pj_vR 38, pj_vI (t : Int), pj_vI (w : Int), pj_vU, pj_vU, pj_vU, pj_vU] [] M Q := by
  have hl := qf_sl_len D
  have hb := hD.b
  have hr := hD.rg w hw
  have erg := hY.rg w hw
  have h34 := hF.1
  rw [qf_wsum_rg hD ht hw] at h
  have outer : ∀ (r v : Nat), v + r = qf_rg D w → pj_G L d 139 5 [pj_vR 38, pj_vI (t : Int), pj_vI (w : Int), pj_vI (qf_wsum D (14 * t + w) v : Int), pj_vI (v : Int), pj_vU, pj_vU] [] M Q := by
    intro r
    induction r with
    | zero =>
      intro v e
      obtain rfl : v = qf_rg D w := by omega
      exact pj_C139_5 w rfl (by omega) (by omega) (by omega) (fun _ => pj_C139_78 h) (fun c => by omega)
    | succ r ih =>
      intro v e
      refine pj_C139_5 w rfl (by omega) (by omega) (by omega) (fun c => by omega) (fun _ => pj_C139_16 ?_)
      have inner : ∀ (q n : Nat), n + q = (qf_sl D).length → pj_G L d 139 22 [pj_vR 38, pj_vI (t : Int), pj_vI (w : Int), pj_vI (qf_wsum D (14 * t + w) v : Int), pj_vI (v : Int), pj_vI (qf_cnt D (14 * t + w) v n : Int), pj_vI (n : Int)] [] M Q := by
        intro q
        induction q with
        | zero =>
          intro n en
          obtain rfl : n = (qf_sl D).length := by omega
          refine pj_C139_22 (by omega) (by omega) (fun _ => pj_C139_64 ?_) (fun c => by omega)
          rw [qf_sq, show (qf_wsum D (14 * t + w) v : Int) + ((qf_cnt D (14 * t + w) v (qf_sl D).length * qf_cnt D (14 * t + w) v (qf_sl D).length : Nat) : Int) = (qf_wsum D (14 * t + w) (v + 1) : Int) by rw [qf_wsum]; omega]
          exact ih (v + 1) (by omega)
        | succ q ih2 =>
          intro n en
          have hv := hF.2.2 n (by omega) (14 * t + w) (by omega)
          have hlt := qf_vm_lt (D := D) (set := (qf_sl D).getD n 0) (k := 14 * t + w)
          refine pj_C139_22 (by omega) (by omega) (fun c => by omega) (fun _ => pj_C139_31 (42 * n + (14 * t + w)) (by omega) (by omega) ?_)
          rw [hv, pj_bit1 _ rfl (by omega), pj_bt_nat v (by omega), show (qf_cnt D (14 * t + w) v n : Int) + (if (qf_vm D ((qf_sl D).getD n 0) (14 * t + w)).testBit v then 1 else 0) = (qf_cnt D (14 * t + w) v (n + 1) : Int) by rw [qf_cnt]; split <;> omega]
          exact ih2 (n + 1) (by omega)
      exact inner (qf_sl D).length 0 (by omega)
  exact pj_C139_0 (outer (qf_rg D w) 0 (by omega))
theorem qf_dv7 (hD : qf_okD D) {w : Nat} (hw : w < qf_dW D) : qf_dv D w ≤ 7 := by
  have hb := hD.b
  by_cases h0 : qf_dv D w = 0
  · omega
  · have := hD.dv w hw h0
    omega
theorem qf_isMeteredX (hD : qf_okD D) (hX : qf_X D M) {w : Nat} (hw : w < qf_dW D) (h1 : qf_met D w = true → Q (some (pj_vI 1)) M) (h0 : qf_met D w = false → Q (some (pj_vI 0)) M) : pj_G L d 82 0 [pj_vR 1, pj_vI (w : Int), pj_vU] [] M Q := by
  have hb := hD.b
  have h7 := qf_dv7 hD hw
  have e := hX.dv w hw
  refine pj_C82_0 w rfl (by omega) (by omega) (fun z => pj_C82_32 (pj_C82_33 (Or.inl rfl) (h0 ?_))) (fun z => ?_)
  · exact decide_eq_false (fun y => y.1 (by omega))
  · have h3 := hD.dv w hw (by omega)
    have ek := hX.kd _ h3.1
    have hk4 := (hD.pt _ h3.1).2.2.1
    refine pj_C82_15 (qf_dv D w - 1) (by omega) (by omega) (by omega) (fun y => pj_C82_32 (pj_C82_33 (Or.inl rfl) (h0 (decide_eq_false (fun v => y (by have := v.2; omega)))))) (fun y => pj_C82_28 (pj_C82_33 (Or.inr rfl) (h1 (decide_eq_true ⟨by omega, by omega⟩))))
theorem qf_isMeterY (hD : qf_okD D) (hY : qf_Y D M) {w : Nat} (hw : w < qf_dW D) (h1 : qf_met D w = true → Q (some (pj_vI 1)) M) (h0 : qf_met D w = false → Q (some (pj_vI 0)) M) : pj_G L d 142 0 [pj_vR 38, pj_vI (w : Int)] [] M Q := by
  have hb := hD.b
  have h7 := qf_dv7 hD hw
  have e := hY.dv w hw
  refine pj_C142_0 w rfl (by omega) (by omega) (fun z => pj_C142_28 (pj_C142_29 (Or.inl rfl) (h0 ?_))) (fun z => ?_)
  · exact decide_eq_false (fun y => y.1 (by omega))
  · have h3 := hD.dv w hw (by omega)
    have ek := hY.kd _ h3.1
    have hk4 := (hD.pt _ h3.1).2.2.1
    refine pj_C142_9 w (qf_dv D w - 1) rfl (by omega) (by omega) (by omega) (by omega) (fun y => pj_C142_28 (pj_C142_29 (Or.inl rfl) (h0 (decide_eq_false (fun v => y (by have := v.2; omega)))))) (fun y => pj_C142_24 (pj_C142_29 (Or.inr rfl) (h1 (decide_eq_true ⟨by omega, by omega⟩))))
/-- not all stories have the same values -/
def qf_tel (D : qf_D) (k : Nat) : Prop := ∃ i, 1 ≤ i ∧ i < (qf_sl D).length ∧ qf_vm D ((qf_sl D).getD i 0) k ≠ qf_vm D ((qf_sl D).getD 0 0) k
theorem qf_tellsX (h3 : M 22 3 = ((qf_sl D).length : Int)) (hk : qf_kn D M 0 (qf_sl D).length) {k : Nat} (hk42 : k < 42) (h1 : qf_tel D k → Q (some (pj_vI 1)) M) (h0 : ¬ qf_tel D k → Q (some (pj_vI 0)) M) : pj_G L d 11 0 [pj_vR 22, pj_vI (k : Int), pj_vU] [] M Q := by
  have hl := qf_sl_len D
  have loop : ∀ (q n : Nat), 1 ≤ n → (n + q = (qf_sl D).length ∨ (q = 0 ∧ (qf_sl D).length ≤ n ∧ n ≤ 40)) → (∀ i, 1 ≤ i → i < n → i < (qf_sl D).length → qf_vm D ((qf_sl D).getD i 0) k = qf_vm D ((qf_sl D).getD 0 0) k) → pj_G L d 11 2 [pj_vR 22, pj_vI (k : Int), pj_vI (n : Int)] [] M Q := by
    intro q
    induction q with
    | zero =>
      intro n h1n e a
      refine pj_C11_2 (by omega) (by omega) (fun _ => pj_C11_38 (h0 ?_)) (fun c => by omega)
      rintro ⟨i, i1, i2, i3⟩
      exact i3 (a i i1 (by omega) i2)
    | succ q ih =>
      intro n h1n e a
      have hv := hk n (by omega) (by omega) k hk42
      have hv0 := hk 0 (by omega) (by omega) k hk42
      have l1 := qf_vm_lt (D := D) (set := (qf_sl D).getD n 0) (k := k)
      have l0 := qf_vm_lt (D := D) (set := (qf_sl D).getD 0 0) (k := k)
      rw [Nat.mul_zero, Nat.zero_add] at hv0
      refine pj_C11_2 (by omega) (by omega) (fun c => by omega) (fun _ => pj_C11_10 (42 * n + k) k (by omega) (by omega) rfl (by omega) (by omega) (by omega) (fun z => pj_C11_32 (ih (n + 1) (by omega) (by omega) (fun i i1 i2 i3 => ?_))) (fun z => pj_C11_30 (h1 ⟨n, h1n, by omega, fun y => z (by rw [hv, hv0, y])⟩)))
      by_cases ei : i = n
      · rw [ei]
        omega
      · exact a i i1 (by omega) i3
  refine pj_C11_0 (loop ((qf_sl D).length - 1) 1 (by omega) (by omega) (fun i i1 i2 => absurd i2 (by omega)))
def qf_telN (D : qf_D) (k n : Nat) : Prop := ∃ i, 1 ≤ i ∧ i < n ∧ i < (qf_sl D).length ∧ qf_vm D ((qf_sl D).getD i 0) k ≠ qf_vm D ((qf_sl D).getD 0 0) k
theorem qf_tellsY (hD : qf_okD D) (hY : qf_Y D M) (hF : qf_FY D M) {t w : Nat} (ht : t < 3) (hw : w < qf_dW D) (h1 : qf_tel D (14 * t + w) → qf_met D w = false → Q (some (pj_vI 1)) M) (h0 : ¬ (qf_tel D (14 * t + w) ∧ qf_met D w = false) → Q (some (pj_vI 0)) M) : pj_G L (d + 1) 141 0 [pj_vR 38, pj_vI (t : Int), pj_vI (w : Int), pj_vU, pj_vU] [] M Q := by
  have hl := qf_sl_len D
  have hb := hD.b
  have h34 := hF.1
  have loop : ∀ (q n : Nat) (x : Int), 1 ≤ n → (n + q = (qf_sl D).length ∨ (q = 0 ∧ (qf_sl D).length ≤ n ∧ n ≤ 40)) → (x = 0 ∨ x = 1) → (x = 1 ↔ qf_telN D (14 * t + w) n) → pj_G L (d + 1) 141 5 [pj_vR 38, pj_vI (t : Int), pj_vI (w : Int), pj_vI x, pj_vI (n : Int)] [] M Q := by
    intro q
    induction q with
    | zero =>
      intro n x h1n e hx1 hx2
      refine pj_C141_5 (by omega) (by omega) (fun _ => ?_) (fun c => by omega)
      rcases hx1 with rfl | rfl
      · refine pj_C141_61 (by omega) (fun _ => pj_C141_77 (pj_C141_78 (Or.inl rfl) (h0 ?_))) (fun z => absurd rfl z)
        rintro ⟨⟨i, i1, i2, i3⟩, -⟩
        have := hx2.mpr ⟨i, i1, by omega, i2, i3⟩
        omega
      · obtain ⟨i, i1, i2, i3, i4⟩ := hx2.mp rfl
        refine pj_C141_61 (by omega) (fun z => absurd z (by decide)) (fun _ => pj_C141_65 (qf_isMeterY hD hY hw (fun hm => ?_) (fun hm => ?_)))
        · exact pj_C141_70 (by omega) (fun _ => pj_C141_77 (pj_C141_78 (Or.inl rfl) (h0 (fun z => by rw [hm] at z; exact absurd z.2 (by decide))))) (fun z => absurd z (by decide))
        · exact pj_C141_70 (by omega) (fun z => absurd rfl z) (fun _ => pj_C141_73 (pj_C141_78 (Or.inr rfl) (h1 ⟨i, i1, i3, i4⟩ hm)))
    | succ q ih =>
      intro n x h1n e hx1 hx2
      have hv := hF.2.2 n (by omega) (14 * t + w) (by omega)
      have hv0 := hF.2.2 0 (by omega) (14 * t + w) (by omega)
      have l1 := qf_vm_lt (D := D) (set := (qf_sl D).getD n 0) (k := 14 * t + w)
      have l0 := qf_vm_lt (D := D) (set := (qf_sl D).getD 0 0) (k := 14 * t + w)
      rw [Nat.mul_zero, Nat.zero_add] at hv0
      have hn1 : 1 ≤ n + 1 := by omega
      have hd1 : (n + 1 + q = (qf_sl D).length ∨ (q = 0 ∧ (qf_sl D).length ≤ n + 1 ∧ n + 1 ≤ 40)) := by omega
      have yes : qf_telN D (14 * t + w) (n + 1) → pj_G L (d + 1) 141 49 [pj_vR 38, pj_vI (t : Int), pj_vI (w : Int), pj_vU, pj_vI (n : Int)] [] M Q := fun z => pj_C141_49 (pj_C141_54 (ih (n + 1) 1 hn1 hd1 (Or.inr rfl) ⟨fun _ => z, fun _ => rfl⟩))
      refine pj_C141_5 (by omega) (by omega) (fun c => by omega) (fun _ => pj_C141_14 (by omega) (fun z => yes ?_) (fun z => ?_))
      · obtain ⟨i, i1, i2, i3⟩ := hx2.mp (by omega)
        exact ⟨i, i1, by omega, i3⟩
      · refine pj_C141_18 (42 * n + (14 * t + w)) (14 * t + w) (by omega) (by omega) (by omega) (by omega) (by omega) (by omega) (fun y => pj_C141_53 (pj_C141_54 (ih (n + 1) 0 (by omega) (by omega) (Or.inl rfl) ⟨fun v => absurd v (by decide), ?_⟩))) (fun y => yes ⟨n, h1n, by omega, by omega, fun v => y (by rw [hv, hv0, v])⟩)
        rintro ⟨i, i1, i2, i3, i4⟩
        by_cases ei : i = n
        · rw [ei] at i4
          exact absurd (by omega) i4
        · have := hx2.mpr ⟨i, i1, by omega, i3, i4⟩
          omega
  refine pj_C141_0 (loop ((qf_sl D).length - 1) 1 0 (by omega) (by omega) (Or.inl rfl) ⟨fun z => absurd z (by decide), fun ⟨i, i1, i2, _⟩ => absurd i2 (by omega)⟩)
end QFWO
