/-! weightOf, on both sides; weigh; likely. -/
section QFWE
variable {L d : Nat} {Q : Option pj_V → pj_M → Prop} {D : qf_D} {M : pj_M}
theorem qf_lc {a b : Nat} (ha : a < 2 ^ 62) (hb : b < 2 ^ 62) : pj_lcmp (a : Int) (b : Int) = if b < a then 1 else if a = b then 0 else -1 := by
  rw [pj_lcmp_id (by omega) (by omega) (by omega) (by omega)]
  by_cases h1 : b < a
  · rw [if_pos h1, if_pos (by omega)]
  · rw [if_neg h1, if_neg (by omega)]
    by_cases h2 : a = b
    · rw [if_pos h2, if_pos (by omega)]
    · rw [if_neg h2, if_neg (by omega)]
theorem qf_lc_gt {a b : Nat} (ha : a < 2 ^ 62) (hb : b < 2 ^ 62) (h : 0 < pj_lcmp (a : Int) (b : Int)) : b < a := by
  rw [qf_lc ha hb] at h
  by_cases z : b < a
  · exact z
  · rw [if_neg z] at h
    by_cases y : a = b
    · rw [if_pos y] at h; omega
    · rw [if_neg y] at h; omega
theorem qf_lc_le {a b : Nat} (ha : a < 2 ^ 62) (hb : b < 2 ^ 62) (h : pj_lcmp (a : Int) (b : Int) ≤ 0) : a ≤ b := by
  rw [qf_lc ha hb] at h
  by_cases z : b < a
  · rw [if_pos z] at h; omega
  · omega
theorem qf_lc_self {a : Nat} (ha : a < 2 ^ 62) : pj_nrm (pj_lcmp (a : Int) (a : Int)) = 0 := by
  rw [qf_lc ha ha, if_neg (by omega), if_pos rfl]
  decide
/-- what a part gives to a weight -/
def qf_fac (D : qf_D) (s n : Nat) : Nat := if qf_kd D n = 4 then 1 else if s.testBit n then qf_od D n else 10 - qf_od D n
def qf_wei (D : qf_D) (s : Nat) : Nat → Nat
  | 0 => 1
  | n + 1 => qf_wei D s n * qf_fac D s n
theorem qf_fac_le (hD : qf_okD D) {s n : Nat} (hn : n < qf_dP D) : 1 ≤ qf_fac D s n ∧ qf_fac D s n ≤ 9 := by
  have := hD.pt n hn
  unfold qf_fac
  split
  · omega
  · split <;> omega
theorem qf_wei_le (hD : qf_okD D) {s : Nat} : ∀ n, n ≤ qf_dP D → 1 ≤ qf_wei D s n ∧ qf_wei D s n ≤ 9 ^ n
  | 0, _ => ⟨Nat.le_refl _, Nat.le_refl _⟩
  | n + 1, h => by
    have h1 := qf_wei_le hD (s := s) n (by omega)
    have h2 := qf_fac_le hD (s := s) (n := n) (by omega)
    exact ⟨Nat.mul_le_mul h1.1 h2.1, Nat.mul_le_mul h1.2 h2.2⟩
theorem qf_wei_lt (hD : qf_okD D) (s : Nat) : 1 ≤ qf_wei D s (qf_dP D) ∧ qf_wei D s (qf_dP D) ≤ 4782969 := by
  have hb := hD.b
  have h1 := qf_wei_le hD (s := s) (qf_dP D) (Nat.le_refl _)
  exact ⟨h1.1, Nat.le_trans h1.2 (Nat.pow_le_pow_right (by omega) (show qf_dP D ≤ 7 by omega) : 9 ^ qf_dP D ≤ 9 ^ 7)⟩
theorem qf_weightX (hD : qf_okD D) (hX : qf_X D M) {s : Nat} (hs : s < 128) (h : Q (some (pj_vL (qf_wei D s (qf_dP D) : Int))) M) : pj_G L d 30 0 [pj_vR 7, pj_vI (s : Int), pj_vU, pj_vU, pj_vU] [] M Q := by
  have hb := hD.b
  have eP := hX.P
  have loop : ∀ (q n : Nat), n + q = qf_dP D → pj_G L d 30 5 [pj_vR 7, pj_vI (s : Int), pj_vL (qf_wei D s n : Int), pj_vU, pj_vI (n : Int)] [] M Q := by
    intro q
    induction q with
    | zero =>
      intro n e
      obtain rfl : n = qf_dP D := by omega
      exact pj_C30_5 (by omega) (by omega) (fun _ => pj_C30_65 h) (fun c => by omega)
    | succ q ih =>
      intro n e
      have hp := hD.pt n (by omega)
      have ek := hX.kd n (by omega)
      have eo := hX.od n (by omega)
      refine pj_C30_5 (by omega) (by omega) (fun c => by omega) (fun _ => pj_C30_14 n rfl (by omega) (by omega) (fun z => pj_C30_59 ?_) (fun z => pj_C30_25 n rfl (by omega) (fun y => pj_C30_46 n rfl (by omega) (by omega) (pj_C30_57 (pj_C30_59 ?_))) (fun y => pj_C30_35 n rfl (by omega) (by omega) (pj_C30_57 (pj_C30_59 ?_)))))
      · have := ih (n + 1) (by omega)
        rw [qf_wei, qf_fac, if_pos (by omega), Nat.mul_one] at this
        exact this
      · have := ih (n + 1) (by omega)
        rw [pj_bt_nat n (by omega)] at y
        rw [qf_wei, qf_fac, if_neg (by omega), y, if_neg (by decide), Int.natCast_mul, show ((10 - qf_od D n : Nat) : Int) = 10 - M 14 n by omega] at this
        exact this
      · have := ih (n + 1) (by omega)
        rw [pj_bt_nat n (by omega)] at y
        rw [qf_wei, qf_fac, if_neg (by omega), y, if_pos rfl, Int.natCast_mul, ← eo] at this
        exact this
  exact pj_C30_0 (loop (qf_dP D) 0 (by omega))
theorem qf_weightY (hD : qf_okD D) (hY : qf_Y D M) {s : Nat} (hs : s < 128) (h : Q (some (pj_vL (qf_wei D s (qf_dP D) : Int))) M) : pj_G L d 128 0 [pj_vR 38, pj_vI (s : Int), pj_vU, pj_vU, pj_vU] [] M Q := by
  have hb := hD.b
  have eP := hY.P
  have loop : ∀ (q n : Nat), n + q = qf_dP D → pj_G L d 128 5 [pj_vR 38, pj_vI (s : Int), pj_vL (qf_wei D s n : Int), pj_vU, pj_vI (n : Int)] [] M Q := by
    intro q
    induction q with
    | zero =>
      intro n e
      obtain rfl : n = qf_dP D := by omega
      exact pj_C128_5 (by omega) (by omega) (fun _ => pj_C128_66 h) (fun c => by omega)
    | succ q ih =>
      intro n e
      have hp := hD.pt n (by omega)
      have ek := hY.kd n (by omega)
      have eo := hY.od n (by omega)
      refine pj_C128_5 (by omega) (by omega) (fun c => by omega) (fun _ => pj_C128_14 n rfl (by omega) (by omega) (fun z => pj_C128_60 ?_) (fun z => pj_C128_25 n rfl (by omega) (fun y => pj_C128_47 n rfl (by omega) (by omega) (pj_C128_58 (pj_C128_60 ?_))) (fun y => pj_C128_36 n rfl (by omega) (by omega) (pj_C128_58 (pj_C128_60 ?_)))))
      · have := ih (n + 1) (by omega)
        rw [qf_wei, qf_fac, if_pos (by omega), Nat.mul_one] at this
        exact this
      · have := ih (n + 1) (by omega)
        rw [pj_bt_nat n (by omega)] at y
        rw [qf_wei, qf_fac, if_neg (by omega), y, if_neg (by decide), Int.natCast_mul, show ((10 - qf_od D n : Nat) : Int) = 10 - M 50 n by omega] at this
        exact this
      · have := ih (n + 1) (by omega)
        rw [pj_bt_nat n (by omega)] at y
        rw [qf_wei, qf_fac, if_neg (by omega), y, if_pos rfl, Int.natCast_mul, ← eo] at this
        exact this
  exact pj_C128_0 (loop (qf_dP D) 0 (by omega))
/-- a set that holds a meter -/
def qf_hm (D : qf_D) (s : Nat) : Prop := ∃ p, p < qf_dP D ∧ s.testBit p = true ∧ qf_kd D p = 4
def qf_inP (D : qf_D) (x : Int) : Prop := 0 ≤ x ∧ x < ((2 ^ qf_dP D : Nat) : Int)
theorem qf_weighX (hD : qf_okD D) (hX : qf_X D M) {x : Int} (hr : -2147483648 ≤ x ∧ x < 2147483648)
    (hb : ¬ qf_inP D x → Q (some (pj_vL 0)) (pj_rfX M 3)) (hn : qf_inP D x → qf_hm D x.toNat → Q (some (pj_vL 0)) (pj_rfX M 7))
    (h : qf_inP D x → ¬ qf_hm D x.toNat → Q (some (pj_vL (qf_wei D x.toNat (qf_dP D) : Int))) M) : pj_G L (d + 1) 62 0 [pj_vR 1, pj_vI x] [] M Q := by
  have hb14 := hD.b
  refine pj_C62_0 (qf_arePartsX hD hX hr (fun hin => ?_) (fun hin => ?_))
  · have hb' := hn hin
    have hb'' := h hin
    obtain ⟨s, rfl, hs, hsP⟩ := qf_set128 hD hin
    rw [Int.toNat_natCast] at hb' hb''
    obtain ⟨mt, t1, t2, t3⟩ := hX.mt
    have hand : pj_and (s : Int) (M 7 13) = 0 ↔ ¬ qf_hm D s := by
      rw [t1, pj_and0]
      constructor
      · rintro z ⟨p, p1, p2, p3⟩
        have := z p (by omega) (by rw [pj_bt_nat p (by omega)]; exact p2)
        rw [pj_bt_nat p (by omega), t3 p, decide_eq_true ⟨p1, p3⟩] at this
        cases this
      · intro z k hk hbit
        rw [pj_bt_nat k (by omega)] at hbit
        rw [pj_bt_nat k (by omega), t3 k]
        exact decide_eq_false (fun y => z ⟨k, y.1, hbit, y.2⟩)
    exact pj_C62_5 (by omega) (fun _ => pj_C62_17 (fun z => pj_C62_38 (qf_weightX hD hX hs (pj_C62_46 (hb'' (hand.mp z))))) (fun z => pj_C62_29 (pj_refuse 7 (by decide) (pj_C62_35 (hb' (Classical.byContradiction (fun y => z (hand.mpr y)))))))) (fun z => absurd z (by decide))
  · exact pj_C62_5 (by omega) (fun z => absurd rfl z) (fun _ => pj_C62_8 (pj_refuse 3 (by decide) (pj_C62_14 (hb hin))))
theorem qf_weighY (hD : qf_okD D) (hY : qf_Y D M) {x : Int} (hr : -2147483648 ≤ x ∧ x < 2147483648)
    (hb : ¬ qf_inP D x → Q (some (pj_vL 0)) (pj_rfY M 3)) (hn : qf_inP D x → qf_hm D x.toNat → Q (some (pj_vL 0)) (pj_rfY M 7))
    (h : qf_inP D x → ¬ qf_hm D x.toNat → Q (some (pj_vL (qf_wei D x.toNat (qf_dP D) : Int))) M) : pj_G L (d + 1) 129 0 [pj_vR 38, pj_vI x, pj_vU, pj_vU] [] M Q := by
  have hb14 := hD.b
  refine pj_C129_0 (qf_isSetY hD hY hr (fun hin => ?_) (fun hin => ?_))
  · have hb' := hn hin
    have hb'' := h hin
    obtain ⟨s, rfl, hs, hsP⟩ := qf_set128 hD hin
    rw [Int.toNat_natCast] at hb' hb''
    refine pj_C129_5 (by omega) (fun _ => pj_C129_13 (qf_hasMeterY hD hY hs (fun hm => ?_) (fun hm => ?_))) (fun z => absurd z (by decide))
    · exact pj_C129_18 (by omega) (fun z => absurd z (by decide)) (fun _ => pj_C129_21 (pj_C129_27 (by omega) (fun _ => pj_C129_38 (pj_no 7 (by decide) (pj_C129_43 (hb' hm)))) (fun z => absurd z (by decide))))
    · exact pj_C129_18 (by omega) (fun _ => pj_C129_26 (pj_C129_27 (by omega) (fun z => absurd rfl z) (fun _ => pj_C129_32 (qf_weightY hD hY hs (pj_C129_37 (hb'' hm)))))) (fun z => absurd rfl z)
  · exact pj_C129_5 (by omega) (fun z => absurd rfl z) (fun _ => pj_C129_8 (pj_C129_27 (by omega) (fun _ => pj_C129_38 (pj_no 3 (by decide) (pj_C129_43 (hb hin)))) (fun z => absurd z (by decide))))
/-- the weight of a story -/
noncomputable def qf_ws (D : qf_D) (i : Nat) : Nat := qf_wei D ((qf_sl D).getD i 0) (qf_dP D)
noncomputable def qf_bsi (D : qf_D) : Nat → Nat
  | 0 => 0
  | n + 1 => if qf_ws D (qf_bsi D n) < qf_ws D (n + 1) then n + 1 else qf_bsi D n
theorem qf_bsi_le : ∀ n, qf_bsi D n ≤ n
  | 0 => Nat.le_refl _
  | n + 1 => by
    have := qf_bsi_le n
    rw [qf_bsi]
    split <;> omega
theorem qf_likelyX (hD : qf_okD D) (hE : qf_okE D) (hX : qf_X D M) (hc : qf_cX D M)
    (hb : (qf_sl D).length = 0 → ∀ M', qf_fr qf_cL M M' → qf_cX D M' → Q (some (pj_vI (-2))) (pj_rfX M' 2))
    (h : (qf_sl D).length ≠ 0 → ∀ M', qf_fr qf_cL M M' → qf_cX D M' → Q (some (pj_vI (qf_bsi D ((qf_sl D).length - 1) : Int))) M') : pj_G L (d + 22) 63 0 [pj_vR 1, pj_vU, pj_vU, pj_vU, pj_vU, pj_vU, pj_vU, pj_vU] [] M Q := by
  have hl := qf_sl_len D
  refine pj_C63_0 (qf_findStoriesX (d := d) hD hE hX hc (fun M1 hm1 hc1 h3 => ?_))
  have hX1 := hX.keep (qf_kX.of hm1 (by decide))
  refine pj_C63_7 (by omega) (fun z1 => pj_C63_20 ?_) (fun z => pj_C63_13 (pj_refuse 2 (by decide) (pj_C63_19 (hb (by omega) M1 hm1 hc1))))
  obtain ⟨hst, -⟩ : qf_lst M1 23 (qf_sl D) ∧ True := by
    rcases hc1.2.2.2.1 with w | ⟨-, -, w, -⟩
    · omega
    · exact ⟨w, trivial⟩
  have hw62 : ∀ i, 1 ≤ qf_ws D i ∧ qf_ws D i ≤ 4782969 := fun i => qf_wei_lt hD _
  have loop : ∀ (q n : Nat) (x6 : Int), n + 1 + q = (qf_sl D).length → pj_G L (d + 22) 63 27 [pj_vR 1, pj_vI ((qf_sl D).length : Int), pj_vI (qf_bsi D n : Int), pj_vL (qf_ws D (qf_bsi D n) : Int), pj_vU, pj_vI ((n + 1 : Nat) : Int), pj_vL x6, pj_vU] [] M1 Q := by
    intro q
    induction q with
    | zero =>
      intro n x6 e
      refine pj_C63_27v1 (by omega) (by omega) (fun _ => pj_C63_71v1 ?_) (fun c => by omega)
      have := h (by omega) M1 hm1 hc1
      rw [show (qf_sl D).length - 1 = n by omega] at this
      exact this
    | succ q ih =>
      intro n x6 e
      have hsl := (qf_sl_ok (D := D) (i := n + 1) (by omega)).1
      have w1 := hw62 (n + 1)
      have w2 := hw62 (qf_bsi D n)
      refine pj_C63_27v1 (by omega) (by omega) (fun c => by omega) (fun _ => pj_C63_33v1 (n + 1) rfl (by omega) ?_)
      rw [hst (n + 1) (by omega)]
      refine qf_weightX hD hX1 hsl (pj_C63_50v1 (fun z => pj_C63_65 ?_) (fun z => pj_C63_59 (pj_C63_65 ?_)))
      · have z' := qf_lc_le (a := qf_ws D (n + 1)) (by omega) (by omega) z
        have := ih (n + 1) (qf_ws D (n + 1)) (by omega)
        rw [qf_bsi, if_neg (by omega)] at this
        exact this
      · have z' := qf_lc_gt (a := qf_ws D (n + 1)) (by omega) (by omega) z
        have := ih (n + 1) (qf_ws D (n + 1)) (by omega)
        rw [qf_bsi, if_pos z'] at this
        exact this
  have hsl := (qf_sl_ok (D := D) (i := 0) (by omega)).1
  refine pj_C63_27 (by omega) (by omega) (fun c => by omega) (fun _ => pj_C63_33 0 rfl (by omega) ?_)
  rw [hst 0 (by omega)]
  have w0 := hw62 0
  refine qf_weightX hD hX1 hsl (pj_C63_50 (fun z => ?_) (fun z => pj_C63_59 (pj_C63_65 (loop ((qf_sl D).length - 1) 0 _ (by omega)))))
  have z' := qf_lc_le (a := qf_ws D 0) (b := 0) (by omega) (by omega) z
  omega
theorem qf_likelyY (hD : qf_okD D) (hE : qf_okE D) (hY : qf_Y D M) (hc : qf_cY D M)
    (hb : (qf_sl D).length = 0 → ∀ M', qf_frF M M' → qf_cY D M' → Q (some (pj_vI (-2))) (pj_rfY M' 2))
    (h : (qf_sl D).length ≠ 0 → ∀ M', qf_frF M M' → qf_cY D M' → Q (some (pj_vI (qf_bsi D ((qf_sl D).length - 1) : Int))) M') : pj_G L (d + 8) 130 0 [pj_vR 38, pj_vU, pj_vU] [] M Q := by
  have hl := qf_sl_len D
  refine pj_C130_0 (qf_findY (d := d) hD hE hY hc (fun M1 hm e35 hFY => ?_))
  have hY1 : qf_Y D M1 := hY.far (fun a h1 h2 => hm.1 a (by simp only [List.mem_cons, List.not_mem_nil, or_false, not_or]; omega)) (fun k h1 h2 => hm.2 k (by simp only [List.mem_cons, List.not_mem_nil, or_false, not_or]; omega))
  have hc1 : qf_cY D M1 := Or.inr ⟨e35, hFY⟩
  have e34 := hFY.1
  refine pj_C130_4 (by omega) (fun z1 => pj_C130_18 ?_) (fun z => pj_C130_11 (pj_no 2 (by decide) (pj_C130_17 (hb (by omega) M1 hm hc1))))
  have hst := hFY.2.1
  have hw62 : ∀ i, 1 ≤ qf_ws D i ∧ qf_ws D i ≤ 4782969 := fun i => qf_wei_lt hD _
  have loop : ∀ (q n : Nat), n + 1 + q = (qf_sl D).length → pj_G L (d + 8) 130 22 [pj_vR 38, pj_vI (qf_bsi D n : Int), pj_vI ((n + 1 : Nat) : Int)] [] M1 Q := by
    intro q
    induction q with
    | zero =>
      intro n e
      refine pj_C130_22 (by omega) (by omega) (fun _ => pj_C130_66 ?_) (fun c => by omega)
      have := h (by omega) M1 hm hc1
      rw [show (qf_sl D).length - 1 = n by omega] at this
      exact this
    | succ q ih =>
      intro n e
      have hle := qf_bsi_le (D := D) n
      have hsl := (qf_sl_ok (D := D) (i := n + 1) (by omega)).1
      have hsl2 := (qf_sl_ok (D := D) (i := qf_bsi D n) (by omega)).1
      have w1 := hw62 (n + 1)
      have w2 := hw62 (qf_bsi D n)
      refine pj_C130_22 (by omega) (by omega) (fun c => by omega) (fun _ => pj_C130_30 (n + 1) rfl (by omega) ?_)
      rw [hst (n + 1) (by omega)]
      refine qf_weightY hD hY1 hsl (pj_C130_40 (qf_bsi D n) rfl (by omega) ?_)
      rw [hst (qf_bsi D n) (by omega)]
      refine qf_weightY hD hY1 hsl2 (pj_C130_50 (fun z => pj_C130_58 (pj_C130_59 ?_)) (fun z => pj_C130_54 (pj_C130_59 ?_)))
      · have z' := qf_lc_le (a := qf_ws D (n + 1)) (b := qf_ws D (qf_bsi D n)) (by omega) (by omega) z
        have := ih (n + 1) (by omega)
        rw [qf_bsi, if_neg (by omega)] at this
        exact this
      · have z' := qf_lc_gt (a := qf_ws D (n + 1)) (b := qf_ws D (qf_bsi D n)) (by omega) (by omega) z
        have := ih (n + 1) (by omega)
        rw [qf_bsi, if_pos z'] at this
        exact this
  exact loop ((qf_sl D).length - 1) 0 (by omega)
end QFWE
theorem qf_case_weigh : pj_Case qf_I 723 := by
  rintro L d Q M x h0 h5 hL ⟨D, hI⟩ go
  obtain ⟨X, rfl⟩ : ∃ X : Nat, x = (X : Int) := ⟨x.toNat, by omega⟩
  have hr := hI.rng (X + 1) (by omega)
  have e1 : pj_nrm ((X : Int) + 1) = ((X + 1 : Nat) : Int) := pj_nk (by omega) (by omega)
  have z0 : pj_nrm (pj_lcmp 0 0) = 0 := qf_lc_self (a := 0) (by omega)
  refine pj_B152_723 ⟨by omega, by omega⟩ ?_
  rw [e1, Int.toNat_natCast]
  refine qf_weighX (d := d + 38) hI.ok hI.X hr (fun hb => ?_) (fun hin hm => ?_) (fun hin hm => ?_)
  · have hw := hI.rfX 3
    refine pj_B152_732 ⟨by omega, by omega⟩ ?_
    have eX : (pj_rfX M 3) 0 = M 0 := rfl
    rw [e1, Int.toNat_natCast, eX]
    exact qf_weighY (d := d + 38) hw.ok hw.Y hr (fun _ => pj_B152_741 (fun _ => go _ ⟨D, hw.rfY⟩) (fun c => absurd z0 c)) (fun hin _ => absurd hin hb) (fun hin _ => absurd hin hb)
  · have hw := hI.rfX 7
    refine pj_B152_732 ⟨by omega, by omega⟩ ?_
    have eX : (pj_rfX M 7) 0 = M 0 := rfl
    rw [e1, Int.toNat_natCast, eX]
    exact qf_weighY (d := d + 38) hw.ok hw.Y hr (fun hb => absurd hin hb) (fun _ _ => pj_B152_741 (fun _ => go _ ⟨D, hw.rfY⟩) (fun c => absurd z0 c)) (fun _ hn => absurd hm hn)
  · refine pj_B152_732 ⟨by omega, by omega⟩ ?_
    rw [e1, Int.toNat_natCast]
    have := qf_wei_lt hI.ok (M 0 (X + 1)).toNat
    exact qf_weighY (d := d + 38) hI.ok hI.Y hr (fun hb => absurd hin hb) (fun _ hn => absurd hn hm) (fun _ _ => pj_B152_741 (fun _ => go _ ⟨D, hI⟩) (fun c => absurd (qf_lc_self (by omega)) c))
theorem qf_case_likely : pj_Case qf_I 747 := by
  rintro L d Q M x h0 h5 hL ⟨D, hI⟩ go
  refine pj_B152_747 (qf_likelyX (d := d + 17) hI.ok hI.E hI.X hI.cX (fun hz M1 hm1 hc1 => ?_) (fun hz M1 hm1 hc1 => ?_))
  · have hw := (hI.qx hm1 hc1).rfX 2
    exact pj_B152_751 (qf_likelyY (d := d + 31) hw.ok hw.E hw.Y hw.cY (fun _ M2 hm2 hc2 => pj_B152_755 (fun _ => go _ ⟨D, (hw.qy hm2.y.1 hm2.y.2 hc2).rfY⟩) (fun c => absurd rfl c)) (fun hn _ _ _ => absurd hz hn))
  · have hI1 := hI.qx hm1 hc1
    exact pj_B152_751 (qf_likelyY (d := d + 31) hI1.ok hI1.E hI1.Y hI1.cY (fun hn _ _ _ => absurd hn hz) (fun _ M2 hm2 hc2 => pj_B152_755 (fun _ => go _ ⟨D, hI1.qy hm2.y.1 hm2.y.2 hc2⟩) (fun c => absurd rfl c)))
