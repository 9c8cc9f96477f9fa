/-! chance. -/
section QFCH
variable {L d : Nat} {Q : Option pj_V → pj_M → Prop} {D : qf_D} {M : pj_M}
theorem qf_half {g l n : Nat} (h1 : 0 < l) (h2 : l ≤ g) (h3 : l * g < 2 ^ (n + 1)) : g % l ≤ l ∧ g % l * l < 2 ^ n := by
  have hlt := Nat.mod_lt g h1
  refine ⟨by omega, ?_⟩
  have hd : l * (g / l) + g % l = g := Nat.div_add_mod g l
  have h4 : l * 1 ≤ l * (g / l) := Nat.mul_le_mul_left l (Nat.div_pos h2 h1)
  have h5 : 2 * (g % l) ≤ g := by omega
  have h6 : l * (2 * (g % l)) ≤ l * g := Nat.mul_le_mul_left l h5
  have h7 : l * (2 * (g % l)) = 2 * (g % l * l) := by rw [Nat.mul_left_comm, Nat.mul_comm l]
  have h8 : (2 : Nat) ^ (n + 1) = 2 * 2 ^ n := by rw [Nat.pow_succ, Nat.mul_comm]
  rw [h7] at h6
  rw [h8] at h3
  omega
theorem qf_lc0 {a : Nat} (ha : a < 2 ^ 62) : pj_lcmp (a : Int) 0 = 0 ↔ a = 0 := by
  have := qf_lc (a := a) (b := 0) ha (by omega)
  rw [show ((0 : Nat) : Int) = 0 from rfl] at this
  rw [this]
  by_cases z : 0 < a
  · rw [if_pos z]; omega
  · rw [if_neg z, if_pos (by omega)]; omega
theorem qf_lc_lt {a b : Nat} (ha : a < 2 ^ 62) (hb : b < 2 ^ 62) (h : pj_lcmp (a : Int) (b : Int) < 0) : a < b := by
  rw [qf_lc ha hb] at h
  by_cases z : b < a
  · rw [if_pos z] at h; omega
  · by_cases y : a = b
    · rw [if_neg z, if_pos y] at h; omega
    · omega
theorem qf_gcdX {a b : Nat} (ha : a < 2 ^ 30) (hb : b ≤ a) (h : Q (some (pj_vL (Nat.gcd b a : Int))) M) : pj_G L d 83 0 [pj_vL (a : Int), pj_vU, pj_vL (b : Int), pj_vU, pj_vU, pj_vU, pj_vU, pj_vU, pj_vU, pj_vU, pj_vU] [] M Q := by
  have fin : ∀ (g s : Nat) (x9 : Int), Nat.gcd 0 g = Nat.gcd b a → s < 128 → pj_G L d 83 9 [pj_vL (a : Int), pj_vU, pj_vL (b : Int), pj_vU, pj_vL (g : Int), pj_vU, pj_vL ((0 : Nat) : Int), pj_vU, pj_vI (s : Int), pj_vL x9, pj_vU] [] M Q := by
    intro g s x9 h5 hs
    rw [Nat.gcd_zero_left] at h5
    refine pj_C83_9v1 (by omega) (fun c => by omega) (fun _ => pj_C83_17v1 (fun _ => pj_C83_45v1 ?_) (fun c => absurd ((qf_lc0 (by omega)).mpr rfl) c))
    rw [h5]
    exact h
  have loop : ∀ (n g l s : Nat) (x9 : Int), l ≤ g → g < 2 ^ 30 → l * g < 2 ^ n → s + n ≤ 127 → Nat.gcd l g = Nat.gcd b a → pj_G L d 83 9 [pj_vL (a : Int), pj_vU, pj_vL (b : Int), pj_vU, pj_vL (g : Int), pj_vU, pj_vL (l : Int), pj_vU, pj_vI (s : Int), pj_vL x9, pj_vU] [] M Q := by
    intro n
    induction n with
    | zero =>
      intro g l s x9 h1 h2 h3 h4 h5
      have hl : l = 0 := by
        rcases Nat.eq_zero_or_pos l with z | z
        · exact z
        · have := Nat.mul_pos z (show 0 < g by omega)
          omega
      subst hl
      exact fin g s x9 h5 (by omega)
    | succ n ih =>
      intro g l s x9 h1 h2 h3 h4 h5
      rcases Nat.eq_zero_or_pos l with z | z
      · subst z
        exact fin g s x9 h5 (by omega)
      · have hh := qf_half z h1 h3
        refine pj_C83_9v1 (by omega) (fun c => by omega) (fun _ => pj_C83_17v1 (fun c => absurd ((qf_lc0 (by omega)).mp c) (by omega)) (fun _ => pj_C83_24v1 ?_ ?_))
        · rw [pj_nrl_id (by omega) (by omega)]
          omega
        · rw [qf_lrem_nat (by omega) z (by omega)]
          refine ih l (g % l) (s + 1) _ hh.1 (by omega) hh.2 (by omega) ?_
          rw [← Nat.gcd_rec]
          exact h5
  rcases Nat.eq_zero_or_pos b with z | z
  · subst z
    rw [Nat.gcd_zero_left] at h
    exact pj_C83_0 (pj_C83_9 (by omega) (fun c => by omega) (fun _ => pj_C83_17 (fun _ => pj_C83_45 h) (fun c => absurd ((qf_lc0 (a := 0) (by omega)).mpr rfl) c)))
  · have hlt := Nat.mod_lt a z
    refine pj_C83_0 (pj_C83_9 (by omega) (fun c => by omega) (fun _ => pj_C83_17 (fun c => absurd ((qf_lc0 (by omega)).mp c) (by omega)) (fun _ => pj_C83_24 ?_ ?_)))
    · rw [pj_nrl_id (by omega) (by omega)]
      omega
    · rw [qf_lrem_nat (by omega) z (by omega)]
      refine loop 60 b (a % b) 1 _ (by omega) (by omega) ?_ (by omega) ?_
      · have := Nat.mul_le_mul (show a % b ≤ 2 ^ 30 - 1 by omega) (show b ≤ 2 ^ 30 - 1 by omega)
        omega
      · rw [← Nat.gcd_rec]
noncomputable def qf_sa (D : qf_D) : Nat → Nat
  | 0 => 0
  | n + 1 => qf_sa D n + qf_ws D n
noncomputable def qf_sw (D : qf_D) (p : Nat) : Nat → Nat
  | 0 => 0
  | n + 1 => qf_sw D p n + if ((qf_sl D).getD n 0).testBit p then qf_ws D n else 0
theorem qf_sa_le (hD : qf_okD D) (p : Nat) : ∀ n, n ≤ qf_sa D n ∧ qf_sa D n ≤ 4782969 * n ∧ qf_sw D p n ≤ qf_sa D n
  | 0 => ⟨Nat.le_refl _, Nat.le_refl _, Nat.le_refl _⟩
  | n + 1 => by
    have h1 := qf_sa_le hD p n
    have h2 : 1 ≤ qf_ws D n ∧ qf_ws D n ≤ 4782969 := qf_wei_lt hD _
    rw [qf_sa, qf_sw]
    refine ⟨by omega, by omega, ?_⟩
    split <;> omega
/-- the answer of chance -/
noncomputable def qf_ch (D : qf_D) (p : Nat) (b : Int) : Nat := (if b = 0 then qf_sw D p (qf_sl D).length else qf_sa D (qf_sl D).length) / Nat.gcd (qf_sw D p (qf_sl D).length) (qf_sa D (qf_sl D).length)
theorem qf_ch_lt (hD : qf_okD D) {p : Nat} {b : Int} : qf_ch D p b < 2 ^ 30 := by
  have hl := qf_sl_len D
  have h1 := qf_sa_le hD p (qf_sl D).length
  unfold qf_ch
  refine Nat.lt_of_le_of_lt (Nat.div_le_self _ _) ?_
  split <;> omega
theorem qf_chanceX (hD : qf_okD D) (hE : qf_okE D) (hX : qf_X D M) (hc : qf_cX D M) {x b : Int} (hr : -2147483648 ≤ x ∧ x < 2147483648) (hb2 : 0 ≤ b ∧ b ≤ 1)
    (hb : (∀ p : Nat, x = (p : Int) → ¬ p < qf_dP D) → Q (some (pj_vL 0)) (pj_rfX M 3))
    (hm : ∀ p : Nat, x = (p : Int) → p < qf_dP D → (qf_sl D).length = 0 → ∀ M', qf_fr qf_cL M M' → qf_cX D M' → Q (some (pj_vL 0)) (pj_rfX M' 2))
    (h : ∀ p : Nat, x = (p : Int) → p < qf_dP D → (qf_sl D).length ≠ 0 → ∀ M', qf_fr qf_cL M M' → qf_cX D M' → Q (some (pj_vL (qf_ch D p b : Int))) M') : pj_G L (d + 22) 64 0 [pj_vR 1, pj_vI x, pj_vI b, pj_vU, pj_vU, pj_vU, pj_vU, pj_vU, pj_vU, pj_vU, pj_vU] [] M Q := by
  have hl := qf_sl_len D
  have hb14 := hD.b
  refine pj_C64_0 (qf_isPartX hD hX hr (fun p ep hp => pj_C64_5 (by omega) (fun _ => pj_C64_17 ?_) (fun z => absurd z (by decide))) (fun hno => pj_C64_5 (by omega) (fun z => absurd rfl z) (fun _ => pj_C64_8 (pj_refuse 3 (by decide) (pj_C64_14 (hb hno))))))
  refine qf_findStoriesX (d := d) hD hE hX hc (fun M1 hm1 hc1 h3 => ?_)
  have hX1 := hX.keep (qf_kX.of hm1 (by decide))
  refine pj_C64_24 (by omega) (fun z1 => pj_C64_39 ?_) (fun z => pj_C64_30 (pj_refuse 2 (by decide) (pj_C64_36 (hm p ep hp (by omega) M1 hm1 hc1))))
  obtain ⟨hst, -⟩ : qf_lst M1 23 (qf_sl D) ∧ True := by
    rcases hc1.2.2.2.1 with w | ⟨-, -, w, -⟩
    · omega
    · exact ⟨w, trivial⟩
  have hw62 : ∀ i, 1 ≤ qf_ws D i ∧ qf_ws D i ≤ 4782969 := fun i => qf_wei_lt hD _
  have loop : ∀ (q n : Nat) (x9 : Int), n + q = (qf_sl D).length → pj_G L (d + 22) 64 48 [pj_vR 1, pj_vI x, pj_vI b, pj_vI ((qf_sl D).length : Int), pj_vL (qf_sw D p n : Int), pj_vU, pj_vL (qf_sa D n : Int), pj_vU, pj_vI (n : Int), pj_vL x9, pj_vU] [] M1 Q := by
    intro q
    induction q with
    | zero =>
      intro n x9 e
      obtain rfl : n = (qf_sl D).length := by omega
      have hs := qf_sa_le hD p (qf_sl D).length
      have hg : 0 < Nat.gcd (qf_sw D p (qf_sl D).length) (qf_sa D (qf_sl D).length) := Nat.gcd_pos_of_pos_right _ (by omega)
      have hg2 : Nat.gcd (qf_sw D p (qf_sl D).length) (qf_sa D (qf_sl D).length) ≤ qf_sa D (qf_sl D).length := Nat.gcd_le_right _ (by omega)
      have hnz : pj_nrl ((Nat.gcd (qf_sw D p (qf_sl D).length) (qf_sa D (qf_sl D).length) : Nat) : Int) ≠ 0 := by
        rw [pj_nrl_id (by omega) (by omega)]
        omega
      have ans := h p ep hp (by omega) M1 hm1 hc1
      unfold qf_ch at ans
      refine pj_C64_48v1 (by omega) (by omega) (fun _ => pj_C64_110v1 (qf_gcdX (by omega) hs.2.2 (pj_C64_117 (fun _ => pj_C64_128 (by omega) (fun y => pj_C64_137 (pj_C64_139 hnz ?_)) (fun y => pj_C64_132 (pj_C64_139 hnz ?_))) (fun z => ?_)))) (fun c => by omega)
      · rw [if_pos y] at ans
        rw [qf_ldiv_nat (by omega) hg (by omega)]
        exact ans
      · rw [if_neg y] at ans
        rw [qf_ldiv_nat (by omega) hg (by omega)]
        exact ans
      · have := qf_lc_lt (b := 1) (by omega) (by omega) z
        omega
    | succ q ih =>
      intro n x9 e
      have hsl := (qf_sl_ok (D := D) (i := n) (by omega)).1
      have w1 := hw62 n
      refine pj_C64_48v1 (by omega) (by omega) (fun c => by omega) (fun _ => pj_C64_54v1 n rfl (by omega) ?_)
      rw [hst n (by omega)]
      have hbit : pj_bt (M1 23 n) p = ((qf_sl D).getD n 0).testBit p := by rw [hst n (by omega), pj_bt_nat p (by omega)]
      have nx := ih (n + 1) (qf_ws D n : Int) (by omega)
      rw [qf_sa, qf_sw] at nx
      refine qf_weightX hD hX1 hsl (pj_C64_71v1 n p rfl (by omega) ep (by omega) (fun z => pj_C64_104 ?_) (fun z => pj_C64_97 (pj_C64_104 ?_)))
      · rw [hbit] at z
        rw [if_neg (by rw [z]; decide), Nat.add_zero, Int.natCast_add] at nx
        exact nx
      · rw [hbit] at z
        rw [if_pos z, Int.natCast_add, Int.natCast_add] at nx
        exact nx
  have hsl := (qf_sl_ok (D := D) (i := 0) (by omega)).1
  refine pj_C64_48 (by omega) (by omega) (fun c => by omega) (fun _ => pj_C64_54 0 rfl (by omega) ?_)
  rw [hst 0 (by omega)]
  have hbit : pj_bt (M1 23 0) p = ((qf_sl D).getD 0 0).testBit p := by rw [hst 0 (by omega), pj_bt_nat p (by omega)]
  have nx := loop ((qf_sl D).length - 1) 1 (qf_ws D 0 : Int) (by omega)
  rw [qf_sa, qf_sw] at nx
  refine qf_weightX hD hX1 hsl (pj_C64_71 0 p rfl (by omega) ep (by omega) (fun z => pj_C64_104 ?_) (fun z => pj_C64_97 (pj_C64_104 ?_)))
  · rw [hbit] at z
    rw [if_neg (by rw [z]; decide), Nat.add_zero, Int.natCast_add] at nx
    exact nx
  · rw [hbit] at z
    rw [if_pos z, Int.natCast_add, Int.natCast_add] at nx
    exact nx
theorem qf_chanceY (hD : qf_okD D) (hE : qf_okE D) (hY : qf_Y D M) (hc : qf_cY D M) {x b : Int} (hr : -2147483648 ≤ x ∧ x < 2147483648) (hb2 : 0 ≤ b ∧ b ≤ 1)
    (hb : (∀ p : Nat, x = (p : Int) → ¬ p < qf_dP D) → ∀ M', qf_frF M M' → qf_cY D M' → Q (some (pj_vL 0)) (pj_rfY M' 3))
    (hm : ∀ p : Nat, x = (p : Int) → p < qf_dP D → (qf_sl D).length = 0 → ∀ M', qf_frF M M' → qf_cY D M' → Q (some (pj_vL 0)) (pj_rfY M' 2))
    (h : ∀ p : Nat, x = (p : Int) → p < qf_dP D → (qf_sl D).length ≠ 0 → ∀ M', qf_frF M M' → qf_cY D M' → Q (some (pj_vL (qf_ch D p b : Int))) M') : pj_G L (d + 8) 131 0 [pj_vR 38, pj_vI x, pj_vI b, pj_vU, pj_vU, pj_vU, pj_vU, pj_vU, pj_vU, pj_vU, pj_vU, pj_vU, pj_vU, pj_vU] [] M Q := by
  have hl := qf_sl_len D
  have hb14 := hD.b
  refine pj_C131_0 (qf_findY (d := d) hD hE hY hc (fun M1 hm1 e35 hFY => ?_))
  have hY1 : qf_Y D M1 := hY.far (fun a h1 h2 => hm1.1 a (by simp only [List.mem_cons, List.not_mem_nil, or_false, not_or]; omega)) (fun k h1 h2 => hm1.2 k (by simp only [List.mem_cons, List.not_mem_nil, or_false, not_or]; omega))
  have hc1 : qf_cY D M1 := Or.inr ⟨e35, hFY⟩
  have e34 := hFY.1
  have hst := hFY.2.1
  refine pj_C131_4 (qf_isPartY hD hY1 hr (fun p ep hp => pj_C131_9 (by omega) (fun _ => ?_) (fun z => absurd z (by decide))) (fun hno => pj_C131_9 (by omega) (fun z => absurd rfl z) (fun _ => pj_C131_12 (pj_C131_30 (by omega) (fun z => absurd z (by decide)) (fun _ => pj_C131_35 (pj_no 3 (by decide) (pj_C131_40 (hb hno M1 hm1 hc1))))))))
  refine pj_C131_17 (by omega) (fun z1 => pj_C131_29 (pj_C131_30 (by omega) (fun _ => pj_C131_44 ?_) (fun z => absurd rfl z))) (fun z => pj_C131_24 (pj_C131_30 (by omega) (fun y => absurd y (by decide)) (fun _ => pj_C131_35 (pj_no 2 (by decide) (pj_C131_40 (hm p ep hp (by omega) M1 hm1 hc1))))))
  have hw62 : ∀ i, 1 ≤ qf_ws D i ∧ qf_ws D i ≤ 4782969 := fun i => qf_wei_lt hD _
  have hs := qf_sa_le hD p (qf_sl D).length
  have hg : 0 < Nat.gcd (qf_sw D p (qf_sl D).length) (qf_sa D (qf_sl D).length) := Nat.gcd_pos_of_pos_right _ (by omega)
  have ans := h p ep hp (by omega) M1 hm1 hc1
  unfold qf_ch at ans
  have fa : ∀ g : Nat, g < 2 ^ 30 → g = Nat.gcd (qf_sw D p (qf_sl D).length) (qf_sa D (qf_sl D).length) → (b = 0 → Q (some (pj_vL (pj_ldiv (qf_sw D p (qf_sl D).length : Int) (g : Int)))) M1) ∧ (b ≠ 0 → Q (some (pj_vL (pj_ldiv (qf_sa D (qf_sl D).length : Int) (g : Int)))) M1) := by
    intro g h2 h5
    rw [← h5] at ans hg
    refine ⟨fun y => ?_, fun y => ?_⟩
    · rw [if_pos y] at ans
      rw [qf_ldiv_nat (by omega) hg (by omega)]
      exact ans
    · rw [if_neg y] at ans
      rw [qf_ldiv_nat (by omega) hg (by omega)]
      exact ans
  have nz : ∀ g : Nat, 0 < g → g < 2 ^ 30 → pj_nrl (g : Int) ≠ 0 := fun g h1 h2 => by
    rw [pj_nrl_id (by omega) (by omega)]
    omega
  have fin1 : ∀ (g : Nat) (x12 : Int), g < 2 ^ 30 → Nat.gcd 0 g = Nat.gcd (qf_sw D p (qf_sl D).length) (qf_sa D (qf_sl D).length) → pj_G L (d + 8) 131 127 [pj_vU, pj_vU, pj_vI b, pj_vU, pj_vL (qf_sa D (qf_sl D).length : Int), pj_vU, pj_vL (qf_sw D p (qf_sl D).length : Int), pj_vU, pj_vL (g : Int), pj_vU, pj_vL ((0 : Nat) : Int), pj_vU, pj_vL x12, pj_vU] [] M1 Q := by
    intro g x12 h2 h5
    rw [Nat.gcd_zero_left] at h5
    have hnz := nz g (by omega) h2
    exact pj_C131_127v1 (fun _ => pj_C131_152v1 (by omega) (fun y => pj_C131_164 hnz (pj_C131_169 ((fa g h2 h5).1 y))) (fun y => pj_C131_156 hnz (pj_C131_169 ((fa g h2 h5).2 y)))) (fun c => absurd ((qf_lc0 (by omega)).mpr rfl) c)
  have gl1 : ∀ (n g l : Nat) (x12 : Int), l ≤ n → g < 2 ^ 30 → l < 2 ^ 30 → Nat.gcd l g = Nat.gcd (qf_sw D p (qf_sl D).length) (qf_sa D (qf_sl D).length) → pj_G L (d + 8) 131 127 [pj_vU, pj_vU, pj_vI b, pj_vU, pj_vL (qf_sa D (qf_sl D).length : Int), pj_vU, pj_vL (qf_sw D p (qf_sl D).length : Int), pj_vU, pj_vL (g : Int), pj_vU, pj_vL (l : Int), pj_vU, pj_vL x12, pj_vU] [] M1 Q := by
    intro n
    induction n with
    | zero =>
      intro g l x12 h1 h2 h3 h5
      obtain rfl : l = 0 := by omega
      exact fin1 g x12 h2 h5
    | succ n ih =>
      intro g l x12 h1 h2 h3 h5
      rcases Nat.eq_zero_or_pos l with z | z
      · subst z
        exact fin1 g x12 h2 h5
      · have hlt := Nat.mod_lt g z
        refine pj_C131_127v1 (fun c => absurd ((qf_lc0 (by omega)).mp c) (by omega)) (fun _ => pj_C131_134v1 (nz l z h3) ?_)
        rw [qf_lrem_nat (by omega) z (by omega)]
        refine ih l (g % l) _ (by omega) h3 (by omega) ?_
        rw [← Nat.gcd_rec]
        exact h5
  have gl : ∀ (g l : Nat), g < 2 ^ 30 → l < 2 ^ 30 → Nat.gcd l g = Nat.gcd (qf_sw D p (qf_sl D).length) (qf_sa D (qf_sl D).length) → pj_G L (d + 8) 131 127 [pj_vU, pj_vU, pj_vI b, pj_vU, pj_vL (qf_sa D (qf_sl D).length : Int), pj_vU, pj_vL (qf_sw D p (qf_sl D).length : Int), pj_vU, pj_vL (g : Int), pj_vU, pj_vL (l : Int), pj_vU, pj_vU, pj_vU] [] M1 Q := by
    intro g l h2 h3 h5
    rcases Nat.eq_zero_or_pos l with z | z
    · subst z
      rw [Nat.gcd_zero_left] at h5
      have hnz := nz g (by omega) h2
      exact pj_C131_127 (fun _ => pj_C131_152 (by omega) (fun y => pj_C131_164v1 hnz (pj_C131_169v1 ((fa g h2 h5).1 y))) (fun y => pj_C131_156v1 hnz (pj_C131_169v1 ((fa g h2 h5).2 y)))) (fun c => absurd ((qf_lc0 (a := 0) (by omega)).mpr rfl) c)
    · have hlt := Nat.mod_lt g z
      refine pj_C131_127 (fun c => absurd ((qf_lc0 (by omega)).mp c) (by omega)) (fun _ => pj_C131_134 (nz l z h3) ?_)
      rw [qf_lrem_nat (by omega) z (by omega)]
      refine gl1 (g % l) l (g % l) _ (Nat.le_refl _) h3 (by omega) ?_
      rw [← Nat.gcd_rec]
      exact h5
  have loop : ∀ (q n : Nat), n + q = (qf_sl D).length → pj_G L (d + 8) 131 53 [pj_vR 38, pj_vI x, pj_vI b, pj_vU, pj_vL (qf_sa D n : Int), pj_vU, pj_vL (qf_sw D p n : Int), pj_vU, pj_vI (n : Int), pj_vU, pj_vU, pj_vU, pj_vU, pj_vU] [] M1 Q := by
    intro q
    induction q with
    | zero =>
      intro n e
      obtain rfl : n = (qf_sl D).length := by omega
      exact pj_C131_53 (by omega) (by omega) (fun _ => pj_C131_119 (gl _ _ (by omega) (by omega) rfl)) (fun c => by omega)
    | succ q ih =>
      intro n e
      have hsl := (qf_sl_ok (D := D) (i := n) (by omega)).1
      have hbit : pj_bt (M1 64 n) p = ((qf_sl D).getD n 0).testBit p := by rw [hst n (by omega), pj_bt_nat p (by omega)]
      have nx := ih (n + 1) (by omega)
      rw [qf_sa, qf_sw] at nx
      refine pj_C131_53 (by omega) (by omega) (fun c => by omega) (fun _ => pj_C131_62 n rfl (by omega) ?_)
      rw [hst n (by omega)]
      refine qf_weightY hD hY1 hsl (pj_C131_75 n p rfl (by omega) ep (by omega) (fun z => pj_C131_109 (pj_C131_110 ?_)) (fun z => pj_C131_95 n rfl (by omega) ?_))
      · rw [hbit] at z
        rw [if_neg (by rw [z]; decide), Int.natCast_add, Int.natCast_add] at nx
        exact nx
      · rw [hst n (by omega)]
        rw [hbit] at z
        rw [if_pos z, Int.natCast_add, Int.natCast_add] at nx
        exact qf_weightY hD hY1 hsl (pj_C131_106 (pj_C131_110 nx))
  exact loop (qf_sl D).length 0 (by omega)
end QFCH
theorem qf_case_chance : pj_Case qf_I 760 := by
  rintro L d Q M x h0 h5 hL ⟨D, hI⟩ go
  obtain ⟨X, rfl⟩ : ∃ X : Nat, x = (X : Int) := ⟨x.toNat, by omega⟩
  have hr := hI.rng (X + 1) (by omega)
  have hr2 := hI.rng (X + 2) (by omega)
  have z0 : pj_lcmp 0 0 = 0 := (qf_lc0 (a := 0) (by omega)).mpr rfl
  have main : ∀ b : Int, (b = 0 ∧ M 0 (X + 2) = 0) ∨ (b = 1 ∧ M 0 (X + 2) ≠ 0) → pj_G L (d + 40) 152 779 [pj_vR 0, pj_vR 1, pj_vR 38, pj_vI (X : Int)] [pj_vI b, pj_vI (M 0 (X + 1)), pj_vR 1] M Q := by
    intro b hb
    have tail : ∀ (M1 : pj_M) (s0 : Int), M1 0 = M 0 → pj_G L (d + 40) 152 801 [pj_vR 0, pj_vR 1, pj_vR 38, pj_vI (X : Int)] [pj_vI b, pj_vI (M 0 (X + 1)), pj_vR 38, pj_vL s0] M1 Q → pj_G L (d + 40) 152 782 [pj_vR 0, pj_vR 1, pj_vR 38, pj_vI (X : Int)] [pj_vL s0] M1 Q := by
      intro M1 s0 e0 k
      rw [← e0] at k
      refine pj_C152_782 (X + 1) (X + 2) hL (by omega) (by omega) (by omega) (by omega) (by rw [e0]; exact hr2) (fun z => pj_C152_800 ?_) (fun z => pj_C152_796 ?_)
      · rw [e0] at z
        obtain rfl : b = 0 := by omega
        exact k
      · rw [e0] at z
        obtain rfl : b = 1 := by omega
        exact k
    refine pj_C152_779 (qf_chanceX (d := d + 17) hI.ok hI.E hI.X hI.cX hr (by omega) (fun hno => ?_) (fun p ep hp hz M1 hm1 hc1 => ?_) (fun p ep hp hz M1 hm1 hc1 => ?_))
    · have hw := hI.rfX 3
      refine tail _ _ rfl (pj_C152_801 ?_)
      exact qf_chanceY (d := d + 31) hw.ok hw.E hw.Y hw.cY hr (by omega) (fun _ M2 hm2 hc2 => pj_C152_804 (fun _ => go _ ⟨D, (hw.qy hm2.y.1 hm2.y.2 hc2).rfY⟩) (fun c => absurd z0 c)) (fun p ep hp _ _ _ _ => absurd hp (hno p ep)) (fun p ep hp _ _ _ _ => absurd hp (hno p ep))
    · have hw := (hI.qx hm1 hc1).rfX 2
      refine tail _ _ (hm1 0 (by decide)) (pj_C152_801 ?_)
      exact qf_chanceY (d := d + 31) hw.ok hw.E hw.Y hw.cY hr (by omega) (fun hno => absurd hp (hno p ep)) (fun _ _ _ _ M2 hm2 hc2 => pj_C152_804 (fun _ => go _ ⟨D, (hw.qy hm2.y.1 hm2.y.2 hc2).rfY⟩) (fun c => absurd z0 c)) (fun _ _ _ hn _ _ _ => absurd hz hn)
    · have hI1 := hI.qx hm1 hc1
      refine tail _ _ (hm1 0 (by decide)) (pj_C152_801 ?_)
      refine qf_chanceY (d := d + 31) hI1.ok hI1.E hI1.Y hI1.cY hr (by omega) (fun hno => absurd hp (hno p ep)) (fun _ _ _ hn _ _ _ => absurd hn hz) (fun p' ep' _ _ M2 hm2 hc2 => ?_)
      obtain rfl : p' = p := by omega
      have hlt := qf_ch_lt hI.ok (p := p') (b := b)
      have e1 : pj_lcmp (qf_ch D p' b : Int) (qf_ch D p' b : Int) = 0 := by
        rw [qf_lc (by omega) (by omega), if_neg (by omega), if_pos rfl]
      exact pj_C152_804 (fun _ => go _ ⟨D, hI1.qy hm2.y.1 hm2.y.2 hc2⟩) (fun c => absurd e1 c)
  exact pj_C152_760 (X + 1) (X + 2) hL (by omega) (by omega) (by omega) (by omega) hr2 (fun z => pj_C152_778 (main 0 (Or.inl ⟨rfl, z⟩))) (fun z => pj_C152_774 (main 1 (Or.inr ⟨rfl, z⟩)))
