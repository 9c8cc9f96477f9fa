/-! THE CLASS: learn; worth; tells. -/
section QFXO
variable {L d : Nat} {Q : Option pj_V → pj_M → Prop} {D : qf_D}
theorem qf_lcmp01 {b : Bool} : pj_lcmp (if b then 1 else 0) 0 = if b then 1 else 0 := by cases b <;> decide +kernel
theorem qf_sl_ok {i : Nat} (hi : i < (qf_sl D).length) : (qf_sl D).getD i 0 < 128 ∧ qf_agr D ((qf_sl D).getD i 0) ∧ ∀ p, p < qf_dP D → ((qf_sl D).getD i 0).testBit p = true → p < 7 → qf_kd D p ≠ 4 := by
  have hmem : (qf_sl D).getD i 0 ∈ qf_sl D := qf_lst_mem.mpr ⟨i, hi, rfl⟩
  have hmin := (qf_fm_mem.mp hmem).2
  refine ⟨hmin.1, hmin.2.2.1, fun p hp hb h7 => ?_⟩
  have := hmin.2.1 p h7 hb
  rw [qf_may_bit, decide_eq_true_iff] at this
  exact this.2.1
/-- the values of some stories are known -/
def qf_kn (D : qf_D) (M : pj_M) (a b : Nat) : Prop := ∀ i, a ≤ i → i < b → ∀ k, k < 42 → M 25 (42 * i + k) = (qf_vm D ((qf_sl D).getD i 0) k : Int)
theorem qf_learnX (hD : qf_okD D) (hE : qf_okE D) {M : pj_M} (hX : qf_X D M) (hc : qf_cX D M) (h3 : M 22 3 = ((qf_sl D).length : Int)) {a b : Nat} (hab : a ≤ b) (hb' : b ≤ (qf_sl D).length) (h : ∀ M', qf_fr qf_cL M M' → qf_cX D M' → M' 22 3 = ((qf_sl D).length : Int) → qf_kn D M' a b → (∀ i, i < (qf_sl D).length → (∀ k, k < 42 → M 25 (42 * i + k) = (qf_vm D ((qf_sl D).getD i 0) k : Int)) → ∀ k, k < 42 → M' 25 (42 * i + k) = (qf_vm D ((qf_sl D).getD i 0) k : Int)) → Q none M') : pj_G L (d + 21) 9 0 [pj_vR 22, pj_vI (a : Int), pj_vI (b : Int), pj_vU] [] M Q := by
  have hb := hD.b
  have hl35 := qf_sl_len D
  have loop : ∀ (q n : Nat) (M1 : pj_M), n + q = b → a ≤ n → qf_fr qf_cL M M1 → qf_cX D M1 → M1 22 3 = ((qf_sl D).length : Int) → qf_kn D M1 a n → (∀ i, i < (qf_sl D).length → (∀ k, k < 42 → M 25 (42 * i + k) = (qf_vm D ((qf_sl D).getD i 0) k : Int)) → ∀ k, k < 42 → M1 25 (42 * i + k) = (qf_vm D ((qf_sl D).getD i 0) k : Int)) → pj_G L (d + 21) 9 2 [pj_vR 22, pj_vU, pj_vI (b : Int), pj_vI (n : Int)] [] M1 Q := by
    intro q
    induction q with
    | zero =>
      intro n M1 en han hm1 hc1 g3 hk ho
      obtain rfl : n = b := by omega
      exact pj_C9_2 (by omega) (by omega) (fun _ => pj_C9_99 (h M1 hm1 hc1 g3 hk ho)) (fun c => by omega)
    | succ q ih =>
      intro n M1 en han hm1 hc1 g3 hk ho
      have hX1 : qf_X D M1 := hX.keep (qf_kX.of hm1 (by decide))
      have hst := hc1.2.2.2.1
      rcases hst with z | ⟨s1, s2, s3, lm, s4, s5, s6⟩
      · omega
      · have s5' : lm < 2 ^ 40 := Nat.lt_of_lt_of_le s5 (by decide)
        have hbit := qf_lbit s5' (show n < 40 by omega)
        have hok := qf_sl_ok (D := D) (i := n) (by omega)
        refine pj_C9_2 (by omega) (by omega) (fun c => by omega) (fun _ => pj_C9_7 (fun y => pj_C9_93 ?_) (fun y => pj_C9_20 ?_))
        · rw [s4, hbit, qf_lcmp01] at y
          have hlb : lm.testBit n = true := pj_ine0 y
          refine ih (n + 1) M1 (by omega) (by omega) hm1 hc1 g3 (fun i h1 h2 => ?_) ho
          by_cases ei : i = n
          · rw [ei]
            exact s6 n (by omega) hlb
          · exact hk i h1 (by omega)
        · refine fun hM => pj_fill (a := 34) (n := 42) rfl (by omega) ?_
          refine pj_C9_34 n rfl (by omega) ?_
          · have efil : ∀ a, a ≠ 35 → (pj_fil M1 35 42 0) a = M1 a := by
              intro a ha
              funext k
              unfold pj_fil
              rw [if_neg (fun w => ha w.1)]
            have hfil : qf_fr [35] M1 (pj_fil M1 35 42 0) := fun a ha => efil a (by simpa using ha)
            have e23 : (pj_fil M1 35 42 0) 23 n = ((qf_sl D).getD n 0 : Int) := by rw [efil 23 (by decide)]; exact s3 n (by omega)
            rw [e23]
            refine qf_takeStoryX1 (d := d + 19) hD (hX1.keep (qf_kX.of hfil (by decide))) hok.1 (fun M2 hm2 hs2 h6 h11 hts => pj_C9_48 ?_)
            -- prepared, and the inputs fit
            have hp3 := hc1.2.2.1
            rcases hp3 with w | ⟨w, N, hpp⟩
            · omega
            · obtain ⟨ro, hrs, v, hv⟩ := hok.2.1
              have hfit := qf_run_infit hD hv
              have h12 : M1 26 12 = 1 := hpp.2.2.2.1.mpr hfit
              have e33 : M2 33 = M1 33 := by rw [hm2 33 (by decide), efil 33 (by decide)]
              refine qf_searchVal hD hE ((hX1.keep (qf_kX.of hfil (by decide))).keep (qf_kX.of hm2 (by decide))) (hpp.2.2.2.2.2.same e33) ?_ ?_ h6 h11 ?_ hfit (fun p hp hbt => hok.2.2 p hp hbt (by omega)) hts ?_ (fun M3 x hx hT hin hv3 => ?_)
              · rw [hm2 28 (by decide), efil 28 (by decide)]; exact hc1.1
              · rw [hm2 31 (by decide), efil 31 (by decide)]; exact hc1.2.1
              · rw [hs2 12 (by decide), efil 26 (by decide)]; exact h12
              · intro l hl
                rw [hm2 35 (by decide)]
                exact pj_fil_in hl
              · refine pj_C9_56 (42 * n) (by omega) (by omega) (by omega) (pj_C9_81 (pj_C9_93 ?_))
                have hm13 : qf_fr [26, 29, 30, 31, 32, 33, 34, 35] M1 M3 := ((hfil.wide (by decide)).trans hm2 (by decide)).trans hT.1 (by decide)
                have e22 : M3 22 = M1 22 := hm13 22 (by decide)
                have ecp : ∀ a, a ≠ 25 → (pj_cpy M3 35 25 0 (42 * n) 42) a = M3 a := by
                  intro a ha
                  funext k
                  unfold pj_cpy
                  rw [if_neg (fun w => ha w.1)]
                have ecp25 : ∀ j, (pj_cpy M3 35 25 0 (42 * n) 42) 25 j = if 42 * n ≤ j ∧ j < 42 * n + 42 then M3 35 (j - 42 * n) else M1 25 j := by
                  intro j
                  unfold pj_cpy
                  by_cases w2 : 42 * n ≤ j ∧ j < 42 * n + 42
                  · rw [if_pos ⟨rfl, w2⟩, if_pos w2, Nat.zero_add]
                  · rw [if_neg (fun w3 => w2 w3.2), if_neg w2, hm13 25 (by decide)]
                have e7 : (pj_cpy M3 35 25 0 (42 * n) 42) 22 7 = (lm : Int) := by rw [ecp 22 (by decide), e22]; exact s4
                rw [e7, qf_lset s5' (by omega)]
                have o : ∀ a, a ≠ 22 → a ≠ 25 → (pj_up (pj_cpy M3 35 25 0 (42 * n) 42) 22 7 ((lm ||| 2 ^ n : Nat) : Int)) a = M3 a := by
                  intro a h1 h2
                  rw [← ecp a h2]
                  funext k
                  exact pj_up_else h1
                have o22 : ∀ k, k ≠ 7 → (pj_up (pj_cpy M3 35 25 0 (42 * n) 42) 22 7 ((lm ||| 2 ^ n : Nat) : Int)) 22 k = M1 22 k := by
                  intro k h1
                  rw [pj_up_slot h1, ecp 22 (by decide), e22]
                have vals : ∀ i, i < (qf_sl D).length → (i = n ∨ ∀ k, k < 42 → M1 25 (42 * i + k) = (qf_vm D ((qf_sl D).getD i 0) k : Int)) → ∀ k, k < 42 → (pj_up (pj_cpy M3 35 25 0 (42 * n) 42) 22 7 ((lm ||| 2 ^ n : Nat) : Int)) 25 (42 * i + k) = (qf_vm D ((qf_sl D).getD i 0) k : Int) := by
                  intro i hi hcase k hk
                  rw [pj_up_else (by decide), ecp25]
                  by_cases ei : i = n
                  · rw [if_pos (by omega), ei, show 42 * n + k - 42 * n = k by omega]
                    exact hv3 k hk
                  · rw [if_neg (by omega)]
                    rcases hcase with w2 | w2
                    · exact absurd w2 ei
                    · exact w2 k hk
                have pp3 : qf_pp D N (pj_up (pj_cpy M3 35 25 0 (42 * n) 42) 22 7 ((lm ||| 2 ^ n : Nat) : Int)) := by
                  refine hpp.keep ?_ ?_ ?_ (hin.same (o 33 (by decide) (by decide)))
                  · rw [o 27 (by decide) (by decide)]; exact hm13 27 (by decide)
                  · rw [o 26 (by decide) (by decide), hT.1 26 (by decide), hs2 12 (by decide), efil 26 (by decide)]
                  · rw [o 26 (by decide) (by decide), hT.1 26 (by decide), hs2 10 (by decide), efil 26 (by decide)]
                refine ih (n + 1) _ (by omega) (by omega) ?_ ⟨?_, ?_, Or.inr ⟨?_, N, pp3⟩, Or.inr ⟨?_, ?_, ?_, lm ||| 2 ^ n, pj_up_same, ?_, fun i hi hbt => ?_⟩, ?_⟩ ?_ (fun i h1 h2 => ?_) (fun i hi hv' => ?_)
                · intro a' ha'
                  simp only [List.mem_cons, List.not_mem_nil, or_false, not_or] at ha'
                  rw [o a' (by omega) (by omega), hm13 a' (by simp only [List.mem_cons, List.not_mem_nil, or_false, not_or]; omega)]
                  exact hm1 a' (by simp only [List.mem_cons, List.not_mem_nil, or_false, not_or]; omega)
                · rw [o 28 (by decide) (by decide), hm13 28 (by decide)]; exact hc1.1
                · rw [o 31 (by decide) (by decide)]; exact hT.2
                · rw [o22 8 (by decide)]; exact w
                · rw [o22 8 (by decide)]; exact w
                · rw [o22 3 (by decide)]; exact g3
                · intro i hi
                  rw [o 23 (by decide) (by decide), hm13 23 (by decide)]
                  exact s3 i hi
                · exact Nat.or_lt_two_pow s5 (Nat.pow_lt_pow_right (by omega) (by omega))
                · refine vals i hi ?_
                  rw [Nat.testBit_or, Nat.testBit_two_pow, Bool.or_eq_true, decide_eq_true_iff] at hbt
                  rcases hbt with w2 | w2
                  · exact Or.inr (s6 i hi w2)
                  · exact Or.inl w2.symm
                · have h5 := hc1.2.2.2.2
                  unfold qf_lst at h5 ⊢
                  rw [o22 5 (by decide), o 24 (by decide) (by decide), hm13 24 (by decide)]
                  exact h5
                · rw [o22 3 (by decide)]; exact g3
                · refine vals i (by omega) ?_
                  by_cases ei : i = n
                  · exact Or.inl ei
                  · exact Or.inr (hk i h1 (by omega))
                · exact vals i hi (Or.inr (ho i hi hv'))
  refine pj_C9_0 (loop (b - a) a M (by omega) (Nat.le_refl _) qf_fr.refl hc h3 (fun i h1 h2 => absurd h2 (by omega)) (fun i _ hv => hv))
end QFXO
