/-! THE CLASS: what has been found out. -/
def qf_bc (x0 : Int) : Int := pj_and (((pj_and (((pj_and (x0 - (pj_and (pj_ushr x0 1) 1431655765)) 858993459) + (pj_and (pj_ushr (x0 - (pj_and (pj_ushr x0 1) 1431655765)) 2) 858993459)) + (pj_ushr ((pj_and (x0 - (pj_and (pj_ushr x0 1) 1431655765)) 858993459) + (pj_and (pj_ushr (x0 - (pj_and (pj_ushr x0 1) 1431655765)) 2) 858993459)) 4)) 252645135) + (pj_ushr (pj_and (((pj_and (x0 - (pj_and (pj_ushr x0 1) 1431655765)) 858993459) + (pj_and (pj_ushr (x0 - (pj_and (pj_ushr x0 1) 1431655765)) 2) 858993459)) + (pj_ushr ((pj_and (x0 - (pj_and (pj_ushr x0 1) 1431655765)) 858993459) + (pj_and (pj_ushr (x0 - (pj_and (pj_ushr x0 1) 1431655765)) 2) 858993459)) 4)) 252645135) 8)) + (pj_ushr ((pj_and (((pj_and (x0 - (pj_and (pj_ushr x0 1) 1431655765)) 858993459) + (pj_and (pj_ushr (x0 - (pj_and (pj_ushr x0 1) 1431655765)) 2) 858993459)) + (pj_ushr ((pj_and (x0 - (pj_and (pj_ushr x0 1) 1431655765)) 858993459) + (pj_and (pj_ushr (x0 - (pj_and (pj_ushr x0 1) 1431655765)) 2) 858993459)) 4)) 252645135) + (pj_ushr (pj_and (((pj_and (x0 - (pj_and (pj_ushr x0 1) 1431655765)) 858993459) + (pj_and (pj_ushr (x0 - (pj_and (pj_ushr x0 1) 1431655765)) 2) 858993459)) + (pj_ushr ((pj_and (x0 - (pj_and (pj_ushr x0 1) 1431655765)) 858993459) + (pj_and (pj_ushr (x0 - (pj_and (pj_ushr x0 1) 1431655765)) 2) 858993459)) 4)) 252645135) 8)) 16)) 63
theorem qf_bc_all : ∀ s : Fin 128, qf_bc (s.val : Int) = (qf_pop s.val : Int) := by decide +kernel
section QFXL
variable {L d : Nat} {Q : Option pj_V → pj_M → Prop} {D : qf_D} {M : pj_M}
theorem qf_bitCountX {set : Nat} (hs : set < 128) (h : Q (some (pj_vI (qf_pop set : Int))) M) : pj_G L d 150 0 [pj_vI (set : Int)] [] M Q := by
  refine pj_C150_0 ?_
  have := qf_bc_all ⟨set, hs⟩
  unfold qf_bc at this
  dsimp only at this
  rw [this]
  exact h
/-- the quarrels -/
def qf_qua (D : qf_D) (s : Nat) : Prop := ¬ qf_CB D s
noncomputable abbrev qf_ql (D : qf_D) : List Nat := qf_qul (qf_qua D) (qf_nm D)
/-- what the class has found out -/
def qf_cX (D : qf_D) (M : pj_M) : Prop := (∀ t, t < 3 → M 28 t = -1) ∧ M 31 7 = 0 ∧ (M 22 8 = 0 ∨ (M 22 8 = 1 ∧ ∃ N, qf_pp D N M)) ∧ (M 22 3 = -1 ∨ (M 22 8 = 1 ∧ M 22 3 = ((qf_sl D).length : Int) ∧ qf_lst M 23 (qf_sl D) ∧ ∃ lm : Nat, M 22 7 = (lm : Int) ∧ lm < 2 ^ 35 ∧ ∀ i, i < (qf_sl D).length → lm.testBit i = true → ∀ k, k < 42 → M 25 (42 * i + k) = (qf_vm D ((qf_sl D).getD i 0) k : Int))) ∧ (M 22 5 = -1 ∨ (M 22 5 = ((qf_ql D).length : Int) ∧ qf_lst M 24 (qf_ql D)))
abbrev qf_cL : List Nat := [22, 23, 24, 25, 26, 27, 29, 30, 31, 32, 33, 34, 35]
/-- a search leaves what was found out -/
theorem qf_cX.keep {M' : pj_M} (h : qf_cX D M) (hm : qf_fr [26, 29, 30, 31, 32, 33, 34, 35] M M') (h7 : M' 31 7 = 0) (h12 : M' 26 12 = M 26 12) (h10 : M' 26 10 = M 26 10) (hin : qf_inX D M') : qf_cX D M' := by
  obtain ⟨a1, a2, a3, a4, a5⟩ := h
  refine ⟨by rw [hm 28 (by decide)]; exact a1, h7, ?_, ?_, ?_⟩
  · rw [hm 22 (by decide)]
    rcases a3 with z | ⟨z, N, hN⟩
    · exact Or.inl z
    · exact Or.inr ⟨z, N, hN.keep (hm 27 (by decide)) h12 h10 hin⟩
  · unfold qf_lst
    rw [hm 22 (by decide), hm 23 (by decide), hm 25 (by decide)]
    exact a4
  · unfold qf_lst
    rw [hm 22 (by decide), hm 24 (by decide)]
    exact a5
theorem qf_prepX (hD : qf_okD D) (hX : qf_X D M) (hc : qf_cX D M) (h : ∀ M' N, qf_fr [22, 26, 27, 33] M M' → qf_fs 22 [8] M M' → qf_cX D M' → M' 22 8 = 1 → qf_pp D N M' → Q none M') : pj_G L (d + 3) 2 0 [pj_vR 22] [] M Q := by
  obtain ⟨a1, a2, a3, a4, a5⟩ := hc
  rcases a3 with z | ⟨z, N, hN⟩
  · refine pj_C2_0 (by omega) (fun y => absurd z y) (fun _ => pj_C2_7 (qf_prepareX hD hX (fun M1 N hm1 hs1 hpp => pj_C2_14 (pj_C2_19 ?_))))
    have hm : qf_fr [22, 26, 27, 33] M (pj_up M1 22 8 1) := (hm1.wide (by decide)).up (by decide)
    have hpp' : qf_pp D N (pj_up M1 22 8 1) := hpp.keep (by funext k; exact pj_up_else (by decide)) (pj_up_else (by decide)) (pj_up_else (by decide)) (hpp.2.2.2.2.2.same (by funext k; exact pj_up_else (by decide)))
    have e22 : ∀ k, k ≠ 8 → (pj_up M1 22 8 1) 22 k = M 22 k := fun k hk => by rw [pj_up_slot hk, hm1 22 (by decide)]
    refine h _ N hm (fun k hk => e22 k (by simpa using hk)) ⟨?_, ?_, Or.inr ⟨pj_up_same, N, hpp'⟩, ?_, ?_⟩ pj_up_same hpp'
    · rw [hm 28 (by decide)]; exact a1
    · rw [hm 31 (by decide)]; exact a2
    · rw [e22 3 (by decide)]
      refine Or.inl ?_
      rcases a4 with y | y
      · exact y
      · have := y.1
        omega
    · unfold qf_lst
      rw [e22 5 (by decide), hm 24 (by decide)]
      exact a5
  · exact pj_C2_0 (by omega) (fun _ => pj_C2_19 (h M N qf_fr.refl qf_fs.refl ⟨a1, a2, Or.inr ⟨z, N, hN⟩, a4, a5⟩ z hN)) (fun y => by omega)
theorem qf_doesAgreeX (hD : qf_okD D) (hE : qf_okE D) (hX : qf_X D M) (hc : qf_cX D M) {set : Nat} (hset : set < 128) (hnm : ∀ p, p < qf_dP D → set.testBit p = true → qf_kd D p ≠ 4)
    (h1 : qf_agr D set → ∀ M', qf_fr qf_cL M M' → qf_cX D M' → Q (some (pj_vI 1)) M')
    (h0 : ¬ qf_agr D set → ∀ M', qf_fr qf_cL M M' → qf_cX D M' → Q (some (pj_vI 0)) M') : pj_G L (d + 21) 4 0 [pj_vR 22, pj_vI (set : Int)] [] M Q := by
  refine pj_C4_0 (qf_prepX (d := d + 17) hD hX hc (fun M1 N hm1 hs1 hc1 h8 hpp => pj_C4_4 ?_))
  have hX1 : qf_X D M1 := hX.keep (qf_kX.of hm1 (by decide))
  obtain ⟨cn, c1, c2, c3, c4⟩ := hpp.2.2.2.2.1
  refine qf_takeStoryX0 (d := d + 19) hD hX1 hset c2 c1 (fun M2 hm2 hs2 h6 h11 hts => pj_C4_13 ?_)
  have hpp2 : qf_pp D N M2 := hpp.keep (hm2 27 (by decide)) (hs2 12 (by decide)) (hs2 10 (by decide)) (hpp.2.2.2.2.2.same (hm2 33 (by decide)))
  have fin : ∀ M3, qf_frT M2 M3 → qf_inX D M3 → qf_fr qf_cL M M3 ∧ qf_cX D M3 := by
    intro M3 hT hin
    refine ⟨((hm1.wide (by decide)).trans hm2 (by decide)).trans hT.1 (by decide), hc1.keep ((hm2.wide (by decide)).trans hT.1 (by decide)) hT.2 ?_ ?_ hin⟩
    · rw [hT.1 26 (by decide)]; exact hs2 12 (by decide)
    · rw [hT.1 26 (by decide)]; exact hs2 10 (by decide)
  refine qf_searchAgr hD hE (hX1.keep (qf_kX.of hm2 (by decide))) hpp2 (by rw [hm2 31 (by decide)]; exact hc1.2.1) h6 h11 c3 hnm hts (fun z M3 hT hin => pj_C4_21 (Or.inr rfl) (h1 z M3 (fin M3 hT hin).1 (fin M3 hT hin).2)) (fun z M3 hT hin => pj_C4_21 (Or.inl rfl) (h0 z M3 (fin M3 hT hin).1 (fin M3 hT hin).2))
theorem qf_canBeX (hD : qf_okD D) (hE : qf_okE D) (hX : qf_X D M) (hc : qf_cX D M) {set : Nat} (hset : set < 128)
    (h1 : qf_CB D set → ∀ M', qf_fr qf_cL M M' → qf_cX D M' → Q (some (pj_vI 1)) M')
    (h0 : ¬ qf_CB D set → ∀ M', qf_fr qf_cL M M' → qf_cX D M' → Q (some (pj_vI 0)) M') : pj_G L (d + 21) 5 0 [pj_vR 22, pj_vI (set : Int)] [] M Q := by
  refine pj_C5_0 (qf_prepX (d := d + 17) hD hX hc (fun M1 N hm1 hs1 hc1 h8 hpp => pj_C5_4 ?_))
  have hX1 : qf_X D M1 := hX.keep (qf_kX.of hm1 (by decide))
  refine qf_takeSoundX hD hX1 hset (fun M2 hm2 hs2 h6 h11 h9 hro => pj_C5_12 ?_)
  have hpp2 : qf_pp D N M2 := hpp.keep (hm2 27 (by decide)) (hs2 12 (by decide)) (hs2 10 (by decide)) (hpp.2.2.2.2.2.same (hm2 33 (by decide)))
  have fin : ∀ M3, qf_frT M2 M3 → qf_inX D M3 → qf_fr qf_cL M M3 ∧ qf_cX D M3 := by
    intro M3 hT hin
    refine ⟨((hm1.wide (by decide)).trans hm2 (by decide)).trans hT.1 (by decide), hc1.keep ((hm2.wide (by decide)).trans hT.1 (by decide)) hT.2 ?_ ?_ hin⟩
    · rw [hT.1 26 (by decide)]; exact hs2 12 (by decide)
    · rw [hT.1 26 (by decide)]; exact hs2 10 (by decide)
  refine qf_searchCB hD hE (hX1.keep (qf_kX.of hm2 (by decide))) hpp2 (by rw [hm2 31 (by decide)]; exact hc1.2.1) h6 h11 h9 hro (fun z M3 hT hin => pj_C5_20 (Or.inr rfl) (h1 z M3 (fin M3 hT hin).1 (fin M3 hT hin).2)) (fun z M3 hT hin => pj_C5_20 (Or.inl rfl) (h0 z M3 (fin M3 hT hin).1 (fin M3 hT hin).2))
theorem qf_holdsX23 {set : Nat} (hs : set < 128) {l : List Nat} (hl : l.length ≤ 35) (hm : qf_lst M 23 l) (hx : ∀ x ∈ l, x < 128) (h1 : (∃ a ∈ l, qf_sub a set) → Q (some (pj_vI 1)) M) (h0 : (∀ a ∈ l, ¬ qf_sub a set) → Q (some (pj_vI 0)) M) : pj_G L d 8 0 [pj_vI (set : Int), pj_vR 23, pj_vI (l.length : Int), pj_vU] [] M Q := by
  have loop : ∀ (r n : Nat), n + r = l.length → (∀ i, i < n → ¬ qf_sub (l.getD i 0) set) → pj_G L d 8 2 [pj_vI (set : Int), pj_vR 23, pj_vI (l.length : Int), pj_vI (n : Int)] [] M Q := by
    intro r
    induction r with
    | zero =>
      intro n e a
      refine pj_C8_2r23 (by omega) (by omega) (fun _ => pj_C8_25r23 (h0 (fun x hx' hsub => ?_))) (fun c => by omega)
      obtain ⟨i, hi, rfl⟩ := qf_lst_mem.mp hx'
      exact a i (by omega) hsub
    | succ r ih =>
      intro n e a
      have hmem : l.getD n 0 < 128 := hx _ (qf_lst_mem.mpr ⟨n, by omega, rfl⟩)
      have hmn := hm n (by omega)
      refine pj_C8_2r23 (by omega) (by omega) (fun c => by omega) (fun _ => pj_C8_7r23 n rfl (by omega) (fun y => pj_C8_19r23 (ih (n + 1) (by omega) (fun i hi hsub => ?_))) (fun y => pj_C8_17r23 (h1 ⟨_, qf_lst_mem.mpr ⟨n, by omega, rfl⟩, ?_⟩)))
      · rw [hmn] at y
        by_cases ei : i = n
        · rw [ei] at hsub
          exact y ((qf_andn hmem hs).mpr hsub)
        · exact a i (by omega) hsub
      · rw [hmn] at y
        exact (qf_andn hmem hs).mp y
  exact pj_C8_0r23 (loop l.length 0 (by omega) (fun i hi => absurd hi (by omega)))
theorem qf_holdsX24 {set : Nat} (hs : set < 128) {l : List Nat} (hl : l.length ≤ 35) (hm : qf_lst M 24 l) (hx : ∀ x ∈ l, x < 128) (h1 : (∃ a ∈ l, qf_sub a set) → Q (some (pj_vI 1)) M) (h0 : (∀ a ∈ l, ¬ qf_sub a set) → Q (some (pj_vI 0)) M) : pj_G L d 8 0 [pj_vI (set : Int), pj_vR 24, pj_vI (l.length : Int), pj_vU] [] M Q := by
  have loop : ∀ (r n : Nat), n + r = l.length → (∀ i, i < n → ¬ qf_sub (l.getD i 0) set) → pj_G L d 8 2 [pj_vI (set : Int), pj_vR 24, pj_vI (l.length : Int), pj_vI (n : Int)] [] M Q := by
    intro r
    induction r with
    | zero =>
      intro n e a
      refine pj_C8_2r24 (by omega) (by omega) (fun _ => pj_C8_25r24 (h0 (fun x hx' hsub => ?_))) (fun c => by omega)
      obtain ⟨i, hi, rfl⟩ := qf_lst_mem.mp hx'
      exact a i (by omega) hsub
    | succ r ih =>
      intro n e a
      have hmem : l.getD n 0 < 128 := hx _ (qf_lst_mem.mpr ⟨n, by omega, rfl⟩)
      have hmn := hm n (by omega)
      refine pj_C8_2r24 (by omega) (by omega) (fun c => by omega) (fun _ => pj_C8_7r24 n rfl (by omega) (fun y => pj_C8_19r24 (ih (n + 1) (by omega) (fun i hi hsub => ?_))) (fun y => pj_C8_17r24 (h1 ⟨_, qf_lst_mem.mpr ⟨n, by omega, rfl⟩, ?_⟩)))
      · rw [hmn] at y
        by_cases ei : i = n
        · rw [ei] at hsub
          exact y ((qf_andn hmem hs).mpr hsub)
        · exact a i (by omega) hsub
      · rw [hmn] at y
        exact (qf_andn hmem hs).mp y
  exact pj_C8_0r24 (loop l.length 0 (by omega) (fun i hi => absurd hi (by omega)))
end QFXL
