/-! THE REFERENCE: many, hasStory, find. -/
section QFH
variable {L d : Nat} {Q : Option pj_V → pj_M → Prop} {D : qf_D} {set : Nat} {M : pj_M}
theorem qf_manyY (hs : set < 128) (h : Q (some (pj_vI (qf_pop set : Int))) M) : pj_G L d 119 0 [pj_vI (set : Int), pj_vU, pj_vU] [] M Q := by
  have loop : ∀ (r n : Nat), n + r = 8 → pj_G L d 119 4 [pj_vI (set : Int), pj_vI (qf_popn set n : Int), pj_vI (n : Int)] [] M Q := by
    intro r
    induction r with
    | zero =>
      intro n e
      obtain rfl : n = 8 := by omega
      refine pj_C119_4 (by omega) (fun _ => pj_C119_24 ?_) (fun c => by omega)
      rw [qf_popn_8 ⟨set, hs⟩]
      exact h
    | succ r ih =>
      intro n e
      refine pj_C119_4 (by omega) (fun c => by omega) (fun _ => pj_C119_10 ?_)
      have e1 : (qf_popn set n : Int) + pj_and (pj_shr (set : Int) (n : Int)) 1 = (qf_popn set (n + 1) : Int) := by
        rw [pj_bit1 _ rfl (by omega), pj_bt_nat n (by omega), qf_popn]
        split <;> omega
      rw [e1]
      exact ih (n + 1) (by omega)
  exact pj_C119_0 (loop 8 0 rfl)
theorem qf_mayBreakY (hD : qf_okD D) (hE : qf_okE D) (hY : qf_Y D M) {p : Nat} (hp : p < qf_dP D) (h1 : qf_mayc D p = true → Q (some (pj_vI 1)) M) (h0 : qf_mayc D p = false → Q (some (pj_vI 0)) M) : pj_G L d 120 0 [pj_vR 38, pj_vI (p : Int)] [] M Q := by
  have hb := hD.b
  have e1 := hY.kd p hp
  have e2 := hY.sn p (by omega)
  have h3 := (hD.pt p hp).2.2.1
  have h4 := hE.2.2.2 p (by omega)
  refine pj_C120_0 p rfl (by omega) (by omega) (fun c => pj_C120_23 (pj_C120_24 (Or.inl rfl) (h0 (decide_eq_false (by omega))))) (fun c => ?_)
  exact pj_C120_10 p rfl (by omega) (by omega) (fun c2 => pj_C120_23 (pj_C120_24 (Or.inl rfl) (h0 (decide_eq_false (by omega))))) (fun c2 => pj_C120_19 (pj_C120_24 (Or.inr rfl) (h1 (decide_eq_true ⟨by omega, by omega⟩))))
/-- a list of numbers in a row -/
def qf_lst (M : pj_M) (a : Nat) (l : List Nat) : Prop := ∀ i, i < l.length → M a i = (l.getD i 0 : Int)
theorem qf_lst_mem {l : List Nat} {x : Nat} : x ∈ l ↔ ∃ i, i < l.length ∧ l.getD i 0 = x := by
  rw [List.mem_iff_getElem]
  constructor
  · rintro ⟨i, hi, e⟩
    exact ⟨i, hi, by rw [List.getD_eq_getElem?_getD, List.getElem?_eq_getElem hi]; exact e⟩
  · rintro ⟨i, hi, e⟩
    rw [List.getD_eq_getElem?_getD, List.getElem?_eq_getElem hi] at e
    exact ⟨i, hi, e⟩
theorem qf_lst_app {M : pj_M} {a x : Nat} {l : List Nat} (h : qf_lst M a l) : qf_lst (pj_up M a l.length (x : Int)) a (l ++ [x]) := by
  intro i hi
  rw [List.length_append, List.length_singleton] at hi
  by_cases e : i = l.length
  · subst e
    rw [pj_up_same, List.getD_eq_getElem?_getD, List.getElem?_append_right (Nat.le_refl _), Nat.sub_self]
    rfl
  · rw [pj_up_slot e, h i (by omega), List.getD_eq_getElem?_getD, List.getD_eq_getElem?_getD, List.getElem?_append_left (by omega)]
theorem qf_hasStoryY (hs : set < 128) {l : List Nat} (hl : l.length ≤ 64) (hc : M 38 34 = (l.length : Int)) (hm : qf_lst M 64 l) (hx : ∀ x ∈ l, x < 128) (h1 : (∃ a ∈ l, qf_sub a set) → Q (some (pj_vI 1)) M) (h0 : (∀ a ∈ l, ¬ qf_sub a set) → Q (some (pj_vI 0)) M) : pj_G L d 122 0 [pj_vR 38, pj_vI (set : Int), pj_vU, pj_vU] [] M Q := by
  have loop : ∀ (r n : Nat) (x : Int), n + r = l.length → (x = 0 ∨ x = 1) → (x = 1 ↔ ∃ i, i < n ∧ qf_sub (l.getD i 0) set) → pj_G L d 122 4 [pj_vR 38, pj_vI (set : Int), pj_vI x, pj_vI (n : Int)] [] M Q := by
    intro r
    induction r with
    | zero =>
      intro n x e hx1 hx2
      refine pj_C122_4 (by omega) (by omega) (fun _ => pj_C122_41 hx1 ?_) (fun c => by omega)
      rcases hx1 with rfl | rfl
      · refine h0 (fun a ha hsub => ?_)
        obtain ⟨i, hi, rfl⟩ := qf_lst_mem.mp ha
        have := hx2.mpr ⟨i, by omega, hsub⟩
        omega
      · obtain ⟨i, hi, hsub⟩ := hx2.mp rfl
        exact h1 ⟨_, qf_lst_mem.mpr ⟨i, by omega, rfl⟩, hsub⟩
    | succ r ih =>
      intro n x e hx1 hx2
      have hmem : l.getD n 0 < 128 := hx _ (qf_lst_mem.mpr ⟨n, by omega, rfl⟩)
      have yes : (∃ i, i < n + 1 ∧ qf_sub (l.getD i 0) set) → pj_G L d 122 29 [pj_vR 38, pj_vI (set : Int), pj_vU, pj_vI (n : Int)] [] M Q := fun z => pj_C122_29 (pj_C122_34 (ih (n + 1) 1 (by omega) (Or.inr rfl) ⟨fun _ => z, fun _ => rfl⟩))
      refine pj_C122_4 (by omega) (by omega) (fun c => by omega) (fun _ => pj_C122_12 (by omega) (fun z => yes ?_) (fun z => ?_))
      · obtain ⟨i, hi, hsub⟩ := hx2.mp (by omega)
        exact ⟨i, by omega, hsub⟩
      · have hmn := hm n (by omega)
        refine pj_C122_16 n rfl (by omega) (fun y => ?_) (fun y => yes ⟨n, by omega, ?_⟩)
        · rw [hmn] at y
          refine pj_C122_33 (pj_C122_34 (ih (n + 1) 0 (by omega) (Or.inl rfl) ⟨fun w => absurd w (by decide), ?_⟩))
          rintro ⟨i, hi, hsub⟩
          by_cases ei : i = n
          · rw [ei] at hsub
            exact absurd ((qf_andn hmem hs).mpr hsub) y
          · have := hx2.mpr ⟨i, by omega, hsub⟩
            omega
        · rw [hmn] at y
          exact (qf_andn hmem hs).mp y
  exact pj_C122_0 (loop l.length 0 0 (by omega) (Or.inl rfl) ⟨fun z => absurd z (by decide), fun ⟨i, hi, _⟩ => absurd hi (by omega)⟩)
/-- the stories -/
noncomputable abbrev qf_sl (D : qf_D) : List Nat := qf_stl (qf_agr D) (qf_may D)
theorem qf_sl_len (D : qf_D) : (qf_sl D).length ≤ 35 := qf_fm_len (qf_cb_nodup 3 128)
theorem qf_sl_lt {D : qf_D} {x : Nat} (h : x ∈ qf_sl D) : x < 128 := (qf_fm_mem.mp h).2.1
/-- what the reference has found -/
def qf_FY (D : qf_D) (M : pj_M) : Prop := M 38 34 = ((qf_sl D).length : Int) ∧ qf_lst M 64 (qf_sl D) ∧ ∀ i, i < (qf_sl D).length → ∀ k, k < 42 → M 65 (42 * i + k) = (qf_vm D ((qf_sl D).getD i 0) k : Int)
abbrev qf_fiL : List Nat := [38, 57, 58, 59, 60, 61, 62, 63, 64, 65]
theorem qf_shl_P (hD : qf_okD D) (hY : qf_Y D M) : pj_shl 1 (M 38 18) = ((2 ^ qf_dP D : Nat) : Int) ∧ 2 ^ qf_dP D ≤ 128 := by
  have hb := hD.b
  rw [hY.P]
  exact ⟨pj_shl1_nat (by omega), (Nat.pow_le_pow_right (show 0 < 2 by omega) (show qf_dP D ≤ 7 by omega) : 2 ^ qf_dP D ≤ 2 ^ 7)⟩
end QFH
