/-! THE REFERENCE: find. -/
section QFI
variable {L d : Nat} {Q : Option pj_V → pj_M → Prop} {D : qf_D} {set : Nat} {M0 : pj_M}
/-- what find leaves while it goes on -/
def qf_frF (M M' : pj_M) : Prop := qf_fr qf_fiL M M' ∧ qf_fs 38 [23, 24, 34, 35] M M'
theorem qf_frF.keep {M M' : pj_M} (h : qf_frF M M') : qf_kY M M' := by
  refine ⟨fun a h1 h2 => h.1 a ?_, fun k h1 h2 => h.2 k ?_⟩
  · simp only [List.mem_cons, List.not_mem_nil, or_false, not_or]; omega
  · simp only [List.mem_cons, List.not_mem_nil, or_false, not_or]; omega
theorem qf_frF.trans {M M' M'' : pj_M} (h : qf_frF M M') (h' : qf_frF M' M'') : qf_frF M M'' := ⟨h.1.trans h'.1 (fun _ z => z), h.2.trans h'.2 (fun _ z => z)⟩
theorem qf_frF.refl {M : pj_M} : qf_frF M M := ⟨qf_fr.refl, qf_fs.refl⟩
theorem qf_frF.ofr {l : List Nat} {M M' M'' : pj_M} (h : qf_frF M M') (h' : qf_fr l M' M'') (hl : ∀ a ∈ l, a ∈ qf_fiL) (h38 : 38 ∉ l) : qf_frF M M'' := ⟨h.1.trans h' hl, fun k hk => by rw [h' 38 h38]; exact h.2 k hk⟩
theorem qf_frF.ofA {l : List Nat} {M M' M'' : pj_M} (h : qf_frF M M') (h' : qf_frA l M' M'') (hl : ∀ a ∈ l, a ∈ qf_fiL) : qf_frF M M'' := ⟨h.1.trans h'.1 hl, h.2.trans h'.2 (by decide)⟩
/-- the numbers that the roles with codes below c allow -/
def qf_vc (D : qf_D) (set c : Nat) (m : Nat → Nat) : Prop := (∀ t w, t < qf_dT D → w < qf_dW D → ∀ j, ((m (14 * t + w)).testBit j = true ↔ ∃ e, qf_ev D set e ∧ qf_codW D set e < c ∧ ∃ v, qf_run D (qf_roE D set e) v ∧ v t w = j)) ∧ ∀ l, l < 42 → (∀ t w, t < qf_dT D → w < qf_dW D → l ≠ 14 * t + w) → m l = 0
theorem qf_vc_vm (hD : qf_okD D) {m : Nat → Nat} (h : qf_vc D set (qf_totW D set) m) (hm : ∀ l, l < 42 → m l < 8) : ∀ k, k < 42 → m k = qf_vm D set k := by
  intro k hk
  have hb := hD.b
  refine qf_nat_ext3 (hm k hk) qf_vm_lt (fun j hj => ?_)
  by_cases hin : k % 14 < qf_dW D ∧ k / 14 < qf_dT D
  · have ek : 14 * (k / 14) + k % 14 = k := by omega
    have h1 := h.1 (k / 14) (k % 14) hin.2 hin.1 j
    rw [ek] at h1
    have h2 := qf_vm_bit (D := D) (set := set) (k := k) (j := j)
    have h3 : (m k).testBit j = true ↔ (qf_vm D set k).testBit j = true := by
      rw [h1, h2]
      constructor
      · rintro ⟨e, a1, a2, v, a3, a4⟩
        exact ⟨hj, hin.1, hin.2, _, qf_rs_roE a1, v, a3, a4⟩
      · rintro ⟨-, -, -, ro, a1, v, a2, a3⟩
        obtain ⟨e, b1, b2⟩ := qf_rs_ex a1
        exact ⟨e, b1, qf_codW_lt hD b1, v, qf_run_congr hD (fun p hp => (b2 p hp).symm) a2, a3⟩
    cases q1 : (m k).testBit j <;> cases q2 : (qf_vm D set k).testBit j <;> simp_all
  · rw [h.2 k hk (fun t w h1 h2 h3 => hin (by omega)), Nat.zero_testBit]
    cases q2 : (qf_vm D set k).testBit j with
    | false => rfl
    | true =>
      have := (qf_vm_bit.mp q2).2
      exact absurd ⟨this.1, this.2.1⟩ hin
/-- the values of one story are found -/
theorem qf_findY_ways (hD : qf_okD D) (hE : qf_okE D) (hY : qf_Y D M0) {i : Int}
    (h : ∀ M' m, qf_frF M0 M' → qf_fr [57, 58, 59, 60, 61, 62, 63] M0 M' → qf_fnd M' 63 m → qf_vc D set (qf_totW D set) m → pj_G L (d + 6) 121 206 [pj_vR 38, pj_vU, pj_vI i, pj_vU, pj_vU] [] M' Q) : ∀ (r c : Nat) (M : pj_M) (e : Nat → Nat) (m : Nat → Nat), c + r = qf_totW D set → qf_frF M0 M → qf_fr [57, 58, 59, 60, 61, 62, 63] M0 M → qf_sbY D M set → qf_ev D set e → qf_wyY D M set e → qf_codW D set e = c → qf_fnd M 63 m → qf_vc D set c m → pj_G L (d + 6) 121 187 [pj_vR 38, pj_vU, pj_vI i, pj_vU, pj_vU] [] M Q := by
  intro r
  induction r with
  | zero =>
    intro c M e m ec _ _ _ he _ hc _ _
    have := qf_codW_lt hD he
    omega
  | succ r ih =>
    intro c M e m ec hm hmm hsb he hw hc hfn hvc
    have hY' : qf_Y D M := hY.keep hm.keep
    -- behind the numbers of this way: the next one
    have turn : ∀ (M1 : pj_M) (m1 : Nat → Nat), qf_fr [57, 59, 60, 61, 62, 63] M M1 → qf_fnd M1 63 m1 → qf_vc D set (c + 1) m1 → pj_G L (d + 6) 121 198 [pj_vR 38, pj_vU, pj_vI i, pj_vU, pj_vU] [] M1 Q := by
      intro M1 m1 hm1 hfn1 hvc1
      have hF1 : qf_frF M0 M1 := hm.ofr hm1 (by decide) (by decide)
      have hmm1 := hmm.trans hm1 (by decide)
      have hsb1 : qf_sbY D M1 set := fun p hp => by rw [hm1 38 (by decide)]; exact hsb p hp
      have hw1 : qf_wyY D M1 set e := fun p hp y1 y2 => by rw [hm1 58 (by decide)]; exact hw p hp y1 y2
      refine pj_C121_198 (qf_turnsWY hD (hY.keep hF1.keep) hsb1 he hw1 (fun M2 e' hm2 he' hw' hc' => ?_) (fun M2 hm2 hc' => ?_))
      · refine pj_C121_202 (pj_C121_183 (by omega) (fun z => absurd z (by decide)) (fun _ => ?_))
        exact ih (c + 1) M2 e' m1 (by omega) (hF1.ofr hm2 (by decide) (by decide)) (hmm1.trans hm2 (by decide)) (fun p hp => by rw [hm2 38 (by decide)]; exact hsb1 p hp) he' hw' (by omega) (fun l hl => by rw [hm2 63 (by decide)]; exact hfn1 l hl) hvc1
      · refine pj_C121_202 (pj_C121_183 (by omega) (fun _ => h M2 m1 (hF1.ofr hm2 (by decide) (by decide)) (hmm1.trans hm2 (by decide)) (fun l hl => by rw [hm2 63 (by decide)]; exact hfn1 l hl) ?_) (fun z => absurd rfl z))
        rw [show qf_totW D set = c + 1 by omega]
        exact hvc1
    have same : ∀ e', qf_ev D set e' → qf_codW D set e' = c → ∀ v, qf_run D (qf_roE D set e') v → qf_run D (qf_roE D set e) v := fun e' he' hc' v hv => qf_run_congr hD (qf_codW_inj hD he' he (by omega)) hv
    refine pj_C121_187 (qf_canBeY hD hE hY' (qf_roY_of he hsb hw) (fun hex M1 hm1 hr1 => ?_) (fun hex M1 hm1 hr1 => ?_))
    · refine pj_C121_191 (by omega) (fun z => absurd z (by decide)) (fun _ => pj_C121_194 ?_)
      have e38 : M1 38 = M 38 := hm1 38 (by decide)
      have hR1 : qf_roY D M1 (qf_roE D set e) := (qf_roY_of he hsb hw).keep (by rw [e38]) (by rw [e38]) (hm1 58 (by decide))
      refine qf_collectsY hD hE (hY'.keep (qf_kY.of hm1 (by decide))) hR1 hr1 (m := m) (fun l hl => by rw [hm1 63 (by decide)]; exact hfn l hl) (fun M2 m2 hm2 hf2 hp2 => turn M2 m2 (fun a ha => ?_) hf2 ⟨fun t w ht hw' j => ?_, fun l hl hl2 => ?_⟩)
      · simp only [List.mem_cons, List.not_mem_nil, or_false, not_or] at ha
        rw [hm2 a (by simp only [List.mem_cons, List.not_mem_nil, or_false, not_or]; omega), hm1 a (by simp only [List.mem_cons, List.not_mem_nil, or_false, not_or]; omega)]
      · rw [hp2.1 t w ht hw' j, hvc.1 t w ht hw' j]
        constructor
        · rintro (⟨e', a1, a2, a3⟩ | ⟨v, a1, a2⟩)
          · exact ⟨e', a1, by omega, a3⟩
          · exact ⟨e, he, by omega, v, a1, a2⟩
        · rintro ⟨e', a1, a2, v, a3, a4⟩
          by_cases z : qf_codW D set e' = c
          · exact Or.inr ⟨v, same e' a1 z v a3, a4⟩
          · exact Or.inl ⟨e', a1, by omega, v, a3, a4⟩
      · rw [hp2.2 l hl hl2]
        exact hvc.2 l hl hl2
    · refine pj_C121_191 (by omega) (fun _ => turn M1 m (hm1.wide (by decide)) (fun l hl => by rw [hm1 63 (by decide)]; exact hfn l hl) ⟨fun t w ht hw' j => ?_, hvc.2⟩) (fun z => absurd rfl z)
      rw [hvc.1 t w ht hw' j]
      constructor
      · rintro ⟨e', a1, a2, a3⟩
        exact ⟨e', a1, by omega, a3⟩
      · rintro ⟨e', a1, a2, v, a3, a4⟩
        by_cases z : qf_codW D set e' = c
        · exact absurd ⟨v, same e' a1 z v a3⟩ hex
        · exact ⟨e', a1, by omega, v, a3, a4⟩
/-- all values are found -/
theorem qf_findY_vals (hD : qf_okD D) (hE : qf_okE D) (hY : qf_Y D M0) (hlen : M0 38 34 = ((qf_sl D).length : Int)) (hls : qf_lst M0 64 (qf_sl D))
    (h : ∀ M', qf_frF M0 M' → M' 38 35 = M0 38 35 → qf_FY D M' → Q none M') : ∀ (r n : Nat) (M : pj_M), n + r = (qf_sl D).length → qf_frF M0 M → M 38 34 = M0 38 34 → M 38 35 = M0 38 35 → M 64 = M0 64 → (∀ i, i < n → ∀ k, k < 42 → M 65 (42 * i + k) = (qf_vm D ((qf_sl D).getD i 0) k : Int)) → pj_G L (d + 6 + 1) 121 142 [pj_vR 38, pj_vU, pj_vI (n : Int), pj_vU, pj_vU] [] M Q := by
  intro r
  have hl35 := qf_sl_len D
  have hb := hD.b
  induction r with
  | zero =>
    intro n M en hm e34 e35 e64 a
    refine pj_C121_142 (by omega) (by omega) (fun _ => pj_C121_247 (h M hm e35 ⟨by omega, fun i hi => by rw [e64]; exact hls i hi, fun i hi => a i (by omega)⟩)) (fun c => by omega)
  | succ r ih =>
    intro n M en hm e34 e35 e64 a
    refine pj_C121_142 (by omega) (by omega) (fun c => by omega) (fun _ => pj_C121_150 ?_)
    have hset : (qf_sl D).getD n 0 < 128 := qf_sl_lt (qf_lst_mem.mpr ⟨n, by omega, rfl⟩)
    -- the found numbers are copied
    have copy : ∀ (M1 : pj_M) (m : Nat → Nat), qf_frF M0 M1 → M1 38 34 = M0 38 34 → M1 38 35 = M0 38 35 → M1 64 = M0 64 → M1 65 = M 65 → qf_fnd M1 63 m → (∀ k, k < 42 → m k = qf_vm D ((qf_sl D).getD n 0) k) → ∀ (q k : Nat) (M2 : pj_M), k + q = 42 → qf_fr [65] M1 M2 → (∀ j, j < 42 * n → M2 65 j = M 65 j) → (∀ j, j < k → M2 65 (42 * n + j) = (qf_vm D ((qf_sl D).getD n 0) j : Int)) → pj_G L (d + 6 + 1) 121 209 [pj_vR 38, pj_vU, pj_vI (n : Int), pj_vU, pj_vI (k : Int)] [] M2 Q := by
      intro M1 m hm1 f34 f35 f64 f65 hfn hv q
      induction q with
      | zero =>
        intro k M2 ek hm2 c1 c2
        refine pj_C121_209 (by omega) (fun _ => pj_C121_241 ?_) (fun c => by omega)
        refine ih (n + 1) M2 (by omega) (hm1.ofr hm2 (by decide) (by decide)) (by rw [hm2 38 (by decide)]; exact f34) (by rw [hm2 38 (by decide)]; exact f35) (by rw [hm2 64 (by decide)]; exact f64) (fun i hi j hj => ?_)
        by_cases ei : i = n
        · rw [ei]
          exact c2 j (by omega)
        · rw [c1 _ (by omega)]
          exact a i (by omega) j hj
      | succ q ih2 =>
        intro k M2 ek hm2 c1 c2
        have e63 : M2 63 k = (m k : Int) := by rw [hm2 63 (by decide)]; exact (hfn k (by omega)).1
        refine pj_C121_209 (by omega) (fun c => by omega) (fun _ => pj_C121_216 k (42 * n + k) rfl (by omega) (by omega) (by omega) ?_)
        refine ih2 (k + 1) _ (by omega) (hm2.up (by decide)) (fun j hj => ?_) (fun j hj => ?_)
        · rw [pj_up_slot (by omega)]
          exact c1 j hj
        · by_cases ej : j = k
          · rw [ej, pj_up_same, e63, hv k (by omega)]
          · rw [pj_up_slot (by omega)]
            exact c2 j (by omega)
    -- the row of found numbers is cleared
    have zero : ∀ (q k : Nat) (M1 : pj_M), k + q = 42 → qf_fr [63] M M1 → (∀ j, j < k → M1 63 j = 0) → pj_G L (d + 6 + 1) 121 152 [pj_vR 38, pj_vU, pj_vI (n : Int), pj_vI (k : Int), pj_vU] [] M1 Q := by
      intro q
      induction q with
      | zero =>
        intro k M1 ek hm1 c1
        have hF1 : qf_frF M0 M1 := hm.ofr hm1 (by decide) (by decide)
        refine pj_C121_152 (by omega) (fun _ => pj_C121_171 n rfl (by omega) ?_) (fun c => by omega)
        have e64' : M1 64 n = ((qf_sl D).getD n 0 : Int) := by
          rw [hm1 64 (by decide), e64]
          exact hls n (by omega)
        rw [e64']
        refine qf_beginsY hD (hY.keep hF1.keep) hset (fun M2 e hm2 hs2 hsb he hw hc => ?_)
        have hF2 : qf_frF M0 M2 := ⟨hF1.1.trans hm2 (by decide), hF1.2.trans hs2 (by decide)⟩
        refine pj_C121_181 (pj_C121_183 (by omega) (fun z => absurd z (by decide)) (fun _ => ?_))
        refine qf_findY_ways (d := d + 1) (M0 := M2) hD hE (hY.keep hF2.keep) (fun M3 m hm3 hfr3 hfn3 hvc3 => pj_C121_206 ?_) (qf_totW D ((qf_sl D).getD n 0)) 0 M2 e (fun _ => 0) (by omega) qf_frF.refl qf_fr.refl hsb he hw hc (fun l hl => ⟨?_, show 0 < 8 by omega⟩) ⟨fun t w ht hw' j => ?_, fun l hl _ => rfl⟩
        · have s38 : M3 38 = M2 38 := hfr3 38 (by decide)
          refine copy M3 m (hF2.trans hm3) ?_ ?_ ?_ ?_ hfn3 (qf_vc_vm hD hvc3 (fun l hl => (hfn3 l hl).2)) 42 0 M3 (by omega) qf_fr.refl (fun j _ => ?_) (fun j hj => absurd hj (by omega))
          · rw [s38, hs2 34 (by decide), hm1 38 (by decide)]; exact e34
          · rw [s38, hs2 35 (by decide), hm1 38 (by decide)]; exact e35
          · rw [hfr3 64 (by decide), hm2 64 (by decide), hm1 64 (by decide)]; exact e64
          · rw [hfr3 65 (by decide), hm2 65 (by decide), hm1 65 (by decide)]
          · rw [hfr3 65 (by decide), hm2 65 (by decide), hm1 65 (by decide)]
        · rw [hm2 63 (by decide)]
          exact c1 l (by omega)
        · rw [Nat.zero_testBit]
          constructor
          · intro z
            cases z
          · rintro ⟨e', -, z, -⟩
            omega
      | succ q ih2 =>
        intro k M1 ek hm1 c1
        refine pj_C121_152 (by omega) (fun c => by omega) (fun _ => pj_C121_158 k rfl (by omega) (ih2 (k + 1) _ (by omega) (hm1.up (by decide)) (fun j hj => ?_)))
        by_cases ej : j = k
        · rw [ej, pj_up_same]
        · rw [pj_up_slot ej]
          exact c1 j (by omega)
    exact zero 42 0 M (by omega) qf_fr.refl (fun j hj => absurd hj (by omega))
/-- the sets are gone through -/
theorem qf_findY_sets (hD : qf_okD D) (hE : qf_okE D) (hY : qf_Y D M0)
    (h : ∀ M', qf_frF M0 M' → M' 38 35 = M0 38 35 → M' 38 34 = ((qf_sl D).length : Int) → qf_lst M' 64 (qf_sl D) → pj_G L (d + 6 + 1) 121 140 [pj_vR 38, pj_vU, pj_vU, pj_vU, pj_vU] [] M' Q) : ∀ (r z : Nat) (M : pj_M), z + r = 4 → qf_frF M0 M → M 38 35 = M0 38 35 → M 38 34 = ((qf_fm (qf_agr D) (qf_may D) (qf_cb z 0)).length : Int) → qf_lst M 64 (qf_fm (qf_agr D) (qf_may D) (qf_cb z 0)) → pj_G L (d + 6 + 1) 121 56 [pj_vR 38, pj_vI (qf_may D : Int), pj_vI (z : Int), pj_vU, pj_vU] [] M Q := by
  intro r
  have hb := hD.b
  have hmay : qf_may D < 2 ^ qf_dP D := qf_msk_lt _ _
  have hmay7 : qf_may D < 128 := qf_msk_lt7 _ hb.2.1
  have stop : ∀ z, qf_fm (qf_agr D) (qf_may D) (qf_cb z 128) = qf_fm (qf_agr D) (qf_may D) (qf_cb z (2 ^ qf_dP D)) := by
    intro z
    have h2 : 2 ^ qf_dP D ≤ 128 := (Nat.pow_le_pow_right (show 0 < 2 by omega) (show qf_dP D ≤ 7 by omega) : 2 ^ qf_dP D ≤ 2 ^ 7)
    refine qf_fm_stop (128 - 2 ^ qf_dP D) (2 ^ qf_dP D) (by omega) (fun s h1 h3 hmin => ?_)
    have := qf_sub_le hmin.1 hmay7 hmin.2.1
    omega
  induction r with
  | zero =>
    intro z M ez hm e35 e34 hl
    obtain rfl : z = 4 := by omega
    rw [qf_cb_next] at e34 hl
    exact pj_C121_56 (by omega) (fun _ => h M hm e35 e34 hl) (fun c => by omega)
  | succ r ih =>
    intro z M ez hm e35 e34 hl
    refine pj_C121_56 (by omega) (fun c => by omega) (fun _ => pj_C121_61 ?_)
    have inner : ∀ (q n : Nat) (M1 : pj_M), n + q = 2 ^ qf_dP D → qf_frF M0 M1 → M1 38 35 = M0 38 35 → M1 38 34 = ((qf_fm (qf_agr D) (qf_may D) (qf_cb z n)).length : Int) → qf_lst M1 64 (qf_fm (qf_agr D) (qf_may D) (qf_cb z n)) → pj_G L (d + 6 + 1) 121 63 [pj_vR 38, pj_vI (qf_may D : Int), pj_vI (z : Int), pj_vI (n : Int), pj_vU] [] M1 Q := by
      intro q
      induction q with
      | zero =>
        intro n M1 en hm1 f35 f34 f64
        have hsh := qf_shl_P hD (hY.keep hm1.keep : qf_Y D M1)
        obtain rfl : n = 2 ^ qf_dP D := by omega
        refine pj_C121_63 (by omega) (fun _ => pj_C121_134 (ih (z + 1) M1 (by omega) hm1 f35 ?_ ?_)) (fun c => by omega)
        · rw [qf_cb_next, stop]
          exact f34
        · rw [qf_cb_next, stop]
          exact f64
      | succ q ih2 =>
        intro n M1 en hm1 f35 f34 f64
        have hY1 : qf_Y D M1 := hY.keep hm1.keep
        have hsh := qf_shl_P hD hY1
        have hn : n < 128 := by omega
        have hnd := qf_cb_nodup z n
        have hlen := qf_fm_len (A := qf_agr D) (m := qf_may D) hnd
        have hx : ∀ x ∈ qf_fm (qf_agr D) (qf_may D) (qf_cb z n), x < 128 := fun x hx => (qf_fm_mem.mp hx).2.1
        have hp7 := qf_pop_le ⟨n, hn⟩
        dsimp only at hp7
        -- no story: go on
        have skip : ∀ M2, qf_frF M0 M2 → M2 38 35 = M0 38 35 → M2 38 34 = M1 38 34 → M2 64 = M1 64 → (qf_pop n = z → ¬ qf_min (qf_agr D) (qf_may D) n) → pj_G L (d + 6 + 1) 121 128 [pj_vR 38, pj_vI (qf_may D : Int), pj_vI (z : Int), pj_vI (n : Int), pj_vU] [] M2 Q := by
          intro M2 hm2 g35 g34 g64 hno
          have e1 : qf_fm (qf_agr D) (qf_may D) (qf_cb z (n + 1)) = qf_fm (qf_agr D) (qf_may D) (qf_cb z n) := by
            by_cases y : qf_pop n = z
            · rw [qf_cb_yes y, qf_fm_app, qf_fm_no (hno y), List.append_nil]
            · rw [qf_cb_not y]
          refine pj_C121_128 (ih2 (n + 1) M2 (by omega) hm2 g35 ?_ ?_)
          · rw [e1, g34]; exact f34
          · rw [e1]
            intro i hi
            rw [g64]
            exact f64 i hi
        refine pj_C121_63 (by omega) (fun c => by omega) (fun _ => pj_C121_73 (qf_manyY hn ?_))
        refine pj_C121_77 (by omega) (by omega) (fun c => skip M1 hm1 f35 rfl rfl (fun y => by omega)) (fun c => ?_)
        have hz : qf_pop n = z := by omega
        refine pj_C121_81 (fun c2 => skip M1 hm1 f35 rfl rfl (fun _ hmin => ?_)) (fun c2 => ?_)
        · exact c2 ((qf_andn hn hmay7).mpr hmin.2.1)
        · have hsub := (qf_andn hn hmay7).mp c2
          have hstep := qf_min_step (A := qf_agr D) (m := qf_may D) hn hz hsub
          refine pj_C121_89 (qf_hasStoryY hn (by omega) f34 f64 hx (fun hhas => ?_) (fun hhas => ?_))
          · refine pj_C121_94 (by omega) (fun _ => skip M1 hm1 f35 rfl rfl (fun _ hmin => ?_)) (fun y => absurd y (by decide))
            obtain ⟨a, ha1, ha2⟩ := hhas
            exact (hstep.mpr hmin).2 a ha1 ha2
          · refine pj_C121_94 (by omega) (fun y => absurd rfl y) (fun _ => pj_C121_97 ?_)
            refine qf_agreesY hD hE hY1 hn (fun hag M2 hm2 => ?_) (fun hag M2 hm2 => ?_)
            · have hmin := hstep.mp ⟨hag, hhas⟩
              have hF2 : qf_frF M0 M2 := hm1.ofA hm2 (by decide)
              have g34 : M2 38 34 = ((qf_fm (qf_agr D) (qf_may D) (qf_cb z n)).length : Int) := by rw [hm2.2 34 (by decide)]; exact f34
              refine pj_C121_102 (by omega) (fun _ => pj_C121_108 (qf_fm (qf_agr D) (qf_may D) (qf_cb z n)).length g34 (by omega) (pj_C121_128 ?_)) (fun y => absurd y (by decide))
              have e1 : qf_fm (qf_agr D) (qf_may D) (qf_cb z (n + 1)) = qf_fm (qf_agr D) (qf_may D) (qf_cb z n) ++ [n] := by
                rw [qf_cb_yes hz, qf_fm_app, qf_fm_one hmin]
              refine ih2 (n + 1) _ (by omega) ⟨(hF2.1.up (by decide)).up (by decide), (hF2.2.else (by decide)).up (by decide)⟩ ?_ ?_ ?_
              · rw [pj_up_slot (by decide), pj_up_else (by decide), hm2.2 35 (by decide)]
                exact f35
              · rw [pj_up_same, g34, e1, List.length_append, List.length_singleton]
                omega
              · rw [e1]
                have := qf_lst_app (x := n) (fun i hi => by rw [hm2.1 64 (by decide)]; exact f64 i hi : qf_lst M2 64 (qf_fm (qf_agr D) (qf_may D) (qf_cb z n)))
                intro i hi
                rw [pj_up_else (by decide)]
                exact this i hi
            · refine pj_C121_102 (by omega) (fun y => absurd rfl y) (fun _ => pj_C121_105 ?_)
              refine skip M2 (hm1.ofA hm2 (by decide)) ?_ (hm2.2 34 (by decide)) (hm2.1 64 (by decide)) (fun _ hmin => hag hmin.2.2.1)
              rw [hm2.2 35 (by decide)]
              exact f35
    exact inner (2 ^ qf_dP D) 0 M (by omega) hm e35 e34 hl
theorem qf_findY (hD : qf_okD D) (hE : qf_okE D) (hY : qf_Y D M0) (hf : M0 38 35 = 0 ∨ (M0 38 35 = 1 ∧ qf_FY D M0))
    (h : ∀ M', qf_frF M0 M' → M' 38 35 = 1 → qf_FY D M' → Q none M') : pj_G L (d + 6 + 1) 121 0 [pj_vR 38, pj_vU, pj_vU, pj_vU, pj_vU] [] M0 Q := by
  have hb := hD.b
  refine pj_C121_0 (by omega) (fun c => pj_C121_8 ?_) (fun c => pj_C121_7 ?_)
  · have hF : qf_frF M0 (pj_up (pj_up M0 38 35 1) 38 34 0) := ⟨(qf_fr.refl.up (by decide)).up (by decide), (qf_fs.refl.up (by decide)).up (by decide)⟩
    have hY1 : qf_Y D (pj_up (pj_up M0 38 35 1) 38 34 0) := hY.keep hF.keep
    have e35 : (pj_up (pj_up M0 38 35 1) 38 34 0) 38 35 = 1 := by rw [pj_up_slot (by decide), pj_up_same]
    have e34 : (pj_up (pj_up M0 38 35 1) 38 34 0) 38 34 = 0 := pj_up_same
    have may : ∀ (r n : Nat), n + r = qf_dP D → pj_G L (d + 6 + 1) 121 22 [pj_vR 38, pj_vI (qf_msk (qf_mayc D) n : Int), pj_vI (n : Int), pj_vU, pj_vU] [] (pj_up (pj_up M0 38 35 1) 38 34 0) Q := by
      intro r
      have hP := hY1.P
      induction r with
      | zero =>
        intro n en
        obtain rfl : n = qf_dP D := by omega
        refine pj_C121_22 (by omega) (by omega) (fun _ => pj_C121_54 ?_) (fun c => by omega)
        refine qf_findY_sets (M0 := pj_up (pj_up M0 38 35 1) 38 34 0) hD hE hY1 (fun M' hm' f35 f34 f64 => pj_C121_140 ?_) 4 0 _ (by omega) qf_frF.refl rfl e34 (fun i hi => absurd hi (Nat.not_lt_zero i))
        refine qf_findY_vals (M0 := M') hD hE (hY1.keep hm'.keep) f34 f64 (fun M2 hm2 g35 hFY => h M2 ((hF.trans hm').trans hm2) ?_ hFY) (qf_sl D).length 0 M' (by omega) qf_frF.refl rfl rfl rfl (fun i hi => absurd hi (by omega))
        rw [g35, f35, e35]
      | succ r ih =>
        intro n en
        have hm1 : qf_msk (qf_mayc D) n < 128 := qf_msk_lt7 _ (by omega)
        refine pj_C121_22 (by omega) (by omega) (fun c => by omega) (fun _ => pj_C121_30 ?_)
        refine qf_mayBreakY hD hE hY1 (by omega) (fun hc => ?_) (fun hc => ?_)
        · refine pj_C121_36 (by omega) (fun z => absurd z (by decide)) (fun _ => pj_C121_39 (pj_C121_46 ?_))
          have e1 : pj_or (qf_msk (qf_mayc D) n : Int) (pj_shl 1 (n : Int)) = (qf_msk (qf_mayc D) (n + 1) : Int) := by
            rw [pj_shl1_nat (by omega), qf_or_nat (by omega) (Nat.lt_of_le_of_lt (Nat.pow_le_pow_right (show 0 < 2 by omega) (show n ≤ 7 by omega) : 2 ^ n ≤ 2 ^ 7) (by omega)), qf_msk, if_pos hc]
          rw [e1]
          exact ih (n + 1) (by omega)
        · refine pj_C121_36 (by omega) (fun _ => pj_C121_45 (pj_C121_46 ?_)) (fun z => absurd rfl z)
          have e1 : pj_or (qf_msk (qf_mayc D) n : Int) 0 = (qf_msk (qf_mayc D) (n + 1) : Int) := by
            have := qf_or_nat (a := qf_msk (qf_mayc D) n) (b := 0) (by omega) (by omega)
            rw [Nat.or_zero] at this
            rw [qf_msk, hc, if_neg (by decide)]
            exact this
          rw [e1]
          exact ih (n + 1) (by omega)
    exact may (qf_dP D) 0 (by omega)
  · rcases hf with z | z
    · exact absurd z c
    · exact h M0 qf_frF.refl z.1 z.2
end QFI
