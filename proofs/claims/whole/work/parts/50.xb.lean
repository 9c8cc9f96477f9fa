/-! THE CLASS: walk. -/
section QFXB
variable {L : Nat} {D : qf_D} {ro : Nat → Nat} {N : Nat → Bool} {e t : Nat} {b : Nat → Nat}
/-- what walk leaves, from a place of the order on -/
def qf_frW (D : qf_D) (t a : Nat) (M M' : pj_M) : Prop := qf_fr [31, 33, 35] M M' ∧ qf_fs 31 [12] M M' ∧ ∀ l, (∀ i, a ≤ i → i < qf_dP D → l ≠ 14 * t + qf_wo D (qf_or0 D i)) → M' 33 l = M 33 l
theorem qf_frW.refl {a : Nat} {M : pj_M} : qf_frW D t a M M := ⟨qf_fr.refl, qf_fs.refl, fun _ _ => rfl⟩
theorem qf_frW.trans {a a' : Nat} {M M' M'' : pj_M} (h : qf_frW D t a M M') (h' : qf_frW D t a' M' M'') (ha : a ≤ a') : qf_frW D t a M M'' := ⟨h.1.trans h'.1 (fun _ z => z), h.2.1.trans h'.2.1 (fun _ z => z), fun l hl => (h'.2.2 l (fun i h1 h2 => hl i (by omega) h2)).trans (h.2.2 l hl)⟩
theorem qf_frW.put {a : Nat} {M M' : pj_M} (ha : a < qf_dP D) (h : qf_frW D t a M M') {x : Int} : qf_frW D t a M (pj_up M' 33 (14 * t + qf_wo D (qf_or0 D a)) x) := by
  refine ⟨h.1.up (by decide), h.2.1.else (by decide), fun l hl => ?_⟩
  rw [pj_up_slot (hl a (Nat.le_refl _) ha)]
  exact h.2.2 l hl
theorem qf_mo.keep {M M' : pj_M} {a : Nat} (h : qf_mo D ro N t b M) (hm : qf_frW D t a M M') : qf_mo D ro N t b M' := by
  refine ⟨h.1.keep (qf_kX.of hm.1 (by decide)), ?_, ?_, ?_, ?_⟩
  · rw [hm.2.1 9 (by decide)]; exact h.2.1
  · rw [hm.2.1 10 (by decide)]; exact h.2.2.1
  · rw [hm.1 32 (by decide)]; exact h.2.2.2.1
  · rw [hm.1 34 (by decide)]; exact h.2.2.2.2
theorem qf_bas_ne (hD : qf_okD D) {a i w : Nat} (hw : qf_bas D N a w) (h1 : a ≤ i) (h2 : i < qf_dP D) : w ≠ qf_wo D (qf_or0 D i) := by
  intro z
  rcases hw with ⟨-, h | ⟨j, h3, h4, -⟩⟩
  · have := (hD.pt _ (hD.or i h2)).2.1
    rw [← z] at this
    omega
  · have := hD.os j i (by omega) h2
    omega
theorem qf_now.keep (hD : qf_okD D) {M M' : pj_M} {a : Nat} {u : Nat → Nat} (h : qf_now D N t a u M) (hm : qf_frW D t a M M') : qf_now D N t a u M' := by
  intro w hw
  rw [hm.2.2 _ (fun i h1 h2 z => qf_bas_ne hD hw h1 h2 (by omega))]
  exact h w hw
/-- a number put: known from then on -/
theorem qf_now.put (hD : qf_okD D) {M : pj_M} {a v : Nat} {u : Nat → Nat} (ha : a < qf_dP D) (h : qf_now D N t a u M) (hv : v < 3) : qf_now D N t (a + 1) (fun w => if w = qf_wo D (qf_or0 D a) then v else u w) (pj_up M 33 (14 * t + qf_wo D (qf_or0 D a)) (v : Int)) := by
  intro w hw
  dsimp only
  by_cases z : w = qf_wo D (qf_or0 D a)
  · rw [if_pos z, z, pj_up_same]
    exact ⟨rfl, hv⟩
  · rw [if_neg z, pj_up_slot (by omega)]
    rcases qf_bas_succ.mp hw with h1 | ⟨-, h1, -⟩
    · exact h w h1
    · exact absurd h1 z
theorem qf_walkX (hD : qf_okD D) (hc : qf_cl1 D N) (he : e ≤ qf_dP D) (hrk : qf_rok D ro) (h16 : ∀ p, p < qf_dP D → ro p = 16 → qf_kd D p ≠ 4) (ht : t < 3)
    {J : ((Nat → Nat) → Prop) → pj_M → Prop}
    (hJ1 : ∀ S M M', J S M → qf_fr [33] M M' → J S M')
    (hJ2 : ∀ S S' M, (∀ u, S u ↔ S' u) → J S M → J S' M)
    (harr : ∀ (d : Nat) (S : (Nat → Nat) → Prop) (M : pj_M) (u : Nat → Nat) (Q : Option pj_V → pj_M → Prop), J S M → qf_mo D ro N t b M → qf_now D N t e u M → (∀ (M' : pj_M) (x : Int), (x = 0 ∨ x = 1) → qf_fr [31, 35] M M' → qf_fs 31 [12] M M' → J (fun u' => S u' ∨ qf_ext D ro N e t b e u u') M' → (x = 1 → ∀ S', (∀ u', (S u' ∨ qf_ext D ro N e t b e u u') → S' u') → J S' M') → Q (some (pj_vI x)) M') → pj_G L (d + 2) 21 0 [pj_vR 31, pj_vU, pj_vU, pj_vU] [] M Q) : ∀ (r a d : Nat) (M : pj_M) (u : Nat → Nat) (S : (Nat → Nat) → Prop) (Q : Option pj_V → pj_M → Prop), a + r = e → J S M → qf_mo D ro N t b M → qf_now D N t a u M → (∀ (M' : pj_M) (x : Int), (x = 0 ∨ x = 1) → qf_frW D t a M M' → J (fun u' => S u' ∨ qf_ext D ro N e t b a u u') M' → (x = 1 → ∀ S', (∀ u', (S u' ∨ qf_ext D ro N e t b a u u') → S' u') → J S' M') → Q (some (pj_vI x)) M') → pj_G L (d + r + 3) 20 2 [pj_vR 31, pj_vU, pj_vI (e : Int), pj_vI (a : Int), pj_vU, pj_vU, pj_vU, pj_vU, pj_vU, pj_vU] [] M Q := by
  intro r
  have hb14 := hD.b
  induction r with
  | zero =>
    intro a d M u S Q ea hJ hmo hnow hq
    obtain rfl : a = e := by omega
    refine pj_C20_2 (by omega) (by omega) (fun _ => pj_C20_224 ?_) (fun c => by omega)
    refine harr d S M u _ hJ hmo hnow (fun M' x hx hm hs hJ' hJ1' => pj_C20_228 hx (hq M' x hx ⟨hm.wide (by decide), hs, fun l _ => ?_⟩ hJ' hJ1'))
    rw [hm 33 (by decide)]
  | succ r ih =>
    intro a d M u S Q ea hJ hmo hnow hq
    have ha : a < qf_dP D := by omega
    have hp := hD.or a ha
    have hpt := hD.pt _ hp
    have hX := hmo.1
    have eo := hX.or a ha
    have ew := hX.wo _ hp
    have hW : qf_wo D (qf_or0 D a) < 14 := by omega
    have hro := hmo.2.2.2.1 _ hp
    have hrr := hrk _ hp
    have hrg := hD.rg _ hpt.1
    have erg := hX.rg _ hpt.1
    refine pj_C20_2 (by omega) (by omega) (fun c => by omega) (fun _ => ?_)
    refine pj_C20_7 a (qf_or0 D a) (qf_wo D (qf_or0 D a)) rfl (by omega) eo (by omega) ew (by omega) (fun c => ?_) (fun c => ?_)
    · rw [hmo.2.2.1 _ hW] at c
      have hcl := hc _ hp c
      -- the inputs of the part are known
      have hx : qf_kd D (qf_or0 D a) ≠ 3 → M 33 (14 * t + qf_dx D (qf_or0 D a)) = (u (qf_dx D (qf_or0 D a)) : Int) ∧ u (qf_dx D (qf_or0 D a)) < 3 := fun hk => hnow _ (qf_bas_in hD hc ha (hpt.2.2.2.2.1 hk) (hcl.1 hk))
      have hy : qf_kd D (qf_or0 D a) ≤ 2 → M 33 (14 * t + qf_dy D (qf_or0 D a)) = (u (qf_dy D (qf_or0 D a)) : Int) ∧ u (qf_dy D (qf_or0 D a)) < 3 := fun hk => hnow _ (qf_bas_in hD hc ha (hpt.2.2.2.2.2.1 hk) (hcl.2 hk))
      have hmet : qf_met D (qf_wo D (qf_or0 D a)) = decide (qf_kd D (qf_or0 D a) = 4) := by
        unfold qf_met
        rw [hpt.2.1, Nat.add_sub_cancel]
        exact decide_eq_decide.mpr ⟨fun z => z.2, fun z => ⟨by omega, z⟩⟩
      -- on with one number
      have put : ∀ v : Nat, v < 3 → qf_gz D ro b u (qf_or0 D a) v → qf_fit D t (qf_wo D (qf_or0 D a)) v → (∀ z, qf_gz D ro b u (qf_or0 D a) z → qf_fit D t (qf_wo D (qf_or0 D a)) z → z = v) → pj_G L (d + (r + 1) + 3) 20 209 [pj_vR 31, pj_vU, pj_vI (e : Int), pj_vI (a : Int), pj_vU, pj_vU, pj_vI (M 31 9 * 14 + M 10 (qf_or0 D a)), pj_vU, pj_vI (v : Int), pj_vU] [] M Q := by
        intro v hv hg hf huni
        have h9 := hmo.2.1
        refine pj_C20_209 (14 * t + qf_wo D (qf_or0 D a)) (by omega) (by omega) (pj_C20_218 ?_)
        have hfr : qf_frW D t a M (pj_up M 33 (14 * t + qf_wo D (qf_or0 D a)) (v : Int)) := qf_frW.put ha qf_frW.refl
        have := ih (a + 1) (d + 1) (pj_up M 33 (14 * t + qf_wo D (qf_or0 D a)) (v : Int)) (fun w => if w = qf_wo D (qf_or0 D a) then v else u w) S Q (by omega) (hJ1 S M _ hJ (qf_fr.refl.up (by decide))) (hmo.keep hfr) (qf_now.put hD ha hnow hv) (fun M' x hx' hm' hJ' hJ1' => ?_)
        · rw [show d + 1 + r + 3 = d + (r + 1) + 3 by omega] at this
          exact this
        · have hiff : ∀ u', qf_ext D ro N e t b (a + 1) (fun w => if w = qf_wo D (qf_or0 D a) then v else u w) u' ↔ qf_ext D ro N e t b a u u' := by
            intro u'
            rw [qf_ext_put hD hc (by omega) he c hg hf]
            refine ⟨fun z => z.1, fun z => ⟨z, ?_⟩⟩
            have hs := z.2 a (Nat.le_refl _) (by omega) c
            refine huni _ (qf_gz_congr (fun _ _ => rfl) (fun hk => ?_) (fun hk => ?_) hs.1) hs.2
            · exact z.1 _ (qf_bas_in hD hc ha (hpt.2.2.2.2.1 hk) (hcl.1 hk))
            · exact z.1 _ (qf_bas_in hD hc ha (hpt.2.2.2.2.2.1 hk) (hcl.2 hk))
          refine hq M' x hx' (hfr.trans hm' (by omega)) (hJ2 _ _ _ (fun u' => by rw [hiff u']) hJ') (fun z S' hS' => hJ1' z S' (fun u' hu' => hS' u' ?_))
          rw [hiff u'] at hu'
          exact hu'
      -- no number will do
      have dead : (∀ z, qf_gz D ro b u (qf_or0 D a) z → ¬ qf_fit D t (qf_wo D (qf_or0 D a)) z) → pj_G L (d + (r + 1) + 3) 20 207 [pj_vU, pj_vU, pj_vU, pj_vU, pj_vU, pj_vU, pj_vU, pj_vU, pj_vU, pj_vU] [] M Q := by
        intro hno
        refine pj_C20_207 (hq M 0 (Or.inl rfl) qf_frW.refl (hJ2 S _ M (fun u' => ⟨fun z => Or.inl z, ?_⟩) hJ) (fun z => absurd z (by decide)))
        rintro (z | z)
        · exact z
        · exfalso
          have hs := z.2 a (Nat.le_refl _) (by omega) c
          refine hno _ (qf_gz_congr (fun _ _ => rfl) (fun hk => ?_) (fun hk => ?_) hs.1) hs.2
          · exact z.1 _ (qf_bas_in hD hc ha (hpt.2.2.2.2.1 hk) (hcl.1 hk))
          · exact z.1 _ (qf_bas_in hD hc ha (hpt.2.2.2.2.2.1 hk) (hcl.2 hk))
      -- a number is held against what was seen
      have check : ∀ v : Nat, v < 3 → qf_gz D ro b u (qf_or0 D a) v → (∀ z, qf_gz D ro b u (qf_or0 D a) z → qf_fit D t (qf_wo D (qf_or0 D a)) z → z = v) → pj_G L (d + (r + 1) + 3) 20 158 [pj_vR 31, pj_vU, pj_vI (e : Int), pj_vI (a : Int), pj_vI (M 17 a), pj_vU, pj_vI (M 31 9 * 14 + M 10 (qf_or0 D a)), pj_vI (M 21 (14 * t + qf_wo D (qf_or0 D a))), pj_vU, pj_vU] [pj_vI (v : Int)] M Q := by
        intro v hv hg huni
        have ekd := hX.kd _ hp
        have near : ∀ s, (∀ z, qf_fit D t (qf_wo D (qf_or0 D a)) z ↔ qf_near D (qf_wo D (qf_or0 D a)) z s) → ∀ off : Nat, (off = if qf_kd D (qf_or0 D a) = 4 then 1 else 0) → (qf_fit D t (qf_wo D (qf_or0 D a)) v ↔ v ≤ s + off ∧ s ≤ v + off) := by
          intro s hs off ho
          rw [hs v]
          unfold qf_near
          rw [hmet]
          by_cases k4 : qf_kd D (qf_or0 D a) = 4
          · rw [decide_eq_true k4, if_pos rfl, ho, if_pos k4]
          · rw [decide_eq_false k4, if_neg (by decide), ho, if_neg k4]
            omega
        have fin : ∀ off : Nat, (off = if qf_kd D (qf_or0 D a) = 4 then 1 else 0) → pj_G L (d + (r + 1) + 3) 20 179 [pj_vR 31, pj_vU, pj_vI (e : Int), pj_vI (a : Int), pj_vU, pj_vU, pj_vI (M 31 9 * 14 + M 10 (qf_or0 D a)), pj_vI (M 21 (14 * t + qf_wo D (qf_or0 D a))), pj_vI (v : Int), pj_vU] [pj_vI (off : Int)] M Q := by
          intro off ho
          have hoff : off ≤ 1 := by rw [ho]; split <;> omega
          rcases qf_seenX hD hX ht hW with ⟨h1, h2⟩ | ⟨s, h1, h2, h3, h4⟩
          · exact pj_C20_179 (by omega) (fun _ => put v hv hg (h2 v) huni) (fun z => absurd h1 z)
          · have hnr := near s h4 off ho
            have one : ¬ qf_fit D t (qf_wo D (qf_or0 D a)) v → ∀ z, qf_gz D ro b u (qf_or0 D a) z → ¬ qf_fit D t (qf_wo D (qf_or0 D a)) z := fun hn z hz1 hz2 => hn (huni z hz1 hz2 ▸ hz2)
            refine pj_C20_179 (by omega) (fun z => by omega) (fun _ => pj_C20_187 (by omega) (by omega) (fun z => dead (one (fun y => ?_))) (fun z => pj_C20_197 (by omega) (by omega) (fun z2 => put v hv hg (hnr.mpr ⟨by omega, by omega⟩) huni) (fun z2 => dead (one (fun y => ?_)))))
            · have := hnr.mp y
              omega
            · have := hnr.mp y
              omega
        refine pj_C20_158 (qf_or0 D a) eo (by omega) (by omega) (fun k4 => pj_C20_178 (fin 0 ?_)) (fun k4 => pj_C20_174 (fin 1 ?_))
        · rw [if_neg (by omega)]
        · rw [if_pos (by omega)]
      have h9 := hmo.2.1
      refine pj_C20_45 (14 * t + qf_wo D (qf_or0 D a)) (qf_or0 D a) (by omega) (by omega) eo (by omega) (by omega) (fun cr => ?_) (fun cr => ?_)
      · -- not free
        have nr : ro (qf_or0 D a) ≠ 16 := by omega
        have hgz : ∀ z, qf_gz D ro b u (qf_or0 D a) z ↔ z = qf_gv D (ro (qf_or0 D a)) b u (qf_or0 D a) := by
          intro z
          unfold qf_gz
          rw [if_neg nr]
        have hgl := qf_gv_lt (D := D) (p := qf_or0 D a) (r := ro (qf_or0 D a)) (b := b) (u := u) (by omega) (fun hk => (hmo.2.2.2.2 _ hp hk).2)
        refine pj_C20_135 (qf_or0 D a) eo (by omega) (by omega) (fun _ => pj_C20_152 ?_) (fun z => absurd z cr)
        rw [eo]
        have ck := check (qf_gv D (ro (qf_or0 D a)) b u (qf_or0 D a)) (by omega) ((hgz _).mpr rfl) (fun z hz _ => (hgz z).mp hz)
        rw [eo] at ck
        exact qf_givesX hD hX hp ht h9 hro (by omega) hx hy (fun hk => hmo.2.2.2.2 _ hp hk) ck
      · -- free
        have yr : ro (qf_or0 D a) = 16 := by omega
        have hgz : ∀ z, qf_gz D ro b u (qf_or0 D a) z ↔ z < qf_rg D (qf_wo D (qf_or0 D a)) := by
          intro z
          unfold qf_gz
          rw [if_pos yr]
        rcases qf_seenX hD hX ht hW with ⟨h1, h2⟩ | ⟨s, h1, h2, h3, h4⟩
        · refine pj_C20_81 (by omega) (fun z => absurd h1 z) (fun _ => pj_C20_87 ?_)
          have loop : ∀ (q n : Nat) (M1 : pj_M), n + q = qf_rg D (qf_wo D (qf_or0 D a)) → qf_frW D t a M M1 → J (fun u' => S u' ∨ (qf_ext D ro N e t b a u u' ∧ u' (qf_wo D (qf_or0 D a)) < n)) M1 → pj_G L (d + (r + 1) + 3) 20 90 [pj_vR 31, pj_vU, pj_vI (e : Int), pj_vI (a : Int), pj_vU, pj_vI (M 10 (qf_or0 D a)), pj_vI (M 31 9 * 14 + M 10 (qf_or0 D a)), pj_vU, pj_vI (n : Int), pj_vU] [] M1 Q := by
            intro q
            induction q with
            | zero =>
              intro n M1 en hm1 hJ1n
              have erg1 := (hX.keep (qf_kX.of hm1.1 (by decide)) : qf_X D M1).rg _ hpt.1
              refine pj_C20_90 (qf_wo D (qf_or0 D a)) ew (by omega) (by omega) (by omega) (fun _ => pj_C20_133 (hq M1 0 (Or.inl rfl) hm1 (hJ2 _ _ _ (fun u' => ⟨?_, ?_⟩) hJ1n) (fun z => absurd z (by decide)))) (fun c2 => by omega)
              · rintro (z | z)
                · exact Or.inl z
                · exact Or.inr z.1
              · rintro (z | z)
                · exact Or.inl z
                · refine Or.inr ⟨z, ?_⟩
                  have hs := z.2 a (Nat.le_refl _) (by omega) c
                  have := hs.1
                  unfold qf_gz at this
                  rw [if_pos yr] at this
                  omega
            | succ q ih2 =>
              intro n M1 en hm1 hJ1n
              have erg1 := (hX.keep (qf_kX.of hm1.1 (by decide)) : qf_X D M1).rg _ hpt.1
              refine pj_C20_90 (qf_wo D (qf_or0 D a)) ew (by omega) (by omega) (by omega) (fun c2 => by omega) (fun _ => ?_)
              refine pj_C20_105 (14 * t + qf_wo D (qf_or0 D a)) (by omega) (by omega) (pj_C20_0 ?_)
              have hfr : qf_frW D t a M (pj_up M1 33 (14 * t + qf_wo D (qf_or0 D a)) (n : Int)) := qf_frW.put ha hm1
              have hiff : ∀ u', qf_ext D ro N e t b (a + 1) (fun w => if w = qf_wo D (qf_or0 D a) then n else u w) u' ↔ qf_ext D ro N e t b a u u' ∧ u' (qf_wo D (qf_or0 D a)) = n := fun u' => qf_ext_put hD hc (by omega) he c ((hgz n).mpr (by omega)) (h2 n) u'
              refine ih (a + 1) d _ (fun w => if w = qf_wo D (qf_or0 D a) then n else u w) (fun u' => S u' ∨ (qf_ext D ro N e t b a u u' ∧ u' (qf_wo D (qf_or0 D a)) < n)) _ (by omega) (hJ1 _ M1 _ hJ1n (qf_fr.refl.up (by decide))) (hmo.keep hfr) (qf_now.put hD ha (hnow.keep hD hm1) (by omega)) (fun M' x hx' hm' hJ' hJ1' => ?_)
              refine pj_C20_122 (by omega) (fun z => pj_C20_127 (ih2 (n + 1) M' (by omega) (hfr.trans hm' (by omega)) (hJ2 _ _ _ (fun u' => ?_) hJ'))) (fun z => pj_C20_125 (hq M' 1 (Or.inr rfl) (hfr.trans hm' (by omega)) (hJ1' (by omega) _ (fun u' hu' => ?_)) (fun _ S' hS' => hJ1' (by omega) S' (fun u' hu' => hS' u' ?_))))
              · rw [hiff u']
                constructor
                · rintro ((y | y) | y)
                  · exact Or.inl y
                  · exact Or.inr ⟨y.1, by omega⟩
                  · exact Or.inr ⟨y.1, by omega⟩
                · rintro (y | y)
                  · exact Or.inl (Or.inl y)
                  · by_cases y2 : u' (qf_wo D (qf_or0 D a)) = n
                    · exact Or.inr ⟨y.1, y2⟩
                    · exact Or.inl (Or.inr ⟨y.1, by omega⟩)
              · rcases hu' with (y | y) | y
                · exact Or.inl y
                · exact Or.inr y.1
                · exact Or.inr ((hiff u').mp y).1
              · rcases hu' with (y | y) | y
                · exact Or.inl y
                · exact Or.inr y.1
                · exact Or.inr ((hiff u').mp y).1
          refine loop (qf_rg D (qf_wo D (qf_or0 D a))) 0 M (by omega) qf_frW.refl (hJ2 S _ M (fun u' => ⟨fun z => Or.inl z, ?_⟩) hJ)
          rintro (z | z)
          · exact z
          · exact absurd z.2 (by omega)
        · refine pj_C20_81 (by omega) (fun _ => ?_) (fun z => by omega)
          refine pj_C20_135 (qf_or0 D a) eo (by omega) (by omega) (fun z => absurd cr z) (fun _ => pj_C20_147 ?_)
          have hnm := h16 _ hp yr
          have := check s (by omega) ((hgz s).mpr h2) (fun z _ hz => by
            have h5 := (h4 z).mp hz
            unfold qf_near at h5
            rw [hmet, decide_eq_false hnm, if_neg (by decide)] at h5
            exact h5)
          rw [← h1] at this
          exact this
    · rw [hmo.2.2.1 _ hW] at c
      have := ih (a + 1) (d + 1) M u S Q (by omega) hJ hmo (fun w hw => ?_) (fun M' x hx hm' hJ' hJ1' => ?_)
      · rw [show d + 1 + r + 3 = d + (r + 1) + 3 by omega] at this
        exact pj_C20_42 (pj_C20_218 this)
      · rcases qf_bas_succ.mp hw with h1 | ⟨-, h1, h2⟩
        · exact hnow w h1
        · rw [h1, c] at h2
          cases h2
      · refine hq M' x hx (qf_frW.refl.trans hm' (by omega)) (hJ2 _ _ _ (fun u' => by rw [qf_ext_skip c u']) hJ') (fun z S' hS' => hJ1' z S' (fun u' hu' => hS' u' ?_))
        rw [qf_ext_skip c u'] at hu'
        exact hu'
end QFXB
