/-! SETS of parts as numbers below 128: parts of sets, the least sets of a kind, how many there can be. -/
def qf_sub (a b : Nat) : Prop := ∀ p, p < 7 → a.testBit p = true → b.testBit p = true
def qf_pop (s : Nat) : Nat := s % 2 + s / 2 % 2 + s / 4 % 2 + s / 8 % 2 + s / 16 % 2 + s / 32 % 2 + s / 64 % 2
def qf_chn : List Nat := [0, 1, 2, 3, 4, 5, 6, 7, 8, 9, 10, 11, 12, 13, 14, 14, 15, 16, 17, 18, 19, 20, 21, 21, 22, 23, 24, 24, 22, 23, 22, 22, 25, 26, 27, 28, 29, 30, 31, 31, 32, 33, 34, 34, 32, 33, 32, 32, 25, 26, 27, 28, 29, 30, 29, 29, 25, 26, 27, 27, 25, 26, 25, 25, 0, 1, 2, 3, 4, 5, 6, 7, 8, 9, 10, 11, 12, 13, 12, 12, 15, 16, 17, 18, 19, 20, 19, 19, 15, 16, 17, 17, 15, 16, 15, 15, 0, 1, 2, 3, 4, 5, 6, 6, 8, 9, 10, 10, 8, 9, 8, 8, 0, 1, 2, 3, 4, 5, 4, 4, 0, 1, 2, 2, 0, 1, 0, 0]
theorem qf_sub_iff {a b : Nat} (ha : a < 128) : qf_sub a b ↔ a &&& b = a := by
  constructor
  · intro h
    have hab : a &&& b < 128 := Nat.lt_of_le_of_lt Nat.and_le_left ha
    apply pj_nat_ext hab ha
    intro k hk
    rw [Nat.testBit_and]
    cases h1 : a.testBit k with
    | false => rfl
    | true => rw [h k hk h1]; rfl
  · intro h p _ h1
    rw [← h, Nat.testBit_and, Bool.and_eq_true] at h1
    exact h1.2
theorem qf_sub_refl (a : Nat) : qf_sub a a := fun _ _ h => h
theorem qf_sub_trans {a b c : Nat} (h1 : qf_sub a b) (h2 : qf_sub b c) : qf_sub a c := fun p hp h => h2 p hp (h1 p hp h)
theorem qf_sub_anti {a b : Nat} (ha : a < 128) (hb : b < 128) (h1 : qf_sub a b) (h2 : qf_sub b a) : a = b := by
  apply pj_nat_ext ha hb
  intro k hk
  cases h : a.testBit k with
  | true => exact (h1 k hk h).symm
  | false =>
    cases h' : b.testBit k with
    | false => rfl
    | true => rw [h2 k hk h'] at h; cases h
set_option maxRecDepth 100000 in
theorem qf_pop_all : ∀ a b : Fin 128, a.val &&& b.val = a.val → a.val ≠ b.val → qf_pop a.val < qf_pop b.val ∧ a.val < b.val := by decide +kernel
theorem qf_sub_pop {a b : Nat} (ha : a < 128) (hb : b < 128) (h : qf_sub a b) (hne : a ≠ b) : qf_pop a < qf_pop b ∧ a < b := qf_pop_all ⟨a, ha⟩ ⟨b, hb⟩ ((qf_sub_iff ha).mp h) hne
theorem qf_sub_le {a b : Nat} (ha : a < 128) (hb : b < 128) (h : qf_sub a b) : a ≤ b := by
  by_cases e : a = b
  · omega
  · have := (qf_sub_pop ha hb h e).2
    omega
set_option maxRecDepth 100000 in
theorem qf_chn_all : ∀ a b : Fin 128, qf_chn.getD a.val 0 = qf_chn.getD b.val 0 → a.val &&& b.val = a.val ∨ a.val &&& b.val = b.val := by decide +kernel
set_option maxRecDepth 100000 in
theorem qf_chn_lt : ∀ a : Fin 128, qf_chn.getD a.val 0 < 35 := by decide +kernel
/-- a list of different numbers below n has at most n of them -/
theorem qf_nodup_len : ∀ (n : Nat) (l : List Nat), l.Nodup → (∀ x ∈ l, x < n) → l.length ≤ n
  | 0, l, _, h => by
    cases l with
    | nil => simp
    | cons x l => exact absurd (h x (by simp)) (by omega)
  | n + 1, l, hn, h => by
    have h1 : (l.filter (fun x => decide (x ≠ n))).length ≤ n := qf_nodup_len n _ (hn.filter _) (fun x hx => by
      have h2 := List.mem_filter.mp hx
      have h3 := h x h2.1
      have h4 : x ≠ n := of_decide_eq_true h2.2
      omega)
    have h2 : l.length ≤ (l.filter (fun x => decide (x ≠ n))).length + 1 := by
      clear h h1
      induction l with
      | nil => simp
      | cons x l ih =>
        rw [List.nodup_cons] at hn
        by_cases e : x = n
        · have : l.filter (fun x => decide (x ≠ n)) = l := by
            rw [List.filter_eq_self]
            intro y hy
            have : y ≠ n := fun z => hn.1 (by rw [e, ← z]; exact hy)
            exact decide_eq_true this
          rw [List.filter_cons_of_neg (by simp [e]), this]
          simp
        · rw [List.filter_cons_of_pos (by simp [e])]
          have := ih hn.2
          simp only [List.length_cons]
          omega
    omega
/-- sets none of which holds another: 35 at most -/
theorem qf_sperner (l : List Nat) (hn : l.Nodup) (hl : ∀ x ∈ l, x < 128) (ha : ∀ x ∈ l, ∀ y ∈ l, qf_sub x y → x = y) : l.length ≤ 35 := by
  have h1 : (l.map (fun x => qf_chn.getD x 0)).Nodup := by
    rw [List.Nodup, List.pairwise_map]
    refine List.Pairwise.imp_of_mem (fun {x y} hx hy hxy he => ?_) hn
    rcases qf_chn_all ⟨x, hl x hx⟩ ⟨y, hl y hy⟩ he with h | h
    · exact hxy (ha x hx y hy ((qf_sub_iff (hl x hx)).mpr h))
    · exact hxy (ha y hy x hx ((qf_sub_iff (hl y hy)).mpr (by rw [Nat.and_comm]; exact h))).symm
  have h2 := qf_nodup_len 35 _ h1 (fun x hx => by
    obtain ⟨y, hy, rfl⟩ := List.mem_map.mp hx
    exact qf_chn_lt ⟨y, hl y hy⟩)
  rw [List.length_map] at h2
  exact h2
/-- the least sets with a property, inside a set -/
def qf_min (A : Nat → Prop) (m s : Nat) : Prop := s < 128 ∧ qf_sub s m ∧ A s ∧ ∀ s', s' < 128 → qf_sub s' s → s' ≠ s → ¬ A s'
theorem qf_min_ex {A : Nat → Prop} {m : Nat} : ∀ (n s : Nat), s < n → s < 128 → qf_sub s m → A s → ∃ a, qf_min A m a ∧ qf_sub a s
  | 0, s, h, _, _, _ => absurd h (by omega)
  | n + 1, s, hn, hs, hm, hA => by
    by_cases h : ∃ s', s' < 128 ∧ qf_sub s' s ∧ s' ≠ s ∧ A s'
    · obtain ⟨s', h1, h2, h3, h4⟩ := h
      have := (qf_sub_pop h1 hs h2 h3).2
      obtain ⟨a, b1, b2⟩ := qf_min_ex n s' (by omega) h1 (qf_sub_trans h2 hm) h4
      exact ⟨a, b1, qf_sub_trans b2 h2⟩
    · exact ⟨s, ⟨hs, hm, hA, fun s' h1 h2 h3 h4 => h ⟨s', h1, h2, h3, h4⟩⟩, qf_sub_refl s⟩
theorem qf_min_anti {A : Nat → Prop} {m x y : Nat} (hx : qf_min A m x) (hy : qf_min A m y) (h : qf_sub x y) : x = y := by
  by_cases e : x = y
  · exact e
  · exact absurd hx.2.2.1 (hy.2.2.2 x hx.1 h e)
noncomputable def qf_fm (A : Nat → Prop) (m : Nat) (l : List Nat) : List Nat := l.filter (fun s => @decide (qf_min A m s) (Classical.propDecidable _))
theorem qf_fm_mem {A : Nat → Prop} {m s : Nat} {l : List Nat} : s ∈ qf_fm A m l ↔ s ∈ l ∧ qf_min A m s := by
  unfold qf_fm
  rw [List.mem_filter, @decide_eq_true_iff _ (Classical.propDecidable _)]
theorem qf_fm_app {A : Nat → Prop} {m : Nat} {l l' : List Nat} : qf_fm A m (l ++ l') = qf_fm A m l ++ qf_fm A m l' := List.filter_append _ _
theorem qf_fm_one {A : Nat → Prop} {m s : Nat} (h : qf_min A m s) : qf_fm A m [s] = [s] := by
  unfold qf_fm
  rw [List.filter_cons_of_pos (by rw [@decide_eq_true_iff _ (Classical.propDecidable _)]; exact h)]
  rfl
theorem qf_fm_no {A : Nat → Prop} {m s : Nat} (h : ¬ qf_min A m s) : qf_fm A m [s] = [] := by
  unfold qf_fm
  rw [List.filter_cons_of_neg (by rw [@decide_eq_true_iff _ (Classical.propDecidable _)]; exact h)]
  rfl
theorem qf_fm_len {A : Nat → Prop} {m : Nat} {l : List Nat} (hn : l.Nodup) : (qf_fm A m l).length ≤ 35 := by
  refine qf_sperner _ (hn.filter _) (fun x hx => (qf_fm_mem.mp hx).2.1) (fun x hx y hy h => ?_)
  exact qf_min_anti (qf_fm_mem.mp hx).2 (qf_fm_mem.mp hy).2 h
/-- all sets ahead of (z, n), by size, then number -/
def qf_cz0 : Nat → List Nat
  | 0 => []
  | z + 1 => qf_cz0 z ++ (List.range 128).filter (fun s => decide (qf_pop s = z))
def qf_cb (z n : Nat) : List Nat := qf_cz0 z ++ (List.range n).filter (fun s => decide (qf_pop s = z))
theorem qf_cz0_mem {s : Nat} : ∀ z, s ∈ qf_cz0 z ↔ s < 128 ∧ qf_pop s < z
  | 0 => by simp [qf_cz0]
  | z + 1 => by
    rw [qf_cz0, List.mem_append, qf_cz0_mem z, List.mem_filter, List.mem_range, decide_eq_true_iff]
    omega
theorem qf_cb_mem {z n s : Nat} (hn : n ≤ 128) : s ∈ qf_cb z n ↔ s < 128 ∧ (qf_pop s < z ∨ (qf_pop s = z ∧ s < n)) := by
  rw [qf_cb, List.mem_append, qf_cz0_mem, List.mem_filter, List.mem_range, decide_eq_true_iff]
  omega
theorem qf_cb_yes {z n : Nat} (h : qf_pop n = z) : qf_cb z (n + 1) = qf_cb z n ++ [n] := by
  unfold qf_cb
  rw [List.range_succ (n := n), List.filter_append, List.filter_cons_of_pos (by simp [h]), List.append_assoc]
  rfl
theorem qf_cb_not {z n : Nat} (h : qf_pop n ≠ z) : qf_cb z (n + 1) = qf_cb z n := by
  unfold qf_cb
  rw [List.range_succ (n := n), List.filter_append, List.filter_cons_of_neg (by simp [h])]
  simp
theorem qf_cb_next (z : Nat) : qf_cb (z + 1) 0 = qf_cb z 128 := by
  show qf_cz0 z ++ (List.range 128).filter (fun s => decide (qf_pop s = z)) ++ [] = _
  rw [List.append_nil]
  rfl
theorem qf_cz0_nodup : ∀ z, (qf_cz0 z).Nodup
  | 0 => List.nodup_nil
  | z + 1 => by
    rw [qf_cz0, List.nodup_append]
    refine ⟨qf_cz0_nodup z, List.nodup_range.filter _, fun a ha b hb e => ?_⟩
    have h1 := (qf_cz0_mem z).mp ha
    have h2 := of_decide_eq_true (List.mem_filter.mp hb).2
    rw [e] at h1
    omega
theorem qf_cb_nodup (z n : Nat) : (qf_cb z n).Nodup := by
  rw [qf_cb, List.nodup_append]
  refine ⟨qf_cz0_nodup z, List.nodup_range.filter _, fun a ha b hb e => ?_⟩
  have h1 := (qf_cz0_mem z).mp ha
  have h2 := of_decide_eq_true (List.mem_filter.mp hb).2
  rw [e] at h1
  omega
/-- where no set from n on is one of the least, the rest of a size adds nothing -/
theorem qf_fm_stop {A : Nat → Prop} {m z : Nat} : ∀ (r n : Nat), n + r = 128 → (∀ s, n ≤ s → s < 128 → ¬ qf_min A m s) → qf_fm A m (qf_cb z 128) = qf_fm A m (qf_cb z n)
  | 0, n, e, _ => by
    obtain rfl : n = 128 := by omega
    rfl
  | r + 1, n, e, h => by
    rw [qf_fm_stop r (n + 1) (by omega) (fun s h1 h2 => h s (by omega) h2)]
    by_cases hp : qf_pop n = z
    · rw [qf_cb_yes hp, qf_fm_app, qf_fm_no (h n (by omega) (by omega)), List.append_nil]
    · rw [qf_cb_not hp]
/-- the stories; the quarrels -/
noncomputable def qf_stl (A : Nat → Prop) (m : Nat) : List Nat := qf_fm A m (qf_cb 3 128)
noncomputable def qf_qul (A : Nat → Prop) (m : Nat) : List Nat := qf_fm A m (List.range 128)
/-- at (z, s), with the least sets ahead: s is one of them if it has the property and holds none of those -/
theorem qf_min_step {A : Nat → Prop} {m z s : Nat} (hs : s < 128) (hz : qf_pop s = z) (hm : qf_sub s m) : (A s ∧ ∀ a ∈ qf_fm A m (qf_cb z s), ¬ qf_sub a s) ↔ qf_min A m s := by
  constructor
  · rintro ⟨h1, h2⟩
    refine ⟨hs, hm, h1, fun s' a1 a2 a3 a4 => ?_⟩
    obtain ⟨a, b1, b2⟩ := qf_min_ex (m := m) _ s' (Nat.lt_succ_self _) a1 (qf_sub_trans a2 hm) a4
    have h3 : qf_sub a s := qf_sub_trans b2 a2
    have h4 : a ≠ s := fun z' => by
      rw [z'] at b2
      exact a3 (qf_sub_anti a1 hs a2 b2)
    have h5 := qf_sub_pop b1.1 hs h3 h4
    refine h2 a (qf_fm_mem.mpr ⟨(qf_cb_mem (by omega)).mpr ⟨b1.1, by omega⟩, b1⟩) h3
  · intro h
    refine ⟨h.2.2.1, fun a ha hsub => ?_⟩
    have h1 := qf_fm_mem.mp ha
    have h2 := (qf_cb_mem (by omega)).mp h1.1
    have h3 : a = s := qf_min_anti h1.2 h hsub
    rw [h3] at h2
    omega
theorem qf_min_stepq {A : Nat → Prop} {m s : Nat} (hs : s < 128) (hm : qf_sub s m) : (A s ∧ ∀ a ∈ qf_fm A m (List.range s), ¬ qf_sub a s) ↔ qf_min A m s := by
  constructor
  · rintro ⟨h1, h2⟩
    refine ⟨hs, hm, h1, fun s' a1 a2 a3 a4 => ?_⟩
    obtain ⟨a, b1, b2⟩ := qf_min_ex (m := m) _ s' (Nat.lt_succ_self _) a1 (qf_sub_trans a2 hm) a4
    have h3 : qf_sub a s := qf_sub_trans b2 a2
    have h4 : a ≠ s := fun z' => by
      rw [z'] at b2
      exact a3 (qf_sub_anti a1 hs a2 b2)
    have h5 := qf_sub_pop b1.1 hs h3 h4
    refine h2 a (qf_fm_mem.mpr ⟨List.mem_range.mpr h5.2, b1⟩) h3
  · intro h
    refine ⟨h.2.2.1, fun a ha hsub => ?_⟩
    have h1 := qf_fm_mem.mp ha
    have h2 := List.mem_range.mp h1.1
    have h3 : a = s := qf_min_anti h1.2 h hsub
    omega
/-- where the property asks only for what a set has in common with c, the least sets lie in c -/
theorem qf_min_in {A : Nat → Prop} {m c s : Nat} (hA : ∀ s, s < 128 → (A s ↔ A (s &&& c))) (h : qf_min A m s) : qf_sub s c := by
  have h1 : s &&& c < 128 := Nat.lt_of_le_of_lt Nat.and_le_left h.1
  have h2 : qf_sub (s &&& c) s := fun p _ hp => by
    rw [Nat.testBit_and, Bool.and_eq_true] at hp
    exact hp.1
  by_cases e : s &&& c = s
  · intro p _ hp
    rw [← e, Nat.testBit_and, Bool.and_eq_true] at hp
    exact hp.2
  · exact absurd ((hA s h.1).mp h.2.2.1) (h.2.2.2 _ h1 h2 e)
