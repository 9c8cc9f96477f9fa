def pj_plen : Instr → Nat
  | .bipush _ | .iload _ | .lload _ | .istore _ | .lstore _ | .newarray _ => 2
  | .sipush _ | .ldc_w _ | .ldc2_w _ | .iinc _ _ | .goto _ | .if_icmp _ _ | .ifCond _ _ | .getfield _ | .putfield _ | .new _ | .invokevirtual _ | .invokespecial _ | .invokestatic _ => 3
  | .tableswitch _ _ _ _ => 0
  | _ => 1
def pj_okI (i : Nat) (ins : Instr) (a b c : Nat) (v : Int) : Bool := match ins with
  | .bipush n => decide ((Int8.ofInt n).toInt32 = Int32.ofInt n)
  | .sipush n => decide ((Int16.ofInt n).toInt32 = Int32.ofInt n)
  | .ldc_w x => decide ((pj_own i, x, v) ∈ pj_k32)
  | .ldc2_w x => decide ((pj_own i, x, v) ∈ pj_k64)
  | .getfield x => decide ((pj_own i, x, b, c) ∈ pj_ftab) && (decide (c < pj_N b) && (decide (b < 8) && decide (a = pj_ft b c)))
  | .putfield x => decide ((pj_own i, x, b, c) ∈ pj_ftab) && (decide (c < pj_N b) && (decide (b < 8) && (decide (a = pj_ft b c) && (decide ((pj_T b c).2.2.2 = false) || (decide ((pj_y i).name = "<init>") && decide ((pj_T b c).1 = pj_Rn (pj_own i)))))))
  | .new x => decide ((pj_own i, x, b) ∈ pj_ntab)
  | .invokevirtual x => decide ((pj_own i, x, 0, b, c) ∈ pj_ctab)
  | .invokestatic x => decide (a = 1 ∧ (pj_own i, x, 1, b, c) ∈ pj_ctab) || decide (a = 5 ∧ (pj_own i, x) ∈ pj_ytab)
  | .invokespecial x => decide ((a = 2 ∨ a = 3) ∧ (pj_own i, x, a, b, c) ∈ pj_ctab) || decide (a = 4 ∧ (pj_own i, x) ∈ pj_otab)
  | .ireturn => decide (a = 0 ∧ pj_rt i = some .int) || decide (a = 1 ∧ pj_rt i = some .boolean)
  | .lreturn => decide (pj_rt i = some .long)
  | .areturn => decide (pj_rt i = some (.array .int))
  | .return_ => decide (pj_rt i = none)
  | _ => true
def pj_okE (i : Nat) (q : pj_E) : Bool := (decide (pj_plen q.2.1 = 0) || decide (pj_plen q.2.1 = q.2.2.1)) && pj_okI i q.2.1 q.2.2.2.1 q.2.2.2.2.1 q.2.2.2.2.2.1 q.2.2.2.2.2.2
set_option maxRecDepth 100000 in
theorem pj_okE_all : (List.range (pj_nm + 1)).all (fun i => (pj_code i).all (pj_okE i)) = true := by decide +kernel
def pj_okC (q : Nat × Nat × Nat × Nat × Nat) : Bool := decide (q.2.2.2.1 < pj_nm) && (decide ((parseMethodDescriptor (pj_y q.2.2.2.1).desc).map (fun d => d.parameters.length) = some q.2.2.2.2) && (match q.2.2.1 with
  | 0 => decide (pj_own q.2.2.2.1 < 8)
  | 1 => true
  | _ => decide ((pj_y q.2.2.2.1).name = "<init>") && decide (pj_rt q.2.2.2.1 = none)))
set_option maxRecDepth 100000 in
theorem pj_okC_all : pj_ctab.all pj_okC = true := by decide +kernel
def pj_okM (i : Nat) : Bool := decide ((pj_y i).cls = pj_Rn (pj_own i)) && (plainName (pj_y i).cls && (decide (pj_L i ≤ 40) && (decide ((pj_y i).cls ≠ "java/lang/invoke/MethodHandle") && decide ((pj_y i).cls ≠ "java/lang/invoke/VarHandle"))))
set_option maxRecDepth 100000 in
theorem pj_okM_all : (List.range (pj_nm + 1)).all pj_okM = true := by decide +kernel
theorem pj_cl_at : ∀ c, c < 8 → pj_cl[c]? = some (pj_Rn c, pj_T c, pj_N c) := by
  intro c hc
  match c, hc with
  | 0, _ => rfl
  | 1, _ => rfl
  | 2, _ => rfl
  | 3, _ => rfl
  | 4, _ => rfl
  | 5, _ => rfl
  | 6, _ => rfl
  | 7, _ => rfl
theorem pj_ty_ok : ∀ c, c < 8 → ∀ k, k < pj_N c → parseFieldDescriptor (pj_T c k).2.2.1 = some (pj_ty c k) := by
  intro c hc
  match c, hc with
  | 0, _ => exact tyX0_ok
  | 1, _ => exact tyX1_ok
  | 2, _ => exact tyX2_ok
  | 3, _ => exact tyX3_ok
  | 4, _ => exact tyX4_ok
  | 5, _ => exact tyX5_ok
  | 6, _ => exact tyX6_ok
  | 7, _ => exact tyX7_ok
theorem pj_nm_ok : ∀ c, c < 8 → ∀ a, a < pj_N c → ∀ b, b < pj_N c → a ≠ b → (pj_T c a).2.1 ≠ (pj_T c b).2.1 := by
  intro c hc
  match c, hc with
  | 0, _ => exact nmX0
  | 1, _ => exact nmX1
  | 2, _ => exact nmX2
  | 3, _ => exact nmX3
  | 4, _ => exact nmX4
  | 5, _ => exact nmX5
  | 6, _ => exact nmX6
  | 7, _ => exact nmX7
theorem pj_ft_ok : ∀ c, c < 8 → ∀ k, k < pj_N c → pj_ft c k < 4 := by decide +kernel
