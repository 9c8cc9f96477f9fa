/-! THE PURE MACHINE: places instead of addresses, whole numbers instead of Int32 (taken as they are, wrapped where they are compared), one memory of whole numbers. -/
abbrev pj_V : Type := Int ⊕ (Int ⊕ Option Nat)
abbrev pj_M : Type := Nat → Nat → Int
abbrev pj_S : Type := Nat ⊕ (Nat × Nat)
abbrev pj_vI (x : Int) : pj_V := Sum.inl x
abbrev pj_vL (x : Int) : pj_V := Sum.inr (Sum.inl x)
abbrev pj_vR (k : Nat) : pj_V := Sum.inr (Sum.inr (some k))
abbrev pj_vU : pj_V := Sum.inr (Sum.inr none)
def pj_me (i : Nat) : pj_Me := pj_ms.getD i (yX0_init, cX0_init, 0, none, 0)
def pj_y (i : Nat) : MethodName := (pj_me i).1
def pj_b (i : Nat) : ByteArray := (pj_me i).2.1
def pj_L (i : Nat) : Nat := (pj_me i).2.2.1
def pj_rt (i : Nat) : Option FieldType := (pj_me i).2.2.2.1
def pj_own (i : Nat) : Nat := (pj_me i).2.2.2.2
def pj_code (i : Nat) : List pj_E := pj_cs.getD i []
def pj_ft (ci k : Nat) : Nat := match pj_ty ci k with
  | .int => 0
  | .long => 1
  | .boolean => 3
  | .object _ => 2
  | .array _ => 2
  | _ => 4
def pj_nrm (x : Int) : Int := (Int32.ofInt x).toInt
def pj_div (x y : Int) : Int := (Int32.ofInt x / Int32.ofInt y).toInt
def pj_rem (x y : Int) : Int := (Int32.ofInt x - Int32.ofInt x / Int32.ofInt y * Int32.ofInt y).toInt
def pj_and (x y : Int) : Int := (Int32.ofInt x &&& Int32.ofInt y).toInt
def pj_or (x y : Int) : Int := (Int32.ofInt x ||| Int32.ofInt y).toInt
def pj_xor (x y : Int) : Int := (Int32.ofInt x ^^^ Int32.ofInt y).toInt
def pj_shl (x y : Int) : Int := (Int32.ofInt x <<< (Int32.ofInt y &&& 31)).toInt
def pj_shr (x y : Int) : Int := (Int32.ofInt x >>> (Int32.ofInt y &&& 31)).toInt
def pj_ushr (x y : Int) : Int := ((Int32.ofInt x).toUInt32 >>> ((Int32.ofInt y).toUInt32 &&& Int32.toUInt32 31)).toInt32.toInt
def pj_nrl (x : Int) : Int := (Int64.ofInt x).toInt
def pj_ldiv (x y : Int) : Int := (Int64.ofInt x / Int64.ofInt y).toInt
def pj_lrem (x y : Int) : Int := (Int64.ofInt x - Int64.ofInt x / Int64.ofInt y * Int64.ofInt y).toInt
def pj_land (x y : Int) : Int := (Int64.ofInt x &&& Int64.ofInt y).toInt
def pj_lor (x y : Int) : Int := (Int64.ofInt x ||| Int64.ofInt y).toInt
def pj_lshl (x y : Int) : Int := (Int64.ofInt x <<< ((Int32.ofInt y).toInt64 &&& 63)).toInt
def pj_lshr (x y : Int) : Int := (Int64.ofInt x >>> ((Int32.ofInt y).toInt64 &&& 63)).toInt
def pj_lcmp (x y : Int) : Int := (lg_cmp (Int64.ofInt x) (Int64.ofInt y)).toInt
def pj_cmp (c : Jvm.ClassFile.Cond) (x y : Int) : Bool := match c with
  | .eq => decide (x = y)
  | .ne => decide (x ≠ y)
  | .lt => decide (x < y)
  | .ge => decide (y ≤ x)
  | .gt => decide (y < x)
  | .le => decide (x ≤ y)
abbrev pj_O : Type := Option (Nat × List pj_V × List pj_V × pj_M)
def pj_tg (pc : Nat) (off : Int) (f : Nat → pj_O) : pj_O := if 0 ≤ (pc : Int) + off then f ((pc : Int) + off).toNat else none
def pj_1I (stk : List pj_V) (f : Int → List pj_V → pj_O) : pj_O := match stk with
  | .inl x :: st => f x st
  | _ => none
def pj_2I (stk : List pj_V) (f : Int → Int → List pj_V → pj_O) : pj_O := match stk with
  | .inl y :: .inl x :: st => f x y st
  | _ => none
def pj_1L (stk : List pj_V) (f : Int → List pj_V → pj_O) : pj_O := match stk with
  | .inr (.inl x) :: st => f x st
  | _ => none
def pj_2L (stk : List pj_V) (f : Int → Int → List pj_V → pj_O) : pj_O := match stk with
  | .inr (.inl y) :: .inr (.inl x) :: st => f x y st
  | _ => none
def pj_IL (stk : List pj_V) (f : Int → Int → List pj_V → pj_O) : pj_O := match stk with
  | .inl y :: .inr (.inl x) :: st => f x y st
  | _ => none
def pj_1R (stk : List pj_V) (f : Nat → List pj_V → pj_O) : pj_O := match stk with
  | .inr (.inr (some k)) :: st => f k st
  | _ => none
def pj_lI (loc : List pj_V) (k : Nat) (f : Int → pj_O) : pj_O := match loc[k]? with
  | some (.inl x) => f x
  | _ => none
def pj_lL (loc : List pj_V) (k : Nat) (f : Int → pj_O) : pj_O := match loc[k]? with
  | some (.inr (.inl x)) => f x
  | _ => none
def pj_lR (loc : List pj_V) (k : Nat) (f : Nat → pj_O) : pj_O := match loc[k]? with
  | some (.inr (.inr (some x))) => f x
  | _ => none
def pj_long (o : Option pj_V) : Bool := match o with
  | some (.inr (.inl _)) => true
  | _ => false
def pj_prev (loc : List pj_V) (k : Nat) : Bool := match k with
  | 0 => false
  | k + 1 => pj_long loc[k]?
def pj_set (loc : List pj_V) (k : Nat) (v : pj_V) (f : List pj_V → pj_O) : pj_O := if k < loc.length ∧ pj_prev loc k = false then f (loc.set k v) else none
def pj_set2 (loc : List pj_V) (k : Nat) (v : pj_V) (f : List pj_V → pj_O) : pj_O := if k + 1 < loc.length ∧ pj_prev loc k = false then f ((loc.set k v).set (k + 1) pj_vU) else none
def pj_up (M : pj_M) (a j : Nat) (x : Int) : pj_M := fun k i => if k = a ∧ i = j then x else M k i
def pj_cpy (M : pj_M) (a0 a sp dp n : Nat) : pj_M := fun k i => if k = a ∧ dp ≤ i ∧ i < dp + n then M a0 (sp + (i - dp)) else M k i
/-- is there an array of a type (0 int, 1 boolean) at a place, and the index inside it -/
def pj_arr (sh : List pj_S) (a t : Nat) (i : Int) (f : Nat → pj_O) : pj_O := match sh[a]? with
  | some (.inr (t', n)) => if t' = t ∧ 0 ≤ pj_nrm i ∧ pj_nrm i < n then f (pj_nrm i).toNat else none
  | _ => none
def pj_getf (pc : Nat) (loc : List pj_V) (sh : List pj_S) (M : pj_M) (t ci k a : Nat) (st : List pj_V) : pj_O :=
  if sh[a]? = some (.inl ci) ∧ 0 < a then
    match t with
    | 0 => some (pc + 3, loc, .inl (M a k) :: st, M)
    | 3 => some (pc + 3, loc, .inl (M a k) :: st, M)
    | 1 => some (pc + 3, loc, .inr (.inl (M a k)) :: st, M)
    | 2 => if 0 ≤ M a k then some (pc + 3, loc, .inr (.inr (some (M a k).toNat)) :: st, M) else none
    | _ => none
  else none
def pj_putf (pc : Nat) (loc : List pj_V) (sh : List pj_S) (M : pj_M) (t ci k : Nat) (v : pj_V) (a : Nat) (st : List pj_V) : pj_O :=
  if sh[a]? = some (.inl ci) ∧ 0 < a then
    match t, v with
    | 0, .inl x => some (pc + 3, loc, st, pj_up M a k x)
    | 3, .inl x => if x = 0 ∨ x = 1 then some (pc + 3, loc, st, pj_up M a k x) else none
    | 1, .inr (.inl x) => some (pc + 3, loc, st, pj_up M a k x)
    | 2, .inr (.inr (some q)) => some (pc + 3, loc, st, pj_up M a k (q : Int))
    | _, _ => none
  else none
def pj_acp (pc : Nat) (loc : List pj_V) (sh : List pj_S) (M : pj_M) (stk : List pj_V) : pj_O := match stk with
  | .inl n :: .inl dp :: .inr (.inr (some a)) :: .inl sp :: .inr (.inr (some a0)) :: st => match sh[a0]?, sh[a]? with
    | some (.inr (0, n0)), some (.inr (0, n1)) => if 0 < a ∧ 0 < a0 ∧ 0 ≤ pj_nrm n ∧ 0 ≤ pj_nrm dp ∧ 0 ≤ pj_nrm sp ∧ pj_nrm sp + pj_nrm n ≤ n0 ∧ pj_nrm dp + pj_nrm n ≤ n1 ∧ st.length ≤ 4 then some (pc + 3, loc, st, pj_cpy M a0 a (pj_nrm sp).toNat (pj_nrm dp).toNat (pj_nrm n).toNat) else none
    | _, _ => none
  | _ => none
/-- the instructions that go on in the same method and make nothing -/
def pj_n (pc : Nat) (ins : Instr) (ta tb tc : Nat) (tv : Int) (loc stk : List pj_V) (sh : List pj_S) (M : pj_M) : pj_O := match ins with
  | .iconst n => some (pc + 1, loc, .inl n :: stk, M)
  | .bipush n => some (pc + 2, loc, .inl n :: stk, M)
  | .sipush n => some (pc + 3, loc, .inl n :: stk, M)
  | .lconst n => some (pc + 1, loc, .inr (.inl (n.val : Int)) :: stk, M)
  | .ldc_w _ => some (pc + 3, loc, .inl tv :: stk, M)
  | .ldc2_w _ => some (pc + 3, loc, .inr (.inl tv) :: stk, M)
  | .iload_n k => pj_lI loc k.val fun x => some (pc + 1, loc, .inl x :: stk, M)
  | .iload k => pj_lI loc k fun x => some (pc + 2, loc, .inl x :: stk, M)
  | .lload_n k => pj_lL loc k.val fun x => some (pc + 1, loc, .inr (.inl x) :: stk, M)
  | .lload k => pj_lL loc k fun x => some (pc + 2, loc, .inr (.inl x) :: stk, M)
  | .aload_n k => pj_lR loc k.val fun x => some (pc + 1, loc, .inr (.inr (some x)) :: stk, M)
  | .istore_n k => pj_1I stk fun x st => pj_set loc k.val (.inl x) fun l' => some (pc + 1, l', st, M)
  | .istore k => pj_1I stk fun x st => pj_set loc k (.inl x) fun l' => some (pc + 2, l', st, M)
  | .lstore_n k => pj_1L stk fun x st => pj_set2 loc k.val (.inr (.inl x)) fun l' => some (pc + 1, l', st, M)
  | .lstore k => pj_1L stk fun x st => pj_set2 loc k (.inr (.inl x)) fun l' => some (pc + 2, l', st, M)
  | .astore_n k => pj_1R stk fun x st => pj_set loc k.val (.inr (.inr (some x))) fun l' => some (pc + 1, l', st, M)
  | .iinc k n => pj_lI loc k fun x => pj_set loc k (.inl (x + n)) fun l' => some (pc + 3, l', stk, M)
  | .iadd => pj_2I stk fun x y st => some (pc + 1, loc, .inl (x + y) :: st, M)
  | .isub => pj_2I stk fun x y st => some (pc + 1, loc, .inl (x - y) :: st, M)
  | .imul => pj_2I stk fun x y st => some (pc + 1, loc, .inl (x * y) :: st, M)
  | .ineg => pj_1I stk fun x st => some (pc + 1, loc, .inl (-x) :: st, M)
  | .idiv => pj_2I stk fun x y st => if pj_nrm y = 0 then none else some (pc + 1, loc, .inl (pj_div x y) :: st, M)
  | .irem => pj_2I stk fun x y st => if pj_nrm y = 0 then none else some (pc + 1, loc, .inl (pj_rem x y) :: st, M)
  | .iand => pj_2I stk fun x y st => some (pc + 1, loc, .inl (pj_and x y) :: st, M)
  | .ior => pj_2I stk fun x y st => some (pc + 1, loc, .inl (pj_or x y) :: st, M)
  | .ixor => pj_2I stk fun x y st => some (pc + 1, loc, .inl (pj_xor x y) :: st, M)
  | .ishl => pj_2I stk fun x y st => some (pc + 1, loc, .inl (pj_shl x y) :: st, M)
  | .ishr => pj_2I stk fun x y st => some (pc + 1, loc, .inl (pj_shr x y) :: st, M)
  | .iushr => pj_2I stk fun x y st => some (pc + 1, loc, .inl (pj_ushr x y) :: st, M)
  | .i2l => pj_1I stk fun x st => some (pc + 1, loc, .inr (.inl (pj_nrm x)) :: st, M)
  | .ladd => pj_2L stk fun x y st => some (pc + 1, loc, .inr (.inl (x + y)) :: st, M)
  | .lmul => pj_2L stk fun x y st => some (pc + 1, loc, .inr (.inl (x * y)) :: st, M)
  | .ldiv => pj_2L stk fun x y st => if pj_nrl y = 0 then none else some (pc + 1, loc, .inr (.inl (pj_ldiv x y)) :: st, M)
  | .lrem => pj_2L stk fun x y st => if pj_nrl y = 0 then none else some (pc + 1, loc, .inr (.inl (pj_lrem x y)) :: st, M)
  | .land => pj_2L stk fun x y st => some (pc + 1, loc, .inr (.inl (pj_land x y)) :: st, M)
  | .lor => pj_2L stk fun x y st => some (pc + 1, loc, .inr (.inl (pj_lor x y)) :: st, M)
  | .lshl => pj_IL stk fun x y st => some (pc + 1, loc, .inr (.inl (pj_lshl x y)) :: st, M)
  | .lshr => pj_IL stk fun x y st => some (pc + 1, loc, .inr (.inl (pj_lshr x y)) :: st, M)
  | .lcmp => pj_2L stk fun x y st => some (pc + 1, loc, .inl (pj_lcmp x y) :: st, M)
  | .dup => (match stk with
    | v :: st => if pj_long (some v) then none else some (pc + 1, loc, v :: v :: st, M)
    | _ => none)
  | .dup2 => (match stk with
    | v :: w :: st => if pj_long (some v) || pj_long (some w) then none else some (pc + 1, loc, v :: w :: v :: w :: st, M)
    | _ => none)
  | .pop => (match stk with
    | v :: st => if pj_long (some v) then none else some (pc + 1, loc, st, M)
    | _ => none)
  | .goto off => pj_tg pc off fun t => some (t, loc, stk, M)
  | .if_icmp c off => pj_2I stk fun x y st => pj_tg pc off fun t => some (if pj_cmp c (pj_nrm x) (pj_nrm y) then t else pc + 3, loc, st, M)
  | .ifCond c off => pj_1I stk fun x st => pj_tg pc off fun t => some (if pj_cmp c (pj_nrm x) 0 then t else pc + 3, loc, st, M)
  | .tableswitch d lo hi offs => pj_1I stk fun x st => if pj_nrm x < lo ∨ hi < pj_nrm x then pj_tg pc d fun t => some (t, loc, st, M) else (match offs.toList[(pj_nrm x - lo).toNat]? with
    | some off => pj_tg pc off fun t => some (t, loc, st, M)
    | none => none)
  | .iaload => (match stk with
    | .inl i :: .inr (.inr (some a)) :: st => pj_arr sh a 0 i fun j => some (pc + 1, loc, .inl (M a j) :: st, M)
    | _ => none)
  | .baload => (match stk with
    | .inl i :: .inr (.inr (some a)) :: st => if a = 0 then none else pj_arr sh a 1 i fun j => some (pc + 1, loc, .inl (M a j) :: st, M)
    | _ => none)
  | .iastore => (match stk with
    | .inl x :: .inl i :: .inr (.inr (some a)) :: st => if a = 0 then none else pj_arr sh a 0 i fun j => some (pc + 1, loc, st, pj_up M a j x)
    | _ => none)
  | .bastore => (match stk with
    | .inl x :: .inl i :: .inr (.inr (some a)) :: st => if a = 0 ∨ ¬ (x = 0 ∨ x = 1) then none else pj_arr sh a 1 i fun j => some (pc + 1, loc, st, pj_up M a j x)
    | _ => none)
  | .arraylength => (match stk with
    | .inr (.inr (some a)) :: st => (match sh[a]? with
      | some (.inr (_, n)) => some (pc + 1, loc, .inl (n : Int) :: st, M)
      | _ => none)
    | _ => none)
  | .getfield _ => (match stk with
    | .inr (.inr (some a)) :: st => pj_getf pc loc sh M ta tb tc a st
    | _ => none)
  | .putfield _ => (match stk with
    | v :: .inr (.inr (some a)) :: st => pj_putf pc loc sh M ta tb tc v a st
    | _ => none)
  | .invokespecial _ => if ta = 4 then pj_1R stk fun _ st => if st.length ≤ 4 then some (pc + 3, loc, st, M) else none else none
  | .invokestatic _ => if ta = 5 then pj_acp pc loc sh M stk else none
  | _ => none
/-- a return: what is answered -/
def pj_r (ins : Instr) (ta : Nat) (stk : List pj_V) : Option (Option pj_V) := match ins with
  | .ireturn => (match stk with
    | [.inl x] => if ta = 0 ∨ x = 0 ∨ x = 1 then some (some (.inl x)) else none
    | _ => none)
  | .lreturn => (match stk with
    | [.inr (.inl x)] => some (some (.inr (.inl x)))
    | _ => none)
  | .areturn => (match stk with
    | [.inr (.inr (some k))] => some (some (.inr (.inr (some k))))
    | _ => none)
  | .return_ => (match stk with
    | [] => some none
    | _ => none)
  | _ => none
/-- a making: the new cell, what is left on the stack, the next place -/
def pj_a (pc : Nat) (ins : Instr) (tb : Nat) (stk : List pj_V) : Option (Nat × pj_S × List pj_V) := match ins with
  | .new _ => some (pc + 3, .inl tb, stk)
  | .newarray t => (match stk with
    | .inl x :: st => if 0 ≤ x ∧ x ≤ 100000 then (match t with
      | .int => some (pc + 2, .inr (0, x.toNat), st)
      | .boolean => some (pc + 2, .inr (1, x.toNat), st)
      | _ => none) else none
    | _ => none)
  | _ => none
/-- a call: the method, its arguments, what is left on the stack -/
def pj_k (ins : Instr) (ta tb tc : Nat) (stk : List pj_V) (sh : List pj_S) : Option (Nat × List pj_V × List pj_V) := match ins with
  | .invokevirtual _ => if ta = 0 then (match stk.drop tc with
    | .inr (.inr (some a)) :: st => if sh[a]? = some (.inl (pj_own tb)) ∧ 0 < a ∧ st.length ≤ 4 then some (tb, .inr (.inr (some a)) :: (stk.take tc).reverse, st) else none
    | _ => none) else none
  | .invokestatic _ => if ta = 1 ∧ tc ≤ stk.length ∧ (stk.drop tc).length ≤ 4 then some (tb, (stk.take tc).reverse, stk.drop tc) else none
  | .invokespecial _ => if ta = 2 ∨ ta = 3 then (match stk.drop tc with
    | .inr (.inr (some a)) :: st => if st.length ≤ 4 then some (tb, .inr (.inr (some a)) :: (stk.take tc).reverse, st) else none
    | _ => none) else none
  | _ => none
/-- the arguments as locals: a long has two -/
def pj_args : List pj_V → List pj_V
  | [] => []
  | .inl x :: vs => .inl x :: pj_args vs
  | .inr (.inl x) :: vs => .inr (.inl x) :: pj_vU :: pj_args vs
  | .inr (.inr k) :: vs => .inr (.inr k) :: pj_args vs
def pj_in (i : Nat) (vs : List pj_V) : List pj_V := pj_args vs ++ List.replicate (pj_L i - (pj_args vs).length) pj_vU
/-- what a new cell holds -/
def pj_def (h : pj_S) (j : Nat) : Int := match h with
  | .inl ci => if pj_ft ci j = 2 then -1 else 0
  | .inr _ => 0
def pj_new (M : pj_M) (a : Nat) (h : pj_S) : pj_M := fun k i => if k = a then pj_def h i else M k i
def pj_at (i pc : Nat) : Option (Instr × Nat × Nat × Nat × Nat × Int) := (pj_code i).lookup pc
/-- the machine: fuel, the depth of calls left, method, place, locals, stack, cells, memory -/
def pj_x : Nat → Nat → Nat → Nat → List pj_V → List pj_V → List pj_S → pj_M → Option (Option pj_V × List pj_S × pj_M)
  | 0, _, _, _, _, _, _, _ => none
  | n + 1, d, i, pc, loc, stk, sh, M => match pj_at i pc with
    | none => none
    | some (ins, _, ta, tb, tc, tv) => match pj_n pc ins ta tb tc tv loc stk sh M with
      | some (pc', loc', stk', M') => pj_x n d i pc' loc' stk' sh M'
      | none => match pj_r ins ta stk with
        | some r => some (r, sh, M)
        | none => match pj_a pc ins tb stk with
          | some (pc', h, st) => pj_x n d i pc' loc (.inr (.inr (some sh.length)) :: st) (sh ++ [h]) (pj_new M sh.length h)
          | none => match d, pj_k ins ta tb tc stk sh with
            | d' + 1, some (j, vs, st) => if (pj_args vs).length ≤ pj_L j then
                match pj_x n d' j 0 (pj_in j vs) [] sh M with
                | some (r, sh', M') => pj_x n (d' + 1) i (pc + 3) loc (r.toList ++ st) sh' M'
                | none => none
              else none
            | _, _ => none
