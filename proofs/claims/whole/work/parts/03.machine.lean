/-! THE ABSTRACT MACHINE: heap as total functions over abstract addresses; one step as data; 'R' the least closed predicate -/
def a_mi (y : Nat) : Nat × MethodName × ByteArray × Nat × Option FieldType × Nat × Nat × Nat × Nat := a_mt.getD y (0, yX0_init, cX0_init, 0, none, 0, 0, 0, 0)
def a_mcl (y : Nat) : Nat := (a_mi y).1
def a_mnm (y : Nat) : MethodName := (a_mi y).2.1
def a_mb (y : Nat) : ByteArray := (a_mi y).2.2.1
def a_ml (y : Nat) : Nat := (a_mi y).2.2.2.1
def a_mr (y : Nat) : Option FieldType := (a_mi y).2.2.2.2.1
def a_mn (y : Nat) : Nat := (a_mi y).2.2.2.2.2.1
def a_mc (y : Nat) : Nat := (a_mi y).2.2.2.2.2.2.2.1
def a_ms (y : Nat) : Nat := (a_mi y).2.2.2.2.2.2.2.2
def a_fld (c i : Nat) : Option (Nat × Nat) := (a_fldT.find? (fun e => e.1 == c && e.2.1 == i)).map (fun e => e.2.2)
def a_mth (c i : Nat) : Option (Nat × Nat) := (a_mthT.find? (fun e => e.1 == c && e.2.1 == i)).map (fun e => e.2.2)
def a_cst (c i : Nat) : Option Value := (a_cstT.find? (fun e => e.1 == c && e.2.1 == i)).map (fun e => e.2.2)
def a_sta (c i : Nat) : Option Value := (a_staT.find? (fun e => e.1 == c && e.2.1 == i)).map (fun e => e.2.2)
def a_str (c i : Nat) : Option Nat := (a_strT.find? (fun e => e.1 == c && e.2.1 == i)).map (fun e => e.2.2)
def a_nwc (c i : Nat) : Option Nat := (a_newT.find? (fun e => e.1 == c && e.2.1 == i)).map (fun e => e.2.2)
/-- how many fields -/
def a_nf (ci : Nat) : Nat := ((vwCl[ci]?).map (fun q => q.2.2)).getD 0
/-- shape (kind, tag, length), object fields, int-like rows, long rows, how many cells. Kinds: 1 object (tag: its kind), 2 row of int (tag 0), byte (1), boolean (2), 3 row of long, 4 outer row of int (0), byte (1), 5 outer String -/
abbrev aH : Type := (Nat → Nat × Nat × Nat) × (Nat → Nat → Value) × (Nat → Nat → Int32) × (Nat → Nat → Int64) × Nat
def a_sh (h : aH) : Nat → Nat × Nat × Nat := h.1
def a_fv (h : aH) : Nat → Nat → Value := h.2.1
def a_ia (h : aH) : Nat → Nat → Int32 := h.2.2.1
def a_la (h : aH) : Nat → Nat → Int64 := h.2.2.2.1
def a_nn (h : aH) : Nat := h.2.2.2.2
def a_fset (h : aH) (a k : Nat) (v : Value) : aH := (h.1, fun b j => if b = a ∧ j = k then v else h.2.1 b j, h.2.2)
def a_iall (h : aH) (a : Nat) (f : Nat → Int32) : aH := (h.1, h.2.1, fun b => if b = a then f else h.2.2.1 b, h.2.2.2)
def a_lall (h : aH) (a : Nat) (f : Nat → Int64) : aH := (h.1, h.2.1, h.2.2.1, fun b => if b = a then f else h.2.2.2.1 b, h.2.2.2.2)
/-- a new cell: at the place a_nn h -/
def a_make (h : aH) (q : Nat × Nat × Nat) (f : Nat → Value) : aH := (fun b => if b = h.2.2.2.2 then q else h.1 b, fun b => if b = h.2.2.2.2 then f else h.2.1 b, fun b => if b = h.2.2.2.2 then (fun _ => 0) else h.2.2.1 b, fun b => if b = h.2.2.2.2 then (fun _ => 0) else h.2.2.2.1 b, h.2.2.2.2 + 1)
def a_dv (ci : Nat) : Nat → Value := fun k => defaultValue ((([tyX0, tyX1, tyX2, tyX3, tyX4, tyX5, tyX6, tyX7, tyX8, tyX9, tyX10, tyX11, tyX12] : List (Nat → FieldType)).getD ci tyX0) k)
/-- locals: a list by place; .null is 'unset' -/
def a_clr (v : Value) : Value := match v with
  | .long _ => .null
  | .double _ => .null
  | w => w
/-- a store of a value of one word -/
def a_st1 (L : List Value) (i : Nat) (v : Value) : List Value := ((match i with | 0 => L | j + 1 => L.set j (a_clr (L.getD j .null)))).set i v
def a_st2 (L : List Value) (i : Nat) (v : Value) : List Value := (((match i with | 0 => L | j + 1 => L.set j (a_clr (L.getD j .null)))).set i v).set (i + 1) .null
def a_flat (vs : List Value) : List Value := vs.flatMap fun v => if v.category = 2 then [v, .null] else [v]
def a_ent (vs : List Value) (n : Nat) : List Value := a_flat vs ++ List.replicate (n - (a_flat vs).length) .null
def a_cw (st : List Value) : Nat := (st.map fun v => v.category).sum
/-- what one step is: on (a condition, and the next state), a fork, a call (condition, method, its arguments, the stack below), an end -/
abbrev aO : Type := Option ((Prop × Nat × Nat × Nat × List Value × List Value × aH) ⊕ (Prop × Nat × Nat × List Value) ⊕ (Prop × Nat × List Value × List Value) ⊕ (Prop × Option Value))
def a_nx (q : Prop) (ce sl pc : Nat) (lv st : List Value) (h : aH) : aO := some (.inl (q, ce, sl, pc, lv, st, h))
def a_fk (q : Prop) (pc1 pc2 : Nat) (st : List Value) : aO := some (.inr (.inl (q, pc1, pc2, st)))
def a_cl (q : Prop) (k : Nat) (as st : List Value) : aO := some (.inr (.inr (.inl (q, k, as, st))))
def a_en (q : Prop) (v : Option Value) : aO := some (.inr (.inr (.inr (q, v))))
def a_cond (c : ClassFile.Cond) (x y : Int32) : Prop := match c with
  | .eq => x = y
  | .ne => ¬ x = y
  | .lt => x < y
  | .ge => y ≤ x
  | .gt => y < x
  | .le => x ≤ y
def a_tg (pc : Nat) (off : Int) : Option Nat := if 0 ≤ (pc : Int) + off then some ((pc : Int) + off).toNat else none
/-- the value of a load: int, long, ref; never the 'unset' -/
def a_ldI (L : List Value) (i : Nat) : Option Int32 := match L[i]? with
  | some (.int x) => some x
  | _ => none
def a_ldL (L : List Value) (i : Nat) : Option Int64 := match L[i]? with
  | some (.long x) => some x
  | _ => none
def a_ldR (L : List Value) (i : Nat) : Option Nat := match L[i]? with
  | some (.ref x) => if x = 1003 then none else some x
  | _ => none
/-- what a value names lies below n, or outside -/
def a_vd (n : Nat) (v : Value) : Prop := ∀ r : Nat, v = .ref r → r < n ∨ 1000 ≤ r
def a_vld (h : aH) : Prop := a_nn h < 1000 ∧ ∀ a k, a_vd (a_nn h) (a_fv h a k)
def a_frs (lv st : List Value) (h : aH) : Prop := (∀ v ∈ lv, a_vd (a_nn h) v) ∧ (∀ v ∈ st, a_vd (a_nn h) v) ∧ a_vld h
/-- arithmetic on two ints, on two longs; none where the step isn't plain -/
def a_bi (i : Instr) (x y : Int32) : Option Int32 := match i with
  | .iadd => some (x + y)
  | .isub => some (x - y)
  | .imul => some (x * y)
  | .iand => some (x &&& y)
  | .ior => some (x ||| y)
  | .ixor => some (x ^^^ y)
  | .ishl => some (x <<< (y &&& 31))
  | .ishr => some (x >>> (y &&& 31))
  | .iushr => some (x.toUInt32 >>> (y.toUInt32 &&& Int32.toUInt32 31)).toInt32
  | _ => none
def a_bl (i : Instr) (x y : Int64) : Option Int64 := match i with
  | .ladd => some (x + y)
  | .lsub => some (x - y)
  | .lmul => some (x * y)
  | .land => some (x &&& y)
  | .lor => some (x ||| y)
  | .lxor => some (x ^^^ y)
  | _ => none
def a_bs (i : Instr) (x : Int64) (y : Int32) : Option Int64 := match i with
  | .lshl => some (x <<< (y.toInt64 &&& 63))
  | .lshr => some (x >>> (y.toInt64 &&& 63))
  | .lushr => some (x.toUInt64 >>> (y.toInt64.toUInt64 &&& Int64.toUInt64 63)).toInt64
  | _ => none
def a_fit (ty : FieldType) (v : Value) : Prop := match ty, v with
  | .int, .int _ => True
  | .boolean, .int x => x = 0 ∨ x = 1
  | .long, .long _ => True
  | .object _, .ref r => r < 1000
  | .array _, .ref r => r < 1000
  | _, _ => False
/-- may v be put into field k of kind ci, in method y -/
def a_pok (y ci k : Nat) (v : Value) : Prop := match vwCl[ci]? with
  | some (C, T, N) => ((T k).2.2.2 = false ∨ ((a_mnm y).name = "<init>" ∧ (T k).1 = (a_cn.getD (a_mcl y) ""))) ∧ ∀ ty, parseFieldDescriptor (T k).2.2.1 = some ty → a_fit ty v
  | none => False
/-- 0: comes back as an int; 1: as a reference -/
def a_rt (ty : FieldType) : Nat := match ty with
  | .int => 0
  | .boolean => 0
  | .byte => 0
  | .char => 0
  | .object _ => 1
  | .array _ => 1
  | _ => 2
/-- Math.floorDiv as its code does it -/
def a_fdiv (x y : Int32) : Int32 := if (x ^^^ y) < 0 ∧ ¬ x / y * y = x then x / y - 1 else x / y
/-- the call of method k with the arguments as; C: what else must hold -/
def a_call (d ce sl y k : Nat) (lv : List Value) (h : aH) (C : Prop) (as rest : List Value) : aO :=
  a_cl (C ∧ 1 ≤ d ∧ a_cw rest ≤ 8 ∧ (a_flat as).length ≤ a_ml k ∧ ce + a_mc k ≤ a_mc y ∧ sl + a_ms k ≤ a_ms y ∧ (a_mc k = 0 ∨ a_frs lv rest h)) k as rest
/-- who may be asked: an object of its own, or an outer String -/
def a_rcv (h : aH) (k b : Nat) : Prop := a_sh h b = (1, a_mcl k, a_nf (a_mcl k)) ∨ (a_mcl k = 14 ∧ 1010 ≤ b ∧ b < 1018)
def a_op (d ce sl y pc : Nat) (lv st : List Value) (h : aH) (i : Instr) (len : Nat) : aO :=
  match i, st with
  | .iconst n, st => a_nx (len = 1) ce sl (pc + 1) lv (.int (Int32.ofInt n) :: st) h
  | .bipush n, st => a_nx (len = 2 ∧ -128 ≤ n ∧ n < 128) ce sl (pc + 2) lv (.int (Int32.ofInt n) :: st) h
  | .sipush n, st => a_nx (len = 3 ∧ -32768 ≤ n ∧ n < 32768) ce sl (pc + 3) lv (.int (Int32.ofInt n) :: st) h
  | .lconst n, st => a_nx (len = 1) ce sl (pc + 1) lv (.long (Int64.ofNat n) :: st) h
  | .ldc n, st => match a_cst (a_mcl y) n with
      | some (.int v) => a_nx (len = 2) ce sl (pc + 2) lv (.int v :: st) h
      | some (.ref r) => a_nx (len = 2) ce sl (pc + 2) lv (.ref r :: st) h
      | _ => none
  | .ldc_w n, st => match a_cst (a_mcl y) n with
      | some (.int v) => a_nx (len = 3) ce sl (pc + 3) lv (.int v :: st) h
      | _ => none
  | .ldc2_w n, st => match a_cst (a_mcl y) n with
      | some (.long v) => a_nx (len = 3) ce sl (pc + 3) lv (.long v :: st) h
      | _ => none
  | .iload_n k, st => (a_ldI lv k).elim none (fun x => a_nx (len = 1) ce sl (pc + 1) lv (.int x :: st) h)
  | .iload k, st => (a_ldI lv k).elim none (fun x => a_nx (len = 2) ce sl (pc + 2) lv (.int x :: st) h)
  | .lload_n k, st => (a_ldL lv k).elim none (fun x => a_nx (len = 1) ce sl (pc + 1) lv (.long x :: st) h)
  | .aload_n k, st => (a_ldR lv k).elim none (fun x => a_nx (len = 1) ce sl (pc + 1) lv (.ref x :: st) h)
  | .aload k, st => (a_ldR lv k).elim none (fun x => a_nx (len = 2) ce sl (pc + 2) lv (.ref x :: st) h)
  | .istore_n k, .int x :: st => a_nx (len = 1 ∧ (k : Nat) < lv.length) ce sl (pc + 1) (a_st1 lv k (.int x)) st h
  | .istore k, .int x :: st => a_nx (len = 2 ∧ k < lv.length) ce sl (pc + 2) (a_st1 lv k (.int x)) st h
  | .lstore_n k, .long x :: st => a_nx (len = 1 ∧ (k : Nat) + 1 < lv.length) ce sl (pc + 1) (a_st2 lv k (.long x)) st h
  | .astore_n k, .ref x :: st => a_nx (len = 1 ∧ (k : Nat) < lv.length ∧ x ≠ 1003) ce sl (pc + 1) (a_st1 lv k (.ref x)) st h
  | .astore k, .ref x :: st => a_nx (len = 2 ∧ k < lv.length ∧ x ≠ 1003) ce sl (pc + 2) (a_st1 lv k (.ref x)) st h
  | .iinc k n, st => (a_ldI lv k).elim none (fun x => a_nx (len = 3) ce sl (pc + 3) (a_st1 lv k (.int (x + Int32.ofInt n))) st h)
  | .ineg, .int x :: st => a_nx (len = 1) ce sl (pc + 1) lv (.int (-x) :: st) h
  | .i2l, .int x :: st => a_nx (len = 1) ce sl (pc + 1) lv (.long x.toInt64 :: st) h
  | .l2i, .long x :: st => a_nx (len = 1) ce sl (pc + 1) lv (.int x.toInt32 :: st) h
  | .i2b, .int x :: st => a_nx (len = 1) ce sl (pc + 1) lv (.int x.toInt8.toInt32 :: st) h
  | .i2c, .int x :: st => a_nx (len = 1) ce sl (pc + 1) lv (.int (x.toUInt32 % 65536).toInt32 :: st) h
  | .idiv, .int x :: .int z :: st => a_nx (len = 1 ∧ ¬ x = 0) ce sl (pc + 1) lv (.int (z / x) :: st) h
  | .irem, .int x :: .int z :: st => a_nx (len = 1 ∧ ¬ x = 0) ce sl (pc + 1) lv (.int (z - z / x * x) :: st) h
  | .lcmp, .long x :: .long z :: st => a_nx (len = 1) ce sl (pc + 1) lv (.int (lg_cmp z x) :: st) h
  | .dup, v :: st => a_nx (len = 1 ∧ v.category = 1) ce sl (pc + 1) lv (v :: v :: st) h
  | .pop, v :: st => a_nx (len = 1 ∧ v.category = 1) ce sl (pc + 1) lv st h
  | .dup2, v :: w :: st => a_nx (len = 1 ∧ v.category = 1 ∧ w.category = 1) ce sl (pc + 1) lv (v :: w :: v :: w :: st) h
  | .goto off, st => (a_tg pc off).elim none (fun t => a_nx (len = 3) ce sl t lv st h)
  | .ifCond c off, .int x :: st => (a_tg pc off).elim none (fun t => if len = 3 then a_fk (a_cond c x 0) t (pc + 3) st else none)
  | .if_icmp c off, .int x :: .int z :: st => (a_tg pc off).elim none (fun t => if len = 3 then a_fk (a_cond c z x) t (pc + 3) st else none)
  | .tableswitch dflt lo hi offs, .int x :: st =>
      if x.toInt < lo ∨ hi < x.toInt then (a_tg pc dflt).elim none (fun t => a_nx True ce sl t lv st h)
      else (offs[(x.toInt - lo).toNat]?).elim none (fun off => (a_tg pc off).elim none (fun t => a_nx True ce sl t lv st h))
  | .getstatic n, st => (a_sta (a_mcl y) n).elim none (fun v => a_nx (len = 3) ce sl (pc + 3) lv (v :: st) h)
  | .getfield n, .ref r :: st =>
      match a_fld (a_mcl y) n, a_str (a_mcl y) n with
      | some (ci, k), _ => a_nx (len = 3 ∧ a_sh h r = (1, ci, a_nf ci)) ce sl (pc + 3) lv (a_fv h r k :: st) h
      | none, some j => a_nx (len = 3 ∧ 1010 ≤ r ∧ r < 1018) ce sl (pc + 3) lv ((if j = 0 then .ref (r + 10) else .int 0) :: st) h
      | none, none => none
  | .putfield n, v :: .ref r :: st =>
      match a_fld (a_mcl y) n with
      | some (ci, k) => a_nx (len = 3 ∧ a_sh h r = (1, ci, a_nf ci) ∧ a_pok y ci k v) ce sl (pc + 3) lv st (a_fset h r k v)
      | none => none
  | .arraylength, .ref r :: st => a_nx (len = 1 ∧ ((a_sh h r).1 = 2 ∨ (a_sh h r).1 = 3 ∨ (a_sh h r).1 = 4)) ce sl (pc + 1) lv (.int (Int32.ofNat (a_sh h r).2.2) :: st) h
  | .iaload, .int j :: .ref r :: st => a_nx (len = 1 ∧ ((a_sh h r).1 = 2 ∨ (a_sh h r).1 = 4) ∧ (a_sh h r).2.1 = 0 ∧ vp_in j (a_sh h r).2.2) ce sl (pc + 1) lv (.int (a_ia h r j.toNatClampNeg) :: st) h
  | .baload, .int j :: .ref r :: st => a_nx (len = 1 ∧ (((a_sh h r).1 = 2 ∧ ((a_sh h r).2.1 = 1 ∨ (a_sh h r).2.1 = 2)) ∨ ((a_sh h r).1 = 4 ∧ (a_sh h r).2.1 = 1)) ∧ vp_in j (a_sh h r).2.2) ce sl (pc + 1) lv (.int (a_ia h r j.toNatClampNeg) :: st) h
  | .laload, .int j :: .ref r :: st => a_nx (len = 1 ∧ (a_sh h r).1 = 3 ∧ vp_in j (a_sh h r).2.2) ce sl (pc + 1) lv (.long (a_la h r j.toNatClampNeg) :: st) h
  | .iastore, .int x :: .int j :: .ref r :: st => a_nx (len = 1 ∧ (a_sh h r).1 = 2 ∧ (a_sh h r).2.1 = 0 ∧ vp_in j (a_sh h r).2.2) ce sl (pc + 1) lv st (a_iall h r (upd (a_ia h r) j.toNatClampNeg x))
  | .bastore, .int x :: .int j :: .ref r :: st => a_nx (len = 1 ∧ (a_sh h r).1 = 2 ∧ ((a_sh h r).2.1 = 1 ∨ (a_sh h r).2.1 = 2) ∧ vp_in j (a_sh h r).2.2) ce sl (pc + 1) lv st (a_iall h r (upd (a_ia h r) j.toNatClampNeg (vp_nar (if (a_sh h r).2.1 = 1 then .byte else .boolean) x)))
  | .lastore, .long x :: .int j :: .ref r :: st => a_nx (len = 1 ∧ (a_sh h r).1 = 3 ∧ vp_in j (a_sh h r).2.2) ce sl (pc + 1) lv st (a_lall h r (vp_updL (a_la h r) j.toNatClampNeg x))
  | .newarray t, .int x :: st =>
      match t with
      | .int => a_nx (len = 2 ∧ ¬ x < 0 ∧ x.toNatClampNeg ≤ 1000 ∧ ce + 1 ≤ a_mc y ∧ sl + x.toNatClampNeg ≤ a_ms y ∧ a_frs lv st h) (ce + 1) (sl + x.toNatClampNeg) (pc + 2) lv (.ref (a_nn h) :: st) (a_make h (2, 0, x.toNatClampNeg) (fun _ => .null))
      | .byte => a_nx (len = 2 ∧ ¬ x < 0 ∧ x.toNatClampNeg ≤ 1000 ∧ ce + 1 ≤ a_mc y ∧ sl + x.toNatClampNeg ≤ a_ms y ∧ a_frs lv st h) (ce + 1) (sl + x.toNatClampNeg) (pc + 2) lv (.ref (a_nn h) :: st) (a_make h (2, 1, x.toNatClampNeg) (fun _ => .null))
      | .boolean => a_nx (len = 2 ∧ ¬ x < 0 ∧ x.toNatClampNeg ≤ 1000 ∧ ce + 1 ≤ a_mc y ∧ sl + x.toNatClampNeg ≤ a_ms y ∧ a_frs lv st h) (ce + 1) (sl + x.toNatClampNeg) (pc + 2) lv (.ref (a_nn h) :: st) (a_make h (2, 2, x.toNatClampNeg) (fun _ => .null))
      | .long => a_nx (len = 2 ∧ ¬ x < 0 ∧ x.toNatClampNeg ≤ 1000 ∧ ce + 1 ≤ a_mc y ∧ sl + x.toNatClampNeg ≤ a_ms y ∧ a_frs lv st h) (ce + 1) (sl + x.toNatClampNeg) (pc + 2) lv (.ref (a_nn h) :: st) (a_make h (3, 0, x.toNatClampNeg) (fun _ => .null))
      | _ => none
  | .new n, st => (a_nwc (a_mcl y) n).elim none (fun ci => a_nx (len = 3 ∧ ce + 1 ≤ a_mc y ∧ sl + a_nf ci ≤ a_ms y ∧ a_frs lv st h) (ce + 1) (sl + a_nf ci) (pc + 3) lv (.ref (a_nn h) :: st) (a_make h (1, ci, a_nf ci) (a_dv ci)))
  | .invokevirtual n, st =>
      match a_mth (a_mcl y) n with
      | some (0, k) => match st.drop (a_mn k) with
        | .ref b :: rest => a_call d ce sl y k lv h (len = 3 ∧ a_mn k ≤ st.length ∧ a_rcv h k b) (.ref b :: (st.take (a_mn k)).reverse) rest
        | _ => none
      | _ => none
  | .invokestatic n, st =>
      match a_mth (a_mcl y) n with
      | some (6, _) => match st with
        | .int n :: .int dp :: .ref a :: .int sp :: .ref b :: rest => a_nx (len = 3 ∧ 1 ≤ d ∧ a_cw rest ≤ 8 ∧ (a_sh h a).1 = 2 ∧ (a_sh h a).2.1 = 0 ∧ (a_sh h b).1 = 2 ∧ (a_sh h b).2.1 = 0 ∧ ¬ sp < 0 ∧ ¬ dp < 0 ∧ ¬ n < 0 ∧ sp.toNatClampNeg + n.toNatClampNeg ≤ (a_sh h b).2.2 ∧ dp.toNatClampNeg + n.toNatClampNeg ≤ (a_sh h a).2.2) ce sl (pc + 3) lv rest (a_iall h a (va_cpy (a_ia h b) (a_ia h a) sp.toNatClampNeg dp.toNatClampNeg n.toNatClampNeg))
        | _ => none
      | some (7, _) => match st with
        | .int x :: .int z :: rest => a_nx (len = 3 ∧ 1 ≤ d ∧ a_cw rest ≤ 8) ce sl (pc + 3) lv (.int (if z < x then x else z) :: rest) h
        | _ => none
      | some (8, _) => match st with
        | .int x :: .int z :: rest => a_nx (len = 3 ∧ 1 ≤ d ∧ a_cw rest ≤ 8) ce sl (pc + 3) lv (.int (if x < z then x else z) :: rest) h
        | _ => none
      | some (9, _) => match st with
        | .int x :: rest => a_nx (len = 3 ∧ 1 ≤ d ∧ a_cw rest ≤ 8) ce sl (pc + 3) lv (.int (if x < 0 then -x else x) :: rest) h
        | _ => none
      | some (10, _) => match st with
        | .int x :: .int z :: rest => a_nx (len = 3 ∧ 1 ≤ d ∧ a_cw rest ≤ 8 ∧ ¬ x = 0) ce sl (pc + 3) lv (.int (a_fdiv z x) :: rest) h
        | _ => none
      | some (1, k) => a_call d ce sl y k lv h (len = 3 ∧ a_mn k ≤ st.length) (st.take (a_mn k)).reverse (st.drop (a_mn k))
      | some (2, k) => a_call d ce sl y k lv h (len = 3 ∧ a_mn k ≤ st.length) (st.take (a_mn k)).reverse (st.drop (a_mn k))
      | _ => none
  | .invokespecial n, .ref b :: st =>
      match a_mth (a_mcl y) n with
      | some (5, _) => a_nx (len = 3 ∧ 1 ≤ d ∧ a_cw st ≤ 8 ∧ b ≠ 1003) ce sl (pc + 3) lv st h
      | some (3, k) => a_call d ce sl y k lv h (len = 3 ∧ a_mn k = 0 ∧ b ≠ 1003) [.ref b] st
      | some (4, k) => a_call d ce sl y k lv h (len = 3 ∧ a_mn k = 0 ∧ b ≠ 1003) [.ref b] st
      | _ => none
  | .ireturn, [.int v] => match a_mr y with
      | some ty => a_en (len = 1 ∧ narrow ty (.int v) = .int v ∧ a_rt ty = 0) (some (.int v))
      | none => none
  | .lreturn, [.long v] => if a_mr y = some .long then a_en (len = 1) (some (.long v)) else none
  | .areturn, [.ref r] => match a_mr y with
      | some ty => a_en (len = 1 ∧ a_rt ty = 1 ∧ r ≠ 1003) (some (.ref r))
      | none => none
  | .return_, [] => if a_mr y = none then a_en (len = 1) none else none
  | i, .int x :: .int z :: st => (a_bi i z x).elim none (fun w => a_nx (len = 1) ce sl (pc + 1) lv (.int w :: st) h)
  | i, .long x :: .long z :: st => (a_bl i z x).elim none (fun w => a_nx (len = 1) ce sl (pc + 1) lv (.long w :: st) h)
  | i, .int x :: .long z :: st => (a_bs i z x).elim none (fun w => a_nx (len = 1) ce sl (pc + 1) lv (.long w :: st) h)
  | _, _ => none
def a_step (d ce sl y pc : Nat) (lv st : List Value) (h : aH) : aO := match decode (a_mb y) pc with
  | .ok (i, len) => a_op d ce sl y pc lv st h i len
  | .error _ => none
/-- a predicate of: depth, cells and slots made, method, place, locals, stack, heap, what must hold at the end -/
abbrev aP : Type := Nat → Nat → Nat → Nat → Nat → List Value → List Value → aH → (Option Value → aH → Prop) → Prop
def a_pst (P1 P2 : aP) : aP := fun d ce sl y pc lv st h post => match a_step d ce sl y pc lv st h with
  | some (.inl (q, ce', sl', pc', lv', st', h')) => q ∧ P1 d ce' sl' y pc' lv' st' h' post
  | some (.inr (.inl (q, pc1, pc2, st'))) => (q → P2 d ce sl y pc1 lv st' h post) ∧ (¬ q → P2 d ce sl y pc2 lv st' h post)
  | some (.inr (.inr (.inl (q, k, as, rest)))) => q ∧ P2 (d - 1) 0 0 k 0 (a_ent as (a_ml k)) [] h (fun r h' => P2 d (ce + a_mc k) (sl + a_ms k) y (pc + 3) lv (r.toList ++ rest) h' post)
  | some (.inr (.inr (.inr (q, r)))) => q ∧ post r h
  | none => False
def a_mono (P : aP) : Prop := ∀ d ce sl y pc lv st h (p1 p2 : Option Value → aH → Prop), (∀ r h', p1 r h' → p2 r h') → P d ce sl y pc lv st h p1 → P d ce sl y pc lv st h p2
def a_closed (P : aP) : Prop := ∀ d ce sl y pc lv st h post, a_pst P P d ce sl y pc lv st h post → P d ce sl y pc lv st h post
def R : aP := fun d ce sl y pc lv st h post => ∀ P : aP, a_mono P → a_closed P → P d ce sl y pc lv st h post
theorem R_mono : a_mono R := fun d ce sl y pc lv st h p1 p2 hp k P hm hc => hm d ce sl y pc lv st h p1 p2 hp (k P hm hc)
theorem a_pst_le {P1 P2 Q1 Q2 : aP} (h1 : ∀ d ce sl y pc lv st h post, P1 d ce sl y pc lv st h post → Q1 d ce sl y pc lv st h post) (h2 : ∀ d ce sl y pc lv st h post, P2 d ce sl y pc lv st h post → Q2 d ce sl y pc lv st h post) (hm : a_mono Q2) : ∀ d ce sl y pc lv st h post, a_pst P1 P2 d ce sl y pc lv st h post → a_pst Q1 Q2 d ce sl y pc lv st h post := by
  intro d ce sl y pc lv st h post
  unfold a_pst
  rcases a_step d ce sl y pc lv st h with _ | (q | q | q | q)
  · exact id
  · exact fun k => ⟨k.1, h1 _ _ _ _ _ _ _ _ _ k.2⟩
  · exact fun k => ⟨fun c => h2 _ _ _ _ _ _ _ _ _ (k.1 c), fun c => h2 _ _ _ _ _ _ _ _ _ (k.2 c)⟩
  · exact fun k => ⟨k.1, hm _ _ _ _ _ _ _ _ _ _ (fun r h' z => h2 _ _ _ _ _ _ _ _ _ z) (h2 _ _ _ _ _ _ _ _ _ k.2)⟩
  · exact id
theorem R_closed : a_closed R := fun d ce sl y pc lv st h post k P hm hc => hc _ _ _ _ _ _ _ _ _ (a_pst_le (fun _ _ _ _ _ _ _ _ _ z => z P hm hc) (fun _ _ _ _ _ _ _ _ _ z => z P hm hc) hm _ _ _ _ _ _ _ _ _ k)
/-- n steps: stops at forks and calls -/
def ev : Nat → aP
  | 0 => R
  | n + 1 => a_pst (ev n) R
theorem ev_R (n : Nat) : ∀ {d ce sl y pc lv st h post}, ev n d ce sl y pc lv st h post → R d ce sl y pc lv st h post := by
  induction n with
  | zero => exact fun k => k
  | succ n ih => exact fun k => R_closed _ _ _ _ _ _ _ _ _ (a_pst_le (fun _ _ _ _ _ _ _ _ _ z => ih z) (fun _ _ _ _ _ _ _ _ _ z => z) R_mono _ _ _ _ _ _ _ _ _ k)
