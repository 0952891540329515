/-! one row a kind of step: 'ev (n+1)' turned into 'ev n' -/
section EVL
variable {n d ce sl y pc : Nat} {lv st : List Value} {h : aH} {post : Option Value → aH → Prop} {cc : ByteArray}
theorem ev_zero : ev 0 = R := rfl
theorem ev_iconst {z : Int} (hm : a_mb y = cc) (hd : decode cc pc = .ok (.iconst z, 1)) : ev (n + 1) d ce sl y pc lv st h post = ev n d ce sl y (pc + 1) lv (.int (Int32.ofInt z) :: st) h post := by
  simp [ev, a_pst, a_step, hm, hd, a_op, a_nx]
theorem ev_bipush {z : Int} (hm : a_mb y = cc) (hd : decode cc pc = .ok (.bipush z, 2)) (hz : -128 ≤ z ∧ z < 128) : ev (n + 1) d ce sl y pc lv st h post = ev n d ce sl y (pc + 2) lv (.int (Int32.ofInt z) :: st) h post := by
  simp [ev, a_pst, a_step, hm, hd, a_op, a_nx, hz]
theorem ev_sipush {z : Int} (hm : a_mb y = cc) (hd : decode cc pc = .ok (.sipush z, 3)) (hz : -32768 ≤ z ∧ z < 32768) : ev (n + 1) d ce sl y pc lv st h post = ev n d ce sl y (pc + 3) lv (.int (Int32.ofInt z) :: st) h post := by
  simp [ev, a_pst, a_step, hm, hd, a_op, a_nx, hz]
theorem ev_lconst {z : Fin 2} (hm : a_mb y = cc) (hd : decode cc pc = .ok (.lconst z, 1)) : ev (n + 1) d ce sl y pc lv st h post = ev n d ce sl y (pc + 1) lv (.long (Int64.ofNat z) :: st) h post := by
  simp [ev, a_pst, a_step, hm, hd, a_op, a_nx]
theorem ev_ldc {i c : Nat} {v : Int32} (hm : a_mb y = cc) (hd : decode cc pc = .ok (.ldc i, 2)) (hc : a_mcl y = c) (hv : a_cst c i = some (.int v)) : ev (n + 1) d ce sl y pc lv st h post = ev n d ce sl y (pc + 2) lv (.int v :: st) h post := by
  simp [ev, a_pst, a_step, hm, hd, a_op, a_nx, hc, hv]
theorem ev_ldcR {i c r : Nat} (hm : a_mb y = cc) (hd : decode cc pc = .ok (.ldc i, 2)) (hc : a_mcl y = c) (hv : a_cst c i = some (.ref r)) : ev (n + 1) d ce sl y pc lv st h post = ev n d ce sl y (pc + 2) lv (.ref r :: st) h post := by
  simp [ev, a_pst, a_step, hm, hd, a_op, a_nx, hc, hv]
theorem ev_ldc_w {i c : Nat} {v : Int32} (hm : a_mb y = cc) (hd : decode cc pc = .ok (.ldc_w i, 3)) (hc : a_mcl y = c) (hv : a_cst c i = some (.int v)) : ev (n + 1) d ce sl y pc lv st h post = ev n d ce sl y (pc + 3) lv (.int v :: st) h post := by
  simp [ev, a_pst, a_step, hm, hd, a_op, a_nx, hc, hv]
theorem ev_ldc2_w {i c : Nat} {v : Int64} (hm : a_mb y = cc) (hd : decode cc pc = .ok (.ldc2_w i, 3)) (hc : a_mcl y = c) (hv : a_cst c i = some (.long v)) : ev (n + 1) d ce sl y pc lv st h post = ev n d ce sl y (pc + 3) lv (.long v :: st) h post := by
  simp [ev, a_pst, a_step, hm, hd, a_op, a_nx, hc, hv]
theorem ev_getstatic {i c : Nat} {v : Value} (hm : a_mb y = cc) (hd : decode cc pc = .ok (.getstatic i, 3)) (hc : a_mcl y = c) (hv : a_sta c i = some v) : ev (n + 1) d ce sl y pc lv st h post = ev n d ce sl y (pc + 3) lv (v :: st) h post := by
  simp [ev, a_pst, a_step, hm, hd, a_op, a_nx, hc, hv]
theorem ev_iload_n {k : Fin 4} {x : Int32} (hm : a_mb y = cc) (hd : decode cc pc = .ok (.iload_n k, 1)) (hl : a_ldI lv k = some x) : ev (n + 1) d ce sl y pc lv st h post = ev n d ce sl y (pc + 1) lv (.int x :: st) h post := by
  simp [ev, a_pst, a_step, hm, hd, a_op, a_nx, hl]
theorem ev_iload {k : Nat} {x : Int32} (hm : a_mb y = cc) (hd : decode cc pc = .ok (.iload k, 2)) (hl : a_ldI lv k = some x) : ev (n + 1) d ce sl y pc lv st h post = ev n d ce sl y (pc + 2) lv (.int x :: st) h post := by
  simp [ev, a_pst, a_step, hm, hd, a_op, a_nx, hl]
theorem ev_lload_n {k : Fin 4} {x : Int64} (hm : a_mb y = cc) (hd : decode cc pc = .ok (.lload_n k, 1)) (hl : a_ldL lv k = some x) : ev (n + 1) d ce sl y pc lv st h post = ev n d ce sl y (pc + 1) lv (.long x :: st) h post := by
  simp [ev, a_pst, a_step, hm, hd, a_op, a_nx, hl]
theorem a_ldR_of {L : List Value} {i x : Nat} (h : L[i]? = some (.ref x)) (hx : x ≠ 1003) : a_ldR L i = some x := by
  simp [a_ldR, h, hx]
theorem ev_aload_n {k : Fin 4} {x : Nat} (hm : a_mb y = cc) (hd : decode cc pc = .ok (.aload_n k, 1)) (hl : lv[(k : Nat)]? = some (.ref x)) : ev (n + 1) d ce sl y pc lv st h post = (x ≠ 1003 ∧ ev n d ce sl y (pc + 1) lv (.ref x :: st) h post) := by
  by_cases hx : x = 1003 <;> simp [ev, a_pst, a_step, hm, hd, a_op, a_nx, a_ldR, hl, hx]
theorem ev_aload {k : Nat} {x : Nat} (hm : a_mb y = cc) (hd : decode cc pc = .ok (.aload k, 2)) (hl : lv[k]? = some (.ref x)) : ev (n + 1) d ce sl y pc lv st h post = (x ≠ 1003 ∧ ev n d ce sl y (pc + 2) lv (.ref x :: st) h post) := by
  by_cases hx : x = 1003 <;> simp [ev, a_pst, a_step, hm, hd, a_op, a_nx, a_ldR, hl, hx]
theorem ev_istore_n {k : Fin 4} {x : Int32} {lv' : List Value} (hm : a_mb y = cc) (hd : decode cc pc = .ok (.istore_n k, 1)) (hk : (k : Nat) < lv.length) (hl : a_st1 lv k (.int x) = lv') : ev (n + 1) d ce sl y pc lv (.int x :: st) h post = ev n d ce sl y (pc + 1) lv' st h post := by
  simp [ev, a_pst, a_step, hm, hd, a_op, a_nx, hk, hl]
theorem ev_istore {k : Nat} {x : Int32} {lv' : List Value} (hm : a_mb y = cc) (hd : decode cc pc = .ok (.istore k, 2)) (hk : k < lv.length) (hl : a_st1 lv k (.int x) = lv') : ev (n + 1) d ce sl y pc lv (.int x :: st) h post = ev n d ce sl y (pc + 2) lv' st h post := by
  simp [ev, a_pst, a_step, hm, hd, a_op, a_nx, hk, hl]
theorem ev_lstore_n {k : Fin 4} {x : Int64} {lv' : List Value} (hm : a_mb y = cc) (hd : decode cc pc = .ok (.lstore_n k, 1)) (hk : (k : Nat) + 1 < lv.length) (hl : a_st2 lv k (.long x) = lv') : ev (n + 1) d ce sl y pc lv (.long x :: st) h post = ev n d ce sl y (pc + 1) lv' st h post := by
  simp [ev, a_pst, a_step, hm, hd, a_op, a_nx, hk, hl]
theorem ev_astore_n {k : Fin 4} {x : Nat} {lv' : List Value} (hm : a_mb y = cc) (hd : decode cc pc = .ok (.astore_n k, 1)) (hk : (k : Nat) < lv.length) (hl : a_st1 lv k (.ref x) = lv') : ev (n + 1) d ce sl y pc lv (.ref x :: st) h post = (x ≠ 1003 ∧ ev n d ce sl y (pc + 1) lv' st h post) := by
  simp [ev, a_pst, a_step, hm, hd, a_op, a_nx, hk, hl]
theorem ev_astore {k : Nat} {x : Nat} {lv' : List Value} (hm : a_mb y = cc) (hd : decode cc pc = .ok (.astore k, 2)) (hk : k < lv.length) (hl : a_st1 lv k (.ref x) = lv') : ev (n + 1) d ce sl y pc lv (.ref x :: st) h post = (x ≠ 1003 ∧ ev n d ce sl y (pc + 2) lv' st h post) := by
  simp [ev, a_pst, a_step, hm, hd, a_op, a_nx, hk, hl]
theorem ev_iinc {k : Nat} {z : Int} {x : Int32} {lv' : List Value} (hm : a_mb y = cc) (hd : decode cc pc = .ok (.iinc k z, 3)) (hk : a_ldI lv k = some x) (hl : a_st1 lv k (.int (x + Int32.ofInt z)) = lv') : ev (n + 1) d ce sl y pc lv st h post = ev n d ce sl y (pc + 3) lv' st h post := by
  simp [ev, a_pst, a_step, hm, hd, a_op, a_nx, hk, hl]
theorem ev_bi {i : Instr} {x z w : Int32} (hi : ∀ d ce sl y pc lv st h, a_op d ce sl y pc lv (.int x :: .int z :: st) h i 1 = a_nx (1 = 1) ce sl (pc + 1) lv (.int w :: st) h) (hm : a_mb y = cc) (hd : decode cc pc = .ok (i, 1)) : ev (n + 1) d ce sl y pc lv (.int x :: .int z :: st) h post = ev n d ce sl y (pc + 1) lv (.int w :: st) h post := by
  simp [ev, a_pst, a_step, hm, hd, hi, a_nx]
theorem ev_bl {i : Instr} {x z w : Int64} (hi : ∀ d ce sl y pc lv st h, a_op d ce sl y pc lv (.long x :: .long z :: st) h i 1 = a_nx (1 = 1) ce sl (pc + 1) lv (.long w :: st) h) (hm : a_mb y = cc) (hd : decode cc pc = .ok (i, 1)) : ev (n + 1) d ce sl y pc lv (.long x :: .long z :: st) h post = ev n d ce sl y (pc + 1) lv (.long w :: st) h post := by
  simp [ev, a_pst, a_step, hm, hd, hi, a_nx]
theorem ev_bs {i : Instr} {x : Int32} {z w : Int64} (hi : ∀ d ce sl y pc lv st h, a_op d ce sl y pc lv (.int x :: .long z :: st) h i 1 = a_nx (1 = 1) ce sl (pc + 1) lv (.long w :: st) h) (hm : a_mb y = cc) (hd : decode cc pc = .ok (i, 1)) : ev (n + 1) d ce sl y pc lv (.int x :: .long z :: st) h post = ev n d ce sl y (pc + 1) lv (.long w :: st) h post := by
  simp [ev, a_pst, a_step, hm, hd, hi, a_nx]
theorem ev_iadd {x z : Int32} (hm : a_mb y = cc) (hd : decode cc pc = .ok (.iadd, 1)) : ev (n + 1) d ce sl y pc lv (.int x :: .int z :: st) h post = ev n d ce sl y (pc + 1) lv (.int (z + x) :: st) h post := ev_bi (fun _ _ _ _ _ _ _ _ => rfl) hm hd
theorem ev_isub {x z : Int32} (hm : a_mb y = cc) (hd : decode cc pc = .ok (.isub, 1)) : ev (n + 1) d ce sl y pc lv (.int x :: .int z :: st) h post = ev n d ce sl y (pc + 1) lv (.int (z - x) :: st) h post := ev_bi (fun _ _ _ _ _ _ _ _ => rfl) hm hd
theorem ev_imul {x z : Int32} (hm : a_mb y = cc) (hd : decode cc pc = .ok (.imul, 1)) : ev (n + 1) d ce sl y pc lv (.int x :: .int z :: st) h post = ev n d ce sl y (pc + 1) lv (.int (z * x) :: st) h post := ev_bi (fun _ _ _ _ _ _ _ _ => rfl) hm hd
theorem ev_iand {x z : Int32} (hm : a_mb y = cc) (hd : decode cc pc = .ok (.iand, 1)) : ev (n + 1) d ce sl y pc lv (.int x :: .int z :: st) h post = ev n d ce sl y (pc + 1) lv (.int (z &&& x) :: st) h post := ev_bi (fun _ _ _ _ _ _ _ _ => rfl) hm hd
theorem ev_ior {x z : Int32} (hm : a_mb y = cc) (hd : decode cc pc = .ok (.ior, 1)) : ev (n + 1) d ce sl y pc lv (.int x :: .int z :: st) h post = ev n d ce sl y (pc + 1) lv (.int (z ||| x) :: st) h post := ev_bi (fun _ _ _ _ _ _ _ _ => rfl) hm hd
theorem ev_ixor {x z : Int32} (hm : a_mb y = cc) (hd : decode cc pc = .ok (.ixor, 1)) : ev (n + 1) d ce sl y pc lv (.int x :: .int z :: st) h post = ev n d ce sl y (pc + 1) lv (.int (z ^^^ x) :: st) h post := ev_bi (fun _ _ _ _ _ _ _ _ => rfl) hm hd
theorem ev_ishl {x z : Int32} (hm : a_mb y = cc) (hd : decode cc pc = .ok (.ishl, 1)) : ev (n + 1) d ce sl y pc lv (.int x :: .int z :: st) h post = ev n d ce sl y (pc + 1) lv (.int (z <<< (x &&& 31)) :: st) h post := ev_bi (fun _ _ _ _ _ _ _ _ => rfl) hm hd
theorem ev_ishr {x z : Int32} (hm : a_mb y = cc) (hd : decode cc pc = .ok (.ishr, 1)) : ev (n + 1) d ce sl y pc lv (.int x :: .int z :: st) h post = ev n d ce sl y (pc + 1) lv (.int (z >>> (x &&& 31)) :: st) h post := ev_bi (fun _ _ _ _ _ _ _ _ => rfl) hm hd
theorem ev_iushr {x z : Int32} (hm : a_mb y = cc) (hd : decode cc pc = .ok (.iushr, 1)) : ev (n + 1) d ce sl y pc lv (.int x :: .int z :: st) h post = ev n d ce sl y (pc + 1) lv (.int (z.toUInt32 >>> (x.toUInt32 &&& Int32.toUInt32 31)).toInt32 :: st) h post := ev_bi (fun _ _ _ _ _ _ _ _ => rfl) hm hd
theorem ev_ladd {x z : Int64} (hm : a_mb y = cc) (hd : decode cc pc = .ok (.ladd, 1)) : ev (n + 1) d ce sl y pc lv (.long x :: .long z :: st) h post = ev n d ce sl y (pc + 1) lv (.long (z + x) :: st) h post := ev_bl (fun _ _ _ _ _ _ _ _ => rfl) hm hd
theorem ev_lsub {x z : Int64} (hm : a_mb y = cc) (hd : decode cc pc = .ok (.lsub, 1)) : ev (n + 1) d ce sl y pc lv (.long x :: .long z :: st) h post = ev n d ce sl y (pc + 1) lv (.long (z - x) :: st) h post := ev_bl (fun _ _ _ _ _ _ _ _ => rfl) hm hd
theorem ev_lmul {x z : Int64} (hm : a_mb y = cc) (hd : decode cc pc = .ok (.lmul, 1)) : ev (n + 1) d ce sl y pc lv (.long x :: .long z :: st) h post = ev n d ce sl y (pc + 1) lv (.long (z * x) :: st) h post := ev_bl (fun _ _ _ _ _ _ _ _ => rfl) hm hd
theorem ev_land {x z : Int64} (hm : a_mb y = cc) (hd : decode cc pc = .ok (.land, 1)) : ev (n + 1) d ce sl y pc lv (.long x :: .long z :: st) h post = ev n d ce sl y (pc + 1) lv (.long (z &&& x) :: st) h post := ev_bl (fun _ _ _ _ _ _ _ _ => rfl) hm hd
theorem ev_lor {x z : Int64} (hm : a_mb y = cc) (hd : decode cc pc = .ok (.lor, 1)) : ev (n + 1) d ce sl y pc lv (.long x :: .long z :: st) h post = ev n d ce sl y (pc + 1) lv (.long (z ||| x) :: st) h post := ev_bl (fun _ _ _ _ _ _ _ _ => rfl) hm hd
theorem ev_lxor {x z : Int64} (hm : a_mb y = cc) (hd : decode cc pc = .ok (.lxor, 1)) : ev (n + 1) d ce sl y pc lv (.long x :: .long z :: st) h post = ev n d ce sl y (pc + 1) lv (.long (z ^^^ x) :: st) h post := ev_bl (fun _ _ _ _ _ _ _ _ => rfl) hm hd
theorem ev_lshl {x : Int32} {z : Int64} (hm : a_mb y = cc) (hd : decode cc pc = .ok (.lshl, 1)) : ev (n + 1) d ce sl y pc lv (.int x :: .long z :: st) h post = ev n d ce sl y (pc + 1) lv (.long (z <<< (x.toInt64 &&& 63)) :: st) h post := ev_bs (fun _ _ _ _ _ _ _ _ => rfl) hm hd
theorem ev_lshr {x : Int32} {z : Int64} (hm : a_mb y = cc) (hd : decode cc pc = .ok (.lshr, 1)) : ev (n + 1) d ce sl y pc lv (.int x :: .long z :: st) h post = ev n d ce sl y (pc + 1) lv (.long (z >>> (x.toInt64 &&& 63)) :: st) h post := ev_bs (fun _ _ _ _ _ _ _ _ => rfl) hm hd
theorem ev_lushr {x : Int32} {z : Int64} (hm : a_mb y = cc) (hd : decode cc pc = .ok (.lushr, 1)) : ev (n + 1) d ce sl y pc lv (.int x :: .long z :: st) h post = ev n d ce sl y (pc + 1) lv (.long (z.toUInt64 >>> (x.toInt64.toUInt64 &&& Int64.toUInt64 63)).toInt64 :: st) h post := ev_bs (fun _ _ _ _ _ _ _ _ => rfl) hm hd
theorem ev_ineg {x : Int32} (hm : a_mb y = cc) (hd : decode cc pc = .ok (.ineg, 1)) : ev (n + 1) d ce sl y pc lv (.int x :: st) h post = ev n d ce sl y (pc + 1) lv (.int (-x) :: st) h post := by
  simp [ev, a_pst, a_step, hm, hd, a_op, a_nx]
theorem ev_i2l {x : Int32} (hm : a_mb y = cc) (hd : decode cc pc = .ok (.i2l, 1)) : ev (n + 1) d ce sl y pc lv (.int x :: st) h post = ev n d ce sl y (pc + 1) lv (.long x.toInt64 :: st) h post := by
  simp [ev, a_pst, a_step, hm, hd, a_op, a_nx]
theorem ev_l2i {x : Int64} (hm : a_mb y = cc) (hd : decode cc pc = .ok (.l2i, 1)) : ev (n + 1) d ce sl y pc lv (.long x :: st) h post = ev n d ce sl y (pc + 1) lv (.int x.toInt32 :: st) h post := by
  simp [ev, a_pst, a_step, hm, hd, a_op, a_nx]
theorem ev_i2b {x : Int32} (hm : a_mb y = cc) (hd : decode cc pc = .ok (.i2b, 1)) : ev (n + 1) d ce sl y pc lv (.int x :: st) h post = ev n d ce sl y (pc + 1) lv (.int x.toInt8.toInt32 :: st) h post := by
  simp [ev, a_pst, a_step, hm, hd, a_op, a_nx]
theorem ev_i2c {x : Int32} (hm : a_mb y = cc) (hd : decode cc pc = .ok (.i2c, 1)) : ev (n + 1) d ce sl y pc lv (.int x :: st) h post = ev n d ce sl y (pc + 1) lv (.int (x.toUInt32 % 65536).toInt32 :: st) h post := by
  simp [ev, a_pst, a_step, hm, hd, a_op, a_nx]
theorem ev_idiv {x z : Int32} (hm : a_mb y = cc) (hd : decode cc pc = .ok (.idiv, 1)) : ev (n + 1) d ce sl y pc lv (.int x :: .int z :: st) h post = (¬ x = 0 ∧ ev n d ce sl y (pc + 1) lv (.int (z / x) :: st) h post) := by
  simp [ev, a_pst, a_step, hm, hd, a_op, a_nx]
theorem ev_irem {x z : Int32} (hm : a_mb y = cc) (hd : decode cc pc = .ok (.irem, 1)) : ev (n + 1) d ce sl y pc lv (.int x :: .int z :: st) h post = (¬ x = 0 ∧ ev n d ce sl y (pc + 1) lv (.int (z - z / x * x) :: st) h post) := by
  simp [ev, a_pst, a_step, hm, hd, a_op, a_nx]
theorem ev_lcmp {x z : Int64} (hm : a_mb y = cc) (hd : decode cc pc = .ok (.lcmp, 1)) : ev (n + 1) d ce sl y pc lv (.long x :: .long z :: st) h post = ev n d ce sl y (pc + 1) lv (.int (lg_cmp z x) :: st) h post := by
  simp [ev, a_pst, a_step, hm, hd, a_op, a_nx]
theorem ev_dup {v : Value} (hm : a_mb y = cc) (hd : decode cc pc = .ok (.dup, 1)) : ev (n + 1) d ce sl y pc lv (v :: st) h post = (v.category = 1 ∧ ev n d ce sl y (pc + 1) lv (v :: v :: st) h post) := by
  simp [ev, a_pst, a_step, hm, hd, a_op, a_nx]
theorem ev_pop {v : Value} (hm : a_mb y = cc) (hd : decode cc pc = .ok (.pop, 1)) : ev (n + 1) d ce sl y pc lv (v :: st) h post = (v.category = 1 ∧ ev n d ce sl y (pc + 1) lv st h post) := by
  simp [ev, a_pst, a_step, hm, hd, a_op, a_nx]
theorem ev_dup2 {v w : Value} (hm : a_mb y = cc) (hd : decode cc pc = .ok (.dup2, 1)) : ev (n + 1) d ce sl y pc lv (v :: w :: st) h post = ((v.category = 1 ∧ w.category = 1) ∧ ev n d ce sl y (pc + 1) lv (v :: w :: v :: w :: st) h post) := by
  simp [ev, a_pst, a_step, hm, hd, a_op, a_nx]
theorem ev_goto {off : Int} {t : Nat} (hm : a_mb y = cc) (hd : decode cc pc = .ok (.goto off, 3)) (ht : a_tg pc off = some t) : ev (n + 1) d ce sl y pc lv st h post = ev n d ce sl y t lv st h post := by
  simp [ev, a_pst, a_step, hm, hd, a_op, a_nx, ht]
theorem ev_if {c : ClassFile.Cond} {off : Int} {t : Nat} {x : Int32} (hm : a_mb y = cc) (hd : decode cc pc = .ok (.ifCond c off, 3)) (ht : a_tg pc off = some t) : ev (n + 1) d ce sl y pc lv (.int x :: st) h post = ((a_cond c x 0 → R d ce sl y t lv st h post) ∧ (¬ a_cond c x 0 → R d ce sl y (pc + 3) lv st h post)) := by
  simp [ev, a_pst, a_step, hm, hd, a_op, a_fk, ht]
theorem ev_icmp {c : ClassFile.Cond} {off : Int} {t : Nat} {x z : Int32} (hm : a_mb y = cc) (hd : decode cc pc = .ok (.if_icmp c off, 3)) (ht : a_tg pc off = some t) : ev (n + 1) d ce sl y pc lv (.int x :: .int z :: st) h post = ((a_cond c z x → R d ce sl y t lv st h post) ∧ (¬ a_cond c z x → R d ce sl y (pc + 3) lv st h post)) := by
  simp [ev, a_pst, a_step, hm, hd, a_op, a_fk, ht]
theorem ev_getfield {i c ci k nf : Nat} {r : Nat} (hm : a_mb y = cc) (hd : decode cc pc = .ok (.getfield i, 3)) (hc : a_mcl y = c) (hf : a_fld c i = some (ci, k)) (hn : a_nf ci = nf) : ev (n + 1) d ce sl y pc lv (.ref r :: st) h post = (a_sh h r = (1, ci, nf) ∧ ev n d ce sl y (pc + 3) lv (a_fv h r k :: st) h post) := by
  subst hn
  simp [ev, a_pst, a_step, hm, hd, a_op, a_nx, hc, hf]
theorem ev_getstr {i c : Nat} {r : Nat} (j : Nat) {v : Value} (hm : a_mb y = cc) (hd : decode cc pc = .ok (.getfield i, 3)) (hc : a_mcl y = c) (hf : a_fld c i = none) (hs : a_str c i = some j) (hv : (if j = 0 then .ref (r + 10) else .int 0) = v) : ev (n + 1) d ce sl y pc lv (.ref r :: st) h post = ((1010 ≤ r ∧ r < 1018) ∧ ev n d ce sl y (pc + 3) lv (v :: st) h post) := by
  subst hv
  simp [ev, a_pst, a_step, hm, hd, a_op, a_nx, hc, hf, hs]
theorem ev_putfield {i c ci k nf : Nat} {r : Nat} {v : Value} (hm : a_mb y = cc) (hd : decode cc pc = .ok (.putfield i, 3)) (hc : a_mcl y = c) (hf : a_fld c i = some (ci, k)) (hn : a_nf ci = nf) (hp : a_pok y ci k v) : ev (n + 1) d ce sl y pc lv (v :: .ref r :: st) h post = (a_sh h r = (1, ci, nf) ∧ ev n d ce sl y (pc + 3) lv st (a_fset h r k v) post) := by
  subst hn
  simp [ev, a_pst, a_step, hm, hd, a_op, a_nx, hc, hf, hp]
theorem ev_arraylength {r : Nat} (hm : a_mb y = cc) (hd : decode cc pc = .ok (.arraylength, 1)) : ev (n + 1) d ce sl y pc lv (.ref r :: st) h post = (((a_sh h r).1 = 2 ∨ (a_sh h r).1 = 3 ∨ (a_sh h r).1 = 4) ∧ ev n d ce sl y (pc + 1) lv (.int (Int32.ofNat (a_sh h r).2.2) :: st) h post) := by
  simp [ev, a_pst, a_step, hm, hd, a_op, a_nx]
theorem ev_iaload {r : Nat} {j : Int32} (hm : a_mb y = cc) (hd : decode cc pc = .ok (.iaload, 1)) : ev (n + 1) d ce sl y pc lv (.int j :: .ref r :: st) h post = (((((a_sh h r).1 = 2 ∨ (a_sh h r).1 = 4) ∧ (a_sh h r).2.1 = 0) ∧ vp_in j (a_sh h r).2.2) ∧ ev n d ce sl y (pc + 1) lv (.int (a_ia h r j.toNatClampNeg) :: st) h post) := by
  simp [ev, a_pst, a_step, hm, hd, a_op, a_nx, and_assoc]
theorem ev_baload {r : Nat} {j : Int32} (hm : a_mb y = cc) (hd : decode cc pc = .ok (.baload, 1)) : ev (n + 1) d ce sl y pc lv (.int j :: .ref r :: st) h post = (((((a_sh h r).1 = 2 ∧ ((a_sh h r).2.1 = 1 ∨ (a_sh h r).2.1 = 2)) ∨ ((a_sh h r).1 = 4 ∧ (a_sh h r).2.1 = 1)) ∧ vp_in j (a_sh h r).2.2) ∧ ev n d ce sl y (pc + 1) lv (.int (a_ia h r j.toNatClampNeg) :: st) h post) := by
  simp [ev, a_pst, a_step, hm, hd, a_op, a_nx, and_assoc]
theorem ev_laload {r : Nat} {j : Int32} (hm : a_mb y = cc) (hd : decode cc pc = .ok (.laload, 1)) : ev (n + 1) d ce sl y pc lv (.int j :: .ref r :: st) h post = (((a_sh h r).1 = 3 ∧ vp_in j (a_sh h r).2.2) ∧ ev n d ce sl y (pc + 1) lv (.long (a_la h r j.toNatClampNeg) :: st) h post) := by
  simp [ev, a_pst, a_step, hm, hd, a_op, a_nx, and_assoc]
theorem ev_iastore {r : Nat} {j x : Int32} (hm : a_mb y = cc) (hd : decode cc pc = .ok (.iastore, 1)) : ev (n + 1) d ce sl y pc lv (.int x :: .int j :: .ref r :: st) h post = ((((a_sh h r).1 = 2 ∧ (a_sh h r).2.1 = 0) ∧ vp_in j (a_sh h r).2.2) ∧ ev n d ce sl y (pc + 1) lv st (a_iall h r (upd (a_ia h r) j.toNatClampNeg x)) post) := by
  simp [ev, a_pst, a_step, hm, hd, a_op, a_nx, and_assoc]
theorem ev_bastore {r : Nat} {j x : Int32} (hm : a_mb y = cc) (hd : decode cc pc = .ok (.bastore, 1)) : ev (n + 1) d ce sl y pc lv (.int x :: .int j :: .ref r :: st) h post = ((((a_sh h r).1 = 2 ∧ ((a_sh h r).2.1 = 1 ∨ (a_sh h r).2.1 = 2)) ∧ vp_in j (a_sh h r).2.2) ∧ ev n d ce sl y (pc + 1) lv st (a_iall h r (upd (a_ia h r) j.toNatClampNeg (vp_nar (if (a_sh h r).2.1 = 1 then .byte else .boolean) x))) post) := by
  simp [ev, a_pst, a_step, hm, hd, a_op, a_nx, and_assoc]
theorem ev_lastore {r : Nat} {j : Int32} {x : Int64} (hm : a_mb y = cc) (hd : decode cc pc = .ok (.lastore, 1)) : ev (n + 1) d ce sl y pc lv (.long x :: .int j :: .ref r :: st) h post = (((a_sh h r).1 = 3 ∧ vp_in j (a_sh h r).2.2) ∧ ev n d ce sl y (pc + 1) lv st (a_lall h r (vp_updL (a_la h r) j.toNatClampNeg x)) post) := by
  simp [ev, a_pst, a_step, hm, hd, a_op, a_nx, and_assoc]
/-- a call of a method that makes no cells -/
theorem ev_call {i : Instr} {k : Nat} {C : Prop} {as rest en : List Value} (ho : a_op (d + 1) ce sl y pc lv st h i 3 = a_call (d + 1) ce sl y k lv h C as rest) (hm : a_mb y = cc) (hd : decode cc pc = .ok (i, 3)) (hmc : a_mc k = 0) (hms : a_ms k = 0) (hce : ce ≤ a_mc y) (hsl : sl ≤ a_ms y) (hen : a_ent as (a_ml k) = en) (hfl : (a_flat as).length ≤ a_ml k) :
    ev (n + 1) (d + 1) ce sl y pc lv st h post = ((C ∧ a_cw rest ≤ 8) ∧ R d 0 0 k 0 en [] h (fun r h' => R (d + 1) ce sl y (pc + 3) lv (r.toList ++ rest) h' post)) := by
  subst hen
  simp [ev, a_pst, a_step, hm, hd, ho, a_call, a_cl, hmc, hms, hce, hsl, hfl, and_assoc]
theorem ev_ireturn {v : Int32} (hm : a_mb y = cc) (hd : decode cc pc = .ok (.ireturn, 1)) (hr : a_mr y = some .int) : ev (n + 1) d ce sl y pc lv [.int v] h post = post (some (.int v)) h := by
  simp [ev, a_pst, a_step, hm, hd, a_op, a_en, hr, narrow, a_rt]
theorem ev_sreturn {v : Int32} {ty : FieldType} (hm : a_mb y = cc) (hd : decode cc pc = .ok (.ireturn, 1)) (hr : a_mr y = some ty) (ht : a_rt ty = 0) : ev (n + 1) d ce sl y pc lv [.int v] h post = (narrow ty (.int v) = .int v ∧ post (some (.int v)) h) := by
  simp [ev, a_pst, a_step, hm, hd, a_op, a_en, hr, ht]
theorem ev_lreturn {v : Int64} (hm : a_mb y = cc) (hd : decode cc pc = .ok (.lreturn, 1)) (hr : a_mr y = some .long) : ev (n + 1) d ce sl y pc lv [.long v] h post = post (some (.long v)) h := by
  simp [ev, a_pst, a_step, hm, hd, a_op, a_en, hr]
theorem ev_areturn {r : Nat} {ty : FieldType} (hm : a_mb y = cc) (hd : decode cc pc = .ok (.areturn, 1)) (hr : a_mr y = some ty) (ht : a_rt ty = 1) : ev (n + 1) d ce sl y pc lv [.ref r] h post = (r ≠ 1003 ∧ post (some (.ref r)) h) := by
  simp [ev, a_pst, a_step, hm, hd, a_op, a_en, hr, ht]
theorem ev_return (hm : a_mb y = cc) (hd : decode cc pc = .ok (.return_, 1)) (hr : a_mr y = none) : ev (n + 1) d ce sl y pc lv [] h post = post none h := by
  simp [ev, a_pst, a_step, hm, hd, a_op, a_en, hr]
theorem a_rcv_eq {k b c nf : Nat} (hc : a_mcl k = c) (h14 : (c == 14) = false) (hn : a_nf c = nf) : a_rcv h k b = (a_sh h b = (1, c, nf)) := by
  subst hc; subst hn
  have : ¬ a_mcl k = 14 := by simpa using h14
  simp [a_rcv, this]
theorem ev_callV {i k na c b ck nf : Nat} {as rest en : List Value} (hm : a_mb y = cc) (hd : decode cc pc = .ok (.invokevirtual i, 3)) (hc : a_mcl y = c) (hk : a_mth c i = some (0, k)) (hn : a_mn k = na) (hs : st.drop na = .ref b :: rest) (hl : na ≤ st.length) (ha : .ref b :: (st.take na).reverse = as) (hck : a_mcl k = ck) (h14 : (ck == 14) = false) (hnf : a_nf ck = nf) (hmc : a_mc k = 0) (hms : a_ms k = 0) {ml : Nat} (hml : a_ml k = ml) (hen : a_ent as ml = en) (hfl : (a_flat as).length ≤ ml) :
    ev (n + 1) (d + 1) 0 0 y pc lv st h post = ((a_sh h b = (1, ck, nf) ∧ a_cw rest ≤ 8) ∧ R d 0 0 k 0 en [] h (fun r h' => R (d + 1) 0 0 y (pc + 3) lv (r.toList ++ rest) h' post)) := by
  subst hml
  have e := a_rcv_eq (h := h) (b := b) hck h14 hnf
  subst hn; subst ha
  rw [ev_call (C := 3 = 3 ∧ a_mn k ≤ st.length ∧ a_rcv h k b) (rest := rest) (by simp only [a_op, hc, hk, hs]) hm hd hmc hms (Nat.zero_le _) (Nat.zero_le _) hen hfl]
  simp [e, hl]
theorem ev_callJ {i k na c b : Nat} {as rest en : List Value} (hm : a_mb y = cc) (hd : decode cc pc = .ok (.invokevirtual i, 3)) (hc : a_mcl y = c) (hk : a_mth c i = some (0, k)) (hn : a_mn k = na) (hs : st.drop na = .ref b :: rest) (hl : na ≤ st.length) (ha : .ref b :: (st.take na).reverse = as) (hmc : a_mc k = 0) (hms : a_ms k = 0) {ml : Nat} (hml : a_ml k = ml) (hen : a_ent as ml = en) (hfl : (a_flat as).length ≤ ml) :
    ev (n + 1) (d + 1) 0 0 y pc lv st h post = ((a_rcv h k b ∧ a_cw rest ≤ 8) ∧ R d 0 0 k 0 en [] h (fun r h' => R (d + 1) 0 0 y (pc + 3) lv (r.toList ++ rest) h' post)) := by
  subst hml
  subst hn; subst ha
  rw [ev_call (C := 3 = 3 ∧ a_mn k ≤ st.length ∧ a_rcv h k b) (rest := rest) (by simp only [a_op, hc, hk, hs]) hm hd hmc hms (Nat.zero_le _) (Nat.zero_le _) hen hfl]
  simp [hl]
theorem ev_callS {i k na c q : Nat} {as rest en : List Value} (hm : a_mb y = cc) (hd : decode cc pc = .ok (.invokestatic i, 3)) (hc : a_mcl y = c) (hk : a_mth c i = some (q, k)) (hq : q = 1 ∨ q = 2) (hn : a_mn k = na) (hs : st.drop na = rest) (hl : na ≤ st.length) (ha : (st.take na).reverse = as) (hmc : a_mc k = 0) (hms : a_ms k = 0) {ml : Nat} (hml : a_ml k = ml) (hen : a_ent as ml = en) (hfl : (a_flat as).length ≤ ml) :
    ev (n + 1) (d + 1) 0 0 y pc lv st h post = (a_cw rest ≤ 8 ∧ R d 0 0 k 0 en [] h (fun r h' => R (d + 1) 0 0 y (pc + 3) lv (r.toList ++ rest) h' post)) := by
  subst hml
  subst hn; subst ha; subst hs
  rcases hq with rfl | rfl
  · rw [ev_call (C := 3 = 3 ∧ a_mn k ≤ st.length) (rest := st.drop (a_mn k)) (by simp only [a_op, hc, hk]) hm hd hmc hms (Nat.zero_le _) (Nat.zero_le _) hen hfl]
    simp [hl]
  · rw [ev_call (C := 3 = 3 ∧ a_mn k ≤ st.length) (rest := st.drop (a_mn k)) (by simp only [a_op, hc, hk]) hm hd hmc hms (Nat.zero_le _) (Nat.zero_le _) hen hfl]
    simp [hl]
theorem ev_copy {i c a b k : Nat} {nn dp sp : Int32} (hm : a_mb y = cc) (hd : decode cc pc = .ok (.invokestatic i, 3)) (hc : a_mcl y = c) (hk : a_mth c i = some (6, k)) :
    ev (n + 1) (d + 1) ce sl y pc lv (.int nn :: .int dp :: .ref a :: .int sp :: .ref b :: st) h post = ((a_cw st ≤ 8 ∧ ((a_sh h a).1 = 2 ∧ (a_sh h a).2.1 = 0) ∧ ((a_sh h b).1 = 2 ∧ (a_sh h b).2.1 = 0) ∧ ¬ sp < 0 ∧ ¬ dp < 0 ∧ ¬ nn < 0 ∧ sp.toNatClampNeg + nn.toNatClampNeg ≤ (a_sh h b).2.2 ∧ dp.toNatClampNeg + nn.toNatClampNeg ≤ (a_sh h a).2.2) ∧ ev n (d + 1) ce sl y (pc + 3) lv st (a_iall h a (va_cpy (a_ia h b) (a_ia h a) sp.toNatClampNeg dp.toNatClampNeg nn.toNatClampNeg)) post) := by
  simp [ev, a_pst, a_step, hm, hd, a_op, a_nx, hc, hk, and_assoc]
theorem ev_mmax {i c k : Nat} {x z : Int32} (hm : a_mb y = cc) (hd : decode cc pc = .ok (.invokestatic i, 3)) (hc : a_mcl y = c) (hk : a_mth c i = some (7, k)) : ev (n + 1) (d + 1) ce sl y pc lv (.int x :: .int z :: st) h post = ((a_cw st ≤ 8) ∧ ev n (d + 1) ce sl y (pc + 3) lv (.int (if z < x then x else z) :: st) h post) := by
  simp [ev, a_pst, a_step, hm, hd, a_op, a_nx, hc, hk]
theorem ev_mmin {i c k : Nat} {x z : Int32} (hm : a_mb y = cc) (hd : decode cc pc = .ok (.invokestatic i, 3)) (hc : a_mcl y = c) (hk : a_mth c i = some (8, k)) : ev (n + 1) (d + 1) ce sl y pc lv (.int x :: .int z :: st) h post = ((a_cw st ≤ 8) ∧ ev n (d + 1) ce sl y (pc + 3) lv (.int (if x < z then x else z) :: st) h post) := by
  simp [ev, a_pst, a_step, hm, hd, a_op, a_nx, hc, hk]
theorem ev_mabs {i c k : Nat} {x : Int32} (hm : a_mb y = cc) (hd : decode cc pc = .ok (.invokestatic i, 3)) (hc : a_mcl y = c) (hk : a_mth c i = some (9, k)) : ev (n + 1) (d + 1) ce sl y pc lv (.int x :: st) h post = ((a_cw st ≤ 8) ∧ ev n (d + 1) ce sl y (pc + 3) lv (.int (if x < 0 then -x else x) :: st) h post) := by
  simp [ev, a_pst, a_step, hm, hd, a_op, a_nx, hc, hk]
theorem ev_mfdiv {i c k : Nat} {x z : Int32} (hm : a_mb y = cc) (hd : decode cc pc = .ok (.invokestatic i, 3)) (hc : a_mcl y = c) (hk : a_mth c i = some (10, k)) : ev (n + 1) (d + 1) ce sl y pc lv (.int x :: .int z :: st) h post = ((a_cw st ≤ 8 ∧ ¬ x = 0) ∧ ev n (d + 1) ce sl y (pc + 3) lv (.int (a_fdiv z x) :: st) h post) := by
  simp [ev, a_pst, a_step, hm, hd, a_op, a_nx, hc, hk, and_assoc]
theorem ev_swOut {dflt lo hi : Int} {offs : Array Int} {t : Nat} {len : Nat} {x : Int32} (hm : a_mb y = cc) (hd : decode cc pc = .ok (.tableswitch dflt lo hi offs, len)) (ht : a_tg pc dflt = some t) (hx : x.toInt < lo ∨ hi < x.toInt) : ev (n + 1) d ce sl y pc lv (.int x :: st) h post = ev n d ce sl y t lv st h post := by
  simp [ev, a_pst, a_step, hm, hd, a_op, a_nx, ht, hx]
theorem ev_swIn {dflt lo hi : Int} {offs : Array Int} {t : Nat} {len : Nat} {off : Int} {x : Int32} {z : Int} (hm : a_mb y = cc) (hd : decode cc pc = .ok (.tableswitch dflt lo hi offs, len)) (hz : x.toInt = z) (hx : ¬ (z < lo ∨ hi < z)) (ho : offs[(z - lo).toNat]? = some off) (ht : a_tg pc off = some t) : ev (n + 1) d ce sl y pc lv (.int x :: st) h post = ev n d ce sl y t lv st h post := by
  subst hz
  simp only [ev, a_pst, a_step, hm, hd, a_op, hx, if_false, ho, Option.elim, ht, a_nx, true_and]
theorem ev_objInit {i c k b : Nat} (hm : a_mb y = cc) (hd : decode cc pc = .ok (.invokespecial i, 3)) (hc : a_mcl y = c) (hk : a_mth c i = some (5, k)) : ev (n + 1) (d + 1) ce sl y pc lv (.ref b :: st) h post = ((a_cw st ≤ 8 ∧ b ≠ 1003) ∧ ev n (d + 1) ce sl y (pc + 3) lv st h post) := by
  simp [ev, a_pst, a_step, hm, hd, a_op, a_nx, hc, hk, and_assoc]
theorem ev_callI {i k c b q ck nf : Nat} {en : List Value} {mk sk : Nat} (hm : a_mb y = cc) (hd : decode cc pc = .ok (.invokespecial i, 3)) (hc : a_mcl y = c) (hk : a_mth c i = some (q, k)) (hq : q = 3 ∨ q = 4) (hn : a_mn k = 0) (hmk : a_mc k = mk) (hsk : a_ms k = sk) (hce : ce + mk ≤ a_mc y) (hsl : sl + sk ≤ a_ms y) {ml : Nat} (hml : a_ml k = ml) (hen : a_ent [.ref b] ml = en) (hfl : (a_flat [.ref b]).length ≤ ml) :
    ev (n + 1) (d + 1) ce sl y pc lv (.ref b :: st) h post = ((b ≠ 1003 ∧ a_cw st ≤ 8 ∧ (mk = 0 ∨ a_frs lv st h)) ∧ R d 0 0 k 0 en [] h (fun r h' => R (d + 1) (ce + mk) (sl + sk) y (pc + 3) lv (r.toList ++ st) h' post)) := by
  subst hml; subst hen; subst hmk; subst hsk
  rcases hq with rfl | rfl <;> simp [ev, a_pst, a_step, hm, hd, a_op, a_call, a_cl, hc, hk, hn, hce, hsl, hfl, and_assoc]
theorem ev_new {i c ci nf : Nat} (hm : a_mb y = cc) (hd : decode cc pc = .ok (.new i, 3)) (hc : a_mcl y = c) (hk : a_nwc c i = some ci) (hnf : a_nf ci = nf) (hce : ce + 1 ≤ a_mc y) (hsl : sl + nf ≤ a_ms y) : ev (n + 1) d ce sl y pc lv st h post = (a_frs lv st h ∧ ev n d (ce + 1) (sl + nf) y (pc + 3) lv (.ref (a_nn h) :: st) (a_make h (1, ci, nf) (a_dv ci)) post) := by
  subst hnf
  simp [ev, a_pst, a_step, hm, hd, a_op, a_nx, hc, hk, hce, hsl]
theorem ev_newarray {t : ArrayType} {q0 q1 : Nat} {x : Int32} {N : Nat} (hm : a_mb y = cc) (hd : decode cc pc = .ok (.newarray t, 2)) (hx : ¬ x < 0) (hN : x.toNatClampNeg = N) (hN2 : N ≤ 1000) (ht : (t = .int ∧ q0 = 2 ∧ q1 = 0) ∨ (t = .byte ∧ q0 = 2 ∧ q1 = 1) ∨ (t = .boolean ∧ q0 = 2 ∧ q1 = 2) ∨ (t = .long ∧ q0 = 3 ∧ q1 = 0)) (hce : ce + 1 ≤ a_mc y) (hsl : sl + N ≤ a_ms y) : ev (n + 1) d ce sl y pc lv (.int x :: st) h post = (a_frs lv st h ∧ ev n d (ce + 1) (sl + N) y (pc + 2) lv (.ref (a_nn h) :: st) (a_make h (q0, q1, N) (fun _ => .null)) post) := by
  subst hN
  rcases ht with ⟨rfl, rfl, rfl⟩ | ⟨rfl, rfl, rfl⟩ | ⟨rfl, rfl, rfl⟩ | ⟨rfl, rfl, rfl⟩ <;> simp [ev, a_pst, a_step, hm, hd, a_op, a_nx, hx, hN2, hce, hsl]
/-- putfield's own condition -/
theorem a_pok_of {ci k : Nat} {v : Value} {C : String} {T : u_T} {N : Nat} {ty : FieldType} (hc : vwCl[ci]? = some (C, T, N)) (hf : (T k).2.2.2 = false ∨ ((a_mnm y).name = "<init>" ∧ (T k).1 = (a_cn.getD (a_mcl y) ""))) (ht : parseFieldDescriptor (T k).2.2.1 = some ty) (hv : a_fit ty v) : a_pok y ci k v := by
  unfold a_pok
  rw [hc]
  refine ⟨hf, fun ty' h' => ?_⟩
  rw [ht] at h'
  cases h'
  exact hv
theorem ev_putfieldF {i c ci k nf : Nat} {r : Nat} {v : Value} {C : String} {T : u_T} {N : Nat} {ty : FieldType} (hm : a_mb y = cc) (hd : decode cc pc = .ok (.putfield i, 3)) (hc : a_mcl y = c) (hf : a_fld c i = some (ci, k)) (hn : a_nf ci = nf) (hv : vwCl[ci]? = some (C, T, N)) (hfin : (T k).2.2.2 = false ∨ ((a_mnm y).name = "<init>" ∧ (T k).1 = (a_cn.getD (a_mcl y) ""))) (ht : parseFieldDescriptor (T k).2.2.1 = some ty) : ev (n + 1) d ce sl y pc lv (v :: .ref r :: st) h post = ((a_fit ty v ∧ a_sh h r = (1, ci, nf)) ∧ ev n d ce sl y (pc + 3) lv st (a_fset h r k v) post) := by
  subst hn
  have e : a_pok y ci k v = a_fit ty v := by
    unfold a_pok
    rw [hv]
    exact propext ⟨fun q => q.2 ty ht, fun q => ⟨hfin, fun ty' h' => by rw [ht] at h'; cases h'; exact q⟩⟩
  simp only [ev, a_pst, a_step, hm, hd, a_op, a_nx, hc, hf, e]
  simp [and_assoc, and_comm, and_left_comm]
end EVL
