/-! calls: type -/
/-- a byte of a long -/
def lby (v : Int64) (i : Int) : Int := ((v.toBitVec.toNat >>> (8 * i).toNat % 256 : Nat) : Int)
theorem lby_r {v : Int64} {i : Int} : 0 ≤ lby v i ∧ lby v i ≤ 255 := by
  unfold lby
  have := Nat.mod_lt (v.toBitVec.toNat >>> (8 * i).toNat) (show 256 > 0 by decide)
  omega
theorem low8 (n i : Nat) : (n % 256).testBit i = (decide (i < 8) && n.testBit i) := by
  rw [show 256 = 2 ^ 8 from rfl, Nat.testBit_mod_two_pow]
theorem c255 (i : Nat) : (255 : Nat).testBit i = decide (i < 8) := by
  rw [show 255 = 2 ^ 8 - 1 from rfl, Nat.testBit_two_pow_sub_one]
theorem lby_u {v : Int64} {i : Int} (h0 : 0 ≤ i) (h1 : i < 8) : ((v.toUInt64 >>> ((I (8 * i)).toInt64.toUInt64 &&& Int64.toUInt64 63)).toInt64.toInt32 &&& I 255) = I (lby v i) := by
  obtain ⟨k, rfl⟩ := Int.eq_ofNat_of_zero_le h0
  rw [show (8 : Int) * (k : Int) = ((8 * k : Nat) : Int) by omega, sh64u (8 * k) (by omega)]
  apply Int32.toBitVec_inj.mp
  rw [Int32.toBitVec_and]
  have e1 : ((v.toUInt64 >>> UInt64.ofNat (8 * k)).toInt64.toInt32).toBitVec = (v.toBitVec >>> (8 * k)).setWidth 32 := by
    rw [Int64.toBitVec_toInt32, BitVec.signExtend_eq_setWidth_of_le _ (by omega)]
    show ((v.toUInt64 >>> UInt64.ofNat (8 * k)).toBitVec).setWidth 32 = _
    rw [UInt64.toBitVec_shiftRight]
    have : ((UInt64.ofNat (8 * k)).toBitVec % 64).toNat = 8 * k := by
      rw [BitVec.toNat_umod]
      simp [UInt64.ofNat]
      omega
    rw [BitVec.ushiftRight_eq', this]
    rfl
  have e2 : (I (lby v k)).toBitVec = BitVec.ofNat 32 (v.toBitVec.toNat >>> (8 * k) % 256) := by
    unfold lby
    rw [show ((8 : Int) * (k : Int)).toNat = 8 * k by omega]
    rfl
  rw [e1, e2, show (I 255).toBitVec = BitVec.ofNat 32 255 from rfl]
  apply BitVec.eq_of_getLsbD_eq
  intro j hj
  simp only [BitVec.getLsbD_and, BitVec.getLsbD_setWidth, BitVec.getLsbD_ushiftRight, BitVec.getLsbD_ofNat, low8, c255, Nat.testBit_shiftRight, hj, decide_true, Bool.true_and]
  rw [BitVec.getLsbD, Bool.and_comm]
theorem lby_s {v : Int64} {i : Int} (h0 : 0 ≤ i) (h1 : i < 8) : ((v >>> ((I (8 * i)).toInt64 &&& 63)) &&& 255).toInt32 = I (lby v i) := by
  obtain ⟨k, rfl⟩ := Int.eq_ofNat_of_zero_le h0
  rw [show (8 : Int) * (k : Int) = ((8 * k : Nat) : Int) by omega, sh64s (8 * k) (by omega)]
  apply Int32.toBitVec_inj.mp
  have e1 : (((v >>> Int64.ofNat (8 * k)) &&& 255).toInt32).toBitVec = ((v.toBitVec.sshiftRight (8 * k)) &&& 255#64).setWidth 32 := by
    rw [Int64.toBitVec_toInt32, BitVec.signExtend_eq_setWidth_of_le _ (by omega)]
    rw [Int64.toBitVec_and, Int64.toBitVec_shiftRight]
    have : ((Int64.ofNat (8 * k)).toBitVec.smod 64).toNat = 8 * k := by
      have : ∀ c : Nat, c < 64 → ((Int64.ofNat c).toBitVec.smod 64).toNat = c := by decide +kernel
      exact this (8 * k) (by omega)
    simp only [BitVec.sshiftRight', this]
    rfl
  have e2 : (I (lby v k)).toBitVec = BitVec.ofNat 32 (v.toBitVec.toNat >>> (8 * k) % 256) := by
    unfold lby
    rw [show ((8 : Int) * (k : Int)).toNat = 8 * k by omega]
    rfl
  rw [e1, e2]
  apply BitVec.eq_of_getLsbD_eq
  intro j hj
  simp only [BitVec.getLsbD_and, BitVec.getLsbD_setWidth, BitVec.getLsbD_sshiftRight, BitVec.getLsbD_ofNat, low8, c255, Nat.testBit_shiftRight, hj, decide_true, Bool.true_and]
  by_cases c : j < 8
  · have c1 : 8 * k + j < 64 := by omega
    have c2 : j < 64 := by omega
    simp [c, c1, c2, BitVec.getLsbD]
  · simp [c]
theorem sb_n : ∀ n : Nat, n < 256 → (I (n : Int)).toInt8.toInt32 = I (sb n) ∧ vp_nar .byte (I (sb n)) = I (sb n) := by decide +kernel
theorem sb_z {x : Int} (h0 : 0 ≤ x) (h1 : x ≤ 255) : (I x).toInt8.toInt32 = I (sb x) := by
  obtain ⟨n, rfl⟩ := Int.eq_ofNat_of_zero_le h0
  exact (sb_n n (by omega)).1
theorem sb_nar {x : Int} (h0 : 0 ≤ x) (h1 : x ≤ 255) : vp_nar .byte (I (sb x)) = I (sb x) := by
  obtain ⟨n, rfl⟩ := Int.eq_ofNat_of_zero_le h0
  exact (sb_n n (by omega)).2
theorem sb_r {x : Int} (h0 : 0 ≤ x) (h1 : x ≤ 255) : -128 ≤ sb x ∧ sb x < 128 := by
  unfold sb; split <;> omega
/-- the text, with z letters of v more (from the last) -/
def tyT (X : Int → Int) (x : Int) (v : Int64) (z j : Int) : Int := if j < x then X j else lby v (z - 1 - (j - x))
section TYP
variable {d : Nat} {h : aH} {post : Option Value → aH → Prop} {x : Int} {X : Int → Int} {v : Int64} {z : Int}
theorem tyT_O (hO : TxO x X) (hz : 0 ≤ z) (hx : x + z ≤ 400) : TxO (x + z) (tyT X x v z) := by
  refine ⟨by have := hO.1; omega, fun j j0 j1 => ?_⟩
  unfold tyT
  by_cases c : j < x
  · rw [if_pos c]; exact hO.2 j j0 c
  · rw [if_neg c]; exact lby_r
theorem c_HP_type (hL : Lay h) (hC : TxC h x X) (hO : TxO x X) (hz : -2147483648 ≤ z ∧ z < 2147483648) (k0 : ¬ (1 ≤ z ∧ z ≤ 8) → post (some (.int (I (-1)))) h) (k1 : (1 ≤ z ∧ z ≤ 8) → ¬ x + z ≤ 400 → post (some (.int (I (-3)))) h) (k2 : (1 ≤ z ∧ z ≤ 8) → x + z ≤ 400 → ∀ h', Lay h' → FrG (fun a => a = 2) (fun a k => a = 1 ∧ k = 1) h h' → TxC h' (x + z) (tyT X x v z) → post (some (.int (I (x + z)))) h') : R (d + 1) 0 0 133 0 [.ref 0, .long v, .null, .int (I z), .null] [] h post := by
  have hx := hO.1
  have e1 := hC.1
  by_cases c1 : 1 ≤ z ∧ z ≤ 8
  · by_cases c2 : x + z ≤ 400
    · have k2 := k2 c1 c2
      have key : ∀ r : Nat, (r : Int) ≤ z → ∀ h1, Lay h1 → FrG (fun a => a = 2) (fun a k => a = 1 ∧ k = 1) h h1 → TxC h1 (x + (z - r)) (tyT X x v z) → R (d + 1) 0 0 133 35 [.ref 0, .long v, .null, .int (I z), .int (I ((r : Int) - 1))] [] h1 post := by
        intro r
        induction r with
        | zero =>
          intro hr h1 a1 a2 a3
          have e2 := a3.1
          rw [show x + (z - ((0 : Nat) : Int)) = x + z by omega] at a3 e2
          rw [e133_35]
          simp (disch := (first | assumption | omega | exact zor_0 | exact zand_0 | exact zandn_0 | exact zbit_0 | exact zxor_0 | exact (bz_01 _).1 | (repeat (first | assumption | refine Lay.sF ?_ rfl | refine Lay.sA ?_ (by decide) | refine Lay.iall ?_ (by decide) | refine Lay.sL ?_ | refine Lay.sFL ?_ (by decide))))) only [e133_0, e133_1, e133_2, e133_4, e133_7, e133_10, e133_11, e133_12, e133_13, e133_16, e133_19, e133_20, e133_21, e133_24, e133_27, e133_29, e133_30, e133_31, e133_32, e133_33, e133_37, e133_40, e133_41, e133_44, e133_45, e133_47, e133_49, e133_50, e133_51, e133_52, e133_55, e133_56, e133_59, e133_62, e133_65, e133_66, e133_69, e133_72, e79_0, e79_1, e79_4, ne_eq, not_false_eq_true, true_and, and_true, reduceCtorEq, Nat.reduceEqDiff, Nat.reduceAdd, Nat.reduceSub, Nat.reduceLeDiff, Nat.reduceLT, Int.reduceEq, Int.reduceLT, Int.reduceLE, Int.reduceNeg, Int.reduceAdd, Int.reduceSub, Int.reduceMul, Int.reduceToNat, Int.cast_ofNat_Int, Int.natCast_zero, Nat.le_refl, Nat.zero_le, if_true, if_false, ite_true, ite_false, and_self, and_false, false_and, or_true, true_or, or_false, false_or, not_true_eq_false, Classical.not_not, not_or, Int.not_lt, Int.not_le, a_clr, Option.toList_some, Option.toList_none, List.cons_append, List.nil_append, a_cw, List.map_cons, List.map_nil, List.sum_cons, List.sum_nil, Value.category, nar_b0, nar_b1, sh_sa, sh_sf, sh_sl, sh_sfl, a_sh_iall, a_fv_iall, fv_sa, fv_sl, fv_sf_eq, fv_sf_ne, fv_sfl_eq, fv_sfl_ne, ga_sf, ga_sl, ga_sfl, ga_sa_ne, ga_sa, ga_iall_ne, gf_sa, gf_iall, gf_sl, gf_sfl, gf_sf_ne, gf_sf_eq, gl_sa, gl_iall, gl_sf, gl_sl_ne, gl_sl, gfl_sa, gfl_iall, gfl_sl, gfl_sf, gfl_sfl_ne, gfl_sfl_eq, ld_a, ld_0, ld_1, ld_2, st_a, st_0, st_f, ld_l, st_l, st_fl, sa_sa, sf_sf, sfl_sfl, k_max, k_far, k_no, zadd, zsub, zmul, zneg, zmax, zmin, zabs, zltI, zleI, zeqI, zlt0I, zle0I, z0ltI, z0leI, zeq0I, ti_ga, ti_gf, ti_bz, ztoInt, zinT, zix, bz_eq0, bz_eq1, bz_e0, bz_e1, bz_eqb, bz_or1, bz_True, bz_False, zor_i, zand_i, zxor_i, zandn_i, zandn_i2, zbit_i, ib_i, nB0, nB1, nBz, fk_T, fk_F, fk_pos, fk_neg, fk_same, fk_not, fk_and, fk_andn, fk_nand, fk_or, fkP10, fkP01, fkP0z, fkPz0, fkP1z, fkPz1, layHP a1, layReader a1, e2]
          exact k2 h1 a1 a2 a3
        | succ r ih =>
          intro hr h1 a1 a2 a3
          have ih := ih (by omega)
          have e2 := a3.1
          rw [show x + (z - ((r + 1 : Nat) : Int)) = x + (z - r) - 1 by omega] at a3 e2
          have br := lby_r (v := v) (i := (r : Int))
          have bu := lby_u (v := v) (i := (r : Int)) (by omega) (by omega)
          rw [show ((r + 1 : Nat) : Int) - 1 = (r : Int) by omega, e133_35]
          simp (disch := (first | assumption | omega | exact zor_0 | exact zand_0 | exact zandn_0 | exact zbit_0 | exact zxor_0 | exact (bz_01 _).1 | (repeat (first | assumption | refine Lay.sF ?_ rfl | refine Lay.sA ?_ (by decide) | refine Lay.iall ?_ (by decide) | refine Lay.sL ?_ | refine Lay.sFL ?_ (by decide))))) only [e133_0, e133_1, e133_2, e133_4, e133_7, e133_10, e133_11, e133_12, e133_13, e133_16, e133_19, e133_20, e133_21, e133_24, e133_27, e133_29, e133_30, e133_31, e133_32, e133_33, e133_37, e133_40, e133_41, e133_44, e133_45, e133_47, e133_49, e133_50, e133_51, e133_52, e133_55, e133_56, e133_59, e133_62, e133_65, e133_66, e133_69, e133_72, e80_0, e80_1, e80_4, e80_5, e80_8, e80_9, e80_10, e80_11, e80_12, e80_15, e80_16, e80_17, e80_20, ne_eq, not_false_eq_true, true_and, and_true, reduceCtorEq, Nat.reduceEqDiff, Nat.reduceAdd, Nat.reduceSub, Nat.reduceLeDiff, Nat.reduceLT, Int.reduceEq, Int.reduceLT, Int.reduceLE, Int.reduceNeg, Int.reduceAdd, Int.reduceSub, Int.reduceMul, Int.reduceToNat, Int.cast_ofNat_Int, Int.natCast_zero, Nat.le_refl, Nat.zero_le, if_true, if_false, ite_true, ite_false, and_self, and_false, false_and, or_true, true_or, or_false, false_or, not_true_eq_false, Classical.not_not, not_or, Int.not_lt, Int.not_le, a_clr, Option.toList_some, Option.toList_none, List.cons_append, List.nil_append, a_cw, List.map_cons, List.map_nil, List.sum_cons, List.sum_nil, Value.category, nar_b0, nar_b1, sh_sa, sh_sf, sh_sl, sh_sfl, a_sh_iall, a_fv_iall, fv_sa, fv_sl, fv_sf_eq, fv_sf_ne, fv_sfl_eq, fv_sfl_ne, ga_sf, ga_sl, ga_sfl, ga_sa_ne, ga_sa, ga_iall_ne, gf_sa, gf_iall, gf_sl, gf_sfl, gf_sf_ne, gf_sf_eq, gl_sa, gl_iall, gl_sf, gl_sl_ne, gl_sl, gfl_sa, gfl_iall, gfl_sl, gfl_sf, gfl_sfl_ne, gfl_sfl_eq, ld_a, ld_0, ld_1, ld_2, st_a, st_0, st_f, ld_l, st_l, st_fl, sa_sa, sf_sf, sfl_sfl, k_max, k_far, k_no, zadd, zsub, zmul, zneg, zmax, zmin, zabs, zltI, zleI, zeqI, zlt0I, zle0I, z0ltI, z0leI, zeq0I, ti_ga, ti_gf, ti_bz, ztoInt, zinT, zix, bz_eq0, bz_eq1, bz_e0, bz_e1, bz_eqb, bz_or1, bz_True, bz_False, zor_i, zand_i, zxor_i, zandn_i, zandn_i2, zbit_i, ib_i, nB0, nB1, nBz, fk_T, fk_F, fk_pos, fk_neg, fk_same, fk_not, fk_and, fk_andn, fk_nand, fk_or, fkP10, fkP01, fkP0z, fkPz0, fkP1z, fkPz1, layHP a1, layReader a1, e2, bu]
          refine ih _ ((a1.sA (by omega)).sF rfl) ((a2.sA rfl).sF (Or.inr ⟨rfl, rfl⟩)) ⟨?_, fun j j0 j1 => ?_⟩
          · rw [gf_sf_eq (by omega) (by omega)]; omega
          · rw [ga_sf, ga_sa (by omega) (by omega) (by omega) (by omega)]
            by_cases c : j = x + (z - r) - 1
            · rw [if_pos c]
              unfold tyT
              rw [if_neg (by omega)]
              congr 1
              omega
            · rw [if_neg c]; exact a3.2 j j0 (by omega)
      have kz := key z.toNat (by omega) h hL FrG.id ⟨by rw [e1]; omega, fun j j0 j1 => by
        unfold tyT
        rw [if_pos (by omega)]
        exact hC.2 j j0 (by omega)⟩
      rw [show ((z.toNat : Nat) : Int) = z by omega] at kz
      simp (disch := (first | assumption | omega | exact zor_0 | exact zand_0 | exact zandn_0 | exact zbit_0 | exact zxor_0 | exact (bz_01 _).1 | (repeat (first | assumption | refine Lay.sF ?_ rfl | refine Lay.sA ?_ (by decide) | refine Lay.iall ?_ (by decide) | refine Lay.sL ?_ | refine Lay.sFL ?_ (by decide))))) only [e133_0, e133_1, e133_2, e133_4, e133_7, e133_10, e133_11, e133_12, e133_13, e133_16, e133_19, e133_20, e133_21, e133_24, e133_27, e133_29, e133_30, e133_31, e133_32, e133_33, e133_37, e133_40, e133_41, e133_44, e133_45, e133_47, e133_49, e133_50, e133_51, e133_52, e133_55, e133_56, e133_59, e133_62, e133_65, e133_66, e133_69, e133_72, e79_0, e79_1, e79_4, ne_eq, not_false_eq_true, true_and, and_true, reduceCtorEq, Nat.reduceEqDiff, Nat.reduceAdd, Nat.reduceSub, Nat.reduceLeDiff, Nat.reduceLT, Int.reduceEq, Int.reduceLT, Int.reduceLE, Int.reduceNeg, Int.reduceAdd, Int.reduceSub, Int.reduceMul, Int.reduceToNat, Int.cast_ofNat_Int, Int.natCast_zero, Nat.le_refl, Nat.zero_le, if_true, if_false, ite_true, ite_false, and_self, and_false, false_and, or_true, true_or, or_false, false_or, not_true_eq_false, Classical.not_not, not_or, Int.not_lt, Int.not_le, a_clr, Option.toList_some, Option.toList_none, List.cons_append, List.nil_append, a_cw, List.map_cons, List.map_nil, List.sum_cons, List.sum_nil, Value.category, nar_b0, nar_b1, sh_sa, sh_sf, sh_sl, sh_sfl, a_sh_iall, a_fv_iall, fv_sa, fv_sl, fv_sf_eq, fv_sf_ne, fv_sfl_eq, fv_sfl_ne, ga_sf, ga_sl, ga_sfl, ga_sa_ne, ga_sa, ga_iall_ne, gf_sa, gf_iall, gf_sl, gf_sfl, gf_sf_ne, gf_sf_eq, gl_sa, gl_iall, gl_sf, gl_sl_ne, gl_sl, gfl_sa, gfl_iall, gfl_sl, gfl_sf, gfl_sfl_ne, gfl_sfl_eq, ld_a, ld_0, ld_1, ld_2, st_a, st_0, st_f, ld_l, st_l, st_fl, sa_sa, sf_sf, sfl_sfl, k_max, k_far, k_no, zadd, zsub, zmul, zneg, zmax, zmin, zabs, zltI, zleI, zeqI, zlt0I, zle0I, z0ltI, z0leI, zeq0I, ti_ga, ti_gf, ti_bz, ztoInt, zinT, zix, bz_eq0, bz_eq1, bz_e0, bz_e1, bz_eqb, bz_or1, bz_True, bz_False, zor_i, zand_i, zxor_i, zandn_i, zandn_i2, zbit_i, ib_i, nB0, nB1, nBz, fk_T, fk_F, fk_pos, fk_neg, fk_same, fk_not, fk_and, fk_andn, fk_nand, fk_or, fkP10, fkP01, fkP0z, fkPz0, fkP1z, fkPz1, layHP hL, layReader hL, q_HP_within, c1, e1]
      exact kz
    · have k1 := k1 c1 c2
      simp (disch := (first | assumption | omega | exact zor_0 | exact zand_0 | exact zandn_0 | exact zbit_0 | exact zxor_0 | exact (bz_01 _).1 | (repeat (first | assumption | refine Lay.sF ?_ rfl | refine Lay.sA ?_ (by decide) | refine Lay.iall ?_ (by decide) | refine Lay.sL ?_ | refine Lay.sFL ?_ (by decide))))) only [e133_0, e133_1, e133_2, e133_4, e133_7, e133_10, e133_11, e133_12, e133_13, e133_16, e133_19, e133_20, e133_21, e133_24, e133_27, e133_29, e133_30, e133_31, e133_32, e133_33, e133_37, e133_40, e133_41, e133_44, e133_45, e133_47, e133_49, e133_50, e133_51, e133_52, e133_55, e133_56, e133_59, e133_62, e133_65, e133_66, e133_69, e133_72, e79_0, e79_1, e79_4, ne_eq, not_false_eq_true, true_and, and_true, reduceCtorEq, Nat.reduceEqDiff, Nat.reduceAdd, Nat.reduceSub, Nat.reduceLeDiff, Nat.reduceLT, Int.reduceEq, Int.reduceLT, Int.reduceLE, Int.reduceNeg, Int.reduceAdd, Int.reduceSub, Int.reduceMul, Int.reduceToNat, Int.cast_ofNat_Int, Int.natCast_zero, Nat.le_refl, Nat.zero_le, if_true, if_false, ite_true, ite_false, and_self, and_false, false_and, or_true, true_or, or_false, false_or, not_true_eq_false, Classical.not_not, not_or, Int.not_lt, Int.not_le, a_clr, Option.toList_some, Option.toList_none, List.cons_append, List.nil_append, a_cw, List.map_cons, List.map_nil, List.sum_cons, List.sum_nil, Value.category, nar_b0, nar_b1, sh_sa, sh_sf, sh_sl, sh_sfl, a_sh_iall, a_fv_iall, fv_sa, fv_sl, fv_sf_eq, fv_sf_ne, fv_sfl_eq, fv_sfl_ne, ga_sf, ga_sl, ga_sfl, ga_sa_ne, ga_sa, ga_iall_ne, gf_sa, gf_iall, gf_sl, gf_sfl, gf_sf_ne, gf_sf_eq, gl_sa, gl_iall, gl_sf, gl_sl_ne, gl_sl, gfl_sa, gfl_iall, gfl_sl, gfl_sf, gfl_sfl_ne, gfl_sfl_eq, ld_a, ld_0, ld_1, ld_2, st_a, st_0, st_f, ld_l, st_l, st_fl, sa_sa, sf_sf, sfl_sfl, k_max, k_far, k_no, zadd, zsub, zmul, zneg, zmax, zmin, zabs, zltI, zleI, zeqI, zlt0I, zle0I, z0ltI, z0leI, zeq0I, ti_ga, ti_gf, ti_bz, ztoInt, zinT, zix, bz_eq0, bz_eq1, bz_e0, bz_e1, bz_eqb, bz_or1, bz_True, bz_False, zor_i, zand_i, zxor_i, zandn_i, zandn_i2, zbit_i, ib_i, nB0, nB1, nBz, fk_T, fk_F, fk_pos, fk_neg, fk_same, fk_not, fk_and, fk_andn, fk_nand, fk_or, fkP10, fkP01, fkP0z, fkPz0, fkP1z, fkPz1, layHP hL, layReader hL, q_HP_within, c1, e1]
      exact k1
  · have k0 := k0 c1
    simp (disch := (first | assumption | omega | exact zor_0 | exact zand_0 | exact zandn_0 | exact zbit_0 | exact zxor_0 | exact (bz_01 _).1 | (repeat (first | assumption | refine Lay.sF ?_ rfl | refine Lay.sA ?_ (by decide) | refine Lay.iall ?_ (by decide) | refine Lay.sL ?_ | refine Lay.sFL ?_ (by decide))))) only [e133_0, e133_1, e133_2, e133_4, e133_7, e133_10, e133_11, e133_12, e133_13, e133_16, e133_19, e133_20, e133_21, e133_24, e133_27, e133_29, e133_30, e133_31, e133_32, e133_33, e133_37, e133_40, e133_41, e133_44, e133_45, e133_47, e133_49, e133_50, e133_51, e133_52, e133_55, e133_56, e133_59, e133_62, e133_65, e133_66, e133_69, e133_72, ne_eq, not_false_eq_true, true_and, and_true, reduceCtorEq, Nat.reduceEqDiff, Nat.reduceAdd, Nat.reduceSub, Nat.reduceLeDiff, Nat.reduceLT, Int.reduceEq, Int.reduceLT, Int.reduceLE, Int.reduceNeg, Int.reduceAdd, Int.reduceSub, Int.reduceMul, Int.reduceToNat, Int.cast_ofNat_Int, Int.natCast_zero, Nat.le_refl, Nat.zero_le, if_true, if_false, ite_true, ite_false, and_self, and_false, false_and, or_true, true_or, or_false, false_or, not_true_eq_false, Classical.not_not, not_or, Int.not_lt, Int.not_le, a_clr, Option.toList_some, Option.toList_none, List.cons_append, List.nil_append, a_cw, List.map_cons, List.map_nil, List.sum_cons, List.sum_nil, Value.category, nar_b0, nar_b1, sh_sa, sh_sf, sh_sl, sh_sfl, a_sh_iall, a_fv_iall, fv_sa, fv_sl, fv_sf_eq, fv_sf_ne, fv_sfl_eq, fv_sfl_ne, ga_sf, ga_sl, ga_sfl, ga_sa_ne, ga_sa, ga_iall_ne, gf_sa, gf_iall, gf_sl, gf_sfl, gf_sf_ne, gf_sf_eq, gl_sa, gl_iall, gl_sf, gl_sl_ne, gl_sl, gfl_sa, gfl_iall, gfl_sl, gfl_sf, gfl_sfl_ne, gfl_sfl_eq, ld_a, ld_0, ld_1, ld_2, st_a, st_0, st_f, ld_l, st_l, st_fl, sa_sa, sf_sf, sfl_sfl, k_max, k_far, k_no, zadd, zsub, zmul, zneg, zmax, zmin, zabs, zltI, zleI, zeqI, zlt0I, zle0I, z0ltI, z0leI, zeq0I, ti_ga, ti_gf, ti_bz, ztoInt, zinT, zix, bz_eq0, bz_eq1, bz_e0, bz_e1, bz_eqb, bz_or1, bz_True, bz_False, zor_i, zand_i, zxor_i, zandn_i, zandn_i2, zbit_i, ib_i, nB0, nB1, nBz, fk_T, fk_F, fk_pos, fk_neg, fk_same, fk_not, fk_and, fk_andn, fk_nand, fk_or, fkP10, fkP01, fkP0z, fkPz0, fkP1z, fkPz1, layHP hL, q_HP_within, c1]
    exact k0
theorem c_M_type (hL : Lay h) (hC : TxM h x X) (hO : TxO x X) (hz : -2147483648 ≤ z ∧ z < 2147483648) (k0 : ¬ (1 ≤ z ∧ z ≤ 8) → post (some (.int (I (-1)))) h) (k1 : (1 ≤ z ∧ z ≤ 8) → ¬ x + z ≤ 400 → post (some (.int (I (-3)))) h) (k2 : (1 ≤ z ∧ z ≤ 8) → x + z ≤ 400 → ∀ h', Lay h' → FrG (fun a => a = 74) (fun a k => a = 73 ∧ k = 2) h h' → TxM h' (x + z) (tyT X x v z) → post (some (.int (I (x + z)))) h') : R (d + 1) 0 0 175 0 [.ref 73, .long v, .null, .int (I z), .null] [] h post := by
  have hx := hO.1
  have e1 := hC.1
  by_cases c1 : 1 ≤ z ∧ z ≤ 8
  · by_cases c2 : x + z ≤ 400
    · have k2 := k2 c1 c2
      have key : ∀ r : Nat, (r : Int) ≤ z → ∀ h1, Lay h1 → FrG (fun a => a = 74) (fun a k => a = 73 ∧ k = 2) h h1 → TxM h1 (x + (z - r)) (tyT X x v z) → R (d + 1) 0 0 175 32 [.ref 73, .long v, .null, .int (I z), .int (I ((r : Int) - 1))] [] h1 post := by
        intro r
        induction r with
        | zero =>
          intro hr h1 a1 a2 a3
          have e2 := a3.1
          rw [show x + (z - ((0 : Nat) : Int)) = x + z by omega] at a3 e2
          rw [e175_32]
          simp (disch := (first | assumption | omega | exact zor_0 | exact zand_0 | exact zandn_0 | exact zbit_0 | exact zxor_0 | exact (bz_01 _).1 | (repeat (first | assumption | refine Lay.sF ?_ rfl | refine Lay.sA ?_ (by decide) | refine Lay.iall ?_ (by decide) | refine Lay.sL ?_ | refine Lay.sFL ?_ (by decide))))) only [e175_0, e175_1, e175_2, e175_4, e175_7, e175_10, e175_11, e175_12, e175_13, e175_16, e175_17, e175_18, e175_21, e175_24, e175_26, e175_27, e175_28, e175_29, e175_30, e175_34, e175_37, e175_38, e175_41, e175_42, e175_45, e175_46, e175_48, e175_50, e175_51, e175_52, e175_55, e175_56, e175_57, e175_58, e175_59, e175_60, e175_61, e175_64, e175_65, e175_66, e175_69, e175_72, e175_75, e175_76, e175_79, ne_eq, not_false_eq_true, true_and, and_true, reduceCtorEq, Nat.reduceEqDiff, Nat.reduceAdd, Nat.reduceSub, Nat.reduceLeDiff, Nat.reduceLT, Int.reduceEq, Int.reduceLT, Int.reduceLE, Int.reduceNeg, Int.reduceAdd, Int.reduceSub, Int.reduceMul, Int.reduceToNat, Int.cast_ofNat_Int, Int.natCast_zero, Nat.le_refl, Nat.zero_le, if_true, if_false, ite_true, ite_false, and_self, and_false, false_and, or_true, true_or, or_false, false_or, not_true_eq_false, Classical.not_not, not_or, Int.not_lt, Int.not_le, a_clr, Option.toList_some, Option.toList_none, List.cons_append, List.nil_append, a_cw, List.map_cons, List.map_nil, List.sum_cons, List.sum_nil, Value.category, nar_b0, nar_b1, sh_sa, sh_sf, sh_sl, sh_sfl, a_sh_iall, a_fv_iall, fv_sa, fv_sl, fv_sf_eq, fv_sf_ne, fv_sfl_eq, fv_sfl_ne, ga_sf, ga_sl, ga_sfl, ga_sa_ne, ga_sa, ga_iall_ne, gf_sa, gf_iall, gf_sl, gf_sfl, gf_sf_ne, gf_sf_eq, gl_sa, gl_iall, gl_sf, gl_sl_ne, gl_sl, gfl_sa, gfl_iall, gfl_sl, gfl_sf, gfl_sfl_ne, gfl_sfl_eq, ld_a, ld_0, ld_1, ld_2, st_a, st_0, st_f, ld_l, st_l, st_fl, sa_sa, sf_sf, sfl_sfl, k_max, k_far, k_no, zadd, zsub, zmul, zneg, zmax, zmin, zabs, zltI, zleI, zeqI, zlt0I, zle0I, z0ltI, z0leI, zeq0I, ti_ga, ti_gf, ti_bz, ztoInt, zinT, zix, bz_eq0, bz_eq1, bz_e0, bz_e1, bz_eqb, bz_or1, bz_True, bz_False, zor_i, zand_i, zxor_i, zandn_i, zandn_i2, zbit_i, ib_i, nB0, nB1, nBz, fk_T, fk_F, fk_pos, fk_neg, fk_same, fk_not, fk_and, fk_andn, fk_nand, fk_or, fkP10, fkP01, fkP0z, fkPz0, fkP1z, fkPz1, layM a1, e2]
          exact k2 h1 a1 a2 a3
        | succ r ih =>
          intro hr h1 a1 a2 a3
          have ih := ih (by omega)
          have e2 := a3.1
          rw [show x + (z - ((r + 1 : Nat) : Int)) = x + (z - r) - 1 by omega] at a3 e2
          have br := lby_r (v := v) (i := (r : Int))
          have bs := lby_s (v := v) (i := (r : Int)) (by omega) (by omega)
          have b8 := sb_z br.1 br.2
          have bn := sb_nar br.1 br.2
          have sr := sb_r br.1 br.2
          rw [show ((r + 1 : Nat) : Int) - 1 = (r : Int) by omega, e175_32]
          simp (disch := (first | assumption | omega | exact zor_0 | exact zand_0 | exact zandn_0 | exact zbit_0 | exact zxor_0 | exact (bz_01 _).1 | (repeat (first | assumption | refine Lay.sF ?_ rfl | refine Lay.sA ?_ (by decide) | refine Lay.iall ?_ (by decide) | refine Lay.sL ?_ | refine Lay.sFL ?_ (by decide))))) only [e175_0, e175_1, e175_2, e175_4, e175_7, e175_10, e175_11, e175_12, e175_13, e175_16, e175_17, e175_18, e175_21, e175_24, e175_26, e175_27, e175_28, e175_29, e175_30, e175_34, e175_37, e175_38, e175_41, e175_42, e175_45, e175_46, e175_48, e175_50, e175_51, e175_52, e175_55, e175_56, e175_57, e175_58, e175_59, e175_60, e175_61, e175_64, e175_65, e175_66, e175_69, e175_72, e175_75, e175_76, e175_79, ne_eq, not_false_eq_true, true_and, and_true, reduceCtorEq, Nat.reduceEqDiff, Nat.reduceAdd, Nat.reduceSub, Nat.reduceLeDiff, Nat.reduceLT, Int.reduceEq, Int.reduceLT, Int.reduceLE, Int.reduceNeg, Int.reduceAdd, Int.reduceSub, Int.reduceMul, Int.reduceToNat, Int.cast_ofNat_Int, Int.natCast_zero, Nat.le_refl, Nat.zero_le, if_true, if_false, ite_true, ite_false, and_self, and_false, false_and, or_true, true_or, or_false, false_or, not_true_eq_false, Classical.not_not, not_or, Int.not_lt, Int.not_le, a_clr, Option.toList_some, Option.toList_none, List.cons_append, List.nil_append, a_cw, List.map_cons, List.map_nil, List.sum_cons, List.sum_nil, Value.category, nar_b0, nar_b1, sh_sa, sh_sf, sh_sl, sh_sfl, a_sh_iall, a_fv_iall, fv_sa, fv_sl, fv_sf_eq, fv_sf_ne, fv_sfl_eq, fv_sfl_ne, ga_sf, ga_sl, ga_sfl, ga_sa_ne, ga_sa, ga_iall_ne, gf_sa, gf_iall, gf_sl, gf_sfl, gf_sf_ne, gf_sf_eq, gl_sa, gl_iall, gl_sf, gl_sl_ne, gl_sl, gfl_sa, gfl_iall, gfl_sl, gfl_sf, gfl_sfl_ne, gfl_sfl_eq, ld_a, ld_0, ld_1, ld_2, st_a, st_0, st_f, ld_l, st_l, st_fl, sa_sa, sf_sf, sfl_sfl, k_max, k_far, k_no, zadd, zsub, zmul, zneg, zmax, zmin, zabs, zltI, zleI, zeqI, zlt0I, zle0I, z0ltI, z0leI, zeq0I, ti_ga, ti_gf, ti_bz, ztoInt, zinT, zix, bz_eq0, bz_eq1, bz_e0, bz_e1, bz_eqb, bz_or1, bz_True, bz_False, zor_i, zand_i, zxor_i, zandn_i, zandn_i2, zbit_i, ib_i, nB0, nB1, nBz, fk_T, fk_F, fk_pos, fk_neg, fk_same, fk_not, fk_and, fk_andn, fk_nand, fk_or, fkP10, fkP01, fkP0z, fkPz0, fkP1z, fkPz1, layM a1, e2, bs, b8, bn]
          refine ih _ ((a1.sA (by omega)).sF rfl) ((a2.sA rfl).sF (Or.inr ⟨rfl, rfl⟩)) ⟨?_, fun j j0 j1 => ?_⟩
          · rw [gf_sf_eq (by omega) (by omega)]; omega
          · rw [ga_sf, ga_sa (by omega) (by omega) (by omega) (by omega)]
            by_cases c : j = x + (z - r) - 1
            · rw [if_pos c]
              unfold tyT
              rw [if_neg (by omega)]
              congr 2
              omega
            · rw [if_neg c]; exact a3.2 j j0 (by omega)
      have kz := key z.toNat (by omega) h hL FrG.id ⟨by rw [e1]; omega, fun j j0 j1 => by
        unfold tyT
        rw [if_pos (by omega)]
        exact hC.2 j j0 (by omega)⟩
      rw [show ((z.toNat : Nat) : Int) = z by omega] at kz
      simp (disch := (first | assumption | omega | exact zor_0 | exact zand_0 | exact zandn_0 | exact zbit_0 | exact zxor_0 | exact (bz_01 _).1 | (repeat (first | assumption | refine Lay.sF ?_ rfl | refine Lay.sA ?_ (by decide) | refine Lay.iall ?_ (by decide) | refine Lay.sL ?_ | refine Lay.sFL ?_ (by decide))))) only [e175_0, e175_1, e175_2, e175_4, e175_7, e175_10, e175_11, e175_12, e175_13, e175_16, e175_17, e175_18, e175_21, e175_24, e175_26, e175_27, e175_28, e175_29, e175_30, e175_34, e175_37, e175_38, e175_41, e175_42, e175_45, e175_46, e175_48, e175_50, e175_51, e175_52, e175_55, e175_56, e175_57, e175_58, e175_59, e175_60, e175_61, e175_64, e175_65, e175_66, e175_69, e175_72, e175_75, e175_76, e175_79, ne_eq, not_false_eq_true, true_and, and_true, reduceCtorEq, Nat.reduceEqDiff, Nat.reduceAdd, Nat.reduceSub, Nat.reduceLeDiff, Nat.reduceLT, Int.reduceEq, Int.reduceLT, Int.reduceLE, Int.reduceNeg, Int.reduceAdd, Int.reduceSub, Int.reduceMul, Int.reduceToNat, Int.cast_ofNat_Int, Int.natCast_zero, Nat.le_refl, Nat.zero_le, if_true, if_false, ite_true, ite_false, and_self, and_false, false_and, or_true, true_or, or_false, false_or, not_true_eq_false, Classical.not_not, not_or, Int.not_lt, Int.not_le, a_clr, Option.toList_some, Option.toList_none, List.cons_append, List.nil_append, a_cw, List.map_cons, List.map_nil, List.sum_cons, List.sum_nil, Value.category, nar_b0, nar_b1, sh_sa, sh_sf, sh_sl, sh_sfl, a_sh_iall, a_fv_iall, fv_sa, fv_sl, fv_sf_eq, fv_sf_ne, fv_sfl_eq, fv_sfl_ne, ga_sf, ga_sl, ga_sfl, ga_sa_ne, ga_sa, ga_iall_ne, gf_sa, gf_iall, gf_sl, gf_sfl, gf_sf_ne, gf_sf_eq, gl_sa, gl_iall, gl_sf, gl_sl_ne, gl_sl, gfl_sa, gfl_iall, gfl_sl, gfl_sf, gfl_sfl_ne, gfl_sfl_eq, ld_a, ld_0, ld_1, ld_2, st_a, st_0, st_f, ld_l, st_l, st_fl, sa_sa, sf_sf, sfl_sfl, k_max, k_far, k_no, zadd, zsub, zmul, zneg, zmax, zmin, zabs, zltI, zleI, zeqI, zlt0I, zle0I, z0ltI, z0leI, zeq0I, ti_ga, ti_gf, ti_bz, ztoInt, zinT, zix, bz_eq0, bz_eq1, bz_e0, bz_e1, bz_eqb, bz_or1, bz_True, bz_False, zor_i, zand_i, zxor_i, zandn_i, zandn_i2, zbit_i, ib_i, nB0, nB1, nBz, fk_T, fk_F, fk_pos, fk_neg, fk_same, fk_not, fk_and, fk_andn, fk_nand, fk_or, fkP10, fkP01, fkP0z, fkPz0, fkP1z, fkPz1, layM hL, q_M_in, c1, e1]
      exact kz
    · have k1 := k1 c1 c2
      simp (disch := (first | assumption | omega | exact zor_0 | exact zand_0 | exact zandn_0 | exact zbit_0 | exact zxor_0 | exact (bz_01 _).1 | (repeat (first | assumption | refine Lay.sF ?_ rfl | refine Lay.sA ?_ (by decide) | refine Lay.iall ?_ (by decide) | refine Lay.sL ?_ | refine Lay.sFL ?_ (by decide))))) only [e175_0, e175_1, e175_2, e175_4, e175_7, e175_10, e175_11, e175_12, e175_13, e175_16, e175_17, e175_18, e175_21, e175_24, e175_26, e175_27, e175_28, e175_29, e175_30, e175_34, e175_37, e175_38, e175_41, e175_42, e175_45, e175_46, e175_48, e175_50, e175_51, e175_52, e175_55, e175_56, e175_57, e175_58, e175_59, e175_60, e175_61, e175_64, e175_65, e175_66, e175_69, e175_72, e175_75, e175_76, e175_79, ne_eq, not_false_eq_true, true_and, and_true, reduceCtorEq, Nat.reduceEqDiff, Nat.reduceAdd, Nat.reduceSub, Nat.reduceLeDiff, Nat.reduceLT, Int.reduceEq, Int.reduceLT, Int.reduceLE, Int.reduceNeg, Int.reduceAdd, Int.reduceSub, Int.reduceMul, Int.reduceToNat, Int.cast_ofNat_Int, Int.natCast_zero, Nat.le_refl, Nat.zero_le, if_true, if_false, ite_true, ite_false, and_self, and_false, false_and, or_true, true_or, or_false, false_or, not_true_eq_false, Classical.not_not, not_or, Int.not_lt, Int.not_le, a_clr, Option.toList_some, Option.toList_none, List.cons_append, List.nil_append, a_cw, List.map_cons, List.map_nil, List.sum_cons, List.sum_nil, Value.category, nar_b0, nar_b1, sh_sa, sh_sf, sh_sl, sh_sfl, a_sh_iall, a_fv_iall, fv_sa, fv_sl, fv_sf_eq, fv_sf_ne, fv_sfl_eq, fv_sfl_ne, ga_sf, ga_sl, ga_sfl, ga_sa_ne, ga_sa, ga_iall_ne, gf_sa, gf_iall, gf_sl, gf_sfl, gf_sf_ne, gf_sf_eq, gl_sa, gl_iall, gl_sf, gl_sl_ne, gl_sl, gfl_sa, gfl_iall, gfl_sl, gfl_sf, gfl_sfl_ne, gfl_sfl_eq, ld_a, ld_0, ld_1, ld_2, st_a, st_0, st_f, ld_l, st_l, st_fl, sa_sa, sf_sf, sfl_sfl, k_max, k_far, k_no, zadd, zsub, zmul, zneg, zmax, zmin, zabs, zltI, zleI, zeqI, zlt0I, zle0I, z0ltI, z0leI, zeq0I, ti_ga, ti_gf, ti_bz, ztoInt, zinT, zix, bz_eq0, bz_eq1, bz_e0, bz_e1, bz_eqb, bz_or1, bz_True, bz_False, zor_i, zand_i, zxor_i, zandn_i, zandn_i2, zbit_i, ib_i, nB0, nB1, nBz, fk_T, fk_F, fk_pos, fk_neg, fk_same, fk_not, fk_and, fk_andn, fk_nand, fk_or, fkP10, fkP01, fkP0z, fkPz0, fkP1z, fkPz1, layM hL, q_M_in, c1, e1]
      exact k1
  · have k0 := k0 c1
    simp (disch := (first | assumption | omega | exact zor_0 | exact zand_0 | exact zandn_0 | exact zbit_0 | exact zxor_0 | exact (bz_01 _).1 | (repeat (first | assumption | refine Lay.sF ?_ rfl | refine Lay.sA ?_ (by decide) | refine Lay.iall ?_ (by decide) | refine Lay.sL ?_ | refine Lay.sFL ?_ (by decide))))) only [e175_0, e175_1, e175_2, e175_4, e175_7, e175_10, e175_11, e175_12, e175_13, e175_16, e175_17, e175_18, e175_21, e175_24, e175_26, e175_27, e175_28, e175_29, e175_30, e175_34, e175_37, e175_38, e175_41, e175_42, e175_45, e175_46, e175_48, e175_50, e175_51, e175_52, e175_55, e175_56, e175_57, e175_58, e175_59, e175_60, e175_61, e175_64, e175_65, e175_66, e175_69, e175_72, e175_75, e175_76, e175_79, ne_eq, not_false_eq_true, true_and, and_true, reduceCtorEq, Nat.reduceEqDiff, Nat.reduceAdd, Nat.reduceSub, Nat.reduceLeDiff, Nat.reduceLT, Int.reduceEq, Int.reduceLT, Int.reduceLE, Int.reduceNeg, Int.reduceAdd, Int.reduceSub, Int.reduceMul, Int.reduceToNat, Int.cast_ofNat_Int, Int.natCast_zero, Nat.le_refl, Nat.zero_le, if_true, if_false, ite_true, ite_false, and_self, and_false, false_and, or_true, true_or, or_false, false_or, not_true_eq_false, Classical.not_not, not_or, Int.not_lt, Int.not_le, a_clr, Option.toList_some, Option.toList_none, List.cons_append, List.nil_append, a_cw, List.map_cons, List.map_nil, List.sum_cons, List.sum_nil, Value.category, nar_b0, nar_b1, sh_sa, sh_sf, sh_sl, sh_sfl, a_sh_iall, a_fv_iall, fv_sa, fv_sl, fv_sf_eq, fv_sf_ne, fv_sfl_eq, fv_sfl_ne, ga_sf, ga_sl, ga_sfl, ga_sa_ne, ga_sa, ga_iall_ne, gf_sa, gf_iall, gf_sl, gf_sfl, gf_sf_ne, gf_sf_eq, gl_sa, gl_iall, gl_sf, gl_sl_ne, gl_sl, gfl_sa, gfl_iall, gfl_sl, gfl_sf, gfl_sfl_ne, gfl_sfl_eq, ld_a, ld_0, ld_1, ld_2, st_a, st_0, st_f, ld_l, st_l, st_fl, sa_sa, sf_sf, sfl_sfl, k_max, k_far, k_no, zadd, zsub, zmul, zneg, zmax, zmin, zabs, zltI, zleI, zeqI, zlt0I, zle0I, z0ltI, z0leI, zeq0I, ti_ga, ti_gf, ti_bz, ztoInt, zinT, zix, bz_eq0, bz_eq1, bz_e0, bz_e1, bz_eqb, bz_or1, bz_True, bz_False, zor_i, zand_i, zxor_i, zandn_i, zandn_i2, zbit_i, ib_i, nB0, nB1, nBz, fk_T, fk_F, fk_pos, fk_neg, fk_same, fk_not, fk_and, fk_andn, fk_nand, fk_or, fkP10, fkP01, fkP0z, fkPz0, fkP1z, fkPz1, layM hL, q_M_in, c1]
    exact k0
end TYP
