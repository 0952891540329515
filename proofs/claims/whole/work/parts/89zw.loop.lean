/-! the law's loop -/
theorem and31 (x : Int) : I x &&& I 31 = I ((I x).toInt % 32) := by
  generalize I x = y
  apply Int32.toBitVec_inj.mp
  rw [Int32.toBitVec_and]
  have e : y.toInt % 32 = ((y.toBitVec.toNat % 32 : Nat) : Int) := by
    have h1 : y.toInt = y.toBitVec.toInt := rfl
    have h2 := BitVec.toInt_eq_toNat_cond y.toBitVec
    have h3 := y.toBitVec.isLt
    rw [h1, h2]
    split <;> omega
  rw [e, iN_bv]
  apply BitVec.eq_of_toNat_eq
  rw [BitVec.toNat_and, BitVec.toNat_ofNat, show (I 31).toBitVec.toNat = 2 ^ 5 - 1 from rfl, Nat.and_two_pow_sub_one_eq_mod]
  have := Nat.mod_lt y.toBitVec.toNat (show 2 ^ 5 > 0 by decide)
  show y.toBitVec.toNat % 32 = y.toBitVec.toNat % 32 % 2 ^ 32
  omega
section LOO
variable {d L : Nat}
theorem law_loop (hL : L ≤ 2560) : ∀ (n : Nat) (i : Int) (h : aH), 0 ≤ i → i ≤ L → (L : Int) - i < n → Inv L h → R (d + 13) 100 3422 262 18 [.ref 1000, .ref 0, .ref 73, .int (I i)] [] h (fun r _ => r = some (.int 1)) := by
  intro n
  induction n with
  | zero => intro i h i0 i1 i2; omega
  | succ n ih =>
    intro i h i0 i1 i2 hI
    have a2 := hI.2.1
    have r0 := ga_r h 1000 i
    rw [e262_18]
    by_cases c : (L : Int) - 5 < i
    · simp (disch := (first | assumption | omega | exact zor_0 | exact zand_0 | exact zandn_0 | exact zbit_0 | exact zxor_0 | exact (bz_01 _).1 | (repeat (first | assumption | refine Lay.sF ?_ rfl | refine Lay.sA ?_ (by decide) | refine Lay.iall ?_ (by decide) | refine Lay.sL ?_ | refine Lay.sFL ?_ (by decide))))) only [e262_19, e262_20, e262_21, e262_22, e262_23, e262_26, e262_27, e262_28, e262_29, e262_31, e262_1165, e262_1168, e262_1171, e262_1172, ne_eq, not_false_eq_true, true_and, and_true, reduceCtorEq, Nat.reduceEqDiff, Nat.reduceAdd, Nat.reduceSub, Nat.reduceLeDiff, Nat.reduceLT, Int.reduceEq, Int.reduceLT, Int.reduceLE, Int.reduceNeg, Int.reduceAdd, Int.reduceSub, Int.reduceMul, Int.reduceToNat, Int.cast_ofNat_Int, Int.natCast_zero, Nat.le_refl, Nat.zero_le, if_true, if_false, ite_true, ite_false, and_self, and_false, false_and, or_true, true_or, or_false, false_or, not_true_eq_false, Classical.not_not, not_or, Int.not_lt, Int.not_le, a_clr, Option.toList_some, Option.toList_none, List.cons_append, List.nil_append, a_cw, List.map_cons, List.map_nil, List.sum_cons, List.sum_nil, Value.category, nar_b0, nar_b1, sh_sa, sh_sf, sh_sl, sh_sfl, a_sh_iall, a_fv_iall, fv_sa, fv_sl, fv_sf_eq, fv_sf_ne, fv_sfl_eq, fv_sfl_ne, ga_sf, ga_sl, ga_sfl, ga_sa_ne, ga_sa, ga_iall_ne, gf_sa, gf_iall, gf_sl, gf_sfl, gf_sf_ne, gf_sf_eq, gl_sa, gl_iall, gl_sf, gl_sl_ne, gl_sl, gfl_sa, gfl_iall, gfl_sl, gfl_sf, gfl_sfl_ne, gfl_sfl_eq, ld_a, ld_0, ld_1, ld_2, st_a, st_0, st_f, ld_l, st_l, st_fl, sa_sa, sf_sf, sfl_sfl, k_max, k_far, k_no, zadd, zsub, zmul, zneg, zmax, zmin, zabs, zltI, zleI, zeqI, zlt0I, zle0I, z0ltI, z0leI, zeq0I, ti_ga, ti_gf, ti_bz, ztoInt, zinT, zix, bz_eq0, bz_eq1, bz_e0, bz_e1, bz_eqb, bz_or1, bz_True, bz_False, zor_i, zand_i, zxor_i, zandn_i, zandn_i2, zbit_i, ib_i, nB0, nB1, nBz, fk_T, fk_F, fk_pos, fk_neg, fk_same, fk_not, fk_and, fk_andn, fk_nand, fk_or, fkP10, fkP01, fkP0z, fkPz0, fkP1z, fkPz1, a2, zofNat, c]
      rfl
    · have hi : 0 ≤ i ∧ i + 5 ≤ L := by omega
      have nx : ∀ h', Inv L h' → R (d + 13) 100 3422 262 18 [.ref 1000, .ref 0, .ref 73, .int (I (i + 5))] [] h' (fun r _ => r = some (.int 1)) := fun h' q => ih (i + 5) h' (by omega) (by omega) (by omega) q
      have v0 : 0 ≤ ga h 1000 i % 32 ∧ ga h 1000 i % 32 < 32 := by omega
      have an := and31 (ga h 1000 i)
      rw [ti_ga] at an
      simp (disch := (first | assumption | omega | exact zor_0 | exact zand_0 | exact zandn_0 | exact zbit_0 | exact zxor_0 | exact (bz_01 _).1 | (repeat (first | assumption | refine Lay.sF ?_ rfl | refine Lay.sA ?_ (by decide) | refine Lay.iall ?_ (by decide) | refine Lay.sL ?_ | refine Lay.sFL ?_ (by decide))))) only [e262_19, e262_20, e262_21, e262_22, e262_23, e262_26, e262_27, e262_28, e262_29, e262_31, e262_1165, e262_1168, e262_1171, e262_1172, ne_eq, not_false_eq_true, true_and, and_true, reduceCtorEq, Nat.reduceEqDiff, Nat.reduceAdd, Nat.reduceSub, Nat.reduceLeDiff, Nat.reduceLT, Int.reduceEq, Int.reduceLT, Int.reduceLE, Int.reduceNeg, Int.reduceAdd, Int.reduceSub, Int.reduceMul, Int.reduceToNat, Int.cast_ofNat_Int, Int.natCast_zero, Nat.le_refl, Nat.zero_le, if_true, if_false, ite_true, ite_false, and_self, and_false, false_and, or_true, true_or, or_false, false_or, not_true_eq_false, Classical.not_not, not_or, Int.not_lt, Int.not_le, a_clr, Option.toList_some, Option.toList_none, List.cons_append, List.nil_append, a_cw, List.map_cons, List.map_nil, List.sum_cons, List.sum_nil, Value.category, nar_b0, nar_b1, sh_sa, sh_sf, sh_sl, sh_sfl, a_sh_iall, a_fv_iall, fv_sa, fv_sl, fv_sf_eq, fv_sf_ne, fv_sfl_eq, fv_sfl_ne, ga_sf, ga_sl, ga_sfl, ga_sa_ne, ga_sa, ga_iall_ne, gf_sa, gf_iall, gf_sl, gf_sfl, gf_sf_ne, gf_sf_eq, gl_sa, gl_iall, gl_sf, gl_sl_ne, gl_sl, gfl_sa, gfl_iall, gfl_sl, gfl_sf, gfl_sfl_ne, gfl_sfl_eq, ld_a, ld_0, ld_1, ld_2, st_a, st_0, st_f, ld_l, st_l, st_fl, sa_sa, sf_sf, sfl_sfl, k_max, k_far, k_no, zadd, zsub, zmul, zneg, zmax, zmin, zabs, zltI, zleI, zeqI, zlt0I, zle0I, z0ltI, z0leI, zeq0I, ti_ga, ti_gf, ti_bz, ztoInt, zinT, zix, bz_eq0, bz_eq1, bz_e0, bz_e1, bz_eqb, bz_or1, bz_True, bz_False, zor_i, zand_i, zxor_i, zandn_i, zandn_i2, zbit_i, ib_i, nB0, nB1, nBz, fk_T, fk_F, fk_pos, fk_neg, fk_same, fk_not, fk_and, fk_andn, fk_nand, fk_or, fkP10, fkP01, fkP0z, fkPz0, fkP1z, fkPz1, a2, zofNat, c, an]
      generalize ga h 1000 i % 32 = v at v0
      by_cases cd : 27 < v
      · rw [e262_32_d (by omega) (Or.inr cd)]
        simp (disch := (first | assumption | omega | exact zor_0 | exact zand_0 | exact zandn_0 | exact zbit_0 | exact zxor_0 | exact (bz_01 _).1 | (repeat (first | assumption | refine Lay.sF ?_ rfl | refine Lay.sA ?_ (by decide) | refine Lay.iall ?_ (by decide) | refine Lay.sL ?_ | refine Lay.sFL ?_ (by decide))))) only [e262_1165, e262_1168, e262_1171, e262_1172, ne_eq, not_false_eq_true, true_and, and_true, reduceCtorEq, Nat.reduceEqDiff, Nat.reduceAdd, Nat.reduceSub, Nat.reduceLeDiff, Nat.reduceLT, Int.reduceEq, Int.reduceLT, Int.reduceLE, Int.reduceNeg, Int.reduceAdd, Int.reduceSub, Int.reduceMul, Int.reduceToNat, Int.cast_ofNat_Int, Int.natCast_zero, Nat.le_refl, Nat.zero_le, if_true, if_false, ite_true, ite_false, and_self, and_false, false_and, or_true, true_or, or_false, false_or, not_true_eq_false, Classical.not_not, not_or, Int.not_lt, Int.not_le, a_clr, Option.toList_some, Option.toList_none, List.cons_append, List.nil_append, a_cw, List.map_cons, List.map_nil, List.sum_cons, List.sum_nil, Value.category, nar_b0, nar_b1, sh_sa, sh_sf, sh_sl, sh_sfl, a_sh_iall, a_fv_iall, fv_sa, fv_sl, fv_sf_eq, fv_sf_ne, fv_sfl_eq, fv_sfl_ne, ga_sf, ga_sl, ga_sfl, ga_sa_ne, ga_sa, ga_iall_ne, gf_sa, gf_iall, gf_sl, gf_sfl, gf_sf_ne, gf_sf_eq, gl_sa, gl_iall, gl_sf, gl_sl_ne, gl_sl, gfl_sa, gfl_iall, gfl_sl, gfl_sf, gfl_sfl_ne, gfl_sfl_eq, ld_a, ld_0, ld_1, ld_2, st_a, st_0, st_f, ld_l, st_l, st_fl, sa_sa, sf_sf, sfl_sfl, k_max, k_far, k_no, zadd, zsub, zmul, zneg, zmax, zmin, zabs, zltI, zleI, zeqI, zlt0I, zle0I, z0ltI, z0leI, zeq0I, ti_ga, ti_gf, ti_bz, ztoInt, zinT, zix, bz_eq0, bz_eq1, bz_e0, bz_e1, bz_eqb, bz_or1, bz_True, bz_False, zor_i, zand_i, zxor_i, zandn_i, zandn_i2, zbit_i, ib_i, nB0, nB1, nBz, fk_T, fk_F, fk_pos, fk_neg, fk_same, fk_not, fk_and, fk_andn, fk_nand, fk_or, fkP10, fkP01, fkP0z, fkPz0, fkP1z, fkPz1]
        exact nx h hI
      · rcases (by omega : v = 0 ∨ v = 1 ∨ v = 2 ∨ v = 3 ∨ v = 4 ∨ v = 5 ∨ v = 6 ∨ v = 7 ∨ v = 8 ∨ v = 9 ∨ v = 10 ∨ v = 11 ∨ v = 12 ∨ v = 13 ∨ v = 14 ∨ v = 15 ∨ v = 16 ∨ v = 17 ∨ v = 18 ∨ v = 19 ∨ v = 20 ∨ v = 21 ∨ v = 22 ∨ v = 23 ∨ v = 24 ∨ v = 25 ∨ v = 26 ∨ v = 27) with e | e | e | e | e | e | e | e | e | e | e | e | e | e | e | e | e | e | e | e | e | e | e | e | e | e | e | e
        · rw [e262_32_0 e]
          exact lc0 hI hi hL nx
        · rw [e262_32_1 e]
          exact lc1 hI hi hL nx
        · rw [e262_32_2 e]
          exact lc2 hI hi hL nx
        · rw [e262_32_3 e]
          exact lc3 hI hi hL nx
        · rw [e262_32_4 e]
          exact lc4 hI hi hL nx
        · rw [e262_32_5 e]
          exact lc5 hI hi hL nx
        · rw [e262_32_6 e]
          exact lc6 hI hi hL nx
        · rw [e262_32_7 e]
          exact lc7 hI hi hL nx
        · rw [e262_32_8 e]
          exact lc8 hI hi hL nx
        · rw [e262_32_9 e]
          exact lc9 hI hi hL nx
        · rw [e262_32_10 e]
          exact lc10 hI hi hL nx
        · rw [e262_32_11 e]
          exact lc11 hI hi hL nx
        · rw [e262_32_12 e]
          exact lc12 hI hi hL nx
        · rw [e262_32_13 e]
          exact lc13 hI hi hL nx
        · rw [e262_32_14 e]
          exact lc14 hI hi hL nx
        · rw [e262_32_15 e]
          exact lc15 hI hi hL nx
        · rw [e262_32_16 e]
          exact lc16 hI hi hL nx
        · rw [e262_32_17 e]
          exact lc17 hI hi hL nx
        · rw [e262_32_18 e]
          exact lc18 hI hi hL nx
        · rw [e262_32_19 e]
          exact lc19 hI hi hL nx
        · rw [e262_32_20 e]
          exact lc20 hI hi hL nx
        · rw [e262_32_21 e]
          exact lc21 hI hi hL nx
        · rw [e262_32_22 e]
          exact lc22 hI hi hL nx
        · rw [e262_32_23 e]
          exact lc23 hI hi hL nx
        · rw [e262_32_24 e]
          exact lc24 hI hi hL nx
        · rw [e262_32_25 e]
          exact lc25 hI hi hL nx
        · rw [e262_32_26 e]
          exact lc26 hI hi hL nx
        · rw [e262_32_27 e]
          exact lc27 hI hi hL nx
end LOO
