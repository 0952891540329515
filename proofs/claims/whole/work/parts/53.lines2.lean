/-! DOTS: the class -/
def dxL (X : Int → Int) (F T : Int → Int) (i : Int) : Int := X (T i) - X (F i)
def lnN (X Y : Int → Int) (F T : Int → Int) (i : Int) : Int := max (zab (dxL X F T i)) (zab (dxL Y F T i))
def lineDot (X Y : Int → Int) (F T : Int → Int) (i x y : Int) : Prop := ∃ t, 0 ≤ t ∧ t < lnN X Y F T i + 1 ∧ X (F i) + prt t (dxL X F T i) (lnN X Y F T i) = x ∧ Y (F i) + prt t (dxL Y F T i) (lnN X Y F T i) = y
theorem prt_r {t s n : Int} (h0 : 0 ≤ t) (h1 : t ≤ n) (hs : zab s ≤ n) : (0 ≤ s → 0 ≤ prt t s n ∧ prt t s n ≤ s) ∧ (s < 0 → s ≤ prt t s n ∧ prt t s n ≤ 0) := by
  unfold prt
  by_cases e : n = 0
  · simp only [e, if_true]; omega
  · rw [if_neg e]
    have n1 : 0 < 2 * n := by omega
    constructor
    · intro hs0
      have a1 : 0 ≤ t * s := Int.mul_nonneg h0 hs0
      have a2 : t * s ≤ n * s := Int.mul_le_mul_of_nonneg_right h1 hs0
      have a3 : 2 * t * s = 2 * (t * s) := by rw [Int.mul_assoc]
      constructor
      · exact Int.ediv_nonneg (by omega) (by omega)
      · have : (2 * t * s + n) / (2 * n) < s + 1 := by
          apply Int.ediv_lt_of_lt_mul n1
          have : (s + 1) * (2 * n) = 2 * (n * s) + 2 * n := by rw [Int.add_mul, Int.mul_left_comm, Int.mul_comm s n]; omega
          omega
        omega
    · intro hs0
      have a1 : t * s ≤ 0 := Int.mul_nonpos_of_nonneg_of_nonpos h0 (by omega)
      have a2 : n * s ≤ t * s := Int.mul_le_mul_of_nonpos_right h1 (by omega)
      have a3 : 2 * t * s = 2 * (t * s) := by rw [Int.mul_assoc]
      constructor
      · apply Int.le_ediv_of_mul_le n1
        have : s * (2 * n) = 2 * (n * s) := by rw [Int.mul_left_comm, Int.mul_comm s n]
        omega
      · have : (2 * t * s + n) / (2 * n) < 1 := by
          apply Int.ediv_lt_of_lt_mul n1
          omega
        omega
section LNS2
variable {d : Nat} {h : aH} {post : Option Value → aH → Prop} {n : Int} {F T X Y : Int → Int} {i : Int}
/-- where POINTS STAND -/
def XYo (X Y : Int → Int) : Prop := ∀ p, 0 ≤ p → p < 6 → 0 ≤ X p ∧ X p ≤ 19 ∧ 0 ≤ Y p ∧ Y p ≤ 19
theorem ln_r (hX : XYo X Y) (hO : LnO n F T) (hi : 0 ≤ i ∧ i < n) : 0 ≤ X (F i) ∧ X (F i) ≤ 19 ∧ 0 ≤ Y (F i) ∧ Y (F i) ≤ 19 ∧ 0 ≤ X (T i) ∧ X (T i) ≤ 19 ∧ 0 ≤ Y (T i) ∧ Y (T i) ≤ 19 ∧ -19 ≤ dxL X F T i ∧ dxL X F T i ≤ 19 ∧ -19 ≤ dxL Y F T i ∧ dxL Y F T i ≤ 19 ∧ 0 ≤ lnN X Y F T i ∧ lnN X Y F T i ≤ 19 ∧ zab (dxL X F T i) ≤ lnN X Y F T i ∧ zab (dxL Y F T i) ≤ lnN X Y F T i := by
  have o := hO.2 i hi.1 hi.2
  have x1 := hX (F i) (by omega) (by omega)
  have x2 := hX (T i) (by omega) (by omega)
  unfold lnN zab dxL
  refine ⟨x1.1, x1.2.1, x1.2.2.1, x1.2.2.2, x2.1, x2.2.1, x2.2.2.1, x2.2.2.2, by omega, by omega, by omega, by omega, by omega, by omega, by omega, by omega⟩
theorem dot_r (hX : XYo X Y) (hO : LnO n F T) (hi : 0 ≤ i ∧ i < n) {t : Int} (h0 : 0 ≤ t) (h1 : t < lnN X Y F T i + 1) : (-19 ≤ prt t (dxL X F T i) (lnN X Y F T i) ∧ prt t (dxL X F T i) (lnN X Y F T i) ≤ 19 ∧ -19 ≤ prt t (dxL Y F T i) (lnN X Y F T i) ∧ prt t (dxL Y F T i) (lnN X Y F T i) ≤ 19) ∧ 0 ≤ X (F i) + prt t (dxL X F T i) (lnN X Y F T i) ∧ X (F i) + prt t (dxL X F T i) (lnN X Y F T i) < 20 ∧ 0 ≤ Y (F i) + prt t (dxL Y F T i) (lnN X Y F T i) ∧ Y (F i) + prt t (dxL Y F T i) (lnN X Y F T i) < 20 := by
  have r := ln_r hX hO hi
  have p1 := prt_r h0 (show t ≤ lnN X Y F T i by omega) r.2.2.2.2.2.2.2.2.2.2.2.2.2.2.1
  have p2 := prt_r h0 (show t ≤ lnN X Y F T i by omega) r.2.2.2.2.2.2.2.2.2.2.2.2.2.2.2
  have e1 : dxL X F T i = X (T i) - X (F i) := rfl
  have e2 : dxL Y F T i = Y (T i) - Y (F i) := rfl
  omega
/-- a LINE is taken -/
def Tkn (h : aH) (X Y F T : Int → Int) (i : Int) : Prop := gf h 50 4 = X (F i) ∧ gf h 50 5 = Y (F i) ∧ gf h 50 6 = dxL X F T i ∧ gf h 50 7 = dxL Y F T i
theorem q_Lines_takenHas (hL : Lay h) (hX : XYo X Y) (hO : LnO n F T) (hi : 0 ≤ i ∧ i < n) (hT : Tkn h X Y F T i) {x y : Int} (hx : 0 ≤ x ∧ x < 20) (hy : 0 ≤ y ∧ y < 20) : R (d + 2) 0 0 62 0 [.ref 50, .int (I x), .int (I y), .null, .null] [] h post = post (some (.int (I (bz (lineDot X Y F T i x y))))) h := by
  have r := ln_r hX hO hi
  obtain ⟨t4, t5, t6, t7⟩ := hT
  have hg := fun post => q_Lines_greater (d := d) (post := post) hL (by omega) (by omega)
  rw [t6, t7] at hg
  simp (disch := (first | assumption | omega | exact zor_0 | exact zand_0 | exact zandn_0 | exact zbit_0 | exact zxor_0 | exact (bz_01 _).1 | (repeat (first | assumption | refine Lay.sF ?_ rfl | refine Lay.sA ?_ (by decide) | refine Lay.iall ?_ (by decide) | refine Lay.sL ?_ | refine Lay.sFL ?_ (by decide))))) only [e62_0, e62_1, e62_4, e62_5, e62_6, e62_10, e62_11, e62_14, e62_15, e62_18, e62_20, e62_21, e62_24, e62_25, e62_28, e62_29, e62_30, e62_33, e62_34, e62_37, e62_39, e62_40, e62_43, e62_44, e62_47, e62_48, e62_49, e62_52, e62_53, e62_54, e62_57, e62_60, e62_61, ne_eq, not_false_eq_true, true_and, and_true, reduceCtorEq, Nat.reduceEqDiff, Nat.reduceAdd, Nat.reduceSub, Nat.reduceLeDiff, Nat.reduceLT, Int.reduceEq, Int.reduceLT, Int.reduceLE, Int.reduceNeg, Int.reduceAdd, Int.reduceSub, Int.reduceMul, Int.reduceToNat, Int.cast_ofNat_Int, Int.natCast_zero, Nat.le_refl, Nat.zero_le, if_true, if_false, ite_true, ite_false, and_self, and_false, false_and, or_true, true_or, or_false, false_or, not_true_eq_false, Classical.not_not, not_or, Int.not_lt, Int.not_le, a_clr, Option.toList_some, Option.toList_none, List.cons_append, List.nil_append, a_cw, List.map_cons, List.map_nil, List.sum_cons, List.sum_nil, Value.category, nar_b0, nar_b1, sh_sa, sh_sf, sh_sl, sh_sfl, a_sh_iall, a_fv_iall, fv_sa, fv_sl, fv_sf_eq, fv_sf_ne, fv_sfl_eq, fv_sfl_ne, ga_sf, ga_sl, ga_sfl, ga_sa_ne, ga_sa, ga_iall_ne, gf_sa, gf_iall, gf_sl, gf_sfl, gf_sf_ne, gf_sf_eq, gl_sa, gl_iall, gl_sf, gl_sl_ne, gl_sl, gfl_sa, gfl_iall, gfl_sl, gfl_sf, gfl_sfl_ne, gfl_sfl_eq, ld_a, ld_0, ld_1, ld_2, st_a, st_0, st_f, ld_l, st_l, st_fl, sa_sa, sf_sf, sfl_sfl, k_max, k_far, k_no, zadd, zsub, zmul, zneg, zmax, zmin, zabs, zltI, zleI, zeqI, zlt0I, zle0I, z0ltI, z0leI, zeq0I, ti_ga, ti_gf, ti_bz, ztoInt, zinT, zix, bz_eq0, bz_eq1, bz_e0, bz_e1, bz_eqb, bz_or1, bz_True, bz_False, zor_i, zand_i, zxor_i, zandn_i, zandn_i2, zbit_i, ib_i, nB0, nB1, nBz, fk_T, fk_F, fk_pos, fk_neg, fk_same, fk_not, fk_and, fk_andn, fk_nand, fk_or, fkP10, fkP01, fkP0z, fkPz0, fkP1z, fkPz1, layLines hL, hg]
  rw [show max (zab (dxL X F T i)) (zab (dxL Y F T i)) = lnN X Y F T i from rfl]
  rw [R_srch (J := Unit) (fun t _ => [.ref 50, .int (I x), .int (I y), .int (I (lnN X Y F T i)), .int (I t)]) (fun t => X (F i) + prt t (dxL X F T i) (lnN X Y F T i) = x ∧ Y (F i) + prt t (dxL Y F T i) (lnN X Y F T i) = y) 0 (lnN X Y F T i + 1) (by omega) (A := post (some (.int (I 1))) h) (B := post (some (.int (I 0))) h) (fun t v X' h0 h1 ih => ?_) (fun v => ?_) (), fkP10]
  · rfl
  · have dr := dot_r hX hO hi h0 h1
    have ih := ih ()
    rw [e62_8]
    simp (disch := (first | assumption | omega | exact zor_0 | exact zand_0 | exact zandn_0 | exact zbit_0 | exact zxor_0 | exact (bz_01 _).1 | (repeat (first | assumption | refine Lay.sF ?_ rfl | refine Lay.sA ?_ (by decide) | refine Lay.iall ?_ (by decide) | refine Lay.sL ?_ | refine Lay.sFL ?_ (by decide))))) only [e62_0, e62_1, e62_4, e62_5, e62_6, e62_10, e62_11, e62_14, e62_15, e62_18, e62_20, e62_21, e62_24, e62_25, e62_28, e62_29, e62_30, e62_33, e62_34, e62_37, e62_39, e62_40, e62_43, e62_44, e62_47, e62_48, e62_49, e62_52, e62_53, e62_54, e62_57, e62_60, e62_61, ne_eq, not_false_eq_true, true_and, and_true, reduceCtorEq, Nat.reduceEqDiff, Nat.reduceAdd, Nat.reduceSub, Nat.reduceLeDiff, Nat.reduceLT, Int.reduceEq, Int.reduceLT, Int.reduceLE, Int.reduceNeg, Int.reduceAdd, Int.reduceSub, Int.reduceMul, Int.reduceToNat, Int.cast_ofNat_Int, Int.natCast_zero, Nat.le_refl, Nat.zero_le, if_true, if_false, ite_true, ite_false, and_self, and_false, false_and, or_true, true_or, or_false, false_or, not_true_eq_false, Classical.not_not, not_or, Int.not_lt, Int.not_le, a_clr, Option.toList_some, Option.toList_none, List.cons_append, List.nil_append, a_cw, List.map_cons, List.map_nil, List.sum_cons, List.sum_nil, Value.category, nar_b0, nar_b1, sh_sa, sh_sf, sh_sl, sh_sfl, a_sh_iall, a_fv_iall, fv_sa, fv_sl, fv_sf_eq, fv_sf_ne, fv_sfl_eq, fv_sfl_ne, ga_sf, ga_sl, ga_sfl, ga_sa_ne, ga_sa, ga_iall_ne, gf_sa, gf_iall, gf_sl, gf_sfl, gf_sf_ne, gf_sf_eq, gl_sa, gl_iall, gl_sf, gl_sl_ne, gl_sl, gfl_sa, gfl_iall, gfl_sl, gfl_sf, gfl_sfl_ne, gfl_sfl_eq, ld_a, ld_0, ld_1, ld_2, st_a, st_0, st_f, ld_l, st_l, st_fl, sa_sa, sf_sf, sfl_sfl, k_max, k_far, k_no, zadd, zsub, zmul, zneg, zmax, zmin, zabs, zltI, zleI, zeqI, zlt0I, zle0I, z0ltI, z0leI, zeq0I, ti_ga, ti_gf, ti_bz, ztoInt, zinT, zix, bz_eq0, bz_eq1, bz_e0, bz_e1, bz_eqb, bz_or1, bz_True, bz_False, zor_i, zand_i, zxor_i, zandn_i, zandn_i2, zbit_i, ib_i, nB0, nB1, nBz, fk_T, fk_F, fk_pos, fk_neg, fk_same, fk_not, fk_and, fk_andn, fk_nand, fk_or, fkP10, fkP01, fkP0z, fkPz0, fkP1z, fkPz1, layLines hL, t4, t5, t6, t7, q_Lines_part, ih]
  · rw [e62_8]
    simp (disch := (first | assumption | omega | exact zor_0 | exact zand_0 | exact zandn_0 | exact zbit_0 | exact zxor_0 | exact (bz_01 _).1 | (repeat (first | assumption | refine Lay.sF ?_ rfl | refine Lay.sA ?_ (by decide) | refine Lay.iall ?_ (by decide) | refine Lay.sL ?_ | refine Lay.sFL ?_ (by decide))))) only [e62_0, e62_1, e62_4, e62_5, e62_6, e62_10, e62_11, e62_14, e62_15, e62_18, e62_20, e62_21, e62_24, e62_25, e62_28, e62_29, e62_30, e62_33, e62_34, e62_37, e62_39, e62_40, e62_43, e62_44, e62_47, e62_48, e62_49, e62_52, e62_53, e62_54, e62_57, e62_60, e62_61, ne_eq, not_false_eq_true, true_and, and_true, reduceCtorEq, Nat.reduceEqDiff, Nat.reduceAdd, Nat.reduceSub, Nat.reduceLeDiff, Nat.reduceLT, Int.reduceEq, Int.reduceLT, Int.reduceLE, Int.reduceNeg, Int.reduceAdd, Int.reduceSub, Int.reduceMul, Int.reduceToNat, Int.cast_ofNat_Int, Int.natCast_zero, Nat.le_refl, Nat.zero_le, if_true, if_false, ite_true, ite_false, and_self, and_false, false_and, or_true, true_or, or_false, false_or, not_true_eq_false, Classical.not_not, not_or, Int.not_lt, Int.not_le, a_clr, Option.toList_some, Option.toList_none, List.cons_append, List.nil_append, a_cw, List.map_cons, List.map_nil, List.sum_cons, List.sum_nil, Value.category, nar_b0, nar_b1, sh_sa, sh_sf, sh_sl, sh_sfl, a_sh_iall, a_fv_iall, fv_sa, fv_sl, fv_sf_eq, fv_sf_ne, fv_sfl_eq, fv_sfl_ne, ga_sf, ga_sl, ga_sfl, ga_sa_ne, ga_sa, ga_iall_ne, gf_sa, gf_iall, gf_sl, gf_sfl, gf_sf_ne, gf_sf_eq, gl_sa, gl_iall, gl_sf, gl_sl_ne, gl_sl, gfl_sa, gfl_iall, gfl_sl, gfl_sf, gfl_sfl_ne, gfl_sfl_eq, ld_a, ld_0, ld_1, ld_2, st_a, st_0, st_f, ld_l, st_l, st_fl, sa_sa, sf_sf, sfl_sfl, k_max, k_far, k_no, zadd, zsub, zmul, zneg, zmax, zmin, zabs, zltI, zleI, zeqI, zlt0I, zle0I, z0ltI, z0leI, zeq0I, ti_ga, ti_gf, ti_bz, ztoInt, zinT, zix, bz_eq0, bz_eq1, bz_e0, bz_e1, bz_eqb, bz_or1, bz_True, bz_False, zor_i, zand_i, zxor_i, zandn_i, zandn_i2, zbit_i, ib_i, nB0, nB1, nBz, fk_T, fk_F, fk_pos, fk_neg, fk_same, fk_not, fk_and, fk_andn, fk_nand, fk_or, fkP10, fkP01, fkP0z, fkPz0, fkP1z, fkPz1]
end LNS2
